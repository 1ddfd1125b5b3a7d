/-! ===== LAW: a text that was read holds together ===== -/
/-- it leaves one value more -/
def Bal (n : OpsT) : Prop := ∀ (r : OpsT) (d : Nat), wfL r (d + 1) → wfL (n ++ r) d
theorem bal0 {v : Int32} : Bal [(0, v)] := fun _ _ h => Or.inl ⟨rfl, h⟩
theorem bal1 {k : Nat} (hk : k < 8) : Bal [(1, nI k)] := fun _ _ h => Or.inr (Or.inl ⟨rfl, ⟨k, hk, rfl⟩, h⟩)
theorem bal2 {n m : OpsT} {k : Nat} (hn : Bal n) (hm : Bal m) (h2 : 2 ≤ k) (h8 : k ≤ 8) : Bal (n ++ (m ++ [(nI k, 0)])) := by
  intro r d h
  rw [List.append_assoc, List.append_assoc]
  refine hn _ _ (hm _ _ ?_)
  exact Or.inr (Or.inr ⟨⟨k, h2, h8, rfl⟩, by omega, by rw [show d + 1 + 1 - 1 = d + 1 by omega]; exact h⟩)
def WfO (ops : OpsT) (r : LwT) : Prop := ∀ b, r.1 = .inr b → ∃ n, r.2 = ops ++ n ∧ Bal n
theorem unit_w {x : Txt} {rec : Cur → OpsT → LwT} {full : Prop} [Decidable full] (hg : ¬ full → ∀ c ops, LwG x c ops (rec c ops)) (hr : ¬ full → ∀ c ops, WfO ops (rec c ops)) (c : Cur) (ops : OpsT) : WfO ops (unitF x rec full c ops) := by
  intro b hb
  cases c with
  | inl e => exact nomatch hb
  | inr a =>
    by_cases hd : digT (chT x a)
    · have eU : unitF x rec full (.inr a) ops = numL ops (numF x 999 a) := if_pos hd
      rw [eU] at hb ⊢
      cases hv : numF x 999 a with
      | inl e => rw [hv] at hb; exact nomatch hb
      | inr v => exact ⟨_, rfl, bal0⟩
    by_cases hp : chT x a = 40
    · have eU : unitF x rec full (.inr a) ops = if full then (.inl (3, a), ops) else (needF x 41 (rec (needF x 40 (.inr a)) ops).1, (rec (needF x 40 (.inr a)) ops).2) := (if_neg hd).trans (if_pos hp)
      rw [eU] at hb ⊢
      by_cases hf : full
      · rw [if_pos hf] at hb; exact nomatch hb
      · rw [if_neg hf] at hb ⊢
        have hb : needF x 41 (rec (needF x 40 (.inr a)) ops).1 = .inr b := hb
        cases h2 : (rec (needF x 40 (.inr a)) ops).1 with
        | inl e => rw [h2] at hb; exact nomatch hb
        | inr a2 => exact hr hf _ ops a2 h2
    have eU : unitF x rec full (.inr a) ops = wordL x rec full a ops (wordF x W1 a) := (if_neg hd).trans (if_neg hp)
    rw [eU] at hb ⊢
    cases hv : wordF x W1 a with
    | inl e => rw [hv] at hb; exact nomatch hb
    | inr k =>
      rw [hv] at hb
      have hk : k.1 < 10 := wordF_lt hv
      have hb : (if 8 ≤ k.1 then (if full then (.inl (3, a), ops) else pairL x rec k.1 k.2 ops) else (.inr k.2, ops ++ [(1, nI k.1)])).1 = .inr b := hb
      show ∃ n, (if 8 ≤ k.1 then (if full then (.inl (3, a), ops) else pairL x rec k.1 k.2 ops) else (.inr k.2, ops ++ [(1, nI k.1)])).2 = ops ++ n ∧ Bal n
      by_cases h8 : 8 ≤ k.1
      · rw [if_pos h8] at hb ⊢
        by_cases hf : full
        · rw [if_pos hf] at hb; exact nomatch hb
        · rw [if_neg hf] at hb ⊢
          obtain ⟨r1, hr1⟩ : ∃ r1, r1 = rec (needF x 91 (.inr k.2)) ops := ⟨_, rfl⟩
          obtain ⟨r2, hr2⟩ : ∃ r2, r2 = rec (needF x 44 r1.1) r1.2 := ⟨_, rfl⟩
          have eP : pairL x rec k.1 k.2 ops = (needF x 93 r2.1, r2.2 ++ [(nI (k.1 - 1), 0)]) := by unfold pairL; rw [← hr1, ← hr2]
          rw [eP] at hb ⊢
          have hb : needF x 93 r2.1 = .inr b := hb
          have w1 := hr hf (needF x 91 (.inr k.2)) ops
          have w2 := hr hf (needF x 44 r1.1) r1.2
          have g2 := hg hf (needF x 44 r1.1) r1.2
          rw [← hr1] at w1
          rw [← hr2] at w2 g2
          cases q2 : r2.1 with
          | inl e => rw [q2] at hb; exact nomatch hb
          | inr d2 =>
            cases q3 : needF x 44 r1.1 with
            | inl e => rw [g2.1 e q3] at q2; exact nomatch q2
            | inr a3 =>
              cases q1 : r1.1 with
              | inl e => rw [q1] at q3; exact nomatch q3
              | inr d1 =>
                obtain ⟨n1, e1, b1⟩ := w1 d1 q1
                obtain ⟨n2, e2, b2⟩ := w2 d2 q2
                exact ⟨n1 ++ (n2 ++ [(nI (k.1 - 1), 0)]), by show r2.2 ++ _ = _; rw [e2, e1, List.append_assoc, List.append_assoc], bal2 b1 b2 (by omega) (by omega)⟩
      · rw [if_neg h8]
        exact ⟨_, rfl, bal1 (by omega)⟩
theorem loop_w {x : Txt} {cs : List Nat} {base : Nat} {arg : Cur → OpsT → LwT} (hc : ∀ d, d ∈ cs → d < 256) (hb2 : 2 ≤ base) (hb8 : base + cs.length ≤ 9) (hg : ∀ c ops, LwG x c ops (arg c ops)) (ha : ∀ c ops, WfO ops (arg c ops)) : ∀ (f : Nat) (c : Cur) (ops n : OpsT), Bal n → WfO ops (loopL x cs base arg f c (ops ++ n)) := by
  intro f
  induction f with
  | zero => intro c ops n hn b hb; exact ⟨n, rfl, hn⟩
  | succ f ih =>
    intro c ops n hn b hb
    cases ho : oneR x c cs 0 with
    | none => rw [loopL_n ho]; exact ⟨n, rfl, hn⟩
    | some v =>
      rw [loopL_s ho] at hb ⊢
      obtain ⟨a0, q1, q2, q3, q4, q5⟩ := oneR_at hc cs 0 hc ho
      obtain ⟨u, hu⟩ : ∃ u, u = arg (.inr v.2) (ops ++ n) := ⟨_, rfl⟩
      have w := ha (.inr v.2) (ops ++ n)
      rw [← hu] at hb w ⊢
      cases hr : u.1 with
      | inl e =>
        have := (loop_g (x := x) (cs := cs) (base := base) hc hg f u.1 (u.2 ++ [(nI (base + v.1), 0)])).1 e hr
        rw [this] at hb
        exact nomatch hb
      | inr a2 =>
        obtain ⟨m, e1, b1⟩ := w a2 hr
        have e2 : u.2 ++ [(nI (base + v.1), 0)] = ops ++ (n ++ (m ++ [(nI (base + v.1), 0)])) := by rw [e1, List.append_assoc, List.append_assoc]
        rw [e2] at hb ⊢
        rw [← hr]
        exact ih u.1 ops (n ++ (m ++ [(nI (base + v.1), 0)])) (bal2 hn b1 (by omega) (by omega)) b hb
theorem prod_w {x : Txt} {rec : Cur → OpsT → LwT} {full : Prop} [Decidable full] (hg : ¬ full → ∀ c ops, LwG x c ops (rec c ops)) (hr : ¬ full → ∀ c ops, WfO ops (rec c ops)) (c : Cur) (ops : OpsT) : WfO ops (prodF x rec full c ops) := by
  intro b hb
  unfold prodF at hb ⊢
  have w := unit_w (full := full) hg hr c ops
  obtain ⟨u, hu⟩ : ∃ u, u = unitF x rec full c ops := ⟨_, rfl⟩
  rw [← hu] at hb w ⊢
  cases hr1 : u.1 with
  | inl e =>
    have := (loop_g (x := x) (cs := [42, 47, 37]) (base := 4) (arg := unitF x rec full) (by decide) (fun c ops => unit_g hg c ops) 150 u.1 u.2).1 e hr1
    rw [this] at hb
    exact nomatch hb
  | inr a2 =>
    obtain ⟨m, e1, b1⟩ := w a2 hr1
    rw [e1] at hb ⊢
    rw [← hr1]
    exact loop_w (by decide) (by decide) (by decide) (fun c ops => unit_g hg c ops) (fun c ops => unit_w hg hr c ops) 150 u.1 ops m b1 b hb
theorem sumG_w {x : Txt} {rec : Cur → OpsT → LwT} {full : Prop} [Decidable full] (hg : ¬ full → ∀ c ops, LwG x c ops (rec c ops)) (hr : ¬ full → ∀ c ops, WfO ops (rec c ops)) (c : Cur) (ops : OpsT) : WfO ops (sumG x rec full c ops) := by
  intro b hb
  unfold sumG at hb ⊢
  have w := prod_w (full := full) hg hr c ops
  obtain ⟨u, hu⟩ : ∃ u, u = prodF x rec full c ops := ⟨_, rfl⟩
  rw [← hu] at hb w ⊢
  cases hr1 : u.1 with
  | inl e =>
    have := (loop_g (x := x) (cs := [43, 45]) (base := 2) (arg := prodF x rec full) (by decide) (fun c ops => prod_g hg c ops) 150 u.1 u.2).1 e hr1
    rw [this] at hb
    exact nomatch hb
  | inr a2 =>
    obtain ⟨m, e1, b1⟩ := w a2 hr1
    rw [e1] at hb ⊢
    rw [← hr1]
    exact loop_w (by decide) (by decide) (by decide) (fun c ops => prod_g hg c ops) (fun c ops => prod_w hg hr c ops) 150 u.1 ops m b1 b hb
theorem sumF_w {x : Txt} : ∀ (D : Nat) (c : Cur) (ops : OpsT), WfO ops (sumF x D c ops) := by
  intro D
  induction D with
  | zero => intro c ops; exact sumG_w (full := True) (fun h => absurd trivial h) (fun h => absurd trivial h) c ops
  | succ D ih => intro c ops; exact sumG_w (full := False) (fun _ => sumF_g D) (fun _ => ih) c ops
theorem lawF_w {x : Txt} {c : Cur} {b : Nat} (h : (lawF x c).1 = .inr b) : wfL (lawF x c).2 0 := by
  have h : endF x (sumF x 6 c []).1 = .inr b := h
  cases hr : (sumF x 6 c []).1 with
  | inl e => rw [hr] at h; exact nomatch h
  | inr d =>
    obtain ⟨n, e1, b1⟩ := sumF_w 6 c [] d hr
    show wfL (sumF x 6 c []).2 0
    rw [e1]
    have := b1 [] 0 (show 1 ≤ 0 + 1 by omega)
    rw [List.append_nil] at this
    exact this
theorem LawP.r {μ : Mem} {h : Nat} {ops : OpsT} (p : LawP μ h ops) (w : wfL ops 0) : LawR μ h ops := ⟨p.1, p.2.1, w, p.2.2⟩
