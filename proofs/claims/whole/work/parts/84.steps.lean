/-! ===== WORK: what its text says ===== -/
def mostA (t : HutT) (w : Int32) : Int32 := if w = 2 then nI t.2.2.2.2.1 - 1 else if w = 8 then -2 else if w = 9 then 60 else nI t.1 - 1
def mostB (t : HutT) (w : Int32) : Int32 := if w = 0 then 99999999 else if w = 1 then 99999999 else if w = 2 then -2 else if w = 3 then -2 else if w = 4 then -2 else if w = 5 then 24 else if w = 6 then nI t.1 - 1 else if w = 7 then 99 else -2
def mostC (w : Int32) : Int32 := if w = 5 then 24 else if w = 6 then 24 else if w = 7 then 99 else -2
/-- a NUMBER, if one is asked for -/
def opF (x : Txt) (most : Int32) (a : Nat) : (Nat × Nat) ⊕ (Nat × Nat) := if most = -2 then .inr (0, a) else numF x most a
def opC (x : Txt) (most : Int32) (c : Cur) : (Nat × Nat) ⊕ (Nat × Nat) := match c with
  | .inl e => .inl e
  | .inr a => opF x most a
def op3 (x : Txt) (t : HutT) (w : Nat) (a : Nat) : (Nat × Nat) ⊕ ((Nat × Nat × Nat) × Nat) := match opF x (mostA t (nI w)) a with
  | .inl e => .inl e
  | .inr u => match opF x (mostB t (nI w)) u.2 with
    | .inl e => .inl e
    | .inr v => match opF x (mostC (nI w)) v.2 with
      | .inl e => .inl e
      | .inr z => .inr ((u.1, v.1, z.1), z.2)
/-- where one is, how many STEPS there are, which -/
abbrev StpT : Type := Cur × Nat × (Nat → StepT)
def againF (x : Txt) (q : Nat × Nat × Nat) (n : Nat) (r : StpT) : StpT := (needF x 59 (needF x 93 r.1), r.2.1, up r.2.2 n (9, q.1, q.2.1, q.2.2, r.2.1))
def stepK (x : Txt) (t : HutT) (rec : Cur → Nat → (Nat → StepT) → StpT) (full : Prop) [Decidable full] (a k b n : Nat) (pr : Nat → StepT) : StpT := if k = 9 ∧ full then (.inl (3, a), n, pr) else match op3 x t k b with
  | .inl e => (.inl e, n, pr)
  | .inr v => if k = 9 then againF x v.1 n (rec (needF x 91 (.inr v.2)) (n + 1) (up pr n (9, v.1.1, v.1.2.1, v.1.2.2, 0))) else (needF x 59 (.inr v.2), n + 1, up pr n (k, v.1.1, v.1.2.1, v.1.2.2, n + 1))
def stepF (x : Txt) (t : HutT) (rec : Cur → Nat → (Nat → StepT) → StpT) (full : Prop) [Decidable full] (a n : Nat) (pr : Nat → StepT) : StpT := match wordF x W2 a with
  | .inl e => (.inl e, n, pr)
  | .inr k => stepK x t rec full a k.1 k.2 n pr
/-- STEPS one after another, up to the end of the text, or to a ] where one is within -/
def stepsL (x : Txt) (t : HutT) (rec : Cur → Nat → (Nat → StepT) → StpT) (full within : Prop) [Decidable full] [Decidable within] : Nat → Cur → Nat → (Nat → StepT) → StpT
  | 0, c, n, pr => (c, n, pr)
  | f + 1, c, n, pr => match c with
    | .inl e => (.inl e, n, pr)
    | .inr a => if a < x.2 then (if within ∧ chT x a = 93 then (.inr a, n, pr) else stepsL x t rec full within f (stepF x t rec full a n pr).1 (stepF x t rec full a n pr).2.1 (stepF x t rec full a n pr).2.2) else (.inr a, n, pr)
/-- D: how many more again may stand within another -/
def stepsF (x : Txt) (t : HutT) : Nat → Cur → Nat → (Nat → StepT) → StpT
  | 0, c, n, pr => stepsL x t (fun c n pr => (c, n, pr)) True True 38 c n pr
  | D + 1, c, n, pr => stepsL x t (stepsF x t D) False (D + 1 < 6) 38 c n pr
theorem stepsL_e {x : Txt} {t : HutT} {rec : Cur → Nat → (Nat → StepT) → StpT} {full within : Prop} [Decidable full] [Decidable within] {e : Nat × Nat} {n : Nat} {pr : Nat → StepT} : ∀ f, stepsL x t rec full within f (.inl e) n pr = (.inl e, n, pr) := fun f => by cases f <;> rfl
theorem stepsF_e {x : Txt} {t : HutT} {e : Nat × Nat} {n : Nat} {pr : Nat → StepT} : ∀ D, stepsF x t D (.inl e) n pr = (.inl e, n, pr) := fun D => by cases D <;> exact stepsL_e 38
theorem X10_operand {μ : Mem} {tp : Nat} {x : Txt} {most : Int32} {c : Cur} (r : TpR μ tp x c) : ∃ (μ' : Mem) (z : Int32), LX10_operand tp most μ = some (z, μ') ∧ Out (fun h => h = tp) μ μ' ∧ TpR μ' tp x (numC (opC x most c)) ∧ ∀ a v, c = .inr a → opF x most a = .inr v → z = nI v.1 := by
  unfold LX10_operand
  rw [if_pos r.1.1]
  by_cases h : most = -2
  · rw [if_pos h]
    refine ⟨μ, 0, rfl, Out.rf, ?_, fun a v hc hv => ?_⟩
    · cases c with
      | inl e => exact r
      | inr a =>
        have : opC x most (.inr a) = .inr (0, a) := if_pos h
        rw [this]; exact r
    · unfold opF at hv
      rw [if_pos h] at hv
      have hv : (0, a) = v := Sum.inr.inj hv
      subst hv
      rfl
  · rw [if_neg h]
    obtain ⟨μ1, z, e1, o1, t1, g1⟩ := X9_number (most := most) r
    rw [e1, ob]
    refine ⟨μ1, z, rfl, o1, ?_, fun a v hc hv => ?_⟩
    · cases c with
      | inl e => exact t1
      | inr a =>
        have : opC x most (.inr a) = numF x most a := if_neg h
        rw [this]; exact t1
    · unfold opF at hv
      rw [if_neg h] at hv
      exact (g1 a v.1 v.2 hc hv).1
theorem X10_most {μ : Mem} {h : Nat} {t : HutT} {w : Int32} (s : HutS μ h) (hr : HutR μ h t) : LX10_firstMost w h μ = some (mostA t w, μ) ∧ LX10_secondMost w h μ = some (mostB t w, μ) ∧ LX10_thirdMost w μ = some (mostC w, μ) := by
  refine ⟨?_, ?_, ?_⟩
  · unfold LX10_firstMost mostA
    rw [if_pos s.1, hr.1, hr.2.1]
    repeat' split
    all_goals rfl
  · unfold LX10_secondMost mostB
    rw [if_pos s.1, hr.1]
    repeat' split
    all_goals rfl
  · unfold LX10_thirdMost mostC
    repeat' split
    all_goals rfl
/-- all three -/
theorem X10_op3 {μ : Mem} {tp h w a : Nat} {x : Txt} {t : HutT} (hd : tp + 2 ≤ h ∨ h + 6 ≤ tp) (s : HutS μ h) (hr : HutR μ h t) (r : TpR μ tp x (.inr a)) {α : Type} (k : Int32 → Int32 → Int32 → Mem → Option (α × Mem)) :
    ∃ (μ' : Mem) (z1 z2 z3 : Int32), obind (LX10_firstMost (nI w) h μ) (fun r15 m16 => obind (LX10_operand tp r15 m16) (fun r21 m22 => obind (LX10_secondMost (nI w) h m22) (fun r27 m28 => obind (LX10_operand tp r27 m28) (fun r33 m34 => obind (LX10_thirdMost (nI w) m34) (fun r39 m40 => obind (LX10_operand tp r39 m40) (fun r45 m46 => k r21 r33 r45 m46)))))) = k z1 z2 z3 μ' ∧ Out (fun z => z = tp) μ μ' ∧ TpR μ' tp x (curR (op3 x t w a)) ∧ ∀ v, op3 x t w a = .inr v → z1 = nI v.1.1 ∧ z2 = nI v.1.2.1 ∧ z3 = nI v.1.2.2 := by
  obtain ⟨m1, -, -⟩ := X10_most (w := nI w) s hr
  rw [m1, ob]
  obtain ⟨μ1, z1, e1, o1, t1, g1⟩ := X10_operand (most := mostA t (nI w)) r
  have f1 : ∀ b, inHut h b → g_I μ1 b = g_I μ b := fun b hb => (o1.2 b (by obtain ⟨y1, y2⟩ := hb; omega)).1
  obtain ⟨-, m2, -⟩ := X10_most (w := nI w) (s.sh o1.1) (hr.fr f1)
  rw [e1, ob, m2, ob]
  obtain ⟨μ2, z2, e2, o2, t2, g2⟩ := X10_operand (most := mostB t (nI w)) t1
  have f2 : ∀ b, inHut h b → g_I μ2 b = g_I μ1 b := fun b hb => (o2.2 b (by obtain ⟨y1, y2⟩ := hb; omega)).1
  obtain ⟨-, -, m3⟩ := X10_most (w := nI w) ((s.sh o1.1).sh o2.1) ((hr.fr f1).fr f2)
  rw [e2, ob, m3, ob]
  obtain ⟨μ3, z3, e3, o3, t3, g3⟩ := X10_operand (most := mostC (nI w)) t2
  rw [e3, ob]
  have t3 : TpR μ3 tp x (numC (opC x (mostC (nI w)) (numC (opC x (mostB t (nI w)) (numC (opF x (mostA t (nI w)) a)))))) := t3
  refine ⟨μ3, z1, z2, z3, rfl, (o1.tr o2).tr o3, ?_, fun v hv => ?_⟩
  · unfold op3
    cases h1 : opF x (mostA t (nI w)) a with
    | inl e => rw [h1] at t3; exact t3
    | inr u =>
      rw [h1] at t3
      have t3 : TpR μ3 tp x (numC (opC x (mostC (nI w)) (numC (opF x (mostB t (nI w)) u.2)))) := t3
      show TpR μ3 tp x (curR (match opF x (mostB t (nI w)) u.2 with
        | .inl e => .inl e
        | .inr v => match opF x (mostC (nI w)) v.2 with
          | .inl e => .inl e
          | .inr z => .inr ((u.1, v.1, z.1), z.2)))
      cases h2 : opF x (mostB t (nI w)) u.2 with
      | inl e => rw [h2] at t3; exact t3
      | inr v =>
        rw [h2] at t3
        have t3 : TpR μ3 tp x (numC (opF x (mostC (nI w)) v.2)) := t3
        show TpR μ3 tp x (curR (match opF x (mostC (nI w)) v.2 with
          | .inl e => .inl e
          | .inr z => .inr ((u.1, v.1, z.1), z.2)))
        cases h3 : opF x (mostC (nI w)) v.2 with
        | inl e => rw [h3] at t3; exact t3
        | inr z => rw [h3] at t3; exact t3
  · unfold op3 at hv
    cases h1 : opF x (mostA t (nI w)) a with
    | inl e => rw [h1] at hv; exact nomatch hv
    | inr u =>
      rw [h1] at hv
      have hv : (match opF x (mostB t (nI w)) u.2 with
        | .inl e => .inl e
        | .inr v => match opF x (mostC (nI w)) v.2 with
          | .inl e => .inl e
          | .inr z => .inr ((u.1, v.1, z.1), z.2)) = Sum.inr v := hv
      cases h2 : opF x (mostB t (nI w)) u.2 with
      | inl e => rw [h2] at hv; exact nomatch hv
      | inr y =>
        rw [h2] at hv
        have hv : (match opF x (mostC (nI w)) y.2 with
          | .inl e => .inl e
          | .inr z => .inr ((u.1, y.1, z.1), z.2)) = Sum.inr v := hv
        cases h3 : opF x (mostC (nI w)) y.2 with
        | inl e => rw [h3] at hv; exact nomatch hv
        | inr z =>
          rw [h3] at hv
          have hv : ((u.1, y.1, z.1), z.2) = v := Sum.inr.inj hv
          subst hv
          refine ⟨g1 a u rfl h1, g2 u.2 y ?_ h2, g3 y.2 z ?_ h3⟩
          · show numC (opF x (mostA t (nI w)) a) = _
            rw [h1]; rfl
          · show numC (opC x (mostB t (nI w)) (numC (opF x (mostA t (nI w)) a))) = _
            rw [h1]
            show numC (opF x (mostB t (nI w)) u.2) = _
            rw [h2]; rfl
