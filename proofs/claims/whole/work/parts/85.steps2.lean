/-! ===== WORK: the class reads a STEP ===== -/
theorem digs_ge {x : Txt} : ∀ (f a v : Nat), x.2 - a = f → a ≤ x.2 → a ≤ (digs x f a v).2 ∧ (digs x f a v).2 ≤ x.2 := by
  intro f
  induction f with
  | zero => intro a v _ h; exact ⟨Nat.le_refl _, h⟩
  | succ f ih =>
    intro a v h1 h2
    unfold digs
    by_cases e : digT (chT x a)
    · rw [if_pos e]
      have := ih (a + 1) (if v * 10 + chT x a - 48 < 100000000 then v * 10 + chT x a - 48 else 100000000) (by omega) (by omega)
      omega
    · rw [if_neg e]; exact ⟨Nat.le_refl _, h2⟩
theorem numF_at {x : Txt} {most : Int32} {a : Nat} {v : Nat × Nat} (h : numF x most a = .inr v) (ha : a ≤ x.2) : a ≤ v.2 ∧ v.2 ≤ x.2 := by
  unfold numF at h
  by_cases e : digT (chT x a)
  · rw [if_pos e] at h
    by_cases e2 : nI (digs x (x.2 - a) a 0).1 ≤ most
    · rw [if_pos e2] at h
      have h : ((digs x (x.2 - a) a 0).1, sk x (digs x (x.2 - a) a 0).2) = v := Sum.inr.inj h
      subst h
      obtain ⟨h1, h2⟩ := digs_ge (x := x) (x.2 - a) a 0 rfl ha
      exact ⟨Nat.le_trans h1 sk_ge, sk_le h2⟩
    · rw [if_neg e2] at h; exact nomatch h
  · rw [if_neg e] at h; exact nomatch h
theorem opF_at {x : Txt} {most : Int32} {a : Nat} {v : Nat × Nat} (h : opF x most a = .inr v) (ha : a ≤ x.2) : a ≤ v.2 ∧ v.2 ≤ x.2 := by
  unfold opF at h
  by_cases e : most = -2
  · rw [if_pos e] at h
    have h : (0, a) = v := Sum.inr.inj h
    subst h
    exact ⟨Nat.le_refl _, ha⟩
  · rw [if_neg e] at h
    exact numF_at h ha
theorem op3_at {x : Txt} {t : HutT} {w a : Nat} {v : (Nat × Nat × Nat) × Nat} (h : op3 x t w a = .inr v) (ha : a ≤ x.2) : a ≤ v.2 ∧ v.2 ≤ x.2 := by
  unfold op3 at h
  cases h1 : opF x (mostA t (nI w)) a with
  | inl e => rw [h1] at h; exact nomatch h
  | inr u =>
    rw [h1] at h
    have h : (match opF x (mostB t (nI w)) u.2 with
      | .inl e => .inl e
      | .inr v => match opF x (mostC (nI w)) v.2 with
        | .inl e => .inl e
        | .inr z => .inr ((u.1, v.1, z.1), z.2)) = Sum.inr v := h
    cases h2 : opF x (mostB t (nI w)) u.2 with
    | inl e => rw [h2] at h; exact nomatch h
    | inr y =>
      rw [h2] at h
      have h : (match opF x (mostC (nI w)) y.2 with
        | .inl e => .inl e
        | .inr z => .inr ((u.1, y.1, z.1), z.2)) = Sum.inr v := h
      cases h3 : opF x (mostC (nI w)) y.2 with
      | inl e => rw [h3] at h; exact nomatch h
      | inr z =>
        rw [h3] at h
        have h : ((u.1, y.1, z.1), z.2) = v := Sum.inr.inj h
        subst h
        have q1 := opF_at h1 ha
        have q2 := opF_at h2 q1.2
        have q3 := opF_at h3 q2.2
        show a ≤ z.2 ∧ z.2 ≤ x.2
        omega
theorem wordIx_len {x : Txt} {a e : Nat} : ∀ (ws : List (List Nat)) (i k m : Nat), (∀ w, w ∈ ws → m ≤ w.length) → wordIx x a e ws i = some k → m ≤ e - a := by
  intro ws
  induction ws with
  | nil => intro i k m _ h; exact nomatch h
  | cons w r ih =>
    intro i k m hm h
    unfold wordIx at h
    by_cases c : isW x a e w
    · have := hm w (List.mem_cons_self ..)
      have := c.1
      omega
    · rw [if_neg c] at h
      exact ih (i + 1) k m (fun v hv => hm v (List.mem_cons_of_mem _ hv)) h
theorem wordF_at {x : Txt} {ws : List (List Nat)} {a m : Nat} {v : Nat × Nat} (hm : ∀ w, w ∈ ws → m ≤ w.length) (h : wordF x ws a = .inr v) (ha : a ≤ x.2) : a + m ≤ v.2 ∧ v.2 ≤ x.2 := by
  unfold wordF at h
  by_cases c : a < x.2
  · rw [if_pos c] at h
    cases hw : wordIx x a (ltE x a) ws 0 with
    | none => rw [hw] at h; exact nomatch h
    | some k =>
      rw [hw] at h
      have h : (k, sk x (ltE x a)) = v := Sum.inr.inj h
      subst h
      have h1 := wordIx_len ws 0 k m hm hw
      obtain ⟨h2, h3⟩ := letE_le (x := x) (x.2 - a) a rfl ha
      have h2 : a ≤ ltE x a := h2
      have h3 : ltE x a ≤ x.2 := h3
      have h4 : ltE x a ≤ sk x (ltE x a) := sk_ge
      have h5 := sk_le (x := x) h3
      show a + m ≤ sk x (ltE x a) ∧ sk x (ltE x a) ≤ x.2
      by_cases hm0 : m = 0
      · omega
      · omega
  · rw [if_neg c] at h; exact nomatch h
theorem needF_at {x : Txt} {k a b : Nat} (h : needF x k (.inr a) = .inr b) (hk : k < 256) : a + 1 ≤ b ∧ b ≤ x.2 := by
  have h : (if chT x a = k then (Sum.inr (sk x (a + 1)) : Cur) else .inl (1, a)) = .inr b := h
  by_cases e : chT x a = k
  · rw [if_pos e] at h
    have h : sk x (a + 1) = b := Sum.inr.inj h
    subst h
    exact ⟨sk_ge, sk_le (chT_lt e hk)⟩
  · rw [if_neg e] at h; exact nomatch h
def inPs (tp wk : Nat) : Nat → Prop := fun z => z = tp ∨ (wk ≤ z ∧ z < wk + 6)
/-- the STEPS from n0 on, as they lie in the class -/
def StpR (μ : Mem) (wk n0 n : Nat) (pr : Nat → StepT) : Prop := g_I μ wk 5 = nI n ∧ n ≤ 37 ∧ ∀ i, n0 ≤ i → i < n → g_I μ (wk + 1) i = nI (pr i).1 ∧ g_I μ (wk + 2) i = nI (pr i).2.1 ∧ g_I μ (wk + 3) i = nI (pr i).2.2.1 ∧ g_I μ (wk + 4) i = nI (pr i).2.2.2.1 ∧ g_I μ (wk + 5) i = nI (pr i).2.2.2.2
def LowS (wk n : Nat) (μ ν : Mem) : Prop := ∀ i, i < n → ∀ j, 1 ≤ j → j ≤ 5 → g_I ν (wk + j) i = g_I μ (wk + j) i
theorem LowS.rf {wk n : Nat} {μ : Mem} : LowS wk n μ μ := fun _ _ _ _ _ => rfl
theorem LowS.tr {wk n : Nat} {μ ν ρ : Mem} (h1 : LowS wk n μ ν) (h2 : LowS wk n ν ρ) : LowS wk n μ ρ := fun i hi j a b => (h2 i hi j a b).trans (h1 i hi j a b)
theorem LowS.le {wk n m : Nat} {μ ν : Mem} (h : LowS wk n μ ν) (hm : m ≤ n) : LowS wk m μ ν := fun i hi j a b => h i (by omega) j a b
theorem LowS.tp {wk n tp : Nat} {μ ν : Mem} (hd : tp + 2 ≤ wk ∨ wk + 6 ≤ tp) (o : Out (fun z => z = tp) μ ν) : LowS wk n μ ν := fun i _ j a b => by rw [(o.2 (wk + j) (by omega)).1]
theorem StpR.low {wk n0 n m : Nat} {μ ν : Mem} {pr : Nat → StepT} (r : StpR μ wk n0 n pr) (l : LowS wk m μ ν) (hm : n ≤ m) : ∀ i, n0 ≤ i → i < n → g_I ν (wk + 1) i = nI (pr i).1 ∧ g_I ν (wk + 2) i = nI (pr i).2.1 ∧ g_I ν (wk + 3) i = nI (pr i).2.2.1 ∧ g_I ν (wk + 4) i = nI (pr i).2.2.2.1 ∧ g_I ν (wk + 5) i = nI (pr i).2.2.2.2 := fun i h1 h2 => by
  rw [l i (by omega) 1 (by decide) (by decide), l i (by omega) 2 (by decide) (by decide), l i (by omega) 3 (by decide) (by decide), l i (by omega) 4 (by decide) (by decide), l i (by omega) 5 (by decide) (by decide)]
  exact r.2.2 i h1 h2
theorem opnd_err {μ : Mem} {tp : Nat} {x : Txt} {e : Nat × Nat} {most : Int32} (t : TpR μ tp x (.inl e)) : ∃ z, LX10_operand tp most μ = some (z, μ) := by
  obtain ⟨c1, c2, c3, c4⟩ := t.2.2
  unfold LX10_operand
  rw [if_pos t.1.1]
  by_cases h : most = -2
  · rw [if_pos h]; exact ⟨0, rfl⟩
  · rw [if_neg h]
    unfold LX9_number
    rw [if_pos t.1.1]
    unfold LX9_digitComes
    rw [if_pos t.1.1, c1, if_neg (nI_ne0 c2 (by omega)), ob, if_pos rfl, (fail_err (k := 0) (p := 4) t 1).1, ob, ob]
    exact ⟨-1, rfl⟩
theorem op3_err {μ : Mem} {tp h : Nat} {x : Txt} {e : Nat × Nat} {t : HutT} {w : Int32} (s : HutS μ h) (hr : HutR μ h t) (r : TpR μ tp x (.inl e)) {α : Type} (k : Int32 → Int32 → Int32 → Mem → Option (α × Mem)) :
    ∃ z1 z2 z3 : Int32, obind (LX10_firstMost w h μ) (fun r15 m16 => obind (LX10_operand tp r15 m16) (fun r21 m22 => obind (LX10_secondMost w h m22) (fun r27 m28 => obind (LX10_operand tp r27 m28) (fun r33 m34 => obind (LX10_thirdMost w m34) (fun r39 m40 => obind (LX10_operand tp r39 m40) (fun r45 m46 => k r21 r33 r45 m46)))))) = k z1 z2 z3 μ := by
  obtain ⟨m1, m2, m3⟩ := X10_most (w := w) s hr
  obtain ⟨z1, e1⟩ := opnd_err (most := mostA t w) r
  obtain ⟨z2, e2⟩ := opnd_err (most := mostB t w) r
  obtain ⟨z3, e3⟩ := opnd_err (most := mostC w) r
  rw [m1, ob, e1, ob, m2, ob, e2, ob, m3, ob, e3, ob]
  exact ⟨z1, z2, z3, rfl⟩
def errI (c : Cur) : Int32 := match c with
  | .inl _ => 1
  | .inr _ => 0
theorem X9_failedE {μ : Mem} {tp : Nat} {x : Txt} {c : Cur} (t : TpR μ tp x c) : LX9_failed tp μ = some (errI c, μ) := by
  unfold LX9_failed
  rw [if_pos t.1.1]
  cases c with
  | inl e =>
    obtain ⟨c1, c2, c3, c4⟩ := t.2.2
    rw [c1, if_neg (nI_ne0 c2 (by omega))]
    rfl
  | inr a =>
    rw [t.2.2.1, if_pos rfl]
    rfl
