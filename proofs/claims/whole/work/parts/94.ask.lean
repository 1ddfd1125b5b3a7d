/-! ===== the class is asked: PENS, records, OUT, LEVEL ===== -/
/-- a call: what it makes, and that the reference's things stay -/
def CallO (B : Nat) (μ μ' : Mem) : Prop := g_n μ ≤ g_n μ' ∧ g_c μ' ≤ g_c μ + 600 ∧ g_w μ' ≤ g_w μ + 11120 ∧ ∀ x, 125 ≤ x → x < B → x ≤ g_n μ → g_K μ' x = g_K μ x ∧ g_N μ' x = g_N μ x ∧ g_R μ' x = g_R μ x ∧ g_I μ' x = g_I μ x ∧ g_L μ' x = g_L μ x ∧ g_D μ' x = g_D μ x
theorem Grow.call {n B : Nat} {SR S : Nat → Prop} {μ ν : Mem} (g : Grow n SR S μ ν) (hn : n ≤ 17) (h : ∀ x, 125 ≤ x → x < B → ¬ SR x ∧ ¬ S x) : CallO B μ ν := ⟨g.1, by have := g.2.1; omega, by have := g.2.2.1; omega, fun x h1 h2 h3 => by
  obtain ⟨a1, a2, a3, a4⟩ := g.2.2.2 x h3
  obtain ⟨b1, b2⟩ := h x h1 h2
  exact ⟨a1, a2, a3 b1, (a4 b2).1, (a4 b2).2.1, (a4 b2).2.2⟩⟩
theorem CallO.rf {B : Nat} {μ : Mem} : CallO B μ μ := ⟨Nat.le_refl _, Nat.le_add_right _ _, Nat.le_add_right _ _, fun _ _ _ _ => ⟨rfl, rfl, rfl, rfl, rfl, rfl⟩⟩
/-- what a call that may refuse answers -/
def AskX (B : Nat) (f : Fl) (μ : Mem) (o : Option ((Nat ⊕ Int32) × Mem)) (s : (Nat ⊕ Int32) × ClT) : Prop := ∃ μ' : Mem, o = some (s.1, μ') ∧ ClR μ' f B s.2 ∧ CallO B μ μ'
theorem AskX.no {B k w : Nat} {f : Fl} {μ : Mem} {a : ClT} (c : ClR μ f B a) (hk : k < 5) (hw : w ≤ 653) : AskX B f μ (some (.inl k, rfM μ k w)) (.inl k, rfA a k) := ⟨_, rfl, c.refuse hk hw, (rf_gr hw).call (by decide) fun x h1 _ => ⟨fun z => z, by omega⟩⟩
theorem AskX.same {B : Nat} {f : Fl} {μ : Mem} {a : ClT} {v : Int32} (c : ClR μ f B a) : AskX B f μ (some (.inr v, μ)) (.inr v, a) := ⟨μ, rfl, c, CallO.rf⟩
/-- no such PEN; out of bounds -/
abbrev noPen (a : ClT) (v : Int32) : Prop := v < 0 ∨ ¬ v < nI a.2.2.2.1.1.length
abbrev offB (v lo hi : Int32) : Prop := v < lo ∨ ¬ v ≤ hi
def rowOf (a : ClT) : Nat → Int32 := a.2.2.2.2.2.2.2.2.1
def kindOf (a : ClT) (p : Nat) : Int32 := (hutT a.2.2.2.1).2.1 p
theorem ask_pen {B : Nat} {f : Fl} {μ : Mem} {a : ClT} {v : Int32} (c : ClR μ f B a) {k : Mem → Option ((Nat ⊕ Int32) × Mem)} {s : Nat → (Nat ⊕ Int32) × ClT} (hk : ∀ p, p < a.2.2.2.1.1.length → v = nI p → AskX B f μ (k μ) (s p)) : AskX B f μ (obindX (LX11_needPen 1 v μ) (fun _ m => k m)) (if noPen a v then (.inl 0, rfA a 0) else s v.toNatClampNeg) := by
  rw [X11_needPen c]
  by_cases h : noPen a v
  · rw [if_pos h, if_pos h, obX_l]
    exact AskX.no c (by decide) (by decide)
  · rw [if_neg h, if_neg h, obX_r]
    obtain ⟨p, hp, hv⟩ := pen_of h c.2.2.2.1.1.1
    have : v.toNatClampNeg = p := by rw [hv]; exact nI_clamp (by have := c.2.2.2.1.1.1; omega)
    rw [this]
    exact hk p hp hv
theorem ask_in {B : Nat} {f : Fl} {μ : Mem} {a : ClT} {v lo hi : Int32} (c : ClR μ f B a) {k : Mem → Option ((Nat ⊕ Int32) × Mem)} {s : (Nat ⊕ Int32) × ClT} (hk : ¬ offB v lo hi → AskX B f μ (k μ) s) : AskX B f μ (obindX (LX11_needWithin 1 v lo hi μ) (fun _ m => k m)) (if offB v lo hi then (.inl 1, rfA a 1) else s) := by
  rw [X11_needWithin c.1 c.2.1]
  by_cases h : offB v lo hi
  · rw [if_pos h, if_pos h, obX_l]
    exact AskX.no c (by decide) (by decide)
  · rw [if_neg h, if_neg h, obX_r]
    exact hk h
/-- the PEN p of the STATE in use -/
theorem pen_at {B : Nat} {f : Fl} {μ : Mem} {a : ClT} (c : ClR μ f B a) {p : Nat} (hp : p < a.2.2.2.1.1.length) : g_R μ 1 3 = 15 ∧ isK μ 15 8 = true ∧ g_R μ 15 0 = 16 ∧ inA μ 16 17 (nI p) = true ∧ (nI p).toNatClampNeg = p ∧ g_R μ 16 p = 17 + 4 * p ∧ 0 < 17 + 4 * p ∧ PenS μ (17 + 4 * p) ∧ PenR μ (17 + 4 * p) (kindOf a p) (rowOf a) p ∧ PenOk (kindOf a p) (rowOf a) p ∧ p < 8 := by
  obtain ⟨n0, n1, n2, n3, n4, n5⟩ := id c.1
  have ts := c.2.1.2.2.1
  have h8 := c.2.2.2.1.1.1
  obtain ⟨t0, t1, t2, t3, t5⟩ := id ts
  obtain ⟨t6, t7⟩ := t5 p (by omega)
  have sr := c.2.2.1.2.2.2.2.2.2.2.2.1
  exact ⟨n4, t0, t1, inA_n t2 t3 (by omega) (by decide), nI_clamp (by omega), t6, by omega, t7, sr.2.2.2.2.2 p hp, (c.2.2.2.1.2.1.2.1 p hp).1, by omega⟩
