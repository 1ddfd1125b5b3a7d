/-! ===== the class is asked: pen, wire, status, count, fault ===== -/
theorem hut_at {B : Nat} {f : Fl} {μ : Mem} {a : ClT} (c : ClR μ f B a) : g_R μ 1 9 = huA f ∧ HutS μ (huA f) ∧ HutR μ (huA f) (hutT a.2.2.2.1) ∧ HutOk (hutT a.2.2.2.1) := by
  obtain ⟨n0, n1, n2, n3, n4, n5, n6, n7, n8, n9, n10, n11, n12, n13⟩ := id c.1
  refine ⟨n10, ?_, c.2.2.1.2.2.2.1, c.2.2.2.1.1.hut⟩
  rcases hu_or f with ⟨h, -⟩ | ⟨h, -⟩ <;> rw [h]
  · exact c.2.1.2.2.2.2.2.2.2.2.1.1
  · exact c.2.1.2.2.2.2.2.2.2.2.1.2
def sPen (a : ClT) (w : Int32) (p : Nat) : Int32 := if w = 0 then kindOf a p else if w = 1 then rowOf a p else if w = 2 then rowOf a (8 + p) else if w = 3 then rowOf a (16 + p) else if w = 4 then rowOf a (24 + p) else if w = 5 then hrsF (hutT a.2.2.2.1) p else hrdF (hutT a.2.2.2.1) p
theorem X11_pen {B : Nat} {f : Fl} {μ : Mem} {a : ClT} {pn w : Int32} (c : ClR μ f B a) : AskX B f μ (LX11_pen 1 pn w μ) (if noPen a pn then (.inl 0, rfA a 0) else if offB w 0 6 then (.inl 1, rfA a 1) else (.inr (sPen a w pn.toNatClampNeg), a)) := by
  unfold LX11_pen
  rw [if_pos c.1.1]
  refine ask_pen (s := fun p => if offB w 0 6 then (.inl 1, rfA a 1) else (.inr (sPen a w p), a)) c fun p hp hv => ?_
  refine ask_in c fun hw => ?_
  obtain ⟨q1, q2, q3, q4, q5, q6, q7, q8, q9, q10, q11⟩ := pen_at c hp
  obtain ⟨h1, h2, h3, h4⟩ := hut_at c
  subst hv
  rw [q1, if_pos p15, if_pos q2, q3, if_pos p16, if_pos q4, q5, q6, if_pos q7, if_pos q8.1, h1, if_pos (isK_p h2.1), if_pos h2.1, if_pos (isK_p h2.1), if_pos h2.1, X3_hearersOf h2 h3 h4 (by omega), ob, X3_heardBy h2 h3 h4 (by omega), ob, q9.1, q9.2.1, q9.2.2.1, q9.2.2.2.1, q9.2.2.2.2.1]
  have e : (if w = (0 : Int32) then some ((Sum.inr (kindOf a p) : Nat ⊕ Int32), μ) else if w = (1 : Int32) then some (Sum.inr (rowOf a p), μ) else if w = (2 : Int32) then some (Sum.inr (rowOf a (8 + p)), μ) else if w = (3 : Int32) then some (Sum.inr (rowOf a (16 + p)), μ) else if w = (4 : Int32) then some (Sum.inr (rowOf a (24 + p)), μ) else if w = (5 : Int32) then some (Sum.inr (hrsF (hutT a.2.2.2.1) p), μ) else some (Sum.inr (hrdF (hutT a.2.2.2.1) p), μ)) = some (Sum.inr (sPen a w p), μ) := by
    unfold sPen
    repeat' split
    all_goals rfl
  rw [e]
  exact AskX.same c
def noWire (a : ClT) (w : Int32) : Prop := w < 0 ∨ ¬ w < nI a.2.2.2.1.2.1.length
abbrev noWireD (a : ClT) (w : Int32) : Decidable (noWire a w) := inferInstanceAs (Decidable (w < 0 ∨ ¬ w < nI a.2.2.2.1.2.1.length))
def sWire (a : ClT) (q : Int32) (w : Nat) : Int32 := if q = 0 then nI ((hutT a.2.2.2.1).2.2.2.2.2.1 w) else nI ((hutT a.2.2.2.1).2.2.2.2.2.2.1 w)
theorem X11_wire {B : Nat} {f : Fl} {μ : Mem} {a : ClT} {wn q : Int32} (c : ClR μ f B a) : AskX B f μ (LX11_wire 1 wn q μ) (@ite _ (noWire a wn) (noWireD a wn) (.inl 0, rfA a 0) (if offB q 0 1 then (.inl 1, rfA a 1) else (.inr (sWire a q wn.toNatClampNeg), a))) := by
  obtain ⟨h1, h2, h3, h4⟩ := hut_at c
  have bad : AskX B f μ (mX11_wire_15 1 wn q μ) (.inl 0, rfA a 0) := by
    unfold mX11_wire_15
    rw [(X11_refuse c.1 c.2.1).2, obX_l]
    exact AskX.no c (by decide) (by decide)
  unfold LX11_wire
  rw [if_pos c.1.1, h1, if_pos (isK_p h2.1), if_pos h2.1, show g_I μ (huA f) 4 = nI a.2.2.2.1.2.1.length from h3.2.1]
  by_cases c1 : wn < 0
  · rw [if_pos c1, if_pos (show noWire a wn from Or.inl c1)]; exact bad
  rw [if_neg c1]
  by_cases c2 : wn < nI a.2.2.2.1.2.1.length
  · rw [if_pos c2, if_neg (show ¬ noWire a wn from fun z => z.elim c1 fun y => y c2)]
    have hl : a.2.2.2.1.2.1.length ≤ 16 := c.2.2.2.1.1.2.1
    have hw : ∃ w : Nat, w < a.2.2.2.1.2.1.length ∧ wn = nI w := by
      have h4' : 0 ≤ wn.toInt := by
        have := Int32.le_iff_toInt_le.mp (Int32.not_lt.mp c1)
        rw [show (0 : Int32).toInt = 0 from rfl] at this
        exact this
      have h5' := Int32.lt_iff_toInt_lt.mp c2
      rw [nI_toInt (by omega)] at h5'
      refine ⟨wn.toInt.toNat, by omega, Int32.toInt_inj.mp ?_⟩
      rw [nI_toInt (by omega)]
      omega
    obtain ⟨w, hw1, rfl⟩ := hw
    unfold mX11_wire_19
    refine ask_in c fun hq => ?_
    obtain ⟨z0, z1, z2, z3, z5, z6, k1, k2, k3, k4, k5, n1, n2, n3, n4, n5⟩ := id h2
    obtain ⟨w1, w2⟩ := h3.2.2.2.2 w hw1
    have cw : (nI w).toNatClampNeg = w := nI_clamp (by omega)
    rw [h1, if_pos (isK_p z0), if_pos z0, z5, if_pos (isK_p k4), if_pos (inA_n k4 n4 (by omega) (by decide)), cw, w1, if_pos (isK_p z0), if_pos z0, z6, if_pos (isK_p k5), if_pos (inA_n k5 n5 (by omega) (by decide)), w2]
    unfold sWire
    by_cases hq0 : q = 0
    · rw [if_pos hq0, if_pos hq0]; exact AskX.same c
    · rw [if_neg hq0, if_neg hq0]; exact AskX.same c
  · rw [if_neg c2, if_pos (show noWire a wn from Or.inr c2)]; exact bad
/-- what a call that never refuses answers -/
def AskI (B : Nat) (f : Fl) (μ : Mem) (o : Option (Int32 × Mem)) (s : Int32 × ClT) : Prop := ∃ μ' : Mem, o = some (s.1, μ') ∧ ClR μ' f B s.2 ∧ CallO B μ μ'
theorem AskI.same {B : Nat} {f : Fl} {μ : Mem} {a : ClT} {v : Int32} (c : ClR μ f B a) : AskI B f μ (some (v, μ)) (v, a) := ⟨μ, rfl, c, CallO.rf⟩
theorem X11_status {B : Nat} {f : Fl} {μ : Mem} {a : ClT} {w : Int32} (c : ClR μ f B a) : AskI B f μ (LX11_status 1 w μ) (if w < 0 ∨ (5 : Int32) ≤ w then -1 else a.2.2.2.2.2.2.2.2.2.2 w.toNatClampNeg, a) := by
  obtain ⟨n0, -, -, -, -, -, -, -, -, n8, -⟩ := id c.1
  obtain ⟨k8, l8⟩ := c.2.1.2.2.2.2.2.2.2.1
  unfold LX11_status
  rw [if_pos n0, n8]
  by_cases h1 : w < 0
  · rw [if_pos h1, if_pos (Or.inl h1)]; exact AskI.same c
  rw [if_neg h1]
  by_cases h2 : (5 : Int32) ≤ w
  · rw [if_pos h2, if_pos (Or.inr h2)]; exact AskI.same c
  rw [if_neg h2, if_neg (show ¬ (w < 0 ∨ (5 : Int32) ≤ w) from fun z => z.elim h1 h2), if_pos (show (0 : Nat) < 92 by decide)]
  have h1' : 0 ≤ w.toInt := by
    have := Int32.le_iff_toInt_le.mp (Int32.not_lt.mp h1)
    rw [show (0 : Int32).toInt = 0 from rfl] at this
    exact this
  have h2' := Int32.lt_iff_toInt_lt.mp (Int32.not_le.mp h2)
  rw [show (5 : Int32).toInt = 5 from rfl] at h2'
  obtain ⟨n, hn, rfl⟩ : ∃ n : Nat, n < 5 ∧ w = nI n := ⟨w.toInt.toNat, by omega, Int32.toInt_inj.mp (by rw [nI_toInt (by omega)]; omega)⟩
  rw [if_pos (inA_n k8 l8 hn (by decide)), nI_clamp (show n < 2147483648 by omega), c.2.2.1.2.2.2.2.2.2.2.2.2.2 n hn]
  exact AskI.same c
theorem X11_count {B : Nat} {f : Fl} {μ : Mem} {a : ClT} {w : Int32} (c : ClR μ f B a) : AskI B f μ (LX11_count 1 w μ) (if w = 0 then nI a.2.2.2.2.2.2.2.1.2.2.1 else if w = 1 then nI a.2.1 else if w = 2 then nI a.2.2.2.2.2.2.2.1.1 else -1, a) := by
  obtain ⟨n0, n1, n2, n3, n4⟩ := id c.1
  have hh := c.2.2.1.2.2.2.2.2.2.2.1
  have k2 : isK μ 10 2 = true := hh.1.1
  have k9 : isK μ 2 9 = true := c.2.1.1.1
  have e5 : g_I μ 10 5 = nI a.2.2.2.2.2.2.2.1.2.2.1 := hh.2.2.1.2.1
  have e4 : g_I μ 10 4 = nI a.2.2.2.2.2.2.2.1.1 := hh.2.2.1.1
  have e1 : g_I μ 2 1 = nI a.2.1 := c.2.2.1.2.1.1
  unfold LX11_count
  rw [if_pos n0, n3, n1, if_pos (show (0 : Nat) < 10 by decide), if_pos k2, if_pos k2, if_pos (show (0 : Nat) < 2 by decide), if_pos k9, e5, e4, e1]
  by_cases h0 : w = 0
  · rw [if_pos h0, if_pos h0]; exact AskI.same c
  rw [if_neg h0, if_neg h0]
  by_cases h1 : w = 1
  · rw [if_pos h1, if_pos h1]; exact AskI.same c
  rw [if_neg h1, if_neg h1]
  by_cases h2 : w = 2
  · rw [if_pos h2, if_pos h2]; exact AskI.same c
  rw [if_neg h2, if_neg h2]; exact AskI.same c
theorem X11_fault {B : Nat} {f : Fl} {μ : Mem} {a : ClT} (c : ClR μ f B a) : AskI B f μ (LX11_fault 1 μ) (a.2.2.1, a) := by
  obtain ⟨n0, n1, -⟩ := id c.1
  have k9 : isK μ 2 9 = true := c.2.1.1.1
  unfold LX11_fault
  rw [if_pos n0, n1, if_pos (by decide), if_pos k9, show g_I μ 2 3 = a.2.2.1 from c.2.2.1.2.2.1]
  exact AskI.same c
