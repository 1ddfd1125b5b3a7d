/-! ===== the class is asked: out, level, record, strange, extreme, pen ===== -/
theorem ar_refuse {μ : Mem} {f : Fl} (c : ClN μ f) (s : ClS μ) : LX11_refuseArithmetic 1 μ = some (.inl 4, rfM μ 4 6) ∧ mX11_needRecord_20 1 μ = some (.inl 3, rfM μ 3 6) := by
  obtain ⟨n0, -, -, -, -, -, -, -, -, n8, -⟩ := id c
  obtain ⟨k8, l8⟩ := s.2.2.2.2.2.2.2.1
  refine ⟨?_, ?_⟩
  · unfold LX11_refuseArithmetic
    rw [if_pos n0, n8, if_pos (by decide), if_pos (show inA μ 92 15 (4 : Int32) = true from inA_n (n := 4) k8 l8 (by decide) (by decide))]
    rfl
  · unfold mX11_needRecord_20
    rw [n8, if_pos (by decide), if_pos (show inA μ 92 15 (3 : Int32) = true from inA_n (n := 3) k8 l8 (by decide) (by decide))]
    rfl
theorem p15 : (0 : Nat) < 15 := by decide
theorem p16 : (0 : Nat) < 16 := by decide
def jamA (a : ClT) (p : Nat) : Int32 := jamI (kindOf a p) (rowOf a (8 + p))
def outA (a : ClT) (p : Nat) (v : Int32) : Int32 := outF (kindOf a p) v (rowOf a p) (rowOf a (8 + p))
def sOut (a : ClT) (v : Int32) (p : Nat) : (Nat ⊕ Int32) × ClT := if jamA a p = 0 then (.inr (outA a p v), a) else (.inl 4, rfA a 4)
theorem X11_out {B : Nat} {f : Fl} {μ : Mem} {a : ClT} {pn v : Int32} (c : ClR μ f B a) : AskX B f μ (LX11_out 1 pn v μ) (if noPen a pn then (.inl 0, rfA a 0) else sOut a v pn.toNatClampNeg) := by
  unfold LX11_out
  rw [if_pos c.1.1]
  refine ask_pen c fun p hp hv => ?_
  obtain ⟨q1, q2, q3, q4, q5, q6, q7, q8, q9, q10, q11⟩ := pen_at c hp
  subst hv
  rw [q1, if_pos p15, if_pos q2, q3, if_pos p16, if_pos q4, q5, q6, if_pos q7, if_pos q8.1, X5_jams q8.1, ob, q9.1, q9.2.2.1]
  unfold sOut
  show AskX B f μ (if jamA a p = 0 then _ else _) _
  by_cases hj : jamA a p = 0
  · rw [if_pos hj, if_pos hj]
    unfold mX11_out_24
    have hnn : NnOk (g_I μ (17 + 4 * p) 0) v (g_I μ (17 + 4 * p) 1) (g_I μ (17 + 4 * p) 2) := by rw [q9.1, q9.2.1, q9.2.2.1]; exact q10.nn fpNn
    rw [q1, if_pos p15, if_pos q2, q3, if_pos p16, if_pos q4, q5, q6, if_pos q7, if_pos q8.1, X5_outOf q8.1 hnn, ob, q9.1, q9.2.1, q9.2.2.1]
    exact AskX.same c
  · rw [if_neg hj, if_neg hj, (ar_refuse c.1 c.2.1).1, obX_l]
    exact AskX.no c (by decide) (by decide)
def sRec (a : ClT) (i : Int32) (p : Nat) : (Nat ⊕ Int32) × ClT := if i < 0 ∨ ¬ i < rowOf a (24 + p) then (.inl 3, rfA a 3) else (.inr (rdF (kindOf a p) (rowOf a (35 + (24 * p + i.toNatClampNeg))) (rowOf a (227 + (24 * p + i.toNatClampNeg)))), a)
theorem needRec {B : Nat} {f : Fl} {μ : Mem} {a : ClT} {p : Nat} {i : Int32} (c : ClR μ f B a) (hp : p < a.2.2.2.1.1.length) : LX11_needRecord 1 (nI p) i μ = if i < 0 ∨ ¬ i < rowOf a (24 + p) then some (.inl 3, rfM μ 3 6) else some (.inr (), μ) := by
  obtain ⟨q1, q2, q3, q4, q5, q6, q7, q8, q9, q10, q11⟩ := pen_at c hp
  unfold LX11_needRecord
  rw [if_pos c.1.1, (ar_refuse c.1 c.2.1).2, q1, if_pos p15, if_pos q2, q3, if_pos p16, if_pos q4, q5, q6, if_pos q7, if_pos q8.1, q9.2.2.2.2.1]
  by_cases h1 : i < 0
  · rw [if_pos h1, if_pos (Or.inl h1)]
  · rw [if_neg h1]
    by_cases h2 : i < rowOf a (24 + p)
    · rw [if_pos h2, if_neg (fun z => z.elim h1 fun q => q h2)]
    · rw [if_neg h2, if_pos (Or.inr h2)]
theorem rec_of {k : Int32} {ρ : Nat → Int32} {p : Nat} {i : Int32} (h : PenOk k ρ p) (hi : ¬ (i < 0 ∨ ¬ i < ρ (24 + p))) : ∃ j : Nat, j < 24 ∧ j < nOf ρ p ∧ i = nI j := by
  obtain ⟨h1, h2, h3⟩ := h.n
  rw [h1] at hi
  have h4 : ¬ i < 0 := fun z => hi (Or.inl z)
  have h5 : i < nI (nOf ρ p) := Classical.byContradiction fun z => hi (Or.inr z)
  have h4' : 0 ≤ i.toInt := by
    have := Int32.le_iff_toInt_le.mp (Int32.not_lt.mp h4)
    rw [show (0 : Int32).toInt = 0 from rfl] at this
    exact this
  have h5' := Int32.lt_iff_toInt_lt.mp h5
  rw [nI_toInt (by omega)] at h5'
  refine ⟨i.toInt.toNat, by omega, by omega, Int32.toInt_inj.mp ?_⟩
  rw [nI_toInt (by omega)]
  omega
theorem X11_record {B : Nat} {f : Fl} {μ : Mem} {a : ClT} {pn i : Int32} (c : ClR μ f B a) : AskX B f μ (LX11_record 1 pn i μ) (if noPen a pn then (.inl 0, rfA a 0) else sRec a i pn.toNatClampNeg) := by
  unfold LX11_record
  rw [if_pos c.1.1]
  refine ask_pen c fun p hp hv => ?_
  obtain ⟨q1, q2, q3, q4, q5, q6, q7, q8, q9, q10, q11⟩ := pen_at c hp
  subst hv
  rw [needRec c hp]
  unfold sRec
  by_cases h : i < 0 ∨ ¬ i < rowOf a (24 + p)
  · rw [if_pos h, if_pos h, obX_l]
    exact AskX.no c (by decide) (by decide)
  · rw [if_neg h, if_neg h, obX_r, q1, if_pos p15, if_pos q2, q3, if_pos p16, if_pos q4, q5, q6, if_pos q7, if_pos q8.1]
    obtain ⟨j, hj, -, hij⟩ := rec_of q10 h
    subst hij
    rw [X5_readAt q8 q9 hj, ob, nI_clamp (show j < 2147483648 by omega)]
    exact AskX.same c
def levA (a : ClT) (p : Nat) (v : Int32) : Int32 := levF a.2.2.2.2.1 (kindOf a p) (rowOf a) p v
theorem law_at {B : Nat} {f : Fl} {μ : Mem} {a : ClT} (c : ClR μ f B a) : g_R μ 1 11 = laA f ∧ LawS μ (laA f) ∧ LawR μ (laA f) a.2.2.2.2.1 := by
  obtain ⟨n0, n1, n2, n3, n4, n5, n6, n7, n8, n9, n10, n11, n12, n13⟩ := id c.1
  refine ⟨n12, ?_, c.2.2.1.2.2.2.2.1⟩
  rcases la_or f with ⟨h, -⟩ | ⟨h, -⟩ <;> rw [h]
  · exact c.2.1.2.2.2.2.2.2.2.2.2.1.1
  · exact c.2.1.2.2.2.2.2.2.2.2.2.1.2
theorem usd_law {f : Fl} {B x : Nat} (hB : 125 ≤ B) (h : usd f B x) : ¬ (x = laA f + 1 ∨ x = laA f + 4) := by
  have h2 := hu_or f
  have h3 := la_or f
  have h4 := ch_or f
  have h5 := bk_or f
  unfold usd at h
  omega
theorem AskX.out {S : Nat → Prop} {B : Nat} {f : Fl} {μ ν : Mem} {a : ClT} {v : Int32} (c : ClR μ f B a) (o : Out S μ ν) (hS : ∀ x, usd f B x → ¬ S x) (h125 : ∀ x, 125 ≤ x → x < B → ¬ S x) : AskX B f μ (some (.inr v, ν)) (.inr v, a) := ⟨ν, rfl, c.out o hS, (o.gr (SR := fun _ => False)).call (by decide) fun x h1 h2 => ⟨fun z => z, h125 x h1 h2⟩⟩
theorem X11_level {B : Nat} {f : Fl} {μ : Mem} {a : ClT} {pn v : Int32} (c : ClR μ f B a) : AskX B f μ (LX11_level 1 pn v μ) (if noPen a pn then (.inl 0, rfA a 0) else (.inr (levA a pn.toNatClampNeg v), a)) := by
  unfold LX11_level
  rw [if_pos c.1.1]
  refine ask_pen (s := fun p => (.inr (levA a p v), a)) c fun p hp hv => ?_
  obtain ⟨q1, q2, q3, q4, q5, q6, q7, q8, q9, q10, q11⟩ := pen_at c hp
  obtain ⟨l1, l2, l3⟩ := law_at c
  have h3 := la_or f
  subst hv
  rw [l1, if_pos (isK_p l2.1), q1, if_pos p15, if_pos l2.1]
  obtain ⟨μ', e1, o1⟩ := X4_levelBy (v := v) l2 l3 c.2.1.2.2.1 c.2.2.1.2.2.2.2.2.2.2.2.1 hp (by omega) (q10.nn fpNn)
  rw [e1, ob]
  exact AskX.out c o1 (fun x hx => usd_law c.2.2.2.2 hx) (fun x h1 h2 z => by omega)
theorem many_of {B : Nat} {f : Fl} {μ : Mem} {a : ClT} (c : ClR μ f B a) {p : Nat} (hp : p < a.2.2.2.1.1.length) : rowOf a (24 + p) = nI (nOf (rowOf a) p) ∧ nOf (rowOf a) p ≤ 24 := by
  obtain ⟨q1, q2, q3, q4, q5, q6, q7, q8, q9, q10, q11⟩ := pen_at c hp
  exact ⟨q10.n.1, q10.n.2.1⟩
theorem X11_strange {B : Nat} {f : Fl} {μ : Mem} {a : ClT} {pn w : Int32} (c : ClR μ f B a) : AskX B f μ (LX11_strange 1 pn w μ) (if noPen a pn then (.inl 0, rfA a 0) else if offB w 0 1 then (.inl 1, rfA a 1) else (.inr (strF (rowOf a) (kindOf a pn.toNatClampNeg) pn.toNatClampNeg (if w = 1 then 1 else 0) (nOf (rowOf a) pn.toNatClampNeg) 0), a)) := by
  unfold LX11_strange
  rw [if_pos c.1.1]
  refine ask_pen (s := fun p => if offB w 0 1 then (.inl 1, rfA a 1) else (.inr (strF (rowOf a) (kindOf a p) p (if w = 1 then 1 else 0) (nOf (rowOf a) p) 0), a)) c fun p hp hv => ?_
  refine ask_in c fun hw => ?_
  obtain ⟨q1, q2, q3, q4, q5, q6, q7, q8, q9, q10, q11⟩ := pen_at c hp
  obtain ⟨m1, m2⟩ := many_of c hp
  subst hv
  rw [q1, if_pos p15, if_pos q2, q3, if_pos p16, if_pos q4, q5, q6, if_pos q7]
  unfold mX11_strange_31
  rw [if_pos q8.1, X5_strange q8 q9 m1 m2, ob, if_pos q8.1, X5_strange q8 q9 m1 m2, ob]
  by_cases h : w = 1
  · rw [if_pos h, if_pos h]; exact AskX.same c
  · rw [if_neg h, if_neg h]; exact AskX.same c
theorem X11_extreme {B : Nat} {f : Fl} {μ : Mem} {a : ClT} {pn w : Int32} (c : ClR μ f B a) : AskX B f μ (LX11_extreme 1 pn w μ) (if noPen a pn then (.inl 0, rfA a 0) else if offB w 0 1 then (.inl 1, rfA a 1) else (.inr (onI (extF (kindOf a pn.toNatClampNeg) (rowOf a) pn.toNatClampNeg (if w = 1 then 1 else 0) (nOf (rowOf a) pn.toNatClampNeg) 0 none)), a)) := by
  unfold LX11_extreme
  rw [if_pos c.1.1]
  refine ask_pen (s := fun p => if offB w 0 1 then (.inl 1, rfA a 1) else (.inr (onI (extF (kindOf a p) (rowOf a) p (if w = 1 then 1 else 0) (nOf (rowOf a) p) 0 none)), a)) c fun p hp hv => ?_
  refine ask_in c fun hw => ?_
  obtain ⟨q1, q2, q3, q4, q5, q6, q7, q8, q9, q10, q11⟩ := pen_at c hp
  obtain ⟨m1, m2⟩ := many_of c hp
  subst hv
  rw [q1, if_pos p15, if_pos q2, q3, if_pos p16, if_pos q4, q5, q6, if_pos q7]
  unfold mX11_extreme_31
  rw [if_pos q8.1, X5_extreme q8 q9 m1 m2, ob, if_pos q8.1, X5_extreme q8 q9 m1 m2, ob]
  by_cases h : w = 1
  · rw [if_pos h, if_pos h]; exact AskX.same c
  · rw [if_neg h, if_neg h]; exact AskX.same c
