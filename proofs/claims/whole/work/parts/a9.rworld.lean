/-! ===== the reference's whole relation to what is told ===== -/
def ChM (μ : Mem) (l : List Nat) : Prop := g_I μ 125 34 = nI l.length ∧ l.length ≤ 12 ∧ ∀ i, i < l.length → g_I μ 520 i = nI (l.getD i 0)
def BkM (μ : Mem) (l : List (Nat × Nat)) : Prop := g_I μ 125 33 = nI l.length ∧ l.length ≤ 6 ∧ ∀ i, i < l.length → g_I μ (505 + i) 0 = nI (l.getD i (0, 0)).1 ∧ g_I μ (505 + i) 1 = nI (l.getD i (0, 0)).2
def HiM (μ : Mem) (t : HisT) : Prop := (g_I μ 125 35 = nI t.1 ∧ t.1 ≤ 16) ∧ (g_I μ 125 37 = nI t.2.2.1 ∧ t.2.2.1 ≤ 3) ∧ (∀ i, i < t.1 → RoR μ (606 + i) (t.2.1 i)) ∧ ∀ k, k < t.2.2.1 → t.2.2.2.2.1 k ≤ 16 ∧ g_I μ (623 + k) 0 = nI (t.2.2.2.2.1 k) ∧ (∀ j, j < 419 → g_I μ (623 + k) (1 + j) = t.2.2.2.1 k j) ∧ ∀ i, i < t.2.2.2.2.1 k → ∀ j, j < 419 → g_I μ (623 + k) (420 + 419 * i + j) = t.2.2.2.2.2 k i j
def RfR (μ : Mem) (a : ClT) : Prop := RfS μ ∧ (∀ k, k < 600 → g_I μ 126 k = nI (a.1 k).toUInt8.toNat) ∧ (g_I μ 125 1 = nI a.2.1 ∧ a.2.1 ≤ 600) ∧ g_I μ 125 3 = a.2.2.1 ∧ HuM μ (hutT a.2.2.2.1) ∧ LaM μ a.2.2.2.2.1 ∧ ChM μ a.2.2.2.2.2.1 ∧ BkM μ a.2.2.2.2.2.2.1 ∧ HiM μ (hisA a) ∧ RoR μ 603 (rowOf a) ∧ g_I μ 125 36 = a.2.2.2.2.2.2.2.2.2.1 ∧ ∀ k, k < 5 → g_I μ 127 k = a.2.2.2.2.2.2.2.2.2.2 k
/-- the reference's rows of which nothing stays -/
def frS (x : Nat) : Prop := ¬ (x = 126 ∨ x = 127 ∨ x = 129 ∨ (140 ≤ x ∧ x < 148) ∨ (166 ≤ x ∧ x < 182) ∨ (183 ≤ x ∧ x < 343) ∨ (505 ≤ x ∧ x < 511) ∨ x = 520 ∨ x = 603 ∨ (606 ≤ x ∧ x < 622) ∨ (623 ≤ x ∧ x < 626))
/-- the fields of which nothing stays, but for the TAPE's length and the FAULT's place -/
def frF (k : Nat) : Prop := ¬ (k = 17 ∨ k = 33 ∨ k = 34 ∨ k = 35 ∨ k = 36 ∨ k = 37)
theorem ChM.fr {μ ν : Mem} {l : List Nat} (c : ChM μ l) (h : g_I ν 125 34 = g_I μ 125 34) (e : g_I ν 520 = g_I μ 520) : ChM ν l := by
  unfold ChM
  rw [h, e]
  exact c
theorem BkM.fr {μ ν : Mem} {l : List (Nat × Nat)} (c : BkM μ l) (h : g_I ν 125 33 = g_I μ 125 33) (e : ∀ x, 505 ≤ x ∧ x < 511 → g_I ν x = g_I μ x) : BkM ν l := by
  obtain ⟨c1, c2, c3⟩ := c
  exact ⟨by rw [h]; exact c1, c2, fun i hi => by rw [e (505 + i) ⟨by omega, by omega⟩]; exact c3 i hi⟩
theorem HiM.fr {μ ν : Mem} {t : HisT} (c : HiM μ t) (h5 : g_I ν 125 35 = g_I μ 125 35) (h7 : g_I ν 125 37 = g_I μ 125 37) (e : ∀ x, (606 ≤ x ∧ x < 622) ∨ (623 ≤ x ∧ x < 626) → g_I ν x = g_I μ x) : HiM ν t := by
  obtain ⟨⟨c1, c1'⟩, ⟨c2, c2'⟩, c3, c4⟩ := c
  refine ⟨⟨by rw [h5]; exact c1, c1'⟩, ⟨by rw [h7]; exact c2, c2'⟩, fun i hi k hk => by rw [e (606 + i) (Or.inl ⟨by omega, by omega⟩)]; exact c3 i hi k hk, fun k hk => ?_⟩
  rw [e (623 + k) (Or.inr ⟨by omega, by omega⟩)]
  exact c4 k hk
/-- a run that changes nothing that stays but the TAPE's length and the FAULT's place -/
theorem RfR.txt {F S : Nat → Prop} {μ ν : Mem} {a : ClT} {n : Nat} {pl : Int32} (r : RfR μ a) (ho : HutOk (hutT a.2.2.2.1)) (o : OF F S μ ν) (hF : ∀ k, F k → frF k) (hS : ∀ x, S x → frS x) (h1 : g_I ν 125 1 = nI n) (hn : n ≤ 600) (h3 : g_I ν 125 3 = pl) : RfR ν (a.1, n, pl, a.2.2.2) := by
  obtain ⟨r0, r1, r2, r3, r4, r5, r6, r7, r8, r9, r10, r11⟩ := r
  have e : ∀ x, ¬ frS x → x ≠ 125 → g_I ν x = g_I μ x := fun x hx h => o.r h fun z => hx (hS x z)
  have f : ∀ k, ¬ frF k → g_I ν 125 k = g_I μ 125 k := fun k hk => o.2 k fun z => hk (hF k z)
  have nf : ∀ x, (x = 126 ∨ x = 127 ∨ x = 129 ∨ (140 ≤ x ∧ x < 148) ∨ (166 ≤ x ∧ x < 182) ∨ (183 ≤ x ∧ x < 343) ∨ (505 ≤ x ∧ x < 511) ∨ x = 520 ∨ x = 603 ∨ (606 ≤ x ∧ x < 622) ∨ (623 ≤ x ∧ x < 626)) → g_I ν x = g_I μ x := fun x hx => e x (fun z => z hx) (by omega)
  have ff : ∀ k, (k = 17 ∨ k = 33 ∨ k = 34 ∨ k = 35 ∨ k = 36 ∨ k = 37) → g_I ν 125 k = g_I μ 125 k := fun k hk => f k fun z => z hk
  have t8 := ho.1
  have w16 := ho.2.1
  refine ⟨o.s r0, fun k hk => by rw [nf 126 (by omega)]; exact r1 k hk, ⟨h1, hn⟩, h3, ?_, ?_, r6.fr (ff 34 (by omega)) (nf 520 (by omega)), r7.fr (ff 33 (by omega)) (fun x hx => nf x (by omega)), r8.fr (ff 35 (by omega)) (ff 37 (by omega)) (fun x hx => nf x (by omega)), fun k hk => by rw [nf 603 (by omega)]; exact r9 k hk, by rw [ff 36 (by omega)]; exact r10, fun k hk => by rw [nf 127 (by omega)]; exact r11 k hk⟩
  · obtain ⟨x1, x2, x3⟩ := r4
    exact ⟨by rw [nf 129 (by omega)]; exact x1, fun p hp => by rw [nf (140 + p) (by have : p < (hutT a.2.2.2.1).1 := hp; omega)]; exact x2 p hp, fun w hw => by rw [nf (166 + w) (by have : w < (hutT a.2.2.2.1).2.2.2.2.1 := hw; omega)]; exact x3 w hw⟩
  · exact r5.fr (ff 17 (by omega)) (fun x hx => nf x (by omega))
/-- a run that changes nothing that stays -/
theorem RfR.o {F S : Nat → Prop} {μ ν : Mem} {a : ClT} (r : RfR μ a) (ho : HutOk (hutT a.2.2.2.1)) (o : OF F S μ ν) (hF : ∀ k, F k → frF k ∧ k ≠ 1 ∧ k ≠ 3) (hS : ∀ x, S x → frS x) : RfR ν a := r.txt ho o (fun k hk => (hF k hk).1) hS (by rw [o.2 1 (fun z => (hF 1 z).2.1 rfl)]; exact r.2.2.1.1) r.2.2.1.2 (by rw [o.2 3 (fun z => (hF 3 z).2.2 rfl)]; exact r.2.2.2.1)
/-- what the reference answers; ix: the number of a refusal -/
def MF (μ μ' : Mem) : Prop := Out (fun x => 125 ≤ x ∧ x < 629) μ μ'
theorem MF.tr {μ ν ρ : Mem} (h1 : MF μ ν) (h2 : MF ν ρ) : MF μ ρ := Out.tr h1 h2
theorem OF.mf {F S : Nat → Prop} {μ ν : Mem} (o : OF F S μ ν) (hS : ∀ x, S x → 125 ≤ x ∧ x < 629) : MF μ ν := o.1.mo fun a ha => ha.elim (fun e => by omega) (hS a)
def AnsM (ix : Nat → Nat) (μ' : Mem) (v : Int32) (x : Nat ⊕ Int32) : Prop := match x with
  | .inl k => g_I μ' 125 0 = nI (ix k)
  | .inr r => g_I μ' 125 0 = 0 ∧ v = r
def AskM (ix : Nat → Nat) (μ : Mem) (o : Option (Int32 × Mem)) (s : (Nat ⊕ Int32) × ClT) : Prop := ∃ (v : Int32) (μ' : Mem), o = some (v, μ') ∧ AnsM ix μ' v s.1 ∧ RfR μ' s.2 ∧ MF μ μ'
/-- a call begins: nothing is thrown so far -/
theorem RfR.b {μ : Mem} {a : ClT} (r : RfR μ a) (ho : HutOk (hutT a.2.2.2.1)) : RfR (p_I μ 125 0 0) a ∧ MF μ (p_I μ 125 0 0) := by
  have o : OF (fun k => k = 0) nS μ (p_I μ 125 0 0) := OF.rf.p0 rfl
  exact ⟨r.o ho o (fun k hk => by rw [hk]; unfold frF; decide) (fun x z => z.elim), o.mf fun x z => z.elim⟩
theorem AskM.tr {ix : Nat → Nat} {μ ν : Mem} {o : Option (Int32 × Mem)} {s : (Nat ⊕ Int32) × ClT} (m : MF μ ν) (h : AskM ix ν o s) : AskM ix μ o s := by
  obtain ⟨v, μ', e, a1, r1, m1⟩ := h
  exact ⟨v, μ', e, a1, r1, m.tr m1⟩
/-- a refusal -/
theorem R_bad {μ : Mem} {w : Int32} {k : Nat} (s : RfS μ) (hk : k < 5) (h0 : g_I μ 125 0 = 0) (hw : ¬ w = 0) : LX12_bad 125 0 w (nI k) μ = some (0, μ) ∧ LX12_bad 125 1 w (nI k) μ = some (1, p_I (p_I μ 125 0 w) 127 k (g_I μ 127 k + 1)) := by
  have ix : inA μ 127 15 (nI k) = true := s.a127.ix hk (by decide)
  unfold LX12_bad mX12_bad_26
  refine ⟨?_, ?_⟩
  · rw [if_pos s.1, if_pos rfl, h0, if_pos rfl]
  · rw [if_pos s.1, if_neg (by decide), h0, if_pos rfl, s.h10, if_pos q127, if_pos ix, nI_clamp (show k < 2147483648 by omega), gI_h (show (125 : Nat) ≠ 127 by decide), gI_s, if_neg hw, gI_h (show (127 : Nat) ≠ 125 by decide)]
theorem RfR.bad {μ : Mem} {a : ClT} {w : Int32} {k : Nat} (r : RfR μ a) (ho : HutOk (hutT a.2.2.2.1)) (hk : k < 5) : RfR (p_I (p_I μ 125 0 w) 127 k (g_I μ 127 k + 1)) (rfA a k) ∧ MF μ (p_I (p_I μ 125 0 w) 127 k (g_I μ 127 k + 1)) := by
  have o : OF (fun k => k = 0) (fun x => x = 127) μ (p_I (p_I μ 125 0 w) 127 k (g_I μ 127 k + 1)) := ((OF.rf (F := fun k => k = 0) (S := fun x => x = 127)).p0 rfl).pS rfl (by decide)
  refine ⟨?_, o.mf fun x hx => by omega⟩
  obtain ⟨r0, r1, r2, r3, r4, r5, r6, r7, r8, r9, r10, r11⟩ := r
  have e : ∀ x, x ≠ 125 → x ≠ 127 → g_I (p_I (p_I μ 125 0 w) 127 k (g_I μ 127 k + 1)) x = g_I μ x := fun x h1 h2 => o.r h1 h2
  have f : ∀ j, j ≠ 0 → g_I (p_I (p_I μ 125 0 w) 127 k (g_I μ 127 k + 1)) 125 j = g_I μ 125 j := fun j hj => o.2 j hj
  refine ⟨o.s r0, fun k hk => by rw [e 126 (by decide) (by decide)]; exact r1 k hk, by rw [f 1 (by decide)]; exact r2, by rw [f 3 (by decide)]; exact r3, r4.fr ho (fun x hx => e x (by omega) (by omega)), r5.fr (f 17 (by decide)) (fun x hx => e x (by omega) (by omega)), r6.fr (f 34 (by decide)) (e 520 (by decide) (by decide)), r7.fr (f 33 (by decide)) (fun x hx => e x (by omega) (by omega)), r8.fr (f 35 (by decide)) (f 37 (by decide)) (fun x hx => e x (by omega) (by omega)), fun k hk => by rw [e 603 (by decide) (by decide)]; exact r9 k hk, by rw [f 36 (by decide)]; exact r10, fun j hj => ?_⟩
  show g_I (p_I (p_I μ 125 0 w) 127 k (g_I μ 127 k + 1)) 127 j = ru a.2.2.2.2.2.2.2.2.2.2 k (a.2.2.2.2.2.2.2.2.2.2 k + 1) j
  by_cases ej : j = k
  · rw [ej, gI_s, ru_s, r11 k hk]
  · rw [gI_k ej, ru_o ej, gI_h (by decide)]
    exact r11 j hj
theorem AskM.no {μ : Mem} {a : ClT} {ix : Nat → Nat} {v : Int32} {k : Nat} (r : RfR μ a) (ho : HutOk (hutT a.2.2.2.1)) (hk : k < 5) : AskM ix μ (some (v, p_I (p_I μ 125 0 (nI (ix k))) 127 k (g_I μ 127 k + 1))) (.inl k, rfA a k) := by
  obtain ⟨b1, b2⟩ := r.bad (w := nI (ix k)) ho hk
  exact ⟨v, _, rfl, by show g_I _ 125 0 = _; rw [gI_h (by decide), gI_s], b1, b2⟩
theorem AskM.same {μ : Mem} {a : ClT} {ix : Nat → Nat} {v : Int32} (r : RfR μ a) (h0 : g_I μ 125 0 = 0) : AskM ix μ (some (v, μ)) (.inr v, a) := ⟨v, μ, rfl, ⟨h0, rfl⟩, r, Out.rf⟩
theorem AskM.out {F S : Nat → Prop} {μ ν : Mem} {a : ClT} {ix : Nat → Nat} {v : Int32} (r : RfR μ a) (ho : HutOk (hutT a.2.2.2.1)) (o : OF F S μ ν) (hF : ∀ k, F k → frF k ∧ k ≠ 1 ∧ k ≠ 3 ∧ k ≠ 0) (hS : ∀ x, S x → frS x ∧ 125 ≤ x ∧ x < 629) (h0 : g_I μ 125 0 = 0) : AskM ix μ (some (v, ν)) (.inr v, a) := ⟨v, ν, rfl, ⟨by rw [o.2 0 (fun z => (hF 0 z).2.2.2 rfl)]; exact h0, rfl⟩, r.o ho o (fun k hk => ⟨(hF k hk).1, (hF k hk).2.1, (hF k hk).2.2.1⟩) (fun x hx => (hS x hx).1), o.mf fun x hx => (hS x hx).2⟩
/-! ===== a text begins and ends ===== -/
theorem txt_gate {v most : Int32} {tp m : Nat} (hm : most = nI m) (hm6 : m ≤ 600) (ht : tp ≤ 600) : (v < 0 ∨ ¬ v ≤ (if nI tp < most then nI tp else most)) ↔ (v < 0 ∨ nI tp < v ∨ ¬ v ≤ most) := by
  subst hm
  by_cases e : tp < m
  · rw [if_pos (nI_lt e (by omega))]
    constructor
    · rintro (z | z)
      · exact Or.inl z
      · exact Or.inr (Or.inl (Int32.not_le.mp z))
    · rintro (z | z | z)
      · exact Or.inl z
      · exact Or.inr (Int32.not_le.mpr z)
      · refine Or.inr fun y => z (Int32.le_trans y (nI_le (by omega) (by omega)))
  · rw [if_neg (nI_nlt (by omega) (by omega))]
    constructor
    · rintro (z | z)
      · exact Or.inl z
      · exact Or.inr (Or.inr z)
    · rintro (z | z | z)
      · exact Or.inl z
      · refine Or.inr fun y => ?_
        have h1 := Int32.lt_of_lt_of_le z y
        exact nI_nlt (by omega) (by omega) h1
      · exact Or.inr z
theorem txt_n {v : Int32} {tp m : Nat} (hm6 : m ≤ 600) (ht : tp ≤ 600) (h : ¬ (v < 0 ∨ nI tp < v ∨ ¬ v ≤ nI m)) : ∃ n : Nat, n ≤ m ∧ n ≤ tp ∧ v = nI n := by
  have h1 : ¬ v < 0 := fun z => h (Or.inl z)
  have h2 : ¬ nI tp < v := fun z => h (Or.inr (Or.inl z))
  have h3 : v ≤ nI m := Classical.byContradiction fun z => h (Or.inr (Or.inr z))
  have h1' := Int32.le_iff_toInt_le.mp (Int32.not_lt.mp h1)
  have h2' := Int32.le_iff_toInt_le.mp (Int32.not_lt.mp h2)
  have h3' := Int32.le_iff_toInt_le.mp h3
  rw [show (0 : Int32).toInt = 0 from rfl] at h1'
  rw [nI_toInt (by omega)] at h2' h3'
  exact ⟨v.toInt.toNat, by omega, by omega, Int32.toInt_inj.mp (by rw [nI_toInt (by omega)]; omega)⟩
abbrev sF : Nat → Prop := fun k => k = 1 ∨ k = 2 ∨ k = 4 ∨ k = 5 ∨ k = 6 ∨ k = 7 ∨ k = 8
theorem R_starts {μ : Mem} {a : ClT} {n : Nat} (s : RfS μ) (y : ∀ k, k < 600 → g_I μ 126 k = nI (a.1 k).toUInt8.toNat) (hn : n ≤ 600) : ∃ μ' : Mem, LX12_starts 125 (nI n) μ = some ((), μ') ∧ OF sF nS μ μ' ∧ TmA μ' (txtO a n) (sk (txtO a n) 0) ∧ g_I μ' 125 1 = nI 0 ∧ g_I μ' 125 7 = nI 0 ∧ g_I μ' 125 8 = nI 0 := by
  unfold LX12_starts
  rw [if_pos s.1]
  obtain ⟨ν, hν⟩ : ∃ ν, ν = p_I (p_I (p_I (p_I (p_I (p_I (p_I μ 125 1 0) 125 2 (nI n)) 125 4 0) 125 5 0) 125 6 (-1)) 125 7 0) 125 8 0 := ⟨_, rfl⟩
  rw [← hν]
  have o : OF sF nS μ ν := by
    rw [hν]
    exact (((((((OF.rf (F := sF) (S := nS)).p0 (Or.inl rfl)).p0 (Or.inr (Or.inl rfl))).p0 (Or.inr (Or.inr (Or.inl rfl)))).p0 (Or.inr (Or.inr (Or.inr (Or.inl rfl))))).p0 (Or.inr (Or.inr (Or.inr (Or.inr (Or.inl rfl)))))).p0 (Or.inr (Or.inr (Or.inr (Or.inr (Or.inr (Or.inl rfl))))))).p0 (Or.inr (Or.inr (Or.inr (Or.inr (Or.inr (Or.inr rfl))))))
  have g : ∀ k, g_I ν 125 k = if k = 8 then 0 else if k = 7 then 0 else if k = 6 then -1 else if k = 5 then 0 else if k = 4 then 0 else if k = 2 then nI n else if k = 1 then 0 else g_I μ 125 k := fun k => by
    rw [hν]
    simp only [gI_pI, if_pos]
  have tB : TmB ν (txtO a n) := ⟨o.s s, by rw [g]; rfl, hn, fun k hk => by
    have hk : k < n := hk
    rw [o.r (by decide) (fun z => z), y k (by omega)]
    show _ = nI (chT (txtO a n) k)
    unfold chT
    rw [if_pos (show k < (txtO a n).2 from hk)]
    rfl⟩
  have tA : TmA ν (txtO a n) 0 := ⟨tB, by rw [g]; rfl, by rw [g]; rfl, by rw [g]; rfl, Nat.zero_le _⟩
  obtain ⟨μ', e1, o1, t1⟩ := R_blanks tA
  rw [e1, ob]
  refine ⟨μ', rfl, o.tr (o1.mo (fun k z => by have z : k = 4 ∨ k = 5 ∨ k = 6 := z; show k = 1 ∨ k = 2 ∨ k = 4 ∨ k = 5 ∨ k = 6 ∨ k = 7 ∨ k = 8; omega) (fun _ z => z)), t1, ?_, ?_, ?_⟩
  · rw [o1.2 1 (by decide), g]; rfl
  · rw [o1.2 7 (by decide), g]; rfl
  · rw [o1.2 8 (by decide), g]; rfl
theorem R_ends {μ : Mem} {x : Txt} {e : Nat × Nat} (t : TmR μ x (.inl e)) : LX12_ends 125 μ = some (nI e.1 - 10, p_I μ 125 3 (nI e.2)) := by
  obtain ⟨t1, t2, t3, t4, -⟩ := t.2
  unfold LX12_ends
  rw [if_pos t.1.1.1, t4, gI_k (by decide), t3]
