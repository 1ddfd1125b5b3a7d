/-! ===== the class's object, and what it holds ===== -/
/-- which of two is in use: HUT, LAW, CHAIN, BOOK -/
abbrev Fl : Type := Bool × Bool × Bool × Bool
def huA (f : Fl) : Nat := if f.1 then 99 else 93
def huB (f : Fl) : Nat := if f.1 then 93 else 99
def laA (f : Fl) : Nat := if f.2.1 then 110 else 105
def laB (f : Fl) : Nat := if f.2.1 then 105 else 110
def chA (f : Fl) : Nat := if f.2.2.1 then 117 else 115
def chB (f : Fl) : Nat := if f.2.2.1 then 115 else 117
def bkA (f : Fl) : Nat := if f.2.2.2 then 122 else 119
def bkB (f : Fl) : Nat := if f.2.2.2 then 119 else 122
theorem hu_or (f : Fl) : (huA f = 93 ∧ huB f = 99) ∨ (huA f = 99 ∧ huB f = 93) := by unfold huA huB; cases f.1 <;> simp
theorem la_or (f : Fl) : (laA f = 105 ∧ laB f = 110) ∨ (laA f = 110 ∧ laB f = 105) := by unfold laA laB; cases f.2.1 <;> simp
theorem ch_or (f : Fl) : (chA f = 115 ∧ chB f = 117) ∨ (chA f = 117 ∧ chB f = 115) := by unfold chA chB; cases f.2.2.1 <;> simp
theorem bk_or (f : Fl) : (bkA f = 119 ∧ bkB f = 122) ∨ (bkA f = 122 ∧ bkB f = 119) := by unfold bkA bkB; cases f.2.2.2 <;> simp
/-- the things of the class: its own names -/
def ClN (μ : Mem) (f : Fl) : Prop := isK μ 1 11 = true ∧ g_R μ 1 0 = 2 ∧ g_R μ 1 1 = 4 ∧ g_R μ 1 2 = 10 ∧ g_R μ 1 3 = 15 ∧ g_R μ 1 4 = 49 ∧ g_R μ 1 5 = 84 ∧ g_R μ 1 6 = 87 ∧ g_R μ 1 7 = 91 ∧ g_R μ 1 8 = 92 ∧ g_R μ 1 9 = huA f ∧ g_R μ 1 10 = huB f ∧ g_R μ 1 11 = laA f ∧ g_R μ 1 12 = laB f ∧ g_R μ 1 13 = chA f ∧ g_R μ 1 14 = chB f ∧ g_R μ 1 15 = bkA f ∧ g_R μ 1 16 = bkB f
/-- the things of the class -/
def ClS (μ : Mem) : Prop := TpS μ 2 ∧ WorkS μ 4 ∧ StS μ 15 ∧ SeaS μ 49 ∧ RowsS μ 84 ∧ PenS μ 87 ∧ (isK μ 91 15 = true ∧ g_N μ 91 = 1001) ∧ (isK μ 92 15 = true ∧ g_N μ 92 = 5) ∧ (HutS μ 93 ∧ HutS μ 99) ∧ (LawS μ 105 ∧ LawS μ 110) ∧ (ChS μ 115 ∧ ChS μ 117) ∧ (BkS μ 119 ∧ BkS μ 122)
/-- what the class holds: the TAPE's bytes, how many, the FAULT's place; what was told of the HUT, the LAW, the CHAIN, the BOOK; HISTORY; the row; STEPS refused; the refusals -/
abbrev ClT : Type := (Nat → Int8) × Nat × Int32 × HutL × OpsT × List Nat × List (Nat × Nat) × HisT × (Nat → Int32) × Int32 × (Nat → Int32)
def ClV (μ : Mem) (f : Fl) (B : Nat) (a : ClT) : Prop :=
  (∀ k, k < 600 → g_I μ 3 k = (a.1 k).toInt32) ∧ (g_I μ 2 1 = nI a.2.1 ∧ a.2.1 ≤ 600) ∧ g_I μ 2 3 = a.2.2.1 ∧
  HutR μ (huA f) (hutT a.2.2.2.1) ∧ LawR μ (laA f) a.2.2.2.2.1 ∧ (ChR μ (chA f) a.2.2.2.2.2.1 ∧ ∀ p, p ∈ a.2.2.2.2.2.1 → p < a.2.2.2.1.1.length) ∧ BkR μ (bkA f) a.2.2.2.2.2.2.1 ∧
  His μ 10 B (hutT a.2.2.2.1).1 (hutT a.2.2.2.1).2.1 a.2.2.2.2.2.2.2.1 ∧ StR μ 15 (hutT a.2.2.2.1).1 (hutT a.2.2.2.1).2.1 a.2.2.2.2.2.2.2.2.1 ∧ g_I μ 1 17 = a.2.2.2.2.2.2.2.2.2.1 ∧ ∀ k, k < 5 → g_I μ 92 k = a.2.2.2.2.2.2.2.2.2.2 k
/-- what holds of what the class holds -/
def ClK (a : ClT) : Prop := LOk a.2.2.2.1 ∧ RowK (hutT a.2.2.2.1).1 (hutT a.2.2.2.1).2.1 a.2.2.2.2.2.2.2.2.1 ∧ (∀ i, i < a.2.2.2.2.2.2.2.1.1 → RowK (hutT a.2.2.2.1).1 (hutT a.2.2.2.1).2.1 (a.2.2.2.2.2.2.2.1.2.1 i)) ∧ ∀ k, k < a.2.2.2.2.2.2.2.1.2.2.1 → RowK (hutT a.2.2.2.1).1 (hutT a.2.2.2.1).2.1 (a.2.2.2.2.2.2.2.1.2.2.2.1 k) ∧ ∀ i, i < a.2.2.2.2.2.2.2.1.2.2.2.2.1 k → RowK (hutT a.2.2.2.1).1 (hutT a.2.2.2.1).2.1 (a.2.2.2.2.2.2.2.1.2.2.2.2.2 k i)
def ClR (μ : Mem) (f : Fl) (B : Nat) (a : ClT) : Prop := ClN μ f ∧ ClS μ ∧ ClV μ f B a ∧ ClK a ∧ 125 ≤ B
/-- what is looked at -/
def usd (f : Fl) (B : Nat) : Nat → Prop := fun x => x ≤ 3 ∨ (10 ≤ x ∧ x < 49) ∨ x = 92 ∨ (huA f ≤ x ∧ x < huA f + 6) ∨ x = laA f ∨ x = laA f + 2 ∨ x = laA f + 3 ∨ (chA f ≤ x ∧ x < chA f + 2) ∨ (bkA f ≤ x ∧ x < bkA f + 3) ∨ B ≤ x
theorem ClN.gr {n : Nat} {SR S : Nat → Prop} {μ ν : Mem} {f : Fl} (c : ClN μ f) (g : Grow n SR S μ ν) (h : ¬ SR 1) : ClN ν f := by
  unfold ClN
  rw [g.R c.1 h]
  exact ⟨g.k c.1, c.2⟩
theorem TpS.gr {n : Nat} {SR S : Nat → Prop} {μ ν : Mem} {h : Nat} (s : TpS μ h) (g : Grow n SR S μ ν) (hs : ¬ SR h) : TpS ν h := by
  obtain ⟨a1, a2, a3, a4⟩ := s
  exact ⟨g.k a1, by rw [g.R a1 hs]; exact a2, g.k a3, by rw [g.N a3]; exact a4⟩
theorem WorkS.gr {n : Nat} {SR S : Nat → Prop} {μ ν : Mem} {h : Nat} (s : WorkS μ h) (g : Grow n SR S μ ν) (hs : ¬ SR h) : WorkS ν h := by
  obtain ⟨w0, r, ⟨k1, k2, k3, k4, k5⟩, n1, n2, n3, n4, n5⟩ := s
  refine ⟨g.k w0, by rw [g.R w0 hs]; exact r, ⟨g.k k1, g.k k2, g.k k3, g.k k4, g.k k5⟩, ?_⟩
  rw [g.N k1, g.N k2, g.N k3, g.N k4, g.N k5]
  exact ⟨n1, n2, n3, n4, n5⟩
theorem SeaS.gr {n : Nat} {SR S : Nat → Prop} {μ ν : Mem} {h : Nat} (s : SeaS μ h) (g : Grow n SR S μ ν) (hs : ∀ a, h ≤ a → a < h + 35 → ¬ SR a) : SeaS ν h := ⟨g.k s.1, by rw [g.R s.1 (hs h (by omega) (by omega))]; exact s.2.1, s.2.2.gr g fun a ha => hs a (by obtain ⟨y1, y2⟩ := ha; omega) (by obtain ⟨y1, y2⟩ := ha; omega)⟩
theorem LawS.gr {n : Nat} {SR S : Nat → Prop} {μ ν : Mem} {h : Nat} (s : LawS μ h) (g : Grow n SR S μ ν) (hs : ¬ SR h) : LawS ν h := by
  obtain ⟨s0, s1, s2, s3, s4, k1, k2, k3, k4, n1, n2, n3, n4⟩ := s
  have e := g.R s0 hs
  exact ⟨g.k s0, by rw [e]; exact s1, by rw [e]; exact s2, by rw [e]; exact s3, by rw [e]; exact s4, g.k k1, g.k k2, g.k k3, g.k k4, by rw [g.N k1]; exact n1, by rw [g.N k2]; exact n2, by rw [g.N k3]; exact n3, by rw [g.N k4]; exact n4⟩
theorem ChS.gr {n : Nat} {SR S : Nat → Prop} {μ ν : Mem} {h : Nat} (s : ChS μ h) (g : Grow n SR S μ ν) (hs : ¬ SR h) : ChS ν h := ⟨g.k s.1, by rw [g.R s.1 hs]; exact s.2.1, g.k s.2.2.1, by rw [g.N s.2.2.1]; exact s.2.2.2⟩
theorem BkS.gr {n : Nat} {SR S : Nat → Prop} {μ ν : Mem} {h : Nat} (s : BkS μ h) (g : Grow n SR S μ ν) (hs : ¬ SR h) : BkS ν h := by
  obtain ⟨k0, k1, k2, k3, k4, k5, k6⟩ := s
  have e := g.R k0 hs
  exact ⟨g.k k0, by rw [e]; exact k1, by rw [e]; exact k2, g.k k3, g.k k4, by rw [g.N k3]; exact k5, by rw [g.N k4]; exact k6⟩
theorem RowsS.gr {n : Nat} {SR S : Nat → Prop} {μ ν : Mem} {h : Nat} (s : RowsS μ h) (g : Grow n SR S μ ν) (hs : ¬ SR h) : RowsS ν h := by
  obtain ⟨s0, s1, s2, k1, k2, n1, n2⟩ := s
  have e := g.R s0 hs
  exact ⟨g.k s0, by rw [e]; exact s1, by rw [e]; exact s2, g.k k1, g.k k2, by rw [g.N k1]; exact n1, by rw [g.N k2]; exact n2⟩
/-- the things stay, but for what BEST names -/
theorem ClS.gr {n : Nat} {SR S : Nat → Prop} {μ ν : Mem} (c : ClS μ) (g : Grow n SR S μ ν) (h : ∀ a, a < 125 → a ≠ 84 → (a < 11 ∨ 13 < a) → ¬ SR a) (hr : RowsS ν 84) : ClS ν := by
  obtain ⟨c1, c2, c3, c4, c5, c6, ⟨c7, c7'⟩, ⟨c8, c8'⟩, ⟨c9, c9'⟩, ⟨c10, c10'⟩, ⟨c11, c11'⟩, c12, c12'⟩ := c
  exact ⟨c1.gr g (h 2 (by decide) (by decide) (by decide)), c2.gr g (h 4 (by decide) (by decide) (by decide)), c3.gr g (fun a ha => h a (by obtain ⟨y1, y2⟩ := ha; omega) (by obtain ⟨y1, y2⟩ := ha; omega) (by obtain ⟨y1, y2⟩ := ha; omega)), c4.gr g (fun a y1 y2 => h a (by omega) (by omega) (by omega)), hr, c6.gr g (h 87 (by decide) (by decide) (by decide)), ⟨g.k c7, by rw [g.N c7]; exact c7'⟩, ⟨g.k c8, by rw [g.N c8]; exact c8'⟩, ⟨c9.gr g (h 93 (by decide) (by decide) (by decide)), c9'.gr g (h 99 (by decide) (by decide) (by decide))⟩, ⟨c10.gr g (h 105 (by decide) (by decide) (by decide)), c10'.gr g (h 110 (by decide) (by decide) (by decide))⟩, ⟨c11.gr g (h 115 (by decide) (by decide) (by decide)), c11'.gr g (h 117 (by decide) (by decide) (by decide))⟩, c12.gr g (h 119 (by decide) (by decide) (by decide)), c12'.gr g (h 122 (by decide) (by decide) (by decide))⟩
/-- what is looked at stays: all stays -/
theorem ClV.gr {n : Nat} {SR S : Nat → Prop} {μ ν : Mem} {f : Fl} {B : Nat} {a : ClT} (c : ClV μ f B a) (hB : 125 ≤ B) (g : Grow n SR S μ ν) (hle : 124 ≤ g_n μ) (hR : ∀ x, (10 ≤ x ∧ x < 15) ∨ B ≤ x → ¬ SR x) (hS : ∀ x, usd f B x → ¬ S x) : ClV ν f B a := by
  obtain ⟨c1, ⟨c2, c2'⟩, c3, c4, c5, ⟨c6, c6'⟩, c7, c8, c9, c10, c11⟩ := c
  have e : ∀ x, x ≤ 124 → usd f B x → g_I ν x = g_I μ x ∧ g_L ν x = g_L μ x ∧ g_D ν x = g_D μ x := fun x hx hu => (g.2.2.2 x (by omega)).2.2.2 (hS x hu)
  have h2 := hu_or f
  have h3 := la_or f
  have h4 := ch_or f
  have h5 := bk_or f
  have e1 := (e 1 (by decide) (Or.inl (by decide))).1
  have e2 := (e 2 (by decide) (Or.inl (by decide))).1
  have e3 := (e 3 (by decide) (Or.inl (by decide))).1
  have e92 := (e 92 (by decide) (Or.inr (Or.inr (Or.inl rfl)))).1
  refine ⟨fun k hk => by rw [e3]; exact c1 k hk, ⟨by rw [e2]; exact c2, c2'⟩, by rw [e2]; exact c3, c4.fr (fun x hx => (e x (by obtain ⟨y1, y2⟩ := hx; omega) (Or.inr (Or.inr (Or.inr (Or.inl hx))))).1), c5.fr ⟨(e _ (by omega) (by unfold usd; omega)).1, (e _ (by omega) (by unfold usd; omega)).1, (e _ (by omega) (by unfold usd; omega)).1⟩, ⟨c6.fr ⟨(e _ (by omega) (by unfold usd; omega)).1, (e _ (by omega) (by unfold usd; omega)).1⟩, c6'⟩, c7.fr ⟨(e _ (by omega) (by unfold usd; omega)).1, (e _ (by omega) (by unfold usd; omega)).1, (e _ (by omega) (by unfold usd; omega)).1⟩, c8.fr g (fun x hx => hR x (by omega)) (fun x hx => hS x (by unfold usd; omega)), c9.fr (fun x hx => e x (by obtain ⟨y1, y2⟩ := hx; omega) (by obtain ⟨y1, y2⟩ := hx; unfold usd; omega)), by rw [e1]; exact c10, fun k hk => by rw [e92]; exact c11 k hk⟩
theorem ClR.n {μ : Mem} {f : Fl} {B : Nat} {a : ClT} (c : ClR μ f B a) : 124 ≤ g_n μ := by
  have := isK_le c.2.1.2.2.2.2.2.2.2.2.2.2.2.2.2.2.2.2.1
  omega
/-- a call that changes nothing that is looked at -/
theorem ClR.gr {n : Nat} {SR S : Nat → Prop} {μ ν : Mem} {f : Fl} {B : Nat} {a : ClT} (c : ClR μ f B a) (g : Grow n SR S μ ν) (hR : ∀ x, x ≠ 84 → ¬ SR x) (hr : RowsS ν 84) (hS : ∀ x, usd f B x → ¬ S x) : ClR ν f B a := ⟨c.1.gr g (hR 1 (by decide)), c.2.1.gr g (fun x _ hx _ => hR x hx) hr, c.2.2.1.gr c.2.2.2.2 g c.n (fun x hx => hR x (by have := c.2.2.2.2; omega)) hS, c.2.2.2⟩
theorem ClR.out {S : Nat → Prop} {μ ν : Mem} {f : Fl} {B : Nat} {a : ClT} (c : ClR μ f B a) (o : Out S μ ν) (hS : ∀ x, usd f B x → ¬ S x) : ClR ν f B a := c.gr (n := 0) (SR := fun _ => False) o.gr (fun _ _ z => z) (c.2.1.2.2.2.2.1.sh o.1) hS
