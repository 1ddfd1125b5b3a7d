/-! ===== the class: undo, image, restore ===== -/
def hisA (a : ClT) : HisT := a.2.2.2.2.2.2.2.1
def setA (a : ClT) (t : HisT) (ρ : Nat → Int32) (rs : Int32) : ClT := (a.1, a.2.1, a.2.2.1, a.2.2.2.1, a.2.2.2.2.1, a.2.2.2.2.2.1, a.2.2.2.2.2.2.1, t, ρ, rs, a.2.2.2.2.2.2.2.2.2.2)
/-- the rows that HISTORY holds are rows of the HUT -/
def HisK (a : ClT) (t : HisT) : Prop := (∀ i, i < t.1 → RowK (hutT a.2.2.2.1).1 (hutT a.2.2.2.1).2.1 (t.2.1 i)) ∧ ∀ k, k < t.2.2.1 → RowK (hutT a.2.2.2.1).1 (hutT a.2.2.2.1).2.1 (t.2.2.2.1 k) ∧ ∀ i, i < t.2.2.2.2.1 k → RowK (hutT a.2.2.2.1).1 (hutT a.2.2.2.1).2.1 (t.2.2.2.2.2 k i)
theorem ClR.set {n : Nat} {SR S : Nat → Prop} {μ ν : Mem} {f : Fl} {B : Nat} {a : ClT} {t : HisT} {ρ : Nat → Int32} {rs : Int32} (c : ClR μ f B a) (g : Grow n SR S μ ν) (hR : ∀ x, SR x → 10 < x ∧ x < 14) (hS : ∀ x, x ≤ 124 → S x → x = 1 ∨ (10 ≤ x ∧ x < 49)) (h : His ν 10 B (hutT a.2.2.2.1).1 (hutT a.2.2.2.1).2.1 t) (r : StR ν 15 (hutT a.2.2.2.1).1 (hutT a.2.2.2.1).2.1 ρ) (h17 : g_I ν 1 17 = rs) (rk : RowK (hutT a.2.2.2.1).1 (hutT a.2.2.2.1).2.1 ρ) (hk : HisK a t) : ClR ν f B (setA a t ρ rs) := by
  obtain ⟨c1, c2, ⟨v1, ⟨v2, v2'⟩, v3, v4, v5, ⟨v6, v6'⟩, v7, v8, v9, v10, v11⟩, ⟨k1, k2, k3, k4⟩, c5⟩ := id c
  have hn := c.n
  have h2 := hu_or f
  have h3 := la_or f
  have h4 := ch_or f
  have h5 := bk_or f
  have e : ∀ x, x ≤ 124 → x ≠ 1 → (x < 10 ∨ 49 ≤ x) → g_I ν x = g_I μ x := fun x hx h1 h2 => ((g.2.2.2 x (by omega)).2.2.2 (fun z => by have := hS x hx z; omega)).1
  refine ⟨c1.gr g (fun z => by have := hR 1 z; omega), c2.gr g (fun x hx h84 hx2 z => by have := hR x z; omega) (c2.2.2.2.2.1.gr g fun z => by have := hR 84 z; omega), ⟨fun k hk => by rw [e 3 (by decide) (by decide) (by decide)]; exact v1 k hk, ⟨by rw [e 2 (by decide) (by decide) (by decide)]; exact v2, v2'⟩, by rw [e 2 (by decide) (by decide) (by decide)]; exact v3, v4.fr (fun x hx => e x (by obtain ⟨y1, y2⟩ := hx; omega) (by obtain ⟨y1, y2⟩ := hx; omega) (by obtain ⟨y1, y2⟩ := hx; omega)), v5.fr ⟨e _ (by omega) (by omega) (by omega), e _ (by omega) (by omega) (by omega), e _ (by omega) (by omega) (by omega)⟩, ⟨v6.fr ⟨e _ (by omega) (by omega) (by omega), e _ (by omega) (by omega) (by omega)⟩, v6'⟩, v7.fr ⟨e _ (by omega) (by omega) (by omega), e _ (by omega) (by omega) (by omega), e _ (by omega) (by omega) (by omega)⟩, h, r, h17, fun k hk => by rw [e 92 (by decide) (by decide) (by decide)]; exact v11 k hk⟩, ⟨k1, rk, hk.1, hk.2⟩, c5⟩
theorem ClK.his {μ : Mem} {f : Fl} {B : Nat} {a : ClT} (c : ClR μ f B a) : HisK a (hisA a) := ⟨c.2.2.2.1.2.2.1, c.2.2.2.1.2.2.2⟩
def sUndo (a : ClT) : Int32 × ClT := if (hisA a).1 = 0 then (-1, a) else (nI ((hisA a).1 - 1), setA a ((hisA a).1 - 1, (hisA a).2) ((hisA a).2.1 ((hisA a).1 - 1)) 0)
theorem X11_undo {B : Nat} {f : Fl} {μ : Mem} {a : ClT} (c : ClR μ f B a) : AskI B f μ (LX11_undo 1 μ) (sUndo a) := by
  obtain ⟨n0, n1, n2, n3, n4, n5⟩ := id c.1
  have hh : His μ 10 B (hutT a.2.2.2.1).1 (hutT a.2.2.2.1).2.1 (hisA a) := c.2.2.1.2.2.2.2.2.2.2.1
  have k2 : isK μ 10 2 = true := hh.1.1
  have hB := c.2.2.2.2
  have h16 : (hisA a).1 ≤ 16 := hh.2.2.1.2.2.1
  have hk := ClK.his c
  unfold LX11_undo sUndo
  rw [if_pos n0, n3, if_pos (show (0 : Nat) < 10 by decide), if_pos k2, show g_I μ 10 4 = nI (hisA a).1 from hh.2.2.1.1]
  by_cases h0 : (hisA a).1 = 0
  · rw [if_pos h0, h0, if_pos (show nI 0 = 0 from rfl)]
    exact AskI.same c
  · rw [if_neg h0, if_neg (nI_ne0 (by omega) (by omega)), n4, if_pos p15]
    obtain ⟨ν, e1, o1, h1, r1⟩ := X2_takeBack hh (w := (hisA a).1 - 1) (by omega) c.2.1.2.2.1 (by omega) (by omega)
    have m3 : g_R ν 1 2 = 10 := by rw [sh_gR o1.1]; exact n3
    rw [e1, ob, m3, if_pos (show (0 : Nat) < 10 by decide), if_pos h1.1.1]
    have o2 : Out (fun x => x = 1) ν (p_I ν 1 17 0) := (Out.rf (S := fun x => x = 1)).pI rfl
    have h2 : His (p_I ν 1 17 0) 10 B (hutT a.2.2.2.1).1 (hutT a.2.2.2.1).2.1 ((hisA a).1 - 1, (hisA a).2) := h1.fr (n := 0) (SR := fun _ => False) o2.gr (fun _ _ z => z) (fun x hx z => by omega)
    have r2 : StR (p_I ν 1 17 0) 15 (hutT a.2.2.2.1).1 (hutT a.2.2.2.1).2.1 ((hisA a).2.1 ((hisA a).1 - 1)) := r1.o o2 (by omega)
    rw [show g_I (p_I ν 1 17 0) 10 4 = nI ((hisA a).1 - 1) from h2.2.2.1.1]
    have oo : Out (fun x => x = 1 ∨ x = 10 ∨ inSt 15 x) μ (p_I ν 1 17 0) := (o1.mo fun x hx => hx.elim (fun z => Or.inr (Or.inl z)) (fun z => Or.inr (Or.inr z))).tr (o2.mo fun x hx => Or.inl hx)
    refine ⟨_, rfl, c.set (n := 0) (SR := fun _ => False) oo.gr (fun _ z => z.elim) (fun x _ hx => by rcases hx with z | z | ⟨z1, z2⟩ <;> omega) h2 r2 gI_s (hk.1 _ (by omega)) ⟨fun i hi => hk.1 i (by have hi : i < (hisA a).1 - 1 := hi; omega), hk.2⟩, (oo.gr (SR := fun _ => False)).call (by decide) fun x h1 h2 => ⟨fun z => z, fun z => by rcases z with z | z | ⟨z1, z2⟩ <;> omega⟩⟩
def sImage (a : ClT) : Int32 × ClT := if (hisA a).2.2.1 < 3 then (nI ((hisA a).2.2.1 + 1), setA a ((hisA a).1, (hisA a).2.1, (hisA a).2.2.1 + 1, up (hisA a).2.2.2.1 (hisA a).2.2.1 (rowOf a), up (hisA a).2.2.2.2.1 (hisA a).2.2.1 (hisA a).1, up (hisA a).2.2.2.2.2 (hisA a).2.2.1 (hisA a).2.1) (rowOf a) a.2.2.2.2.2.2.2.2.2.1) else (-1, a)
theorem X11_image {B : Nat} {f : Fl} {μ : Mem} {a : ClT} (c : ClR μ f B a) : AskI B f μ (LX11_image 1 μ) (sImage a) := by
  obtain ⟨n0, n1, n2, n3, n4, n5⟩ := id c.1
  have hh : His μ 10 B (hutT a.2.2.2.1).1 (hutT a.2.2.2.1).2.1 (hisA a) := c.2.2.1.2.2.2.2.2.2.2.1
  have k2 : isK μ 10 2 = true := hh.1.1
  have hB := c.2.2.2.2
  have h3 : (hisA a).2.2.1 ≤ 3 := hh.2.2.1.2.2.2.1
  have hk := ClK.his c
  have sr := c.2.2.1.2.2.2.2.2.2.2.2.1
  unfold LX11_image sImage
  rw [if_pos n0, n3, if_pos (show (0 : Nat) < 10 by decide), if_pos k2, show g_I μ 10 5 = nI (hisA a).2.2.1 from hh.2.2.1.2.1]
  by_cases h0 : (hisA a).2.2.1 < 3
  · rw [if_pos h0, if_pos (show nI (hisA a).2.2.1 < (3 : Int32) from nI_lt h0 (by decide)), n4, if_pos p15]
    obtain ⟨ν, e1, g1, h1⟩ := X2_takeImage hh h0 c.2.1.2.2.1 sr (by omega) (by omega)
    have m3 : g_R ν 1 2 = 10 := by rw [g1.R n0 (fun z => by obtain ⟨z1, z2⟩ := z; omega)]; exact n3
    rw [e1, ob, m3, if_pos (show (0 : Nat) < 10 by decide), if_pos h1.1.1, show g_I ν 10 5 = nI ((hisA a).2.2.1 + 1) from h1.2.2.1.2.1]
    have e17 : g_I ν 1 = g_I μ 1 := (g1.V n0 (fun z => by rcases z with z | z | z <;> omega)).1
    refine ⟨ν, rfl, c.set g1 (fun x z => by obtain ⟨z1, z2⟩ := z; omega) (fun x hx z => by rcases z with z | z | z <;> omega) h1 (sr.gr c.2.1.2.2.1 g1 (fun x hx z => by obtain ⟨y1, y2⟩ := hx; rcases z with z | z | z <;> omega)) (by rw [e17]; exact c.2.2.1.2.2.2.2.2.2.2.2.2.1) c.2.2.2.1.2.1 ⟨hk.1, fun k hk' => ?_⟩, g1.call (by decide) fun x h1 h2 => ⟨fun z => by obtain ⟨z1, z2⟩ := z; omega, fun z => by rcases z with z | z | z <;> omega⟩⟩
    have hk' : k < (hisA a).2.2.1 + 1 := hk'
    show RowK _ _ (up (hisA a).2.2.2.1 (hisA a).2.2.1 (rowOf a) k) ∧ ∀ i, i < up (hisA a).2.2.2.2.1 (hisA a).2.2.1 (hisA a).1 k → RowK _ _ (up (hisA a).2.2.2.2.2 (hisA a).2.2.1 (hisA a).2.1 k i)
    by_cases ek : k = (hisA a).2.2.1
    · rw [ek, up_s, up_s, up_s]
      exact ⟨c.2.2.2.1.2.1, hk.1⟩
    · rw [up_o ek, up_o ek, up_o ek]
      exact hk.2 k (by omega)
  · rw [if_neg h0, if_neg (show ¬ nI (hisA a).2.2.1 < (3 : Int32) from nI_nlt (b := 3) (by omega) (by omega))]
    exact AskI.same c
def sRestore (a : ClT) : Int32 × ClT := if (hisA a).2.2.1 = 0 then (-1, a) else (nI ((hisA a).2.2.1 - 1), setA a ((hisA a).2.2.2.2.1 ((hisA a).2.2.1 - 1), (hisA a).2.2.2.2.2 ((hisA a).2.2.1 - 1), (hisA a).2.2.1 - 1, (hisA a).2.2.2) ((hisA a).2.2.2.1 ((hisA a).2.2.1 - 1)) 0)
theorem X11_restore {B : Nat} {f : Fl} {μ : Mem} {a : ClT} (c : ClR μ f B a) : AskI B f μ (LX11_restore 1 μ) (sRestore a) := by
  obtain ⟨n0, n1, n2, n3, n4, n5⟩ := id c.1
  have hh : His μ 10 B (hutT a.2.2.2.1).1 (hutT a.2.2.2.1).2.1 (hisA a) := c.2.2.1.2.2.2.2.2.2.2.1
  have k2 : isK μ 10 2 = true := hh.1.1
  have hB := c.2.2.2.2
  have h3 : (hisA a).2.2.1 ≤ 3 := hh.2.2.1.2.2.2.1
  have hk := ClK.his c
  unfold LX11_restore sRestore
  rw [if_pos n0, n3, if_pos (show (0 : Nat) < 10 by decide), if_pos k2, show g_I μ 10 5 = nI (hisA a).2.2.1 from hh.2.2.1.2.1]
  by_cases h0 : (hisA a).2.2.1 = 0
  · rw [if_pos h0, h0, if_pos (show nI 0 = 0 from rfl)]
    exact AskI.same c
  · rw [if_neg h0, if_neg (nI_ne0 (by omega) (by omega)), n4, if_pos p15]
    obtain ⟨ν, e1, o1, h1, r1⟩ := X2_giveBack hh (m := (hisA a).2.2.1 - 1) (by omega) c.2.1.2.2.1 (by omega) (by omega)
    have m3 : g_R ν 1 2 = 10 := by rw [sh_gR o1.1]; exact n3
    rw [e1, ob, m3, if_pos (show (0 : Nat) < 10 by decide), if_pos h1.1.1]
    have o2 : Out (fun x => x = 1) ν (p_I ν 1 17 0) := (Out.rf (S := fun x => x = 1)).pI rfl
    have h2 := h1.fr (n := 0) (SR := fun _ => False) o2.gr (fun _ _ z => z) (fun x hx z => by omega)
    have r2 := r1.o o2 (by omega)
    rw [show g_I (p_I ν 1 17 0) 10 5 = nI ((hisA a).2.2.1 - 1) from h2.2.2.1.2.1]
    have oo : Out (fun x => x = 1 ∨ x = 10 ∨ B ≤ x ∨ inSt 15 x) μ (p_I ν 1 17 0) := (o1.mo fun x hx => Or.inr hx).tr (o2.mo fun x hx => Or.inl hx)
    obtain ⟨ka, kb⟩ := hk.2 ((hisA a).2.2.1 - 1) (by omega)
    refine ⟨_, rfl, c.set (n := 0) (SR := fun _ => False) oo.gr (fun _ z => z.elim) (fun x _ hx => by rcases hx with z | z | z | ⟨z1, z2⟩ <;> omega) h2 r2 gI_s ka ⟨kb, fun k hk' => hk.2 k (by have hk' : k < (hisA a).2.2.1 - 1 := hk'; omega)⟩, (oo.gr (SR := fun _ => False)).call (by decide) fun x h1 h2 => ⟨fun z => z, fun z => by rcases z with z | z | z | ⟨z1, z2⟩ <;> omega⟩⟩
