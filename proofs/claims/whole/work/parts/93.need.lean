/-! ===== the class refuses; what is needed ===== -/
theorem obX_r {α β : Type} {x : β} {μ : Mem} {k : β → Mem → Option ((Nat ⊕ α) × Mem)} : obindX (some (.inr x, μ)) k = k x μ := rfl
theorem obX_l {α β : Type} {j : Nat} {μ : Mem} {k : β → Mem → Option ((Nat ⊕ α) × Mem)} : obindX (some (.inl j, μ)) k = some (.inl j, μ) := rfl
/-- a refusal of the sort k, with a cell of w slots lost -/
def rfM (μ : Mem) (k w : Nat) : Mem := p_lost (p_I μ 92 k (g_I μ 92 k + 1)) 1 w
def rfA (a : ClT) (k : Nat) : ClT := (a.1, a.2.1, a.2.2.1, a.2.2.2.1, a.2.2.2.2.1, a.2.2.2.2.2.1, a.2.2.2.2.2.2.1, a.2.2.2.2.2.2.2.1, a.2.2.2.2.2.2.2.2.1, a.2.2.2.2.2.2.2.2.2.1, ru a.2.2.2.2.2.2.2.2.2.2 k (a.2.2.2.2.2.2.2.2.2.2 k + 1))
theorem Grow.lost {n : Nat} {SR S : Nat → Prop} {μ : Mem} {c w : Nat} (hc : c ≤ 34 * n) (hw : w ≤ 653 * n) : Grow n SR S μ (p_lost μ c w) := ⟨Nat.le_refl _, by show g_c μ + c ≤ _; omega, by show g_w μ + w ≤ _; omega, fun _ _ => ⟨rfl, rfl, fun _ => rfl, fun _ => ⟨rfl, rfl, rfl⟩⟩⟩
theorem rf_gr {μ : Mem} {k w : Nat} (hw : w ≤ 653) : Grow 1 (fun _ => False) (fun x => x = 92) μ (rfM μ k w) := by
  unfold rfM
  exact (Out.gr ((Out.rf (S := fun x => x = 92)).pI rfl)).tr (Grow.lost (n := 1) (by decide) (by omega)) (Nat.le_refl 1)
theorem ClR.refuse {μ : Mem} {f : Fl} {B : Nat} {a : ClT} (c : ClR μ f B a) {k w : Nat} (hk : k < 5) (hw : w ≤ 653) : ClR (rfM μ k w) f B (rfA a k) := by
  have g := rf_gr (μ := μ) (k := k) hw
  obtain ⟨c1, c2, c3, c4, c5⟩ := c
  have g92 : ∀ x, x ≠ 92 → g_I (rfM μ k w) x = g_I μ x ∧ g_L (rfM μ k w) x = g_L μ x ∧ g_D (rfM μ k w) x = g_D μ x := fun x hx => ⟨gI_rowo hx, rfl, rfl⟩
  obtain ⟨v1, ⟨v2, v2'⟩, v3, v4, v5, ⟨v6, v6'⟩, v7, v8, v9, v10, v11⟩ := c3
  have h2 := hu_or f
  have h3 := la_or f
  have h4 := ch_or f
  have h5 := bk_or f
  refine ⟨c1.gr g (fun z => z), c2.gr g (fun _ _ _ _ z => z) (c2.2.2.2.2.1.gr g fun z => z), ⟨fun j hj => by rw [(g92 3 (by decide)).1]; exact v1 j hj, ⟨by rw [(g92 2 (by decide)).1]; exact v2, v2'⟩, by rw [(g92 2 (by decide)).1]; exact v3, v4.fr (fun x hx => (g92 x (by obtain ⟨y1, y2⟩ := hx; omega)).1), v5.fr ⟨(g92 _ (by omega)).1, (g92 _ (by omega)).1, (g92 _ (by omega)).1⟩, ⟨v6.fr ⟨(g92 _ (by omega)).1, (g92 _ (by omega)).1⟩, v6'⟩, v7.fr ⟨(g92 _ (by omega)).1, (g92 _ (by omega)).1, (g92 _ (by omega)).1⟩, v8.fr g (fun _ _ z => z) (fun x hx => by omega), v9.fr (fun x hx => g92 x (by obtain ⟨y1, y2⟩ := hx; omega)), by rw [(g92 1 (by decide)).1]; exact v10, fun j hj => ?_⟩, c4, c5⟩
  show g_I (p_I μ 92 k (g_I μ 92 k + 1)) 92 j = ru a.2.2.2.2.2.2.2.2.2.2 k (a.2.2.2.2.2.2.2.2.2.2 k + 1) j
  rw [gI_row, v11 k hk]
  by_cases e : j = k
  · rw [e, ru_s, ru_s]
  · rw [ru_o e, ru_o e]
    exact v11 j hj
theorem X11_refuse {μ : Mem} {f : Fl} (c : ClN μ f) (s : ClS μ) : LX11_refuseArgument 1 μ = some (.inl 1, rfM μ 1 6) ∧ LX11_refuseElement 1 μ = some (.inl 0, rfM μ 0 6) := by
  obtain ⟨n0, -, -, -, -, -, -, -, -, n8, -⟩ := id c
  obtain ⟨k8, l8⟩ := s.2.2.2.2.2.2.2.1
  refine ⟨?_, ?_⟩
  · unfold LX11_refuseArgument
    rw [if_pos n0, n8, if_pos (by decide), if_pos (show inA μ 92 15 (1 : Int32) = true from inA_n (n := 1) k8 l8 (by decide) (by decide))]
    rfl
  · unfold LX11_refuseElement
    rw [if_pos n0, n8, if_pos (by decide), if_pos (show inA μ 92 15 (0 : Int32) = true from inA_n (n := 0) k8 l8 (by decide) (by decide))]
    rfl
theorem X11_needWithin {μ : Mem} {f : Fl} (c : ClN μ f) (s : ClS μ) {v lo hi : Int32} : LX11_needWithin 1 v lo hi μ = if v < lo ∨ ¬ v ≤ hi then some (.inl 1, rfM μ 1 6) else some (.inr (), μ) := by
  unfold LX11_needWithin mX11_needWithin_10
  rw [if_pos c.1, (X11_refuse c s).1, obX_l]
  by_cases h1 : v < lo
  · rw [if_pos h1, if_pos (Or.inl h1)]
  · rw [if_neg h1]
    by_cases h2 : v ≤ hi
    · rw [if_pos h2, if_neg (fun z => z.elim h1 fun q => q h2)]
    · rw [if_neg h2, if_pos (Or.inr h2)]
theorem X11_needPen {μ : Mem} {f : Fl} {B : Nat} {a : ClT} (c : ClR μ f B a) {v : Int32} : LX11_needPen 1 v μ = if v < 0 ∨ ¬ v < nI a.2.2.2.1.1.length then some (.inl 0, rfM μ 0 6) else some (.inr (), μ) := by
  obtain ⟨n0, -, -, -, -, -, -, -, -, -, n9, -⟩ := id c.1
  have hk : isK μ (huA f) 3 = true := by
    rcases hu_or f with ⟨h, -⟩ | ⟨h, -⟩ <;> rw [h]
    · exact c.2.1.2.2.2.2.2.2.2.2.1.1.1
    · exact c.2.1.2.2.2.2.2.2.2.2.1.2.1
  unfold LX11_needPen mX11_needPen_15
  rw [if_pos n0, (X11_refuse c.1 c.2.1).2, obX_l, n9, if_pos (isK_p hk), if_pos hk, show g_I μ (huA f) 0 = nI a.2.2.2.1.1.length from c.2.2.1.2.2.2.1.1]
  by_cases h1 : v < 0
  · rw [if_pos h1, if_pos (Or.inl h1)]
  · rw [if_neg h1]
    by_cases h2 : v < nI a.2.2.2.1.1.length
    · rw [if_pos h2, if_neg (fun z => z.elim h1 fun q => q h2)]
    · rw [if_neg h2, if_pos (Or.inr h2)]
theorem X11_needText {μ : Mem} {f : Fl} {B : Nat} {a : ClT} (c : ClR μ f B a) {v most : Int32} : LX11_needText 1 v most μ = if v < 0 ∨ ¬ v ≤ (if nI a.2.1 < most then nI a.2.1 else most) then some (.inl 1, rfM μ 1 6) else some (.inr (), μ) := by
  obtain ⟨n0, n1, -⟩ := id c.1
  have hk : isK μ 2 9 = true := c.2.1.1.1
  unfold LX11_needText
  rw [if_pos n0, n1, if_pos (by decide), if_pos hk, X11_needWithin c.1 c.2.1, show g_I μ 2 1 = nI a.2.1 from c.2.2.1.2.1.1]
  by_cases h : v < 0 ∨ ¬ v ≤ (if nI a.2.1 < most then nI a.2.1 else most)
  · rw [if_pos h]; rfl
  · rw [if_neg h]; rfl
/-- which PEN an Int32 is -/
theorem pen_of {v : Int32} {n : Nat} (h : ¬ (v < 0 ∨ ¬ v < nI n)) (hn : n ≤ 8) : ∃ p : Nat, p < n ∧ v = nI p := by
  have h1 : ¬ v < 0 := fun z => h (Or.inl z)
  have h2 : v < nI n := Classical.byContradiction fun z => h (Or.inr z)
  have h1' : 0 ≤ v.toInt := by
    have := Int32.not_lt.mp h1
    have := Int32.le_iff_toInt_le.mp this
    rw [show (0 : Int32).toInt = 0 from rfl] at this
    exact this
  have h2' := Int32.lt_iff_toInt_lt.mp h2
  rw [nI_toInt (by omega)] at h2'
  refine ⟨v.toInt.toNat, by omega, Int32.toInt_inj.mp ?_⟩
  rw [nI_toInt (by omega)]
  omega
