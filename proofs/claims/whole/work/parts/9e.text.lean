/-! ===== the class is told a text: how it begins and ends ===== -/
theorem X9_open {μ : Mem} {n : Nat} {a : ClT} (s : TpS μ 2) (y : ∀ k, k < 600 → g_I μ 3 k = (a.1 k).toInt32) (hn : n ≤ 600) : ∃ ν : Mem, LX9_open 2 (nI n) μ = some ((), ν) ∧ Out (fun x => x = 2) μ ν ∧ TpR ν 2 (a.1, n) (.inr (sk (a.1, n) 0)) ∧ g_I ν 2 1 = nI 0 := by
  unfold LX9_open
  rw [if_pos s.1]
  obtain ⟨ν, hν⟩ : ∃ ν, ν = p_I (p_I (p_I (p_I (p_I (p_I μ 2 6 (nI n)) 2 5 0) 2 4 0) 2 1 0) 2 2 0) 2 3 (-1) := ⟨_, rfl⟩
  have o : Out (fun x => x = 2) μ ν := by
    rw [hν]
    exact ((((((Out.rf (S := fun x => x = 2)).pI rfl).pI rfl).pI rfl).pI rfl).pI rfl).pI rfl
  have g : ∀ k, g_I ν 2 k = if k = 3 then -1 else if k = 2 then 0 else if k = 1 then 0 else if k = 4 then 0 else if k = 5 then 0 else if k = 6 then nI n else g_I μ 2 k := fun k => by
    rw [hν]
    simp only [gI_pI, if_pos]
  refine ⟨ν, by rw [hν], o, ⟨tpS_out s o, ⟨fun k hk => ?_, by rw [g]; rfl, hn, by rw [g]; rfl⟩, ⟨by rw [g]; rfl, by rw [g]; rfl, sk_sk, sk_le (Nat.zero_le _), 0, Nat.zero_le _, by rw [g]; rfl, rfl⟩⟩, by rw [g]; rfl⟩
  rw [(o.2 3 (by decide)).1]
  exact y k (by have hk : k < n := hk; omega)
/-- the place of a FAULT, none -/
def plC (c : Cur) : Int32 := match c with
  | .inl e => nI e.2
  | .inr _ => -1
def txtA (a : ClT) (pl : Int32) : ClT := (a.1, 0, pl, a.2.2.2)
theorem TpR.pl {μ : Mem} {x : Txt} {c : Cur} (t : TpR μ 2 x c) : g_I μ 2 3 = plC c := by
  cases c with
  | inl e => exact t.2.2.2.2.2
  | inr b => exact t.2.2.2.1
/-- after a text: the TAPE is empty, the FAULT's place is known, all else as it was -/
theorem ClR.txt {S : Nat → Prop} {μ ν : Mem} {f : Fl} {B : Nat} {a : ClT} {pl : Int32} (c : ClR μ f B a) (o : Out S μ ν) (hS : ∀ x, usd f B x → x ≠ 2 → ¬ S x) (h1 : g_I ν 2 1 = nI 0) (h3 : g_I ν 2 3 = pl) : ClR ν f B (txtA a pl) := by
  obtain ⟨c1, c2, ⟨w1, ⟨w2, w2'⟩, w3, w4, w5, ⟨w6, w6'⟩, w7, w8, w9, w10, w11⟩, c4, c5⟩ := id c
  have h2 := hu_or f
  have h3' := la_or f
  have h4 := ch_or f
  have h5 := bk_or f
  have e : ∀ x, usd f B x → x ≠ 2 → g_I ν x = g_I μ x ∧ g_L ν x = g_L μ x ∧ g_D ν x = g_D μ x := fun x hx hy => o.2 x (hS x hx hy)
  have g0 : Grow 0 (fun _ => False) S μ ν := o.gr
  exact ⟨c1.gr g0 (fun z => z), c2.gr g0 (fun _ _ _ _ z => z) (c2.2.2.2.2.1.sh o.1), ⟨fun k hk => by rw [(e 3 (Or.inl (by decide)) (by decide)).1]; exact w1 k hk, ⟨h1, Nat.zero_le _⟩, h3, w4.fr (fun x hx => (e x (Or.inr (Or.inr (Or.inr (Or.inl hx)))) (by obtain ⟨z1, z2⟩ := hx; omega)).1), w5.fr ⟨(e _ (by unfold usd; omega) (by omega)).1, (e _ (by unfold usd; omega) (by omega)).1, (e _ (by unfold usd; omega) (by omega)).1⟩, ⟨w6.fr ⟨(e _ (by unfold usd; omega) (by omega)).1, (e _ (by unfold usd; omega) (by omega)).1⟩, w6'⟩, w7.fr ⟨(e _ (by unfold usd; omega) (by omega)).1, (e _ (by unfold usd; omega) (by omega)).1, (e _ (by unfold usd; omega) (by omega)).1⟩, w8.fr g0 (fun _ _ z => z) (fun x hx => hS x (by unfold usd; omega) (by omega)), w9.fr (fun x hx => e x (by obtain ⟨z1, z2⟩ := hx; unfold usd; omega) (by obtain ⟨z1, z2⟩ := hx; omega)), by rw [(e 1 (Or.inl (by decide)) (by decide)).1]; exact w10, fun k hk => by rw [(e 92 (by unfold usd; omega) (by decide)).1]; exact w11 k hk⟩, c4, c5⟩
/-- what a text answers that is not read: its FAULT less 10 -/
theorem text_len {μ : Mem} {f : Fl} {B : Nat} {a : ClT} {v most : Int32} {m : Nat} (c : ClR μ f B a) (hm : most = nI m) (hm6 : m ≤ 600) (h : ¬ (v < 0 ∨ ¬ v ≤ (if nI a.2.1 < most then nI a.2.1 else most))) : ∃ n : Nat, n ≤ m ∧ n ≤ a.2.1 ∧ v = nI n := by
  have h1 : ¬ v < 0 := fun z => h (Or.inl z)
  have h2 : v ≤ (if nI a.2.1 < most then nI a.2.1 else most) := Classical.byContradiction fun z => h (Or.inr z)
  have hb := c.2.2.1.2.1.2
  have h1' : 0 ≤ v.toInt := by
    have := Int32.le_iff_toInt_le.mp (Int32.not_lt.mp h1)
    rw [show (0 : Int32).toInt = 0 from rfl] at this
    exact this
  have key : v ≤ nI (min a.2.1 m) := by
    rw [hm] at h2
    by_cases e : a.2.1 < m
    · rw [if_pos (nI_lt e (by omega))] at h2
      rw [Nat.min_eq_left (by omega)]
      exact h2
    · rw [if_neg (nI_nlt (by omega) (by omega))] at h2
      rw [Nat.min_eq_right (by omega)]
      exact h2
  have h2' := Int32.le_iff_toInt_le.mp key
  rw [nI_toInt (by omega)] at h2'
  exact ⟨v.toInt.toNat, by omega, by omega, Int32.toInt_inj.mp (by rw [nI_toInt (by omega)]; omega)⟩
