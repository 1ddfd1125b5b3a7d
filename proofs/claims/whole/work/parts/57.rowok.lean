/-! ===== rows keep their bounds ===== -/
def RowK (np : Nat) (kf ρ : Nat → Int32) : Prop := np ≤ 8 ∧ RowOk np kf ρ ∧ ∀ p, np ≤ p → p < 8 → ρ (24 + p) = 0
theorem RowK.h24 {np : Nat} {kf ρ : Nat → Int32} (h : RowK np kf ρ) : ∀ p, p < 8 → nOf ρ p ≤ 24 := by
  intro p hp
  by_cases e : p < np
  · exact (h.2.1 p e).1.n.2.1
  · unfold nOf
    rw [h.2.2 p (by omega) hp]
    decide
theorem RowK.pen {np p : Nat} {kf ρ σ : Nat → Int32} (h : RowK np kf ρ) (hp : p < np) (hs : ∀ q, q < 8 → q ≠ p → sameP ρ σ q) (hok : PenOk (kf p) σ p ∧ BlankFrom σ p (nOf σ p)) : RowK np kf σ := by
  refine ⟨h.1, fun q hq => ?_, fun q h1 h2 => ?_⟩
  · by_cases e : q = p
    · rw [e]; exact hok
    · have hq8 : q < 8 := Nat.lt_of_lt_of_le hq h.1
      have := hs q hq8 e
      exact ⟨(h.2.1 q hq).1.same this, by rw [nOf_same this]; exact blank_same this (h.2.1 q hq).2⟩
  · rw [(hs q h2 (by omega)).2.2.2.1]
    exact h.2.2 q h1 h2
theorem RowK.same {np : Nat} {kf ρ σ : Nat → Int32} (h : RowK np kf ρ) (hs : ∀ q, q < 8 → sameP ρ σ q) : RowK np kf σ := by
  refine ⟨h.1, fun q hq => ?_, fun q h1 h2 => ?_⟩
  · have hq8 : q < 8 := Nat.lt_of_lt_of_le hq h.1
    have := hs q hq8
    exact ⟨(h.2.1 q hq).1.same this, by rw [nOf_same this]; exact blank_same this (h.2.1 q hq).2⟩
  · rw [(hs q h2).2.2.2.1]
    exact h.2.2 q h1 h2
theorem ru_same {ρ : Nat → Int32} {j : Nat} {v : Int32} {p : Nat} (hp : p < 8) (hj : 32 ≤ j ∧ j < 35) : sameP ρ (ru ρ j v) p :=
  ⟨ru_o (by omega), ru_o (by omega), ru_o (by omega), ru_o (by omega), fun i hi => ⟨ru_o (by omega), ru_o (by omega)⟩⟩
theorem sLay_far {ρ : Nat → Int32} {p a : Nat} {n : Int32} (h1 : a < 35 + 24 * p ∨ 35 + (24 * p + 24) ≤ a) (h2 : a < 227 + 24 * p ∨ 227 + (24 * p + 24) ≤ a) (h3 : a ≠ 24 + p) (h4 : a ≠ 16 + p) : sLay ρ p n a = ρ a := by
  unfold sLay rbl
  rw [if_neg (by omega), ru_o h3, ru_o h4]
theorem sLay_same {ρ : Nat → Int32} {p q : Nat} {n : Int32} (hq : q < 8) (hp : p < 8) (hne : p ≠ q) : sameP ρ (sLay ρ q n) p :=
  ⟨sLay_far (by omega) (by omega) (by omega) (by omega), sLay_far (by omega) (by omega) (by omega) (by omega), sLay_far (by omega) (by omega) (by omega) (by omega), sLay_far (by omega) (by omega) (by omega) (by omega), fun i hi => ⟨sLay_far (by omega) (by omega) (by omega) (by omega), sLay_far (by omega) (by omega) (by omega) (by omega)⟩⟩
theorem ok_lay {k n : Int32} {ρ : Nat → Int32} {p : Nat} (h : PenOk k ρ p) (hp : p < 8) (hn : n = -1 ∨ ∃ c : Nat, n = nI c ∧ c ≤ 24) : PenOk k (sLay ρ p n) p ∧ BlankFrom (sLay ρ p n) p (nOf (sLay ρ p n) p) := by
  obtain ⟨kk, m, d, n0, h1, h2, h3, h4, h5, h6, h7, h8, h9⟩ := h
  have e24 : sLay ρ p n (24 + p) = 0 := by unfold sLay; rw [rbl_o (by omega), ru_s]
  have e16 : sLay ρ p n (16 + p) = n := by unfold sLay; rw [rbl_o (by omega), ru_o (by omega), ru_s]
  have et : ∀ i, i < 24 → sLay ρ p n (227 + (24 * p + i)) = -1 := fun i hi => if_pos (by omega)
  refine ⟨⟨kk, m, d, 0, h1, h2, by rw [sLay_far (by omega) (by omega) (by omega) (by omega)]; exact h3, h4, by rw [sLay_far (by omega) (by omega) (by omega) (by omega)]; exact h5, h6, by rw [e24]; rfl, ?_, fun i hi => Or.inl (et i hi)⟩, fun i _ hi => et i hi⟩
  rw [e16]
  rcases hn with hn | ⟨c, hn, hc⟩
  · exact Or.inl ⟨hn, rfl⟩
  · exact Or.inr ⟨c, hn, hc, Nat.zero_le _⟩
theorem RowK.lay {np p : Nat} {kf ρ : Nat → Int32} {n : Int32} (h : RowK np kf ρ) (hp : p < np) (hn : n = -1 ∨ ∃ c : Nat, n = nI c ∧ c ≤ 24) : RowK np kf (sLay ρ p n) := by
  have h8 := h.1
  exact h.pen hp (fun q hq hne => sLay_same (by omega) hq hne) (ok_lay (h.2.1 p hp).1 (by omega) hn)
theorem RowK.tune {np p : Nat} {kf ρ : Nat → Int32} {m d : Nat} (h : RowK np kf ρ) (hp : p < np) (hm : m ≤ 99) (hd : d ≤ 99) : RowK np kf (sTune ρ p (nI m) (nI d)) := by
  have h8 := h.1
  have far : ∀ a, a ≠ p → a ≠ 8 + p → sTune ρ p (nI m) (nI d) a = ρ a := fun a h1 h2 => by unfold sTune; rw [ru_o h2, ru_o h1]
  refine h.pen hp (fun q hq hne => ⟨far _ (by omega) (by omega), far _ (by omega) (by omega), far _ (by omega) (by omega), far _ (by omega) (by omega), fun i hi => ⟨far _ (by omega) (by omega), far _ (by omega) (by omega)⟩⟩) ?_
  obtain ⟨⟨kk, m0, d0, n0, h1, h2, h3, h4, h5, h6, h7, h8', h9⟩, hb⟩ := h.2.1 p hp
  have e24 : sTune ρ p (nI m) (nI d) (24 + p) = ρ (24 + p) := far _ (by omega) (by omega)
  refine ⟨⟨kk, m, d, n0, h1, h2, by unfold sTune; rw [ru_o (by omega), ru_s], hm, by unfold sTune; rw [ru_s], hd, by rw [e24]; exact h7, by rw [far _ (by omega) (by omega)]; exact h8', fun i hi => by rw [far _ (by omega) (by omega)]; exact h9 i hi⟩, ?_⟩
  have : nOf (sTune ρ p (nI m) (nI d)) p = nOf ρ p := by unfold nOf; rw [e24]
  rw [this]
  exact fun i a b => by rw [far _ (by omega) (by omega)]; exact hb i a b
theorem jam_ne {kk d : Nat} (hk : kk < 8) (hd : d ≤ 99) (h : jamI (nI kk) (nI d) = 0) : kk ≤ 4 → d ≠ 0 := by
  intro h4 e
  subst e
  unfold jamI at h
  rw [if_pos (by decide)] at h
  have : ¬ (4 : Int32) < nI kk := nI_nlt (a := kk) (b := 4) |> fun f => by
    intro z
    have := (nI_ltI (a := 4) (b := kk) (by decide) (by omega)).mp z
    omega
  rw [if_neg this] at h
  exact absurd h (by decide)
theorem RowK.read {np p : Nat} {kf ρ : Nat → Int32} {ops : List (Int32 × Int32)} {v : Int32} (h : RowK np kf ρ) (hp : p < np) (hc : canP (kf p) ρ p ≠ 0) : RowK np kf (sRead ops (kf p) ρ p v) := by
  have h8 := h.1
  -- the ALARMS do not touch the PENS
  have key : ∀ ρ1 : Nat → Int32, (∀ q, q < 8 → sameP ρ ρ1 q) → RowK np kf ρ1 → RowK np kf (ru (sWr ρ1 p (nOf ρ p) v) 34 (ρ 34 + 1)) := by
    intro ρ1 hs h1
    refine RowK.same (ρ := sWr ρ1 p (nOf ρ p) v) ?_ (fun q hq => ru_same hq (by omega))
    obtain ⟨hok, hbl⟩ := h.2.1 p hp
    obtain ⟨hn, hn24, hcan⟩ := hok.n
    obtain ⟨hlt, hj, c, hcs, hc24, hnc⟩ := hcan hc
    have h1p := h1.2.1 p hp
    have hsp := hs p (by omega)
    have hno : nOf ρ1 p = nOf ρ p := nOf_same hsp
    refine h1.pen hp (fun q hq hne => ⟨sWr_far (by omega) (by omega) (by omega), sWr_far (by omega) (by omega) (by omega), sWr_far (by omega) (by omega) (by omega), sWr_far (by omega) (by omega) (by omega), fun i hi => ⟨sWr_far (by omega) (by omega) (by omega), sWr_far (by omega) (by omega) (by omega)⟩⟩) ?_
    obtain ⟨⟨kk, m, d, n0, g1, g2, g3, g4, g5, g6, g7, g8, g9⟩, gb⟩ := h1p
    have e24 : sWr ρ1 p (nOf ρ p) v (24 + p) = nI (nOf ρ p + 1) := by
      unfold sWr
      rw [ru_s, hsp.2.2.2.1, hn, nI_succ]
    have et : ∀ i, i < 24 → sWr ρ1 p (nOf ρ p) v (227 + (24 * p + i)) = if i = nOf ρ p then nI (100 * m + d) else ρ1 (227 + (24 * p + i)) := fun i hi => by
      unfold sWr
      rw [ru_o (by omega)]
      by_cases e : i = nOf ρ p
      · rw [e, ru_s, if_pos rfl, g3, g5, show (100 : Int32) = nI 100 from rfl, nI_mul, nI_add]
      · rw [ru_o (by omega), ru_o (by omega), if_neg e]
    have hj' : jamI (nI kk) (nI d) = 0 := by rw [← g1, ← g5, hsp.2.1]; exact hj
    refine ⟨⟨kk, m, d, nOf ρ p + 1, g1, g2, by rw [sWr_far (by omega) (by omega) (by omega)]; exact g3, g4, by rw [sWr_far (by omega) (by omega) (by omega)]; exact g5, g6, e24, Or.inr ⟨c, by rw [sWr_far (by omega) (by omega) (by omega), hsp.2.2.1]; exact hcs, hc24, by omega⟩, fun i hi => ?_⟩, ?_⟩
    · rw [et i hi]
      by_cases e : i = nOf ρ p
      · rw [if_pos e]; exact Or.inr ⟨m, d, rfl, g4, g6, jam_ne g2 g6 hj'⟩
      · rw [if_neg e]; exact g9 i hi
    · have : nOf (sWr ρ1 p (nOf ρ p) v) p = nOf ρ p + 1 := by
        unfold nOf
        rw [show sWr ρ1 p (ρ (24 + p)).toNatClampNeg v (24 + p) = nI (nOf ρ p + 1) from e24, nI_clamp (by omega)]
        rfl
      rw [this]
      intro i h1 h2
      rw [et i h2, if_neg (by omega)]
      exact gb i (by omega) h2
  unfold sRead
  by_cases e : levF ops (kf p) ρ p v < 50
  · rw [if_pos e]
    exact key ρ (fun _ _ => sameP.rf) h
  · rw [if_neg e]
    exact key (ru ρ 33 (ρ 33 + 1)) (fun q hq => ru_same hq (by omega)) (h.same fun q hq => ru_same hq (by omega))
theorem ok_up {k : Int32} {ρ σ : Nat → Int32} {p n : Nat} (h : PenOk k ρ p) (hb : BlankFrom ρ p (nOf ρ p)) (hs : sameP ρ σ p) (hp : p < 8) (hn : nOf ρ p = n + 1) : PenOk k (sUp σ p n) p ∧ BlankFrom (sUp σ p n) p (nOf (sUp σ p n) p) := by
  have hn24 := h.n.2.1
  obtain ⟨kk, m, d, n0, h1, h2, h3, h4, h5, h6, h7, h8, h9⟩ := h
  have e24 : sUp σ p n (24 + p) = nI n := by
    unfold sUp
    rw [rbl_o (by omega), if_neg (by omega), if_pos rfl]
  have far : ∀ a, a < 24 → sUp σ p n a = σ a := fun a ha => sUp_far (by omega) (by omega) (by omega) (by omega)
  have et : ∀ i, i < 24 → sUp σ p n (227 + (24 * p + i)) = if i < n then ρ (227 + (24 * p + (i + 1))) else -1 := fun i hi => by
    unfold sUp rbl
    by_cases e : i < n
    · rw [if_pos e, if_neg (by omega)]
      refine (if_pos (by omega)).trans ?_
      exact (hs.2.2.2.2 (i + 1) (by omega)).2
    · rw [if_neg e, if_pos (by omega)]
  have hno : nOf (sUp σ p n) p = n := by unfold nOf; rw [e24, nI_clamp (by omega)]
  have hn0 : n0 = n + 1 := by
    unfold nOf at hn
    rw [h7] at hn
    rw [nI_clamp (by rcases h8 with ⟨-, rfl⟩ | ⟨c, -, hc, hnc⟩ <;> omega)] at hn
    exact hn
  refine ⟨⟨kk, m, d, n, h1, h2, by rw [far _ (by omega), hs.1]; exact h3, h4, by rw [far _ (by omega), hs.2.1]; exact h5, h6, e24, ?_, fun i hi => ?_⟩, ?_⟩
  · rw [sUp_far (by omega) (by omega) (by omega) (by omega), hs.2.2.1]
    rcases h8 with ⟨-, h0⟩ | ⟨c, hc, hc24, hnc⟩
    · omega
    · exact Or.inr ⟨c, hc, hc24, by omega⟩
  · rw [et i hi]
    by_cases e : i < n
    · rw [if_pos e]; exact h9 (i + 1) (by omega)
    · rw [if_neg e]; exact Or.inl rfl
  · rw [hno]
    intro i a b
    rw [et i b, if_neg (by omega)]
theorem sEnd_ok {np : Nat} {kf ρ : Nat → Int32} (h : RowK np kf ρ) : ∀ j, j ≤ np → RowK np kf (sEnd ρ j) := by
  intro j
  induction j with
  | zero => intro _; exact h
  | succ j ih =>
    intro hj
    have h8 := h.1
    have i1 := ih (by omega)
    show RowK np kf (if nOf ρ j = 0 then sEnd ρ j else sUp (sEnd ρ j) j (nOf ρ j - 1))
    by_cases e : nOf ρ j = 0
    · rw [if_pos e]; exact i1
    · rw [if_neg e]
      have hj24 := h.h24 j (by omega)
      obtain ⟨sm, -⟩ := sEnd_same h.h24 j j (by omega) (Nat.le_refl _) (by omega)
      exact i1.pen (p := j) (by omega) (fun q hq hne => sUp_same (by omega) hq hne (by omega)) (ok_up (h.2.1 j (by omega)).1 (h.2.1 j (by omega)).2 sm (by omega) (by omega))
theorem RowK.day {np : Nat} {kf ρ : Nat → Int32} (h : RowK np kf ρ) : RowK np kf (sDay np ρ) := (sEnd_ok h np (Nat.le_refl _)).same fun q hq => ru_same hq (by omega)
theorem sCp_far {ρ : Nat → Int32} {a b n j : Nat} {v : Int32} (h1 : j < 35 + 24 * b ∨ 35 + (24 * b + n) ≤ j) (h2 : j < 227 + 24 * b ∨ 227 + (24 * b + n) ≤ j) (h3 : j ≠ 24 + b) : sCp ρ a b n v j = ρ j := by
  unfold sCp
  rw [if_neg (by omega), if_neg (by omega), if_neg h3]
theorem mnx {x y z : Nat} (hx : x ≤ 24) (hy : y ≤ 24) (hz : z ≤ 24) : mxI (mnI (nI x) (nI y)) (nI z) = nI (max z (min x y)) := by
  unfold mxI mnI
  by_cases h1 : x < y
  · rw [if_pos (nI_lt h1 (by omega))]
    by_cases h2 : z < x
    · rw [if_pos (nI_lt h2 (by omega))]; congr 1; omega
    · rw [if_neg (nI_nlt (by omega) (by omega))]; congr 1; omega
  · rw [if_neg (nI_nlt (by omega) (by omega))]
    by_cases h2 : z < y
    · rw [if_pos (nI_lt h2 (by omega))]; congr 1; omega
    · rw [if_neg (nI_nlt (by omega) (by omega))]; congr 1; omega
theorem RowK.copy {np a b n : Nat} {kf ρ : Nat → Int32} (h : RowK np kf ρ) (ha : a < np) (hb : b < np) (hn : n ≤ 24) (hc : ¬ cpRef (kf b) (kf a) ρ a b (nI n)) : RowK np kf (sCp ρ a b n (mxI (mnI (nI n) (ρ (24 + a))) (ρ (24 + b)))) := by
  have h8 := h.1
  unfold cpRef at hc
  have c1 : kf b = kf a := Classical.byContradiction fun z => hc (Or.inl z)
  have c2 : ¬ ρ (16 + b) = -1 := fun z => hc (Or.inr (Or.inl z))
  have c4 : ¬ ρ (16 + b) < nI n := fun z => hc (Or.inr (Or.inr (Or.inr (Or.inl z))))
  refine h.pen hb (fun q hq hne => ⟨sCp_far (by omega) (by omega) (by omega), sCp_far (by omega) (by omega) (by omega), sCp_far (by omega) (by omega) (by omega), sCp_far (by omega) (by omega) (by omega), fun i hi => ⟨sCp_far (by omega) (by omega) (by omega), sCp_far (by omega) (by omega) (by omega)⟩⟩) ?_
  have na := (h.2.1 a ha).1.n
  have nb := (h.2.1 b hb).1.n
  have ba := (h.2.1 a ha).2
  have bb := (h.2.1 b hb).2
  obtain ⟨ka, ma, da, n0a, a1, a2, a3, a4, a5, a6, a7, a8, a9⟩ := (h.2.1 a ha).1
  obtain ⟨kb, mb, db, n0b, b1, b2, b3, b4, b5, b6, b7, b8, b9⟩ := (h.2.1 b hb).1
  have hk : ka = kb := by
    have := (nI_eq (a := kb) (b := ka) (by omega) (by omega)).mp (by rw [← b1, ← a1]; exact c1)
    exact this.symm
  rw [na.1, nb.1, mnx hn na.2.1 nb.2.1]
  obtain ⟨w, hw⟩ : ∃ w, w = max (nOf ρ b) (min n (nOf ρ a)) := ⟨_, rfl⟩
  rw [← hw]
  have e24 : sCp ρ a b n (nI w) (24 + b) = nI w := by
    unfold sCp
    rw [if_neg (by omega), if_neg (by omega), if_pos rfl]
  have et : ∀ i, i < 24 → sCp ρ a b n (nI w) (227 + (24 * b + i)) = if i < n then ρ (227 + (24 * a + i)) else ρ (227 + (24 * b + i)) := fun i hi => by
    unfold sCp
    by_cases e : i < n
    · rw [if_pos e, if_neg (by omega), if_pos (by omega)]
      congr 1
      omega
    · rw [if_neg e, if_neg (by omega), if_neg (by omega), if_neg (by omega)]
  have hw24 : w ≤ 24 := by have := na.2.1; have := nb.2.1; omega
  have hnb : n0b = nOf ρ b := by
    have e1 := b7.symm.trans nb.1
    exact (nI_eq (by rcases b8 with ⟨-, rfl⟩ | ⟨c, -, hc, hnc⟩ <;> omega) (by have := nb.2.1; omega)).mp e1
  refine ⟨⟨kb, mb, db, w, b1, b2, by rw [sCp_far (by omega) (by omega) (by omega)]; exact b3, b4, by rw [sCp_far (by omega) (by omega) (by omega)]; exact b5, b6, e24, ?_, fun i hi => ?_⟩, ?_⟩
  · rw [sCp_far (by omega) (by omega) (by omega)]
    rcases b8 with ⟨h0, -⟩ | ⟨c, hcs, hc24, hnc⟩
    · exact absurd h0 c2
    · refine Or.inr ⟨c, hcs, hc24, ?_⟩
      have hnc2 : n ≤ c := by
        apply Classical.byContradiction
        intro z
        exact c4 (by rw [hcs]; exact nI_lt (by omega) (by omega))
      omega
  · rw [et i hi]
    by_cases e : i < n
    · rw [if_pos e]
      rcases a9 i hi with z | ⟨m', d', z1, z2, z3, z4⟩
      · exact Or.inl z
      · exact Or.inr ⟨m', d', z1, z2, z3, fun q => z4 (by omega)⟩
    · rw [if_neg e]; exact b9 i hi
  · have hno : nOf (sCp ρ a b n (nI w)) b = w := by unfold nOf; rw [e24, nI_clamp (by omega)]
    rw [hno]
    intro i x y
    rw [et i y]
    by_cases e : i < n
    · rw [if_pos e]; exact ba i (by omega) y
    · rw [if_neg e]; exact bb i (by omega) y
