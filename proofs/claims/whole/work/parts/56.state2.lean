/-! ===== a STATE of the class: what changes it ===== -/
/-- no NaN comes up in a PEN that has a D (shown at the floats) -/
def FpNn : Prop := ∀ (k v : Int32) (m d : Nat), m ≤ 99 → d ≤ 99 → NnOk k v (nI m) (nI d)
def nOf (ρ : Nat → Int32) (p : Nat) : Nat := (ρ (24 + p)).toNatClampNeg
def BlankFrom (ρ : Nat → Int32) (p n : Nat) : Prop := ∀ i, n ≤ i → i < 24 → ρ (227 + (24 * p + i)) = -1
/-- a row keeps the document's bounds -/
def RowOk (np : Nat) (kf ρ : Nat → Int32) : Prop := ∀ p, p < np → PenOk (kf p) ρ p ∧ BlankFrom ρ p (nOf ρ p)
theorem PenOk.n {k : Int32} {ρ : Nat → Int32} {p : Nat} (h : PenOk k ρ p) : ρ (24 + p) = nI (nOf ρ p) ∧ nOf ρ p ≤ 24 ∧ (canF k (ρ (8 + p)) (ρ (16 + p)) (ρ (24 + p)) ≠ 0 → nOf ρ p < 24 ∧ jamI k (ρ (8 + p)) = 0 ∧ ∃ c : Nat, ρ (16 + p) = nI c ∧ c ≤ 24 ∧ nOf ρ p < c) := by
  obtain ⟨kk, m, d, n, h1, h2, h3, h4, h5, h6, h7, h8, h9⟩ := h
  have hn : nOf ρ p = n := by
    unfold nOf
    rw [h7]
    refine nI_clamp ?_
    rcases h8 with ⟨-, rfl⟩ | ⟨c, -, hc, hnc⟩ <;> omega
  rw [hn]
  refine ⟨h7, ?_, fun hc => ?_⟩
  · rcases h8 with ⟨-, rfl⟩ | ⟨c, -, hc, hnc⟩ <;> omega
  · unfold canF at hc
    by_cases hj : jamI k (ρ (8 + p)) = 0
    · rw [if_pos hj] at hc
      unfold freeF at hc
      rcases h8 with ⟨hs, -⟩ | ⟨c, hs, hc24, hnc⟩
      · rw [if_pos hs, if_pos (by decide)] at hc
        exact absurd rfl hc
      · rw [hs, if_neg (nI_nm1 (by omega)), h7, nI_sub hnc] at hc
        have h0 : 0 < c - n := by
          apply Classical.byContradiction
          intro z
          rw [show c - n = 0 by omega, if_pos (by decide)] at hc
          exact hc rfl
        exact ⟨by omega, hj, c, hs, hc24, by omega⟩
    · rw [if_neg hj] at hc
      exact absurd rfl hc
theorem PenOk.md {k : Int32} {ρ : Nat → Int32} {p : Nat} (h : PenOk k ρ p) : ∃ m d : Nat, ρ p = nI m ∧ m ≤ 99 ∧ ρ (8 + p) = nI d ∧ d ≤ 99 := by
  obtain ⟨kk, m, d, n, h1, h2, h3, h4, h5, h6, h7, h8, h9⟩ := h
  exact ⟨m, d, h3, h4, h5, h6⟩
theorem PenOk.nn (fp : FpNn) {k v : Int32} {ρ : Nat → Int32} {p : Nat} (h : PenOk k ρ p) : NnOk k v (ρ p) (ρ (8 + p)) := by
  obtain ⟨m, d, h1, h2, h3, h4⟩ := h.md
  rw [h1, h3]
  exact fp k v m d h2 h4
/-- a reading done, in a row -/
def sRead (ops : List (Int32 × Int32)) (k : Int32) (ρ : Nat → Int32) (p : Nat) (v : Int32) : Nat → Int32 := ru (sWr (if levF ops k ρ p v < 50 then ρ else ru ρ 33 (ρ 33 + 1)) p (nOf ρ p) v) 34 (ρ 34 + 1)
def canP (k : Int32) (ρ : Nat → Int32) (p : Nat) : Int32 := canF k (ρ (8 + p)) (ρ (16 + p)) (ρ (24 + p))
theorem sWr_far {ρ : Nat → Int32} {p n a : Nat} {v : Int32} (h1 : a ≠ 35 + (24 * p + n)) (h2 : a ≠ 227 + (24 * p + n)) (h3 : a ≠ 24 + p) : sWr ρ p n v a = ρ a := by
  unfold sWr
  rw [ru_o h3, ru_o h2, ru_o h1]
theorem X8_write (fp : FpNn) {μ : Mem} {h s np p : Nat} {kf ρ : Nat → Int32} {v : Int32} {ops : List (Int32 × Int32)} (l : LawS μ h) (lr : LawR μ h ops) (t : StS μ s) (r : StR μ s np kf ρ) (ok : RowOk np kf ρ) (hp : p < np) (hd : h + 5 ≤ s ∨ s + 34 ≤ h) :
    ∃ μ' : Mem, LX8_write s (nI p) v h μ = some (if canP (kf p) ρ p = 0 then 0 else 1, μ') ∧ Out (fun a => inSt s a ∨ a = h + 1 ∨ a = h + 4) μ μ' ∧ StR μ' s np kf (if canP (kf p) ρ p = 0 then ρ else sRead ops (kf p) ρ p v) := by
  obtain ⟨a0, a1, a2, a3, a4, a5⟩ := id r
  obtain ⟨t0, t1, t2, t3, t5⟩ := id t
  obtain ⟨tr, tp⟩ := t5 p (by omega)
  have hpr := a5 p hp
  obtain ⟨b0, b1, b2, b3, b4, b5⟩ := id hpr
  have cp : (nI p).toNatClampNeg = p := nI_clamp (by omega)
  obtain ⟨hok, hbl⟩ := ok p hp
  obtain ⟨hn, hn24, hcan⟩ := hok.n
  obtain ⟨m, d, hm, hm9, hdd, hd9⟩ := hok.md
  unfold LX8_write
  rw [if_pos t0, if_pos l.1, t1, if_pos (isK_p t2), if_pos (inA_n t2 t3 (by omega) (by decide)), cp, tr, if_pos (isK_p tp.1), if_pos tp.1, X5_canWrite tp.1, ob, b0, b2, b3, b4]
  by_cases hc : canP (kf p) ρ p = 0
  · rw [if_pos hc, if_pos hc, if_pos (show canF (kf p) (ρ (8 + p)) (ρ (16 + p)) (ρ (24 + p)) = 0 from hc)]
    exact ⟨μ, rfl, Out.rf, r⟩
  · have hc' : canF (kf p) (ρ (8 + p)) (ρ (16 + p)) (ρ (24 + p)) ≠ 0 := hc
    rw [if_neg hc, if_neg hc, if_neg hc']
    obtain ⟨hlt, -, -⟩ := hcan hc'
    obtain ⟨μ1, e1, o1⟩ := X4_levelBy (v := v) l lr t r hp hd (hok.nn fp)
    rw [e1, ob]
    have r1 : StR μ1 s np kf ρ := r.fr (fun a ha => o1.2 a (by obtain ⟨q1, q2⟩ := ha; omega))
    have t1' : StS μ1 s := t.sh o1.1
    -- what follows, whatever the ALARMS
    have tail : ∀ (ν : Mem) (ρ1 : Nat → Int32), StS ν s → StR ν s np kf ρ1 → (∀ a, a ≠ 33 → ρ1 a = ρ a) → Out (fun a => inSt s a ∨ a = h + 1 ∨ a = h + 4) μ ν → ∃ μ' : Mem, mX8_write_36 s (nI p) v ν = some (1, μ') ∧ Out (fun a => inSt s a ∨ a = h + 1 ∨ a = h + 4) μ μ' ∧ StR μ' s np kf (ru (sWr ρ1 p (nOf ρ p) v) 34 (ρ 34 + 1)) := by
      intro ν ρ1 tν rν hρ oν
      obtain ⟨u0, u1, u2, u3, u5⟩ := id tν
      obtain ⟨ur, up⟩ := u5 p (by omega)
      unfold mX8_write_36
      rw [u1, if_pos (isK_p u2), if_pos (inA_n u2 u3 (by omega) (by decide)), cp, ur, if_pos (isK_p up.1), if_pos up.1]
      obtain ⟨ν2, e2, o2, p2⟩ := X5_write (n := nOf ρ p) (v := v) up (rν.2.2.2.2.2 p hp) (by omega) (by rw [hρ _ (by omega)]; exact hn) hlt (m := m) (d := d) (by rw [hρ _ (by omega)]; exact hm) hm9 (by rw [hρ _ (by omega)]; exact hdd) hd9 (fp _ v m d hm9 hd9)
      rw [e2, ob]
      have q2 : StR ν2 s np kf (sWr ρ1 p (nOf ρ p) v) := rν.pen hp o2 p2 ⟨sWr_far (by omega) (by omega) (by omega), sWr_far (by omega) (by omega) (by omega), sWr_far (by omega) (by omega) (by omega)⟩ (fun q hq hne => ⟨sWr_far (by omega) (by omega) (by omega), sWr_far (by omega) (by omega) (by omega), sWr_far (by omega) (by omega) (by omega), sWr_far (by omega) (by omega) (by omega), fun i hi => ⟨sWr_far (by omega) (by omega) (by omega), sWr_far (by omega) (by omega) (by omega)⟩⟩)
      refine ⟨_, rfl, (oν.tr (o2.mo fun a ha => Or.inl ⟨by omega, by omega⟩)).pI (Or.inl ⟨by omega, by omega⟩), ?_⟩
      obtain ⟨c0, c1, c2, c3, c4, c5⟩ := q2
      have e34 : sWr ρ1 p (nOf ρ p) v 34 = ρ 34 := by rw [sWr_far (by omega) (by omega) (by omega), hρ _ (by omega)]
      refine ⟨c0, by rw [gI_k (by decide)]; exact c1, by rw [gI_k (by decide), ru_o (by omega)]; exact c2, by rw [gI_k (by decide), ru_o (by omega)]; exact c3, by rw [gI_s, ru_s, c4, e34], fun q hq => ?_⟩
      exact (c5 q hq).fr (fun a h1 h2 => ⟨gI_rowo (by omega), rfl, rfl⟩) ⟨ru_o (by omega), ru_o (by omega), ru_o (by omega), ru_o (by omega), fun i hi => ⟨ru_o (by omega), ru_o (by omega)⟩⟩
    unfold sRead
    have oo : Out (fun a => inSt s a ∨ a = h + 1 ∨ a = h + 4) μ μ1 := o1.mo fun a ha => Or.inr ha
    by_cases hl : levF ops (kf p) ρ p v < 50
    · rw [if_pos hl, if_pos hl]
      exact tail μ1 ρ t1' r1 (fun _ _ => rfl) oo
    · rw [if_neg hl, if_neg hl]
      refine tail (p_I μ1 s 3 (g_I μ1 s 3 + 1)) (ru ρ 33 (ρ 33 + 1)) (t1'.sh rfl) ?_ (fun a ha => ru_o ha) (oo.pI (Or.inl ⟨by omega, by omega⟩))
      obtain ⟨c0, c1, c2, c3, c4, c5⟩ := r1
      refine ⟨c0, by rw [gI_k (by decide)]; exact c1, by rw [gI_k (by decide), ru_o (by omega)]; exact c2, by rw [gI_s, ru_s, c3], by rw [gI_k (by decide), ru_o (by omega)]; exact c4, fun q hq => ?_⟩
      exact (c5 q hq).fr (fun a h1 h2 => ⟨gI_rowo (by omega), rfl, rfl⟩) ⟨ru_o (by omega), ru_o (by omega), ru_o (by omega), ru_o (by omega), fun i hi => ⟨ru_o (by omega), ru_o (by omega)⟩⟩
/-- a record kept for good is a record -/
def inRow (np : Nat) (kf ρ : Nat → Int32) (p : Nat) : Int32 := rdF (kf p) (ρ (35 + (24 * p + (nOf ρ p - 1)))) (ρ (227 + (24 * p + (nOf ρ p - 1))))
theorem X8_hear (fp : FpNn) {μ : Mem} {h s np a b : Nat} {kf ρ : Nat → Int32} {ops : List (Int32 × Int32)} (l : LawS μ h) (lr : LawR μ h ops) (t : StS μ s) (r : StR μ s np kf ρ) (ok : RowOk np kf ρ) (ha : a < np) (hb : b < np) (hd : h + 5 ≤ s ∨ s + 34 ≤ h) :
    ∃ μ' : Mem, LX8_hear s (nI a) (nI b) h μ = some (if nOf ρ a = 0 then 0 else if canP (kf b) ρ b = 0 then 0 else 1, μ') ∧ Out (fun x => inSt s x ∨ x = h + 1 ∨ x = h + 4) μ μ' ∧ StR μ' s np kf (if nOf ρ a = 0 then ρ else if canP (kf b) ρ b = 0 then ρ else sRead ops (kf b) ρ b (inRow np kf ρ a)) := by
  obtain ⟨a0, a1, a2, a3, a4, a5⟩ := id r
  obtain ⟨t0, t1, t2, t3, t5⟩ := id t
  obtain ⟨tr, tp⟩ := t5 a (by omega)
  have ca : (nI a).toNatClampNeg = a := nI_clamp (by omega)
  obtain ⟨hn, hn24, -⟩ := (ok a ha).1.n
  unfold LX8_hear
  rw [if_pos t0, if_pos l.1, t1, if_pos (isK_p t2), if_pos (inA_n t2 t3 (by omega) (by decide)), ca, tr, if_pos (isK_p tp.1), if_pos tp.1, (a5 a ha).2.2.2.2.1, hn]
  by_cases h0 : nOf ρ a = 0
  · rw [if_pos h0, if_pos h0, h0, if_pos (show nI 0 ≤ 0 by decide)]
    exact ⟨μ, rfl, Out.rf, r⟩
  · rw [if_neg h0, if_neg h0, if_neg (nI_nle (by omega) (by omega))]
    obtain ⟨q, hq⟩ : ∃ q, nOf ρ a = q + 1 := ⟨nOf ρ a - 1, by omega⟩
    rw [hq, nI_pred, X5_readAt tp (a5 a ha) (by omega), ob]
    have e9 : inRow np kf ρ a = rdF (kf a) (ρ (35 + (24 * a + q))) (ρ (227 + (24 * a + q))) := by unfold inRow; rw [hq, Nat.add_sub_cancel]
    rw [← e9]
    obtain ⟨μ', e1, e2, e3⟩ := X8_write fp (v := inRow np kf ρ a) l lr t r ok hb hd
    rw [e1, ob]
    by_cases hc : canP (kf b) ρ b = 0
    · rw [if_pos hc, if_pos rfl]
      rw [if_pos hc] at e3 ⊢
      exact ⟨μ', rfl, e2, e3⟩
    · rw [if_neg hc, if_neg (by decide)]
      rw [if_neg hc] at e3 ⊢
      exact ⟨μ', rfl, e2, e3⟩
/-- the day's end, of the first j PENS -/
def sEnd (ρ : Nat → Int32) : Nat → (Nat → Int32)
  | 0 => ρ
  | j + 1 => if nOf ρ j = 0 then sEnd ρ j else sUp (sEnd ρ j) j (nOf ρ j - 1)
theorem sUp_far {ρ : Nat → Int32} {p n a : Nat} (h1 : a < 35 + 24 * p ∨ 35 + (24 * p + 24) ≤ a) (h2 : a < 227 + 24 * p ∨ 227 + (24 * p + 24) ≤ a) (h3 : a ≠ 24 + p) (hn : n ≤ 24) : sUp ρ p n a = ρ a := by
  unfold sUp rbl
  refine (if_neg (by omega)).trans ((if_neg (by omega)).trans (if_neg h3))
theorem sUp_same {ρ : Nat → Int32} {p q n : Nat} (hq : q < 8) (hp : p < 8) (hne : p ≠ q) (hn : n ≤ 24) : sameP ρ (sUp ρ q n) p :=
  ⟨sUp_far (by omega) (by omega) (by omega) hn, sUp_far (by omega) (by omega) (by omega) hn, sUp_far (by omega) (by omega) (by omega) hn, sUp_far (by omega) (by omega) (by omega) hn, fun i hi => ⟨sUp_far (by omega) (by omega) (by omega) hn, sUp_far (by omega) (by omega) (by omega) hn⟩⟩
theorem sameP.tr {ρ σ τ : Nat → Int32} {p : Nat} (h1 : sameP ρ σ p) (h2 : sameP σ τ p) : sameP ρ τ p := ⟨h2.1.trans h1.1, h2.2.1.trans h1.2.1, h2.2.2.1.trans h1.2.2.1, h2.2.2.2.1.trans h1.2.2.2.1, fun i hi => ⟨(h2.2.2.2.2 i hi).1.trans (h1.2.2.2.2 i hi).1, (h2.2.2.2.2 i hi).2.trans (h1.2.2.2.2 i hi).2⟩⟩
theorem sameP.rf {ρ : Nat → Int32} {p : Nat} : sameP ρ ρ p := ⟨rfl, rfl, rfl, rfl, fun _ _ => ⟨rfl, rfl⟩⟩
theorem sEnd_same {ρ : Nat → Int32} (hn : ∀ p, p < 8 → nOf ρ p ≤ 24) : ∀ j p : Nat, j ≤ 8 → j ≤ p → p < 8 → sameP ρ (sEnd ρ j) p ∧ sEnd ρ j 32 = ρ 32 ∧ sEnd ρ j 33 = ρ 33 ∧ sEnd ρ j 34 = ρ 34 := by
  intro j
  induction j with
  | zero => intro p _ _ _; exact ⟨sameP.rf, rfl, rfl, rfl⟩
  | succ j ih =>
    intro p h1 h2 h3
    obtain ⟨i1, i2, i3, i4⟩ := ih p (by omega) (by omega) h3
    show sameP ρ (if nOf ρ j = 0 then sEnd ρ j else sUp (sEnd ρ j) j (nOf ρ j - 1)) p ∧ (if nOf ρ j = 0 then sEnd ρ j else sUp (sEnd ρ j) j (nOf ρ j - 1)) 32 = _ ∧ (if nOf ρ j = 0 then sEnd ρ j else sUp (sEnd ρ j) j (nOf ρ j - 1)) 33 = _ ∧ (if nOf ρ j = 0 then sEnd ρ j else sUp (sEnd ρ j) j (nOf ρ j - 1)) 34 = _
    by_cases e : nOf ρ j = 0
    · rw [if_pos e]
      exact ⟨i1, i2, i3, i4⟩
    · have hj := hn j (by omega)
      rw [if_neg e]
      exact ⟨i1.tr (sUp_same (by omega) h3 (by omega) (by omega)), by rw [sUp_far (by omega) (by omega) (by omega) (by omega)]; exact i2, by rw [sUp_far (by omega) (by omega) (by omega) (by omega)]; exact i3, by rw [sUp_far (by omega) (by omega) (by omega) (by omega)]; exact i4⟩
theorem PenOk.same {k : Int32} {ρ σ : Nat → Int32} {p : Nat} (h : PenOk k ρ p) (e : sameP ρ σ p) : PenOk k σ p := by
  obtain ⟨kk, m, d, n, h1, h2, h3, h4, h5, h6, h7, h8, h9⟩ := h
  exact ⟨kk, m, d, n, h1, h2, by rw [e.1]; exact h3, h4, by rw [e.2.1]; exact h5, h6, by rw [e.2.2.2.1]; exact h7, by rw [e.2.2.1]; exact h8, fun i hi => by rw [(e.2.2.2.2 i hi).2]; exact h9 i hi⟩
theorem nOf_same {ρ σ : Nat → Int32} {p : Nat} (e : sameP ρ σ p) : nOf σ p = nOf ρ p := by
  unfold nOf
  rw [e.2.2.2.1]
theorem blank_same {ρ σ : Nat → Int32} {p n : Nat} (e : sameP ρ σ p) (h : BlankFrom ρ p n) : BlankFrom σ p n := fun i h1 h2 => by rw [(e.2.2.2.2 i h2).2]; exact h i h1 h2
/-- the whole day's end -/
def sDay (np : Nat) (ρ : Nat → Int32) : Nat → Int32 := ru (sEnd ρ np) 32 (ρ 32 + 1)
theorem X8_endDayL {s np : Nat} {kf ρ : Nat → Int32} (ok : RowOk np kf ρ) (hnp : np ≤ 8) (h24 : ∀ p, p < 8 → nOf ρ p ≤ 24) : ∀ (f j fu : Nat) (μ : Mem), StS μ s → StR μ s np kf (sEnd ρ j) → f + j = np → f < fu → ∃ μ' : Mem, mX8_endDay_2 fu s (nI j) μ = some ((), μ') ∧ Out (inSt s) μ μ' ∧ StR μ' s np kf (sDay np ρ) := by
  intro f
  induction f with
  | zero =>
    intro j fu μ t r hj hf
    obtain ⟨fu, rfl⟩ : ∃ q, fu = q + 1 := ⟨fu - 1, by omega⟩
    obtain ⟨a0, a1, a2, a3, a4, a5⟩ := id r
    rw [mX8_endDay_2, a1, if_pos (nI_le (by omega) (by omega)), a2]
    have hjn : j = np := by omega
    subst hjn
    have e32 : sEnd ρ j 32 = ρ 32 ∧ sEnd ρ j 33 = ρ 33 ∧ sEnd ρ j 34 = ρ 34 := by
      have : ∀ q : Nat, q ≤ 8 → sEnd ρ q 32 = ρ 32 ∧ sEnd ρ q 33 = ρ 33 ∧ sEnd ρ q 34 = ρ 34 := by
        intro q
        induction q with
        | zero => intro _; exact ⟨rfl, rfl, rfl⟩
        | succ q ih =>
          intro hq
          obtain ⟨i1, i2, i3⟩ := ih (by omega)
          show (if nOf ρ q = 0 then sEnd ρ q else sUp (sEnd ρ q) q (nOf ρ q - 1)) 32 = _ ∧ (if nOf ρ q = 0 then sEnd ρ q else sUp (sEnd ρ q) q (nOf ρ q - 1)) 33 = _ ∧ (if nOf ρ q = 0 then sEnd ρ q else sUp (sEnd ρ q) q (nOf ρ q - 1)) 34 = _
          by_cases e : nOf ρ q = 0
          · rw [if_pos e]; exact ⟨i1, i2, i3⟩
          · have hq24 := h24 q (by omega)
            rw [if_neg e, sUp_far (by omega) (by omega) (by omega) (by omega), sUp_far (by omega) (by omega) (by omega) (by omega), sUp_far (by omega) (by omega) (by omega) (by omega)]
            exact ⟨i1, i2, i3⟩
      exact this j a0
    refine ⟨_, rfl, Out.rf.pI ⟨by omega, by omega⟩, a0, by rw [gI_k (by decide)]; exact a1, by rw [gI_s, sDay, ru_s, e32.1], by rw [gI_k (by decide), sDay, ru_o (by omega)]; exact a3, by rw [gI_k (by decide), sDay, ru_o (by omega)]; exact a4, fun q hq => ?_⟩
    exact (a5 q hq).fr (fun a h1 h2 => ⟨gI_rowo (by omega), rfl, rfl⟩) ⟨ru_o (by omega), ru_o (by omega), ru_o (by omega), ru_o (by omega), fun i hi => ⟨ru_o (by omega), ru_o (by omega)⟩⟩
  | succ f ih =>
    intro j fu μ t r hj hf
    obtain ⟨fu, rfl⟩ : ∃ q, fu = q + 1 := ⟨fu - 1, by omega⟩
    obtain ⟨a0, a1, a2, a3, a4, a5⟩ := id r
    obtain ⟨t0, t1, t2, t3, t5⟩ := id t
    obtain ⟨tr, tp⟩ := t5 j (by omega)
    have cj : (nI j).toNatClampNeg = j := nI_clamp (by omega)
    obtain ⟨sm, -⟩ := sEnd_same h24 j j (by omega) (Nat.le_refl _) (by omega)
    obtain ⟨okj, blj⟩ := ok j (by omega)
    obtain ⟨hn, hn24, -⟩ := okj.n
    rw [mX8_endDay_2, a1, if_neg (nI_ge (by omega) (by omega)), t1, if_pos (isK_p t2), if_pos (inA_n t2 t3 (by omega) (by decide)), cj, tr, if_pos (isK_p tp.1), if_pos tp.1]
    obtain ⟨μ1, e1, o1, p1⟩ := X5_moveUp (n := nOf ρ j) tp (a5 j (by omega)) (by omega) (by rw [sm.2.2.2.1]; exact hn) hn24 (blank_same sm blj)
    rw [e1, ob, ← nI_succ]
    have r1 : StR μ1 s np kf (sEnd ρ (j + 1)) := by
      refine r.pen (q := j) (by omega) o1 p1 ?_ ?_
      · show (if nOf ρ j = 0 then sEnd ρ j else sUp (sEnd ρ j) j (nOf ρ j - 1)) 32 = _ ∧ (if nOf ρ j = 0 then sEnd ρ j else sUp (sEnd ρ j) j (nOf ρ j - 1)) 33 = _ ∧ (if nOf ρ j = 0 then sEnd ρ j else sUp (sEnd ρ j) j (nOf ρ j - 1)) 34 = _
        by_cases e : nOf ρ j = 0
        · rw [if_pos e]; exact ⟨rfl, rfl, rfl⟩
        · rw [if_neg e]
          exact ⟨sUp_far (by omega) (by omega) (by omega) (by omega), sUp_far (by omega) (by omega) (by omega) (by omega), sUp_far (by omega) (by omega) (by omega) (by omega)⟩
      · intro p hp hne
        show sameP _ (if nOf ρ j = 0 then sEnd ρ j else sUp (sEnd ρ j) j (nOf ρ j - 1)) p
        by_cases e : nOf ρ j = 0
        · rw [if_pos e]; exact sameP.rf
        · rw [if_neg e]
          exact sUp_same (by omega) hp hne (by omega)
    obtain ⟨μ', e2, o2, r2⟩ := ih (j + 1) fu μ1 (t.sh o1.1) r1 (by omega) (by omega)
    exact ⟨μ', e2, (o1.mo fun a ha => ⟨by omega, by omega⟩).tr o2, r2⟩
theorem X8_endDay {μ : Mem} {s np : Nat} {kf ρ : Nat → Int32} (t : StS μ s) (r : StR μ s np kf ρ) (ok : RowOk np kf ρ) (h24 : ∀ p, p < 8 → nOf ρ p ≤ 24) : ∃ μ' : Mem, LX8_endDay s μ = some ((), μ') ∧ Out (inSt s) μ μ' ∧ StR μ' s np kf (sDay np ρ) := by
  unfold LX8_endDay
  rw [if_pos t.1]
  exact X8_endDayL ok r.1 h24 np 0 100000 μ t r (by omega) (by have := r.1; omega)
