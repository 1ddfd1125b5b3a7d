/-! ===== a SEASON counts from nought ===== -/
/-- the same row, but that the alarms and the readings are counted from elsewhere -/
def ShR (c d : Int32) (ρ σ : Nat → Int32) : Prop := (∀ k, k ≠ 33 → k ≠ 34 → σ k = ρ k) ∧ σ 33 = ρ 33 + c ∧ σ 34 = ρ 34 + d
theorem ShR.n {c d : Int32} {ρ σ : Nat → Int32} (h : ShR c d ρ σ) {p : Nat} (hp : p < 8) : nOf σ p = nOf ρ p := by
  unfold nOf
  rw [h.1 (24 + p) (by omega) (by omega)]
theorem ShR.can {c d : Int32} {ρ σ : Nat → Int32} (h : ShR c d ρ σ) {p : Nat} (hp : p < 8) (k : Int32) : canP k σ p = canP k ρ p := by
  unfold canP
  rw [h.1 (8 + p) (by omega) (by omega), h.1 (16 + p) (by omega) (by omega), h.1 (24 + p) (by omega) (by omega)]
theorem ShR.lev {c d : Int32} {ρ σ : Nat → Int32} (h : ShR c d ρ σ) {p : Nat} (hp : p < 8) (ops : OpsT) (k v : Int32) : levF ops k σ p v = levF ops k ρ p v := by
  unfold levF
  rw [h.1 p (by omega) (by omega), h.1 (8 + p) (by omega) (by omega), h.1 (24 + p) (by omega) (by omega), h.1 32 (by omega) (by omega)]
theorem ShR.put {c d : Int32} {ρ σ : Nat → Int32} (h : ShR c d ρ σ) {k : Nat} {v : Int32} (h1 : k ≠ 33) (h2 : k ≠ 34) : ShR c d (ru ρ k v) (ru σ k v) := by
  refine ⟨fun j j1 j2 => ?_, ?_, ?_⟩
  · by_cases e : j = k
    · rw [e, ru_s, ru_s]
    · rw [ru_o e, ru_o e]; exact h.1 j j1 j2
  · rw [ru_o (Ne.symm h1), ru_o (Ne.symm h1)]; exact h.2.1
  · rw [ru_o (Ne.symm h2), ru_o (Ne.symm h2)]; exact h.2.2
theorem ShR.wr {c d : Int32} {ρ σ : Nat → Int32} (h : ShR c d ρ σ) {p n : Nat} {v : Int32} (hp : p < 8) : ShR c d (sWr ρ p n v) (sWr σ p n v) := by
  unfold sWr
  rw [h.1 p (by omega) (by omega), h.1 (8 + p) (by omega) (by omega), h.1 (24 + p) (by omega) (by omega)]
  exact ((h.put (by omega) (by omega)).put (by omega) (by omega)).put (by omega) (by omega)
theorem ShR.read {c d : Int32} {ρ σ : Nat → Int32} (h : ShR c d ρ σ) {p : Nat} {ops : OpsT} {k v : Int32} (hp : p < 8) : ShR c d (sRead ops k ρ p v) (sRead ops k σ p v) := by
  unfold sRead
  rw [h.lev hp, h.n hp]
  have h33 : ShR c d (if levF ops k ρ p v < 50 then ρ else ru ρ 33 (ρ 33 + 1)) (if levF ops k ρ p v < 50 then σ else ru σ 33 (σ 33 + 1)) := by
    by_cases g : levF ops k ρ p v < 50
    · rw [if_pos g, if_pos g]; exact h
    · rw [if_neg g, if_neg g]
      refine ⟨fun j j1 j2 => by rw [ru_o j1, ru_o j1]; exact h.1 j j1 j2, ?_, ?_⟩
      · rw [ru_s, ru_s, h.2.1, Int32.add_assoc, Int32.add_comm c 1, ← Int32.add_assoc]
      · rw [ru_o (by decide), ru_o (by decide)]; exact h.2.2
  have hw := h33.wr (n := nOf ρ p) (v := v) hp
  refine ⟨fun j j1 j2 => by rw [ru_o j2, ru_o j2]; exact hw.1 j j1 j2, ?_, ?_⟩
  · rw [ru_o (by decide), ru_o (by decide)]; exact hw.2.1
  · rw [ru_s, ru_s, h.2.2, Int32.add_assoc, Int32.add_comm d 1, ← Int32.add_assoc]
theorem ShR.try {c d : Int32} {ρ σ : Nat → Int32} (h : ShR c d ρ σ) {p : Nat} {ops : OpsT} {kf : Nat → Int32} {v : Int32} (hp : p < 8) : ShR c d (tryRead ops kf ρ p v) (tryRead ops kf σ p v) := by
  unfold tryRead
  rw [h.can hp]
  by_cases g : canP (kf p) ρ p = 0
  · rw [if_pos g, if_pos g]; exact h
  · rw [if_neg g, if_neg g]; exact h.read hp
theorem ShR.hear {c d : Int32} {ρ σ : Nat → Int32} (h : ShR c d ρ σ) {a b np : Nat} {ops : OpsT} {kf : Nat → Int32} (ha : a < 8) (hb : b < 8) : ShR c d (tryHear ops np kf ρ a b) (tryHear ops np kf σ a b) := by
  unfold tryHear
  rw [h.n ha]
  by_cases g : nOf ρ a = 0
  · rw [if_pos g, if_pos g]; exact h
  · rw [if_neg g, if_neg g]
    have e : inRow np kf σ a = inRow np kf ρ a := by
      unfold inRow
      rw [h.n ha, h.1 (35 + (24 * a + (nOf ρ a - 1))) (by omega) (by omega), h.1 (227 + (24 * a + (nOf ρ a - 1))) (by omega) (by omega)]
    rw [e]
    exact h.try hb
theorem ShR.up {c d : Int32} {ρ σ : Nat → Int32} (h : ShR c d ρ σ) {p n : Nat} (hp : p < 8) : ShR c d (sUp ρ p n) (sUp σ p n) := by
  unfold sUp rbl
  refine ⟨fun j j1 j2 => ?_, ?_, ?_⟩
  · show (if _ then (-1 : Int32) else if _ then σ (j + 1) else if _ then nI n else σ j) = (if _ then (-1 : Int32) else if _ then ρ (j + 1) else if _ then nI n else ρ j)
    by_cases g : (35 + (24 * p + n) ≤ j ∧ j < 35 + (24 * p + 24)) ∨ (227 + (24 * p + n) ≤ j ∧ j < 227 + (24 * p + 24))
    · rw [if_pos g, if_pos g]
    · rw [if_neg g, if_neg g]
      by_cases g2 : (35 + 24 * p ≤ j ∧ j < 35 + (24 * p + n)) ∨ (227 + 24 * p ≤ j ∧ j < 227 + (24 * p + n))
      · rw [if_pos g2, if_pos g2, h.1 (j + 1) (by omega) (by omega)]
      · rw [if_neg g2, if_neg g2, h.1 j j1 j2]
  · show (if _ then (-1 : Int32) else if _ then σ (33 + 1) else if _ then nI n else σ 33) = (if _ then (-1 : Int32) else if _ then ρ (33 + 1) else if _ then nI n else ρ 33) + c
    rw [if_neg (by omega), if_neg (by omega), if_neg (by omega), if_neg (by omega), if_neg (by omega), if_neg (by omega)]
    exact h.2.1
  · show (if _ then (-1 : Int32) else if _ then σ (34 + 1) else if _ then nI n else σ 34) = (if _ then (-1 : Int32) else if _ then ρ (34 + 1) else if _ then nI n else ρ 34) + d
    rw [if_neg (by omega), if_neg (by omega), if_neg (by omega), if_neg (by omega), if_neg (by omega), if_neg (by omega)]
    exact h.2.2
theorem ShR.end {c d : Int32} {ρ σ : Nat → Int32} (h : ShR c d ρ σ) : ∀ j, j ≤ 8 → ShR c d (sEnd ρ j) (sEnd σ j) := by
  intro j
  induction j with
  | zero => intro _; exact h
  | succ j ih =>
    intro hj
    show ShR c d (if nOf ρ j = 0 then sEnd ρ j else sUp (sEnd ρ j) j (nOf ρ j - 1)) (if nOf σ j = 0 then sEnd σ j else sUp (sEnd σ j) j (nOf σ j - 1))
    rw [h.n (show j < 8 by omega)]
    by_cases g : nOf ρ j = 0
    · rw [if_pos g, if_pos g]; exact ih (by omega)
    · rw [if_neg g, if_neg g]; exact (ih (by omega)).up (by omega)
theorem ShR.day {c d : Int32} {ρ σ : Nat → Int32} (h : ShR c d ρ σ) {np : Nat} (hn : np ≤ 8) : ShR c d (sDay np ρ) (sDay np σ) := by
  unfold sDay
  rw [h.1 32 (by decide) (by decide)]
  exact (h.end np hn).put (by decide) (by decide)
theorem ShR.sea {c d q : Int32} {t : HutT} {ops : OpsT} (ho : HutOk t) : ∀ (n : Nat) (s : Int32) (ρ σ : Nat → Int32), ShR c d ρ σ → (seaN ops t q n (s, ρ)).1 = (seaN ops t q n (s, σ)).1 ∧ ShR c d (seaN ops t q n (s, ρ)).2 (seaN ops t q n (s, σ)).2 := by
  intro n
  have h8 := ho.1
  induction n with
  | zero => intro s ρ σ h; exact ⟨rfl, h⟩
  | succ n ih =>
    intro s ρ σ h
    have h1 : (sea1 ops t (s, ρ)).1 = (sea1 ops t (s, σ)).1 ∧ ShR c d (sea1 ops t (s, ρ)).2 (sea1 ops t (s, σ)).2 := by
      unfold sea1
      by_cases g : t.1 = 0
      · rw [if_pos g, if_pos g]; exact ⟨rfl, h⟩
      · rw [if_neg g, if_neg g]
        have hlt : drN (nxS s) t.1 < t.1 := Nat.mod_lt _ (by omega)
        exact ⟨rfl, h.try (Nat.lt_of_lt_of_le hlt h8)⟩
    have h2 : ∀ x y : Int32 × (Nat → Int32), x.1 = y.1 → ShR c d x.2 y.2 → (sea2 ops t q x).1 = (sea2 ops t q y).1 ∧ ShR c d (sea2 ops t q x).2 (sea2 ops t q y).2 := by
      intro x y e hx
      unfold sea2
      by_cases g : t.2.2.2.2.1 = 0
      · rw [if_pos g, if_pos g]; exact ⟨e, hx⟩
      · rw [if_neg g, if_neg g, ← e]
        by_cases g2 : q ≤ nI (drN (nxS x.1) 16)
        · rw [if_pos g2, if_pos g2]; exact ⟨rfl, hx⟩
        · rw [if_neg g2, if_neg g2]
          have hlt : drN (nxS (nxS x.1)) t.2.2.2.2.1 < t.2.2.2.2.1 := Nat.mod_lt _ (by omega)
          obtain ⟨w1, w2⟩ := ho.2.2.2.1 _ hlt
          exact ⟨rfl, hx.hear (Nat.lt_of_lt_of_le w1 h8) (Nat.lt_of_lt_of_le w2 h8)⟩
    obtain ⟨a1, a2⟩ := h2 _ _ h1.1 h1.2
    have e1 : seaN ops t q (n + 1) (s, ρ) = seaN ops t q n (seaD ops t q (s, ρ)) := rfl
    have e2 : seaN ops t q (n + 1) (s, σ) = seaN ops t q n (seaD ops t q (s, σ)) := rfl
    rw [e1, e2]
    have e3 : seaD ops t q (s, σ) = ((seaD ops t q (s, ρ)).1, (seaD ops t q (s, σ)).2) := by
      show ((sea2 ops t q (sea1 ops t (s, σ))).1, _) = ((sea2 ops t q (sea1 ops t (s, ρ))).1, _)
      rw [a1]
      rfl
    have e4 : seaD ops t q (s, ρ) = ((seaD ops t q (s, ρ)).1, (seaD ops t q (s, ρ)).2) := rfl
    rw [e3, e4]
    exact ih _ _ _ (a2.day h8)
theorem sea_sh {a : ClT} (ho : HutOk (hutT a.2.2.2.1)) {seed q : Int32} {d : Nat} : ShR (rowOf a 33) (rowOf a 34) (seaA a seed d q) (seaN a.2.2.2.2.1 (hutT a.2.2.2.1) q d (seed, rowOf a)).2 := by
  unfold seaA sea0
  refine (ShR.sea ho d seed _ _ ⟨fun k h1 h2 => by rw [ru_o h2, ru_o h1], ?_, ?_⟩).2
  · rw [ru_o (by decide), ru_s, Int32.zero_add]
  · rw [ru_s, Int32.zero_add]
theorem sumR_eq {ρ σ : Nat → Int32} : ∀ n, (∀ j, j < n → σ (24 + j) = ρ (24 + j)) → sumR σ n = sumR ρ n := by
  intro n
  induction n with
  | zero => intro _; rfl
  | succ n ih =>
    intro h
    show sumR σ n + σ (24 + n) = sumR ρ n + ρ (24 + n)
    rw [ih (fun j hj => h j (by omega)), h n (by omega)]
theorem R_records2 {μ : Mem} {t : HutT} {ops : OpsT} {σ : Nat → Int32} (c : RwC μ 604 t ops σ) : LX12_records 125 604 μ = some (sumR σ t.1, μ) := by
  have h8 := c.2.2.1.1
  have p1 := c.1.h12
  have p2 : inA μ 129 15 (0 : Int32) = true := c.1.a129.ix (i := 0) (by decide) (by decide)
  have p3 : g_I μ 129 (0 : Int32).toNatClampNeg = nI t.1 := c.2.1.1.1
  have go : ∀ (n j fu : Nat), n + j = t.1 → n < fu → mX12_records_4 fu 125 604 (sumR σ j) (nI j) μ = some (sumR σ t.1, μ) := by
    intro n
    induction n with
    | zero =>
      intro j fu hj hf
      obtain ⟨fu, rfl⟩ : ∃ q, fu = q + 1 := ⟨fu - 1, by omega⟩
      rw [mX12_records_4, p1, if_pos q129, if_pos p2, p3, if_pos (nI_le (by omega) (by omega)), show j = t.1 by omega]
    | succ n ih =>
      intro j fu hj hf
      obtain ⟨fu, rfl⟩ : ∃ q, fu = q + 1 := ⟨fu - 1, by omega⟩
      obtain ⟨i1, i2, i3⟩ := c.at (j := 24 + j) (by omega)
      rw [mX12_records_4, p1, if_pos q129, if_pos p2, p3, if_neg (nI_ge (by omega) (by omega)), n24p, if_pos i1, i2, i3, ← nI_succ]
      exact ih (j + 1) fu (by omega) (by omega)
  unfold LX12_records
  rw [if_pos c.1.1, if_pos c.1.a604.1]
  exact go t.1 0 100000 rfl (by omega)
theorem in_of1 {v : Int32} {n : Nat} (h : ¬ offB v 1 (nI n)) (hn : n < 2147483647) : ∃ j : Nat, 1 ≤ j ∧ j ≤ n ∧ v = nI j := by
  obtain ⟨j, hj, e⟩ := in_ofN (v := v) (n := n) (fun z => h (z.elim (fun y => Or.inl (Int32.lt_iff_toInt_lt.mpr (by
    have := Int32.lt_iff_toInt_lt.mp y
    rw [show (0 : Int32).toInt = 0 from rfl] at this
    rw [show (1 : Int32).toInt = 1 from rfl]
    omega))) Or.inr)) hn
  refine ⟨j, ?_, hj, e⟩
  refine Classical.byContradiction fun z => h (Or.inl ?_)
  rw [e, show j = 0 by omega]
  decide
theorem AskM.wS {μ ν : Mem} {a : ClT} {ix : Nat → Nat} {v : Int32} (q : RqR μ a) (o : OF wF wS μ ν) : AskM ix μ (some (v, ν)) (.inr v, a) := AskM.out q.1 q.ho o (fun k hk => by have hk : k = 46 := hk; unfold frF; omega) (fun x hx => by have hx : x = 518 ∨ x = 519 ∨ x = 604 := hx; unfold frS; omega) q.2.2
theorem R_isSeason {d q : Int32} {μ : Mem} : LX12_isSeason d q μ = some (if offB d 1 96 then 0 else if offB q 0 16 then 0 else 1, μ) := by
  unfold LX12_isSeason
  rw [R_in, ob, in_off]
  by_cases h : offB d 1 96
  · rw [if_pos h, if_pos h, if_pos rfl]
  · rw [if_neg h, if_neg h, if_neg (by decide), R_in, ob, in_off]
    by_cases g : offB q 0 16
    · rw [if_pos g, if_pos rfl]
    · rw [if_neg g, if_neg (by decide)]
theorem M_season {μ : Mem} {a : ClT} {seed d qq w : Int32} (r : RfR μ a) (k : ClK a) : AskM (fun _ => 1) μ (LX12_season 125 seed d qq w μ) (if offB d 1 96 then (.inl 1, rfA a 1) else if offB qq 0 16 then (.inl 1, rfA a 1) else if offB w 0 2 then (.inl 1, rfA a 1) else (.inr (sSea a seed qq w d.toNatClampNeg), a)) := by
  obtain ⟨q, m0⟩ := r.q k
  unfold LX12_season mX12_season_29
  rw [if_pos r.1.1]
  refine AskM.tr m0 ?_
  generalize p_I μ 125 0 0 = μ0 at q
  rw [R_isSeason, ob]
  by_cases h1 : offB d 1 96
  · rw [if_pos h1, if_pos h1, if_pos rfl]
    exact gate_1 q (k := 1) rfl (by decide) (by decide) rfl
  rw [if_neg h1, if_neg h1]
  by_cases h2 : offB qq 0 16
  · rw [if_pos h2, if_pos h2, if_pos rfl]
    exact gate_1 q (k := 1) rfl (by decide) (by decide) rfl
  rw [if_neg h2, if_neg h2, if_neg (by decide)]
  refine A_in (k := 1) q rfl (by decide) (by decide) rfl fun h3 => ?_
  obtain ⟨n, hn1, hn2, rfl⟩ := in_of1 (n := 96) h1 (by decide)
  obtain ⟨ν, e1, o1, c1⟩ := R_seasonBy (seed := seed) (q := qq) q (show n ≤ 1000 by omega)
  have qν := q.wS o1
  obtain ⟨s1, s2, s3⟩ := sea_sh (seed := seed) (q := qq) (d := n) q.ho
  obtain ⟨x1, x2, x3⟩ := c1.at (j := 34) (by decide)
  obtain ⟨y1, y2, y3⟩ := c1.at (j := 33) (by decide)
  obtain ⟨u1, u2, u3⟩ := qν.at (j := 34) (by decide)
  obtain ⟨v1, v2, v3⟩ := qν.at (j := 33) (by decide)
  have x1 : inA ν 604 15 (34 : Int32) = true := x1
  have y1 : inA ν 604 15 (33 : Int32) = true := y1
  have u1 : inA ν 603 15 (34 : Int32) = true := u1
  have v1 : inA ν 603 15 (33 : Int32) = true := v1
  rw [e1, ob, nI_clamp (show n < 2147483648 by omega)]
  unfold sSea
  by_cases w0 : w = 0
  · rw [if_pos w0, if_pos w0, qν.s.h30, if_pos q604, if_pos x1, qν.s.h29, if_pos q603, if_pos u1, show (34 : Int32).toNatClampNeg = 34 from rfl, x3, u3, s3, Int32.add_sub_cancel]
    exact AskM.wS q o1
  rw [if_neg w0, if_neg w0]
  by_cases w1 : w = 1
  · rw [if_pos w1, if_pos w1, qν.s.h30, if_pos q604, if_pos y1, qν.s.h29, if_pos q603, if_pos v1, show (33 : Int32).toNatClampNeg = 33 from rfl, y3, v3, s2, Int32.add_sub_cancel]
    exact AskM.wS q o1
  · rw [if_neg w1, if_neg w1, qν.s.h30, if_pos q604, R_records2 c1, ob, sumR_eq _ (fun j hj => s1 (24 + j) (by have := q.ho.1; omega) (by have := q.ho.1; omega))]
    exact AskM.wS q o1
