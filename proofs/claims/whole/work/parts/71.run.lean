/-! ===== WORK run (class) ===== -/
theorem rk_do {t : HutT} {ops : List (Int32 × Int32)} {q : StepT} {ρ : Nat → Int32} (rk : RowK t.1 t.2.1 ρ) (ho : HutOk t) (ok : StepOk t q) : RowK t.1 t.2.1 (doF t ops q ρ).2 := by
  obtain ⟨o1, o2, o3, o4, o5, o6, o7, o8⟩ := ok
  unfold doF
  by_cases e0 : q.1 = 0
  · rw [if_pos e0, ite2]
    by_cases c : canP (t.2.1 q.2.1) ρ q.2.1 = 0
    · rw [if_pos c]; exact rk
    · rw [if_neg c]; exact rk.read (o2 (by omega)) c
  rw [if_neg e0]
  by_cases e1 : q.1 = 1
  · rw [if_pos e1, ite2]
    by_cases c : canP (t.2.1 q.2.1) ρ q.2.1 = 0
    · rw [if_pos c]; exact rk
    · rw [if_neg c]; exact rk.read (o2 (by omega)) c
  rw [if_neg e1]
  by_cases e2 : q.1 = 2
  · rw [if_pos e2]
    obtain ⟨p3, p4⟩ := ho.2.2.2.1 _ (o3 e2)
    by_cases c : nOf ρ (t.2.2.2.2.2.1 q.2.1) = 0
    · rw [if_pos c]; exact rk
    · rw [if_neg c, ite2]
      by_cases c : canP (t.2.1 (t.2.2.2.2.2.2.1 q.2.1)) ρ (t.2.2.2.2.2.2.1 q.2.1) = 0
      · rw [if_pos c]; exact rk
      · rw [if_neg c]; exact rk.read p4 c
  rw [if_neg e2]
  by_cases e3 : q.1 = 3
  · rw [if_pos e3, ite2]
    by_cases c : ρ (24 + q.2.1) = 0
    · rw [if_pos c]; exact rk
    · rw [if_neg c]
      have hp := o2 (by omega)
      refine rk.lay hp ?_
      obtain ⟨⟨kk, m, d, n, h1, h2, h3, h4, h5, h6, h7, h8, h9⟩, -⟩ := rk.2.1 _ hp
      rcases h8 with ⟨h8, -⟩ | ⟨c, hc, hc24, -⟩
      · exact Or.inl h8
      · exact Or.inr ⟨c, hc, hc24⟩
  rw [if_neg e3]
  by_cases e4 : q.1 = 4
  · rw [if_pos e4, ite2]
    by_cases c : ρ (16 + q.2.1) = -1
    · rw [if_pos c]; exact rk
    · rw [if_neg c]; exact rk.lay (o2 (by omega)) (Or.inl rfl)
  rw [if_neg e4]
  by_cases e5 : q.1 = 5
  · rw [if_pos e5, ite2]
    by_cases c : nI q.2.2.1 - nI q.2.2.2.1 < 0
    · rw [if_pos c]; exact rk
    · rw [if_neg c]
      have b1 := o5 e5
      have b2 := o6 (Or.inl e5)
      have hle : q.2.2.2.1 ≤ q.2.2.1 := by
        apply Classical.byContradiction
        intro z
        apply c
        apply Int32.lt_iff_toInt_lt.mpr
        rw [Int32.toInt_sub, nI_toInt (by omega), nI_toInt (by omega), show (0 : Int32).toInt = 0 from rfl, Int.bmod_eq_of_le] <;> omega
      rw [nI_sub hle]
      exact rk.lay (o2 (by omega)) (Or.inr ⟨_, rfl, by omega⟩)
  rw [if_neg e5]
  by_cases e6 : q.1 = 6
  · rw [if_pos e6, ite2]
    by_cases c : cpRef (t.2.1 q.2.2.1) (t.2.1 q.2.1) ρ q.2.1 q.2.2.1 (nI q.2.2.2.1)
    · rw [if_pos c]; exact rk
    · rw [if_neg c]; exact rk.copy (o2 (by omega)) (o4 e6) (o6 (Or.inr e6)) c
  rw [if_neg e6]
  by_cases e7 : q.1 = 7
  · rw [if_pos e7, ite2]
    by_cases c : ρ q.2.1 = nI q.2.2.1 ∧ ρ (8 + q.2.1) = nI q.2.2.2.1
    · rw [if_pos c]; exact rk
    · rw [if_neg c]
      exact rk.tune (o2 (by omega)) (o7 e7).1 (o7 e7).2
  rw [if_neg e7, ite2]
  by_cases c : (900 : Int32) ≤ ρ 32
  · rw [if_pos c]; exact rk
  · rw [if_neg c]; exact rk.day
/-- STEPS begun, done, refused; the row -/
abbrev WkT : Type := Nat × Nat × Nat × (Nat → Int32)
def itW (f : WkT → WkT) : Nat → WkT → WkT
  | 0, w => w
  | n + 1, w => itW f n (f w)
theorem itW_id {f : WkT → WkT} (h : ∀ w, f w = w) : ∀ n w, itW f n w = w := by
  intro n
  induction n with
  | zero => intro w; rfl
  | succ n ih => intro w; show itW f n (f w) = w; rw [h w]; exact ih w
def oneW (t : HutT) (ops : List (Int32 × Int32)) (q : StepT) (w : WkT) : WkT := (w.1 + 1, if (doF t ops q w.2.2.2).1 = 0 then (w.2.1, w.2.2.1 + 1, (doF t ops q w.2.2.2).2) else (w.2.1 + 1, w.2.2.1, (doF t ops q w.2.2.2).2))
def runI (t : HutT) (ops : List (Int32 × Int32)) (pr : Nat → StepT) (rec : Nat → Nat → WkT → WkT) : Nat → Nat → Nat → WkT → WkT
  | 0, _, _, w => w
  | g + 1, i, to, w => if to ≤ i then w else if 200 ≤ w.1 then w else runI t ops pr rec g (max (i + 1) (pr i).2.2.2.2) to (if (pr i).1 = 9 then itW (rec (i + 1) (pr i).2.2.2.2) (pr i).2.1 (w.1 + 1, w.2) else oneW t ops (pr i) w)
def runW (t : HutT) (ops : List (Int32 × Int32)) (pr : Nat → StepT) : Nat → Nat → Nat → WkT → WkT
  | 0, i, to, w => runI t ops pr (fun _ _ w => w) 37 i to w
  | D + 1, i, to, w => runI t ops pr (runW t ops pr D) 37 i to w
/-- what WORK is at while it runs -/
def WkR (μ : Mem) (wk s n : Nat) (t : HutT) (w : WkT) : Prop := g_I μ wk 5 = nI n ∧ g_I μ wk 6 = nI w.1 ∧ g_I μ wk 7 = nI w.2.1 ∧ g_I μ wk 8 = nI w.2.2.1 ∧ w.1 ≤ 200 ∧ StR μ s t.1 t.2.1 w.2.2.2 ∧ RowK t.1 t.2.1 w.2.2.2
/-- what WORK looks at -/
def WkC (μ : Mem) (wk s hh lh n : Nat) (t : HutT) (ops : List (Int32 × Int32)) (pr : Nat → StepT) : Prop := WorkS μ wk ∧ (∀ i, i < n → g_I μ (wk + 1) i = nI (pr i).1 ∧ g_I μ (wk + 2) i = nI (pr i).2.1 ∧ g_I μ (wk + 3) i = nI (pr i).2.2.1 ∧ g_I μ (wk + 4) i = nI (pr i).2.2.2.1 ∧ g_I μ (wk + 5) i = nI (pr i).2.2.2.2) ∧ StS μ s ∧ HutS μ hh ∧ HutR μ hh t ∧ LawS μ lh ∧ LawR μ lh ops
def inRun (wk s lh : Nat) : Nat → Prop := fun x => inDo s lh x ∨ x = wk
/-- they lie apart -/
def ApW (wk s hh lh : Nat) : Prop := (wk + 6 ≤ s ∨ s + 34 ≤ wk) ∧ (wk + 6 ≤ hh ∨ hh + 6 ≤ wk) ∧ (wk + 6 ≤ lh ∨ lh + 5 ≤ wk) ∧ (lh + 5 ≤ s ∨ s + 34 ≤ lh) ∧ (hh + 6 ≤ s ∨ s + 34 ≤ hh) ∧ (hh + 6 ≤ lh ∨ lh + 5 ≤ hh)
theorem WkC.out {μ ν : Mem} {wk s hh lh n : Nat} {t : HutT} {ops : List (Int32 × Int32)} {pr : Nat → StepT} (c : WkC μ wk s hh lh n t ops pr) (ap : ApW wk s hh lh) (o : Out (inRun wk s lh) μ ν) : WkC ν wk s hh lh n t ops pr := by
  obtain ⟨c1, c2, c3, c4, c5, c6, c7⟩ := c
  obtain ⟨a1, a2, a3, a4, a5, a6⟩ := ap
  have no : ∀ x, ¬ inSt s x → x ≠ lh + 1 → x ≠ lh + 4 → x ≠ wk → g_I ν x = g_I μ x := fun x h1 h2 h3 h4 => (o.2 x (by rintro ((z | z | z) | z); exact h1 z; exact h2 z; exact h3 z; exact h4 z)).1
  have ns : ∀ x, (x < s ∨ s + 34 ≤ x) → ¬ inSt s x := fun x hx z => by obtain ⟨y1, y2⟩ := z; omega
  refine ⟨c1.sh o.1, fun i hi => ?_, c3.sh o.1, c4.sh o.1, c5.fr fun x hx => ?_, c6.sh o.1, c7.fr ⟨no _ (ns _ (by omega)) (by omega) (by omega) (by omega), no _ (ns _ (by omega)) (by omega) (by omega) (by omega), no _ (ns _ (by omega)) (by omega) (by omega) (by omega)⟩⟩
  · rw [no (wk + 1) (ns _ (by omega)) (by omega) (by omega) (by omega), no (wk + 2) (ns _ (by omega)) (by omega) (by omega) (by omega), no (wk + 3) (ns _ (by omega)) (by omega) (by omega) (by omega), no (wk + 4) (ns _ (by omega)) (by omega) (by omega) (by omega), no (wk + 5) (ns _ (by omega)) (by omega) (by omega) (by omega)]
    exact c2 i hi
  · obtain ⟨y1, y2⟩ := hx
    exact no x (ns _ (by omega)) (by omega) (by omega) (by omega)
