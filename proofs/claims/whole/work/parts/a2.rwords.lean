/-! ===== the reference: words, by 27s ===== -/
def vg (f : Nat → Nat) : Nat → Nat
  | 0 => 0
  | i + 1 => 27 * vg f i + (f i - 96)
theorem vg_inj {f g : Nat → Nat} : ∀ (n m : Nat), (∀ i, i < n → letT (f i)) → (∀ i, i < m → letT (g i)) → vg f n = vg g m → n = m ∧ ∀ i, i < n → f i = g i := by
  intro n
  induction n with
  | zero =>
    intro m hf hg h
    cases m with
    | zero => exact ⟨rfl, fun i hi => absurd hi (Nat.not_lt_zero _)⟩
    | succ m =>
      have h : 0 = 27 * vg g m + (g m - 96) := h
      have := hg m (Nat.lt_succ_self _)
      omega
  | succ n ih =>
    intro m hf hg h
    cases m with
    | zero =>
      have h : 27 * vg f n + (f n - 96) = 0 := h
      have := hf n (Nat.lt_succ_self _)
      omega
    | succ m =>
      have h : 27 * vg f n + (f n - 96) = 27 * vg g m + (g m - 96) := h
      have h1 := hf n (Nat.lt_succ_self _)
      have h2 := hg m (Nat.lt_succ_self _)
      have e1 : vg f n = vg g m := by omega
      have e2 : f n = g m := by omega
      obtain ⟨q1, q2⟩ := ih m (fun i hi => hf i (by omega)) (fun i hi => hg i (by omega)) e1
      subst q1
      refine ⟨rfl, fun i hi => ?_⟩
      by_cases e : i = n
      · rw [e]; exact e2
      · exact q2 i (by omega)
theorem vg_lt {f : Nat → Nat} : ∀ n, (∀ i, i < n → letT (f i)) → vg f n < 27 ^ n := by
  intro n
  induction n with
  | zero => intro _; show 0 < 1; decide
  | succ n ih =>
    intro h
    have h1 := ih fun i hi => h i (by omega)
    have h2 := h n (Nat.lt_succ_self _)
    show 27 * vg f n + (f n - 96) < 27 ^ (n + 1)
    rw [Nat.pow_succ]
    omega
theorem vg_6 {f : Nat → Nat} {n : Nat} (hn : n ≤ 6) (h : ∀ i, i < n → letT (f i)) : vg f n < 387420489 := Nat.lt_of_lt_of_le (vg_lt n h) (by
  have := Nat.pow_le_pow_right (show 0 < 27 by decide) hn
  omega)
theorem vg_eq {f g : Nat → Nat} : ∀ n, (∀ i, i < n → f i = g i) → vg f n = vg g n := by
  intro n
  induction n with
  | zero => intro _; rfl
  | succ n ih =>
    intro h
    show 27 * vg f n + (f n - 96) = 27 * vg g n + (g n - 96)
    rw [ih fun i hi => h i (by omega), h n (Nat.lt_succ_self _)]
/-- the letters from a on are letters -/
theorem letE_in {x : Txt} : ∀ (f a i : Nat), a ≤ i → i < letE x f a → letT (chT x i) := by
  intro f
  induction f with
  | zero => intro a i h1 h2; have h2 : i < a := h2; omega
  | succ f ih =>
    intro a i h1 h2
    have eF : letE x (f + 1) a = if letT (chT x a) then letE x f (a + 1) else a := rfl
    rw [eF] at h2
    by_cases e : letT (chT x a)
    · rw [if_pos e] at h2
      by_cases e2 : i = a
      · rw [e2]; exact e
      · exact ih (a + 1) i (by omega) h2
    · rw [if_neg e] at h2; omega
theorem letE_end {x : Txt} : ∀ (f a : Nat), x.2 - a ≤ f → ¬ letT (chT x (letE x f a)) := by
  intro f
  induction f with
  | zero => intro a h; show ¬ letT (chT x a); rw [chT_end (by omega)]; decide
  | succ f ih =>
    intro a h
    have eF : letE x (f + 1) a = if letT (chT x a) then letE x f (a + 1) else a := rfl
    rw [eF]
    by_cases e : letT (chT x a)
    · rw [if_pos e]; exact ih (a + 1) (by omega)
    · rw [if_neg e]; exact e
theorem ltE_le {x : Txt} {a : Nat} (h : a ≤ x.2) : a ≤ ltE x a ∧ ltE x a ≤ x.2 := letE_le _ a rfl h
theorem ltE_in {x : Txt} {a i : Nat} (h1 : a ≤ i) (h2 : i < ltE x a) : letT (chT x i) := letE_in _ a i h1 h2
theorem ltE_end {x : Txt} {a : Nat} : ¬ letT (chT x (ltE x a)) := letE_end _ a (Nat.le_refl _)
/-- by 27s what stands at a, of six letters at most; else -1 -/
def wdV (x : Txt) (a : Nat) : Int32 := if ltE x a - a ≤ 6 then nI (vg (fun i => chT x (a + i)) (ltE x a - a)) else -1
theorem R_wordL {x : Txt} {a : Nat} {μ : Mem} (t : TmA μ x a) : ∀ (f i fu : Nat), f + i = ltE x a - a → f < fu → mX12_wordHere_8 fu 125 (nI (vg (fun i => chT x (a + i)) (min i 6))) (nI i) μ = some (wdV x a, μ) := by
  have ha := t.2.2.2.2
  have hx := t.1.2.2.1
  obtain ⟨l1, l2⟩ := ltE_le ha
  intro f
  induction f with
  | zero =>
    intro i fu hi hf
    obtain ⟨fu, rfl⟩ : ∃ q, fu = q + 1 := ⟨fu - 1, by omega⟩
    have hi : i = ltE x a - a := by omega
    have ec : a + i = ltE x a := by omega
    have he : ¬ letT (chT x (a + i)) := by rw [ec]; exact ltE_end
    rw [mX12_wordHere_8, t.2.2.2.1, nI_add, R_byte t.1 (by omega), ob, R_isSmall, ob, if_neg he, if_pos rfl]
    unfold wdV
    rw [← hi]
    by_cases h6 : i ≤ 6
    · rw [if_pos (show nI i ≤ (6 : Int32) from nI_le (b := 6) h6 (by decide)), if_pos h6, Nat.min_eq_left h6]
    · rw [if_neg (show ¬ nI i ≤ (6 : Int32) from nI_ge (a := 6) (by omega) (by omega)), if_neg h6]
  | succ f ih =>
    intro i fu hi hf
    obtain ⟨fu, rfl⟩ : ∃ q, fu = q + 1 := ⟨fu - 1, by omega⟩
    have hl : letT (chT x (a + i)) := ltE_in (a := a) (by omega) (by omega)
    have hc : chI x (a + i) = nI (chT x (a + i)) := if_pos (by omega)
    rw [mX12_wordHere_8, t.2.2.2.1, nI_add, R_byte t.1 (by omega), ob, R_isSmall, ob, if_pos hl, if_neg (by decide), ← nI_succ]
    by_cases h6 : 6 ≤ i
    · rw [if_pos (show (6 : Int32) ≤ nI i from nI_le (a := 6) h6 (by omega)), Nat.min_eq_right h6]
      have := ih (i + 1) fu (by omega) (by omega)
      rw [Nat.min_eq_right (by omega)] at this
      exact this
    · rw [if_neg (show ¬ (6 : Int32) ≤ nI i from nI_ge (b := 6) (by omega) (by decide)), t.2.2.2.1, nI_add, R_byte t.1 (by omega), ob, hc, Nat.min_eq_left (by omega)]
      have ev : ((((27 : Int32) * nI (vg (fun i => chT x (a + i)) i)) + nI (chT x (a + i))) - (97 : Int32)) + (1 : Int32) = nI (vg (fun i => chT x (a + i)) (i + 1)) := by
        obtain ⟨h1, h2⟩ := hl
        rw [show (27 : Int32) = nI 27 from rfl, nI_mul, nI_add, show (97 : Int32) = nI 97 from rfl, nI_sub (by omega), ← nI_succ]
        congr 1
        show 27 * vg (fun i => chT x (a + i)) i + chT x (a + i) - 97 + 1 = 27 * vg (fun i => chT x (a + i)) i + (chT x (a + i) - 96)
        omega
      rw [ev]
      have := ih (i + 1) fu (by omega) (by omega)
      rw [Nat.min_eq_left (by omega)] at this
      exact this
theorem R_wordHere {x : Txt} {a : Nat} {μ : Mem} (t : TmA μ x a) : ∃ μ' : Mem, LX12_wordHere 125 μ = some (wdV x (sk x a), μ') ∧ OF tF nS μ μ' ∧ TmA μ' x (sk x a) ∧ (sk x a = a → μ' = μ) := by
  unfold LX12_wordHere
  rw [if_pos t.1.1.1]
  obtain ⟨μ1, e1, o1, t1⟩ := R_blanks t
  rw [e1, ob]
  have e2 : mX12_wordHere_8 100000 125 (0 : Int32) (0 : Int32) μ1 = _ := R_wordL t1 (ltE x (sk x a) - sk x a) 0 100000 rfl (by
    have := (ltE_le t1.2.2.2.2).2
    have := t1.1.2.2.1
    omega)
  rw [e2]
  refine ⟨μ1, rfl, o1, t1, fun h => ?_⟩
  rw [R_blanks0 t h] at e1
  exact ((Prod.mk.inj (Option.some.inj e1)).2).symm
/-- a word of the document: letters, six at most -/
def WdS (w : List Nat) : Prop := w.length ≤ 6 ∧ ∀ i, i < w.length → letT (w.getD i 0)
theorem wdV_eq {x : Txt} {a : Nat} {w : List Nat} (hw : WdS w) : wdV x a = nI (vg (fun i => w.getD i 0) w.length) ↔ isW x a (ltE x a) w := by
  obtain ⟨w1, w2⟩ := hw
  have b1 := vg_6 (f := fun i => w.getD i 0) w1 w2
  unfold wdV
  by_cases h6 : ltE x a - a ≤ 6
  · rw [if_pos h6]
    have l2 : ∀ i, i < ltE x a - a → letT (chT x (a + i)) := fun i hi => ltE_in (a := a) (by omega) (by omega)
    have b2 := vg_6 (f := fun i => chT x (a + i)) h6 l2
    rw [nI_eq (by omega) (by omega)]
    constructor
    · intro h
      obtain ⟨q1, q2⟩ := vg_inj _ _ l2 w2 h
      exact ⟨q1.symm, fun i hi => q2 i (by omega)⟩
    · rintro ⟨q1, q2⟩
      rw [← q1]
      exact vg_eq _ fun i hi => q2 i hi
  · rw [if_neg h6]
    constructor
    · intro h
      exact absurd h.symm (nI_nm1 (by omega))
    · rintro ⟨q1, q2⟩
      omega
def wdD (c : Cur) : Prop := match c with
  | .inl _ => False
  | .inr _ => True
/-- whether a word stands there -/
def isV (x : Txt) (w : List Nat) (c : Cur) : Int32 := match c with
  | .inl _ => 0
  | .inr a => if isW x a (ltE x a) w then 1 else 0
/-- six numbers that say a word -/
def SixW (d1 d2 d3 d4 d5 d6 : Int32) (w : List Nat) : Prop := WdS w ∧ ∀ μ, LX12_six d1 d2 d3 d4 d5 d6 μ = some (nI (vg (fun i => w.getD i 0) w.length), μ)
theorem R_isWord {x : Txt} {c : Cur} {w : List Nat} {d1 d2 d3 d4 d5 d6 : Int32} {μ : Mem} (hs : SixW d1 d2 d3 d4 d5 d6 w) (t : TmR μ x c) : ∃ μ' : Mem, LX12_isWord 125 d1 d2 d3 d4 d5 d6 μ = some (isV x w c, μ') ∧ OF tF nS μ μ' ∧ TmR μ' x c ∧ ∀ a, c = .inr a → TmA μ' x a := by
  unfold LX12_isWord
  rw [if_pos t.1.1.1]
  cases c with
  | inl e =>
    obtain ⟨q1, q2⟩ := TmB.err t rfl
    rw [q1, if_neg q2]
    exact ⟨μ, rfl, OF.rf, t, fun a ha => nomatch ha⟩
  | inr a =>
    obtain ⟨b, tb, hb⟩ := t.2
    rw [tb.2.1, if_pos rfl]
    obtain ⟨μ1, e1, o1, t1, -⟩ := R_wordHere tb
    rw [hb] at e1 t1
    rw [e1, ob, hs.2, ob]
    have tt : TmR μ1 x (.inr a) := t1.rs (by rw [← hb]; exact sk_sk)
    show ∃ μ' : Mem, _ = some (if isW x a (ltE x a) w then 1 else 0, μ') ∧ _
    by_cases h : isW x a (ltE x a) w
    · rw [if_pos ((wdV_eq hs.1).mpr h), if_pos h]
      exact ⟨μ1, rfl, o1, tt, fun a' ha => by cases ha; exact t1⟩
    · rw [if_neg (fun z => h ((wdV_eq hs.1).mp z)), if_neg h]
      exact ⟨μ1, rfl, o1, tt, fun a' ha => by cases ha; exact t1⟩
/-- once blanks are passed over, nothing is written -/
theorem R_isWord0 {x : Txt} {a : Nat} {w : List Nat} {d1 d2 d3 d4 d5 d6 : Int32} {μ : Mem} (hs : SixW d1 d2 d3 d4 d5 d6 w) (t : TmA μ x a) (h0 : sk x a = a) : LX12_isWord 125 d1 d2 d3 d4 d5 d6 μ = some (if isW x a (ltE x a) w then 1 else 0, μ) := by
  unfold LX12_isWord
  rw [if_pos t.1.1.1, t.2.1, if_pos rfl]
  obtain ⟨μ1, e1, o1, t1, e0⟩ := R_wordHere t
  have e0 := e0 h0
  subst e0
  rw [h0] at e1
  rw [e1, ob, hs.2, ob]
  by_cases h : isW x a (ltE x a) w
  · rw [if_pos ((wdV_eq hs.1).mpr h), if_pos h]
  · rw [if_neg (fun z => h ((wdV_eq hs.1).mp z)), if_neg h]
theorem R_isWordE {x : Txt} {e : Nat × Nat} {d1 d2 d3 d4 d5 d6 : Int32} {μ : Mem} (t : TmR μ x (.inl e)) : LX12_isWord 125 d1 d2 d3 d4 d5 d6 μ = some (0, μ) := by
  unfold LX12_isWord
  obtain ⟨q1, q2⟩ := TmB.err t rfl
  rw [if_pos t.1.1.1, q1, if_neg q2]
theorem R_skipL {x : Txt} {a e : Nat} (hl : ∀ i, a ≤ i → i < e → letT (chT x i)) (he : ¬ letT (chT x e)) (hx : e ≤ x.2) : ∀ (f i fu : Nat) (μ : Mem), TmA μ x i → a ≤ i → f + i = e → f < fu → ∃ μ' : Mem, mX12_skipWord_0 fu 125 μ = some ((), μ') ∧ OF tF nS μ μ' ∧ TmA μ' x e := by
  intro f
  induction f with
  | zero =>
    intro i fu μ t ha hi hf
    obtain ⟨fu, rfl⟩ : ∃ q, fu = q + 1 := ⟨fu - 1, by omega⟩
    have hi : i = e := by omega
    subst hi
    have hx := t.1.2.2.1
    rw [mX12_skipWord_0, t.2.2.2.1, R_byte t.1 (by omega), ob, R_isSmall, ob, if_neg he, if_pos rfl]
    exact ⟨μ, rfl, OF.rf, t⟩
  | succ f ih =>
    intro i fu μ t ha hi hf
    obtain ⟨fu, rfl⟩ : ∃ q, fu = q + 1 := ⟨fu - 1, by omega⟩
    have hx := t.1.2.2.1
    rw [mX12_skipWord_0, t.2.2.2.1, R_byte t.1 (by omega), ob, R_isSmall, ob, if_pos (hl i ha (by omega)), if_neg (by decide), t.2.2.2.1, ← nI_succ]
    obtain ⟨μ', e1, o1, t1⟩ := ih (i + 1) fu (p_I μ 125 4 (nI (i + 1))) (t.go (by omega)) (by omega) (by omega) (by omega)
    exact ⟨μ', e1, (OF.rf.p0 (Or.inl rfl)).tr o1, t1⟩
theorem R_skipWord {x : Txt} {a : Nat} {μ : Mem} (t : TmA μ x a) : ∃ μ' : Mem, LX12_skipWord 125 μ = some ((), μ') ∧ OF tF nS μ μ' ∧ TmA μ' x (ltE x a) := by
  unfold LX12_skipWord
  rw [if_pos t.1.1.1]
  obtain ⟨l1, l2⟩ := ltE_le t.2.2.2.2
  have hx := t.1.2.2.1
  exact R_skipL (a := a) (fun i h1 h2 => ltE_in h1 h2) ltE_end l2 (ltE x a - a) a 100000 μ t (Nat.le_refl _) (by omega) (by omega)
-- the words
theorem sixP : SixW 16 5 14 0 0 0 [112, 101, 110] := ⟨by unfold WdS; decide, fun μ => by rfl⟩
theorem sixWi : SixW 23 9 18 5 0 0 [119, 105, 114, 101] := ⟨by unfold WdS; decide, fun μ => by rfl⟩
theorem sixSh : SixW 19 8 5 5 20 0 [115, 104, 101, 101, 116] := ⟨by unfold WdS; decide, fun μ => by rfl⟩
theorem sixOut : SixW 15 21 20 0 0 0 [111, 117, 116] := ⟨by unfold WdS; decide, fun μ => by rfl⟩
theorem sixLoss : SixW 12 15 19 19 0 0 [108, 111, 115, 115] := ⟨by unfold WdS; decide, fun μ => by rfl⟩
theorem sixMany : SixW 13 1 14 25 0 0 [109, 97, 110, 121] := ⟨by unfold WdS; decide, fun μ => by rfl⟩
theorem sixDay : SixW 4 1 25 0 0 0 [100, 97, 121] := ⟨by unfold WdS; decide, fun μ => by rfl⟩
theorem sixMul : SixW 13 21 12 0 0 0 [109, 117, 108] := ⟨by unfold WdS; decide, fun μ => by rfl⟩
theorem sixDiv : SixW 4 9 22 0 0 0 [100, 105, 118] := ⟨by unfold WdS; decide, fun μ => by rfl⟩
theorem sixLeast : SixW 12 5 1 19 20 0 [108, 101, 97, 115, 116] := ⟨by unfold WdS; decide, fun μ => by rfl⟩
theorem sixMost : SixW 13 15 19 20 0 0 [109, 111, 115, 116] := ⟨by unfold WdS; decide, fun μ => by rfl⟩
theorem sixRead : SixW 18 5 1 4 0 0 [114, 101, 97, 100] := ⟨by unfold WdS; decide, fun μ => by rfl⟩
theorem sixBelow : SixW 2 5 12 15 23 0 [98, 101, 108, 111, 119] := ⟨by unfold WdS; decide, fun μ => by rfl⟩
theorem sixHear : SixW 8 5 1 18 0 0 [104, 101, 97, 114] := ⟨by unfold WdS; decide, fun μ => by rfl⟩
theorem sixWipe : SixW 23 9 16 5 0 0 [119, 105, 112, 101] := ⟨by unfold WdS; decide, fun μ => by rfl⟩
theorem sixTear : SixW 20 5 1 18 0 0 [116, 101, 97, 114] := ⟨by unfold WdS; decide, fun μ => by rfl⟩
theorem sixLay : SixW 12 1 25 0 0 0 [108, 97, 121] := ⟨by unfold WdS; decide, fun μ => by rfl⟩
theorem sixCopy : SixW 3 15 16 25 0 0 [99, 111, 112, 121] := ⟨by unfold WdS; decide, fun μ => by rfl⟩
theorem sixTune : SixW 20 21 14 5 0 0 [116, 117, 110, 101] := ⟨by unfold WdS; decide, fun μ => by rfl⟩
theorem sixAgain : SixW 1 7 1 9 14 0 [97, 103, 97, 105, 110] := ⟨by unfold WdS; decide, fun μ => by rfl⟩
/-- what kind of CLAUSE, of STEP stands there -/
def oneV (o : Option Nat) : Int32 := match o with
  | some k => nI k
  | none => -1
def kindV (x : Txt) (ws : List (List Nat)) (c : Cur) : Int32 := match c with
  | .inl _ => -1
  | .inr a => oneV (wordIx x a (ltE x a) ws 0)
theorem R_kindHere {x : Txt} {c : Cur} {μ : Mem} (t : TmR μ x c) : ∃ μ' : Mem, LX12_kindHere 125 μ = some (kindV x W0 c, μ') ∧ OF tF nS μ μ' ∧ TmR μ' x c ∧ ∀ a, c = .inr a → TmA μ' x a := by
  unfold LX12_kindHere
  rw [if_pos t.1.1.1]
  obtain ⟨μ1, e1, o1, t1, g1⟩ := R_isWord sixP t
  rw [e1, ob]
  cases c with
  | inl e =>
    rw [show isV x [112, 101, 110] (.inl e) = 0 from rfl, if_pos rfl, R_isWordE t1, ob, if_pos rfl, R_isWordE t1, ob, if_pos rfl]
    exact ⟨μ1, rfl, o1, t1, g1⟩
  | inr a =>
    have ta := g1 a rfl
    obtain ⟨b, tb, hb⟩ := t.2
    have h0 : sk x a = a := by rw [← hb]; exact sk_sk
    rw [R_isWord0 sixWi ta h0, ob, R_isWord0 sixSh ta h0, ob]
    show ∃ μ' : Mem, (if (if isW x a (ltE x a) [112, 101, 110] then (1 : Int32) else 0) = 0 then _ else _) = some (oneV (if isW x a (ltE x a) [112, 101, 110] then some 0 else if isW x a (ltE x a) [119, 105, 114, 101] then some 1 else if isW x a (ltE x a) [115, 104, 101, 101, 116] then some 2 else none), μ') ∧ _
    refine ⟨μ1, ?_, o1, t1, g1⟩
    by_cases h1 : isW x a (ltE x a) [112, 101, 110]
    · rw [if_pos h1, if_pos h1, if_neg (by decide)]; rfl
    rw [if_neg h1, if_neg h1, if_pos rfl]
    by_cases h2 : isW x a (ltE x a) [119, 105, 114, 101]
    · rw [if_pos h2, if_pos h2, if_neg (by decide)]; rfl
    rw [if_neg h2, if_neg h2, if_pos rfl]
    by_cases h3 : isW x a (ltE x a) [115, 104, 101, 101, 116]
    · rw [if_pos h3, if_pos h3, if_neg (by decide)]; rfl
    rw [if_neg h3, if_neg h3, if_pos rfl]; rfl
theorem is01 {c : Prop} [Decidable c] {α : Type} {A B : α} : (if (if c then (1 : Int32) else 0) = 0 then A else B) = if c then B else A := by
  by_cases h : c
  · rw [if_pos h, if_pos h, if_neg (by decide)]
  · rw [if_neg h, if_neg h, if_pos rfl]
theorem R_stepHere {x : Txt} {c : Cur} {μ : Mem} (t : TmR μ x c) : ∃ μ' : Mem, LX12_stepHere 125 μ = some (kindV x W2 c, μ') ∧ OF tF nS μ μ' ∧ TmR μ' x c ∧ ∀ a, c = .inr a → TmA μ' x a := by
  unfold LX12_stepHere
  rw [if_pos t.1.1.1]
  obtain ⟨μ1, e1, o1, t1, g1⟩ := R_isWord sixRead t
  rw [e1, ob]
  cases c with
  | inl e =>
    rw [show isV x [114, 101, 97, 100] (.inl e) = 0 from rfl]
    simp only [R_isWordE t1, ob, if_pos]
    exact ⟨μ1, rfl, o1, t1, g1⟩
  | inr a =>
    have ta := g1 a rfl
    obtain ⟨b, tb, hb⟩ := t.2
    have h0 : sk x a = a := by rw [← hb]; exact sk_sk
    refine ⟨μ1, ?_, o1, t1, g1⟩
    rw [show isV x [114, 101, 97, 100] (.inr a) = if isW x a (ltE x a) [114, 101, 97, 100] then 1 else 0 from rfl]
    simp only [R_isWord0 sixBelow ta h0, R_isWord0 sixHear ta h0, R_isWord0 sixWipe ta h0, R_isWord0 sixTear ta h0, R_isWord0 sixLay ta h0, R_isWord0 sixCopy ta h0, R_isWord0 sixTune ta h0, R_isWord0 sixDay ta h0, R_isWord0 sixAgain ta h0, ob, is01]
    show _ = some (oneV (if isW x a (ltE x a) [114, 101, 97, 100] then some 0 else if isW x a (ltE x a) [98, 101, 108, 111, 119] then some 1 else if isW x a (ltE x a) [104, 101, 97, 114] then some 2 else if isW x a (ltE x a) [119, 105, 112, 101] then some 3 else if isW x a (ltE x a) [116, 101, 97, 114] then some 4 else if isW x a (ltE x a) [108, 97, 121] then some 5 else if isW x a (ltE x a) [99, 111, 112, 121] then some 6 else if isW x a (ltE x a) [116, 117, 110, 101] then some 7 else if isW x a (ltE x a) [100, 97, 121] then some 8 else if isW x a (ltE x a) [97, 103, 97, 105, 110] then some 9 else none), μ1)
    repeat' split
    all_goals rfl
