/-! ===== BOOK: what it says; the class reads it ===== -/
def bookF (x : Txt) : Nat → Cur → List (Nat × Nat) → Cur × List (Nat × Nat)
  | 0, c, l => (c, l)
  | f + 1, c, l => match c with
    | .inl e => (.inl e, l)
    | .inr a => if a < x.2 then (match numF x 9999 a with
      | .inl e => (.inl e, l)
      | .inr v => if l.length < 6 then (match numF x 9999999 v.2 with
        | .inl e => (.inl e, l)
        | .inr w => bookF x f (needF x 59 (.inr w.2)) (l ++ [(v.1, w.1)])) else (.inl (3, a), l)) else (.inr a, l)
def BkS (μ : Mem) (h : Nat) : Prop := isK μ h 0 = true ∧ g_R μ h 0 = h + 1 ∧ g_R μ h 1 = h + 2 ∧ isK μ (h + 1) 15 = true ∧ isK μ (h + 2) 15 = true ∧ g_N μ (h + 1) = 6 ∧ g_N μ (h + 2) = 6
theorem BkS.sh {μ ν : Mem} {h : Nat} (s : BkS μ h) (e : Sh μ ν) : BkS ν h := by
  unfold BkS
  rw [sh_isK e, sh_gR e, sh_gN e]
  exact s
def BkR (μ : Mem) (h : Nat) (l : List (Nat × Nat)) : Prop := g_I μ h 2 = nI l.length ∧ l.length ≤ 6 ∧ ∀ i, i < l.length → g_I μ (h + 1) i = nI (l.getD i (0, 0)).1 ∧ g_I μ (h + 2) i = nI (l.getD i (0, 0)).2
theorem BkR.fr {μ ν : Mem} {h : Nat} {l : List (Nat × Nat)} (r : BkR μ h l) (e : g_I ν h = g_I μ h ∧ g_I ν (h + 1) = g_I μ (h + 1) ∧ g_I ν (h + 2) = g_I μ (h + 2)) : BkR ν h l := by
  unfold BkR
  rw [e.1, e.2.1, e.2.2]
  exact r
theorem getD_appP {l r : List (Nat × Nat)} {i : Nat} (h : i < l.length) : (l ++ r).getD i (0, 0) = l.getD i (0, 0) := by
  rw [List.getD_eq_getElem?_getD, List.getD_eq_getElem?_getD, List.getElem?_append_left h]
theorem getD_lastP {l : List (Nat × Nat)} {v : Nat × Nat} : (l ++ [v]).getD l.length (0, 0) = v := by
  rw [List.getD_eq_getElem?_getD, List.getElem?_append_right (by omega), Nat.sub_self]
  rfl
def inBk (tp h : Nat) : Nat → Prop := fun z => z = tp ∨ z = h ∨ z = h + 1 ∨ z = h + 2
theorem X0_parseL {tp h : Nat} {x : Txt} (hd : tp + 2 ≤ h ∨ h + 3 ≤ tp) : ∀ (f i fu : Nat) (c : Cur) (l : List (Nat × Nat)) (μ : Mem), f + i = 7 → f < fu → BkS μ h → TpR μ tp x c → (∀ a, c = .inr a → i = l.length ∧ BkR μ h l) →
    ∃ μ' : Mem, mX0_parse_7 fu h tp (nI i) μ = some ((), μ') ∧ Out (inBk tp h) μ μ' ∧ TpR μ' tp x (bookF x f c l).1 ∧ ∀ a, (bookF x f c l).1 = .inr a → BkR μ' h (bookF x f c l).2 := by
  intro f
  induction f with
  | zero =>
    intro i fu c l μ hi hfu s t hc
    obtain ⟨fu, rfl⟩ : ∃ q, fu = q + 1 := ⟨fu - 1, by omega⟩
    rw [mX0_parse_7, if_pos (show (6 : Int32) < nI i from nI_lt (a := 6) (by omega) (by omega))]
    exact ⟨μ, rfl, Out.rf, t, fun a ha => (hc a ha).2⟩
  | succ f ih =>
    intro i fu c l μ hi hfu s t hc
    obtain ⟨fu, rfl⟩ : ∃ q, fu = q + 1 := ⟨fu - 1, by omega⟩
    rw [mX0_parse_7, if_neg (show ¬ (6 : Int32) < nI i from nI_nlt (a := 6) (by omega) (by decide))]
    obtain ⟨μ1, e1, o1, t1, g1⟩ := X9_more t
    have o1' : Out (inBk tp h) μ μ1 := o1.mo fun z hz => Or.inl hz
    rw [e1, ob]
    cases c with
    | inl e =>
      rw [if_pos (show moreF x (.inl e) = 0 from rfl)]
      exact ⟨μ1, rfl, o1', t1, fun a ha => nomatch ha⟩
    | inr a =>
      obtain ⟨hil, hr⟩ := hc a rfl
      have hr1 : BkR μ1 h l := hr.fr ⟨(o1.2 h (by omega)).1, (o1.2 (h + 1) (by omega)).1, (o1.2 (h + 2) (by omega)).1⟩
      by_cases ha : a < x.2
      · rw [show moreF x (.inr a) = 1 from if_pos ha, if_neg (by decide)]
        obtain ⟨μ2, z, e2, o2, t2, g2⟩ := X9_number (most := 9999) t1
        have hr2 : BkR μ2 h l := hr1.fr ⟨(o2.2 h (by omega)).1, (o2.2 (h + 1) (by omega)).1, (o2.2 (h + 2) (by omega)).1⟩
        have s2 : BkS μ2 h := (s.sh o1.1).sh o2.1
        have o2' : Out (inBk tp h) μ μ2 := o1'.tr (o2.mo fun z hz => Or.inl hz)
        obtain ⟨k0, k1, k2, k3, k4, k5, k6⟩ := id s2
        have t2 : TpR μ2 tp x (numC (numF x 9999 a)) := t2
        rw [e2, ob, hr2.1]
        have eF : bookF x (f + 1) (.inr a) l = (match numF x 9999 a with
          | .inl e => (.inl e, l)
          | .inr v => if l.length < 6 then (match numF x 9999999 v.2 with
            | .inl e => (.inl e, l)
            | .inr w => bookF x f (needF x 59 (.inr w.2)) (l ++ [(v.1, w.1)])) else (.inl (3, a), l)) := if_pos ha
        rw [eF]
        by_cases hl : l.length < 6
        · rw [if_pos (show nI l.length < (6 : Int32) from nI_lt hl (by decide)), k1, if_pos (isK_p k3), if_pos (inA_n k3 k5 hl (by decide)), k2, if_pos (isK_p k4), nI_clamp (n := l.length) (by omega)]
          obtain ⟨ν, hν⟩ : ∃ ν, ν = p_I μ2 (h + 1) l.length z := ⟨_, rfl⟩
          rw [← hν]
          have oν : Out (fun z => z = h + 1) μ2 ν := by rw [hν]; exact (Out.rf (S := fun z => z = h + 1)).pI rfl
          have tν : TpR ν tp x (numC (numF x 9999 a)) := t2.fr oν (by omega) (by omega)
          obtain ⟨μ3, y, e3, o3, t3, g3⟩ := X9_number (most := 9999999) tν
          have s3 : BkS μ3 h := (s2.sh oν.1).sh o3.1
          have i2 : g_I μ3 h 2 = nI l.length := by rw [(o3.2 h (by omega)).1, (oν.2 h (by omega)).1]; exact hr2.1
          have i2' : g_I ν h 2 = nI l.length := by rw [(oν.2 h (by omega)).1]; exact hr2.1
          rw [e3, ob, i2', if_pos (inA_n s3.2.2.2.2.1 s3.2.2.2.2.2.2 hl (by decide)), nI_clamp (n := l.length) (by omega)]
          have i5 : g_I (p_I μ3 (h + 2) l.length y) h 2 = nI l.length := by rw [gI_h (by omega)]; exact i2
          rw [i5, ← nI_succ]
          obtain ⟨ρ, hρ⟩ : ∃ ρ, ρ = p_I (p_I μ3 (h + 2) l.length y) h 2 (nI (l.length + 1)) := ⟨_, rfl⟩
          rw [← hρ]
          have oρ : Out (fun z => z = h ∨ z = h + 2) μ3 ρ := by rw [hρ]; exact ((Out.rf (S := fun z => z = h ∨ z = h + 2)).pI (Or.inr rfl)).pI (Or.inl rfl)
          obtain ⟨μ4, e4, o4, t4⟩ := X9_need (k := 59) (t3.fr oρ (by omega) (by omega)) (by decide)
          have e4 : LX9_need tp (59 : Int32) ρ = some ((), μ4) := e4
          rw [e4, ob, ← nI_succ]
          have o4' : Out (inBk tp h) μ μ4 := ((o2'.tr (oν.mo fun z hz => Or.inr (Or.inr (Or.inl hz)))).tr ((o3.mo fun z hz => Or.inl hz).tr (oρ.mo fun z hz => hz.elim (fun q => Or.inr (Or.inl q)) (fun q => Or.inr (Or.inr (Or.inr q)))))).tr (o4.mo fun z hz => Or.inl hz)
          have s4 : BkS μ4 h := (s3.sh oρ.1).sh o4.1
          -- a FAULT on the way
          have bad : ∀ e, TpR μ4 tp x (.inl e) → ∃ μ' : Mem, mX0_parse_7 fu h tp (nI (i + 1)) μ4 = some ((), μ') ∧ Out (inBk tp h) μ μ' ∧ TpR μ' tp x (.inl e) ∧ ∀ a, (Sum.inl e : Cur) = .inr a → BkR μ' h l := by
            intro e te
            obtain ⟨μ5, e5, o5, t5, g5⟩ := ih (i + 1) fu (.inl e) l μ4 (by omega) (by omega) s4 te (fun a ha => nomatch ha)
            have eE : ∀ f, (bookF x f (.inl e) l).1 = .inl e := fun f => by cases f <;> rfl
            rw [eE] at t5
            exact ⟨μ5, e5, o4'.tr o5, t5, fun a ha => nomatch ha⟩
          cases hv : numF x 9999 a with
          | inl e =>
            rw [hv] at t4
            exact bad e t4
          | inr v =>
            rw [hv] at t4 g3
            show ∃ μ', _ ∧ _ ∧ TpR μ' tp x (if l.length < 6 then (match numF x 9999999 v.2 with
            | .inl e => (.inl e, l)
            | .inr w => bookF x f (needF x 59 (.inr w.2)) (l ++ [(v.1, w.1)])) else (.inl (3, a), l)).1 ∧ ∀ b, (if l.length < 6 then (match numF x 9999999 v.2 with
            | .inl e => (.inl e, l)
            | .inr w => bookF x f (needF x 59 (.inr w.2)) (l ++ [(v.1, w.1)])) else (.inl (3, a), l)).1 = .inr b → BkR μ' h (if l.length < 6 then (match numF x 9999999 v.2 with
            | .inl e => (.inl e, l)
            | .inr w => bookF x f (needF x 59 (.inr w.2)) (l ++ [(v.1, w.1)])) else (.inl (3, a), l)).2
            rw [if_pos hl]
            have t4 : TpR μ4 tp x (needF x 59 (numC (numF x 9999999 v.2))) := t4
            cases hw : numF x 9999999 v.2 with
            | inl e =>
              rw [hw] at t4
              exact bad e t4
            | inr w =>
              rw [hw] at t4
              obtain ⟨g6, g7⟩ := g2 a v.1 v.2 rfl hv
              obtain ⟨g8, g9⟩ := g3 v.2 w.1 w.2 rfl hw
              have hr4 : BkR μ4 h (l ++ [(v.1, w.1)]) := by
                refine ⟨by rw [(o4.2 h (by omega)).1, hρ, gI_s, List.length_append]; rfl, by rw [List.length_append]; simp; omega, fun k hk => ?_⟩
                rw [List.length_append] at hk
                have hk : k < l.length + 1 := hk
                rw [(o4.2 (h + 1) (by omega)).1, (o4.2 (h + 2) (by omega)).1, (oρ.2 (h + 1) (by omega)).1, (o3.2 (h + 1) (by omega)).1, hρ, gI_h (by omega), hν]
                by_cases ek : k = l.length
                · rw [ek, gI_s, gI_s, getD_lastP, g6, g8]; exact ⟨rfl, rfl⟩
                · rw [gI_k ek, gI_k ek, getD_appP (by omega)]
                  obtain ⟨q1, q2⟩ := hr2.2.2 k (by omega)
                  have q3 : g_I μ3 (h + 2) = g_I μ2 (h + 2) := by rw [(o3.2 (h + 2) (by omega)).1, (oν.2 (h + 2) (by omega)).1]
                  rw [q3]
                  exact ⟨q1, q2⟩
              obtain ⟨μ5, e5, o5, t5, g5⟩ := ih (i + 1) fu (needF x 59 (.inr w.2)) (l ++ [(v.1, w.1)]) μ4 (by omega) (by omega) s4 t4 (fun b hb => ⟨by rw [List.length_append, hil]; rfl, hr4⟩)
              exact ⟨μ5, e5, o4'.tr o5, t5, g5⟩
        · rw [if_neg (show ¬ nI l.length < (6 : Int32) from nI_nlt (b := 6) (by omega) (by have := hr2.2.1; omega))]
          cases hv : numF x 9999 a with
          | inl e =>
            rw [hv] at t2
            have t2 : TpR μ2 tp x (.inl e) := t2
            rw [(fail_err (k := 0) (p := 4) t2 3).1, ob]
            exact ⟨μ2, rfl, o2', t2, fun b hb => nomatch hb⟩
          | inr v =>
            rw [hv] at t2
            obtain ⟨g6, g7⟩ := g2 a v.1 v.2 rfl hv
            rw [g7]
            obtain ⟨μ3, e3, o3, t3⟩ := X9_fail (k := 3) (p := a) t2 (by decide) (by decide)
            have e3 : LX9_fail tp (3 : Int32) (nI a) μ2 = some ((), μ3) := e3
            rw [e3, ob]
            show ∃ μ', _ ∧ _ ∧ TpR μ' tp x (if l.length < 6 then (match numF x 9999999 v.2 with
            | .inl e => (.inl e, l)
            | .inr w => bookF x f (needF x 59 (.inr w.2)) (l ++ [(v.1, w.1)])) else (.inl (3, a), l)).1 ∧ ∀ b, (if l.length < 6 then (match numF x 9999999 v.2 with
            | .inl e => (.inl e, l)
            | .inr w => bookF x f (needF x 59 (.inr w.2)) (l ++ [(v.1, w.1)])) else (.inl (3, a), l)).1 = .inr b → BkR μ' h (if l.length < 6 then (match numF x 9999999 v.2 with
            | .inl e => (.inl e, l)
            | .inr w => bookF x f (needF x 59 (.inr w.2)) (l ++ [(v.1, w.1)])) else (.inl (3, a), l)).2
            rw [if_neg hl]
            exact ⟨μ3, rfl, o2'.tr (o3.mo fun z hz => Or.inl hz), t3, fun b hb => nomatch hb⟩
      · rw [show moreF x (.inr a) = 0 from if_neg ha, if_pos rfl]
        have eF : bookF x (f + 1) (.inr a) l = (.inr a, l) := if_neg ha
        rw [eF]
        exact ⟨μ1, rfl, o1', t1, fun b hb => hr1⟩
theorem X0_parse {tp h : Nat} {x : Txt} {c : Cur} {μ : Mem} (hd : tp + 2 ≤ h ∨ h + 3 ≤ tp) (s : BkS μ h) (t : TpR μ tp x c) : ∃ μ' : Mem, LX0_parse h tp μ = some ((), μ') ∧ Out (inBk tp h) μ μ' ∧ TpR μ' tp x (bookF x 7 c []).1 ∧ ∀ a, (bookF x 7 c []).1 = .inr a → BkR μ' h (bookF x 7 c []).2 := by
  unfold LX0_parse
  rw [if_pos s.1, if_pos t.1.1]
  have o : Out (fun z => z = h) μ (p_I μ h 2 0) := (Out.rf (S := fun z => z = h)).pI rfl
  obtain ⟨μ', e1, o1, t1, g1⟩ := X0_parseL hd 7 0 100000 c [] (p_I μ h 2 0) rfl (by decide) (s.sh o.1) (t.fr o (by omega) (by omega)) (fun a ha => ⟨rfl, gI_s, Nat.zero_le _, fun i hi => absurd hi (Nat.not_lt_zero _)⟩)
  exact ⟨μ', e1, (o.mo fun z hz => Or.inr (Or.inl hz)).tr o1, t1, g1⟩
