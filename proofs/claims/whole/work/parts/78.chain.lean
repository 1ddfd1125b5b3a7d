/-! ===== CHAIN and BOOK: what they say; the class reads them ===== -/
def chainF (x : Txt) (most : Int32) : Nat → Cur → List Nat → Cur × List Nat
  | 0, c, l => (c, l)
  | f + 1, c, l => match c with
    | .inl e => (.inl e, l)
    | .inr a => if a < x.2 then (match numF x most a with
      | .inl e => (.inl e, l)
      | .inr v => if l.length < 12 then chainF x most f (needF x 59 (.inr v.2)) (l ++ [v.1]) else (.inl (3, a), l)) else (.inr a, l)
def ChS (μ : Mem) (h : Nat) : Prop := isK μ h 1 = true ∧ g_R μ h 0 = h + 1 ∧ isK μ (h + 1) 15 = true ∧ g_N μ (h + 1) = 12
theorem ChS.sh {μ ν : Mem} {h : Nat} (s : ChS μ h) (e : Sh μ ν) : ChS ν h := by
  unfold ChS
  rw [sh_isK e, sh_gR e, sh_gN e]
  exact s
def ChR (μ : Mem) (h : Nat) (l : List Nat) : Prop := g_I μ h 1 = nI l.length ∧ l.length ≤ 12 ∧ ∀ i, i < l.length → g_I μ (h + 1) i = nI (l.getD i 0)
theorem ChR.fr {μ ν : Mem} {h : Nat} {l : List Nat} (r : ChR μ h l) (e : g_I ν h = g_I μ h ∧ g_I ν (h + 1) = g_I μ (h + 1)) : ChR ν h l := by
  unfold ChR
  rw [e.1, e.2]
  exact r
theorem getD_last {l : List Nat} {v : Nat} : (l ++ [v]).getD l.length 0 = v := by
  have := getD_app2 (l := l) (r := [v]) (i := 0)
  exact this
theorem ChR.add {μ ν : Mem} {h v : Nat} {l : List Nat} (r : ChR μ h l) (hl : l.length < 12) (hν : ν = p_I (p_I μ (h + 1) l.length (nI v)) h 1 (nI (l.length + 1))) : ChR ν h (l ++ [v]) := by
  obtain ⟨r1, r2, r3⟩ := r
  subst hν
  refine ⟨by rw [gI_s, List.length_append]; rfl, by rw [List.length_append]; simp; omega, fun i hi => ?_⟩
  rw [List.length_append] at hi
  have hi : i < l.length + 1 := hi
  rw [gI_h (by omega)]
  by_cases e : i = l.length
  · rw [e, gI_s, getD_last]
  · rw [gI_k e, r3 i (by omega), getD_app (by omega)]
theorem fail_err {μ : Mem} {tp k p : Nat} {x : Txt} {e : Nat × Nat} (t : TpR μ tp x (.inl e)) (z : Int32) : LX9_fail tp z (g_I μ tp p) μ = some ((), μ) ∧ LX9_fail tp z (nI k) μ = some ((), μ) := by
  obtain ⟨c1, c2, c3, c4⟩ := t.2.2
  unfold LX9_fail
  rw [if_pos t.1.1, c1, if_neg (nI_ne0 c2 (by omega)), if_pos t.1.1, if_neg (nI_ne0 c2 (by omega))]
  exact ⟨rfl, rfl⟩
theorem X1_parseL {tp h np : Nat} {x : Txt} (hd : tp + 2 ≤ h ∨ h + 2 ≤ tp) : ∀ (f i fu : Nat) (c : Cur) (l : List Nat) (μ : Mem), f + i = 13 → f < fu → ChS μ h → TpR μ tp x c → (∀ a, c = .inr a → i = l.length ∧ ChR μ h l) →
    ∃ μ' : Mem, mX1_parse_7 fu h tp (nI np) (nI i) μ = some ((), μ') ∧ Out (fun z => z = tp ∨ z = h ∨ z = h + 1) μ μ' ∧ TpR μ' tp x (chainF x (nI np - 1) f c l).1 ∧ ∀ a, (chainF x (nI np - 1) f c l).1 = .inr a → ChR μ' h (chainF x (nI np - 1) f c l).2 := by
  intro f
  induction f with
  | zero =>
    intro i fu c l μ hi hfu s t hc
    obtain ⟨fu, rfl⟩ : ∃ q, fu = q + 1 := ⟨fu - 1, by omega⟩
    rw [mX1_parse_7, if_pos (show (12 : Int32) < nI i from nI_lt (a := 12) (by omega) (by omega))]
    exact ⟨μ, rfl, Out.rf, t, fun a ha => (hc a ha).2⟩
  | succ f ih =>
    intro i fu c l μ hi hfu s t hc
    obtain ⟨fu, rfl⟩ : ∃ q, fu = q + 1 := ⟨fu - 1, by omega⟩
    rw [mX1_parse_7, if_neg (show ¬ (12 : Int32) < nI i from nI_nlt (a := 12) (by omega) (by decide))]
    obtain ⟨μ1, e1, o1, t1, g1⟩ := X9_more t
    have o1' : Out (fun z => z = tp ∨ z = h ∨ z = h + 1) μ μ1 := o1.mo fun z hz => Or.inl hz
    rw [e1, ob]
    cases c with
    | inl e =>
      rw [if_pos (show moreF x (.inl e) = 0 from rfl)]
      exact ⟨μ1, rfl, o1', t1, fun a ha => nomatch ha⟩
    | inr a =>
      obtain ⟨hil, hr⟩ := hc a rfl
      have hr1 : ChR μ1 h l := hr.fr ⟨(o1.2 h (by omega)).1, (o1.2 (h + 1) (by omega)).1⟩
      by_cases ha : a < x.2
      · rw [show moreF x (.inr a) = 1 from if_pos ha, if_neg (by decide)]
        obtain ⟨μ2, z, e2, o2, t2, g2⟩ := X9_number (most := nI np - 1) t1
        have hr2 : ChR μ2 h l := hr1.fr ⟨(o2.2 h (by omega)).1, (o2.2 (h + 1) (by omega)).1⟩
        have s2 : ChS μ2 h := (s.sh o1.1).sh o2.1
        have o2' : Out (fun z => z = tp ∨ z = h ∨ z = h + 1) μ μ2 := o1'.tr (o2.mo fun z hz => Or.inl hz)
        obtain ⟨k0, k1, k2, k3⟩ := id s2
        rw [e2, ob, hr2.1]
        have eF : chainF x (nI np - 1) (f + 1) (.inr a) l = (match numF x (nI np - 1) a with
          | .inl e => (.inl e, l)
          | .inr v => if l.length < 12 then chainF x (nI np - 1) f (needF x 59 (.inr v.2)) (l ++ [v.1]) else (.inl (3, a), l)) := if_pos ha
        have hn : numCur x (nI np - 1) (.inr a) = numF x (nI np - 1) a := rfl
        rw [eF]
        rw [hn] at t2
        -- what is written, and what follows
        have put : ∀ (z' : Int32) (c' : Cur), l.length < 12 → TpR μ2 tp x c' → ∃ μ3, μ3 = p_I (p_I μ2 (h + 1) l.length z') h 1 (nI (l.length + 1)) ∧ Out (fun z => z = tp ∨ z = h ∨ z = h + 1) μ2 μ3 ∧ TpR μ3 tp x c' ∧ ChS μ3 h := fun z' c' hl t' => by
          have o : Out (fun z => z = h ∨ z = h + 1) μ2 (p_I (p_I μ2 (h + 1) l.length z') h 1 (nI (l.length + 1))) := ((Out.rf (S := fun z => z = h ∨ z = h + 1)).pI (Or.inr rfl)).pI (Or.inl rfl)
          exact ⟨_, rfl, o.mo fun z hz => Or.inr hz, t'.fr o (by omega) (by omega), s2.sh o.1⟩
        by_cases hl : l.length < 12
        · rw [if_pos (show nI l.length < (12 : Int32) from nI_lt hl (by decide)), k1, if_pos (isK_p k2), if_pos (inA_n k2 k3 hl (by decide)), nI_clamp (n := l.length) (by omega)]
          have e5 : g_I (p_I μ2 (h + 1) l.length z) h 1 = nI l.length := by rw [gI_h (by omega)]; exact hr2.1
          rw [e5, ← nI_succ]
          obtain ⟨μ3, e3, o3, t3, s3⟩ := put z _ hl t2
          rw [← e3]
          obtain ⟨μ4, e4, o4, t4⟩ := X9_need (k := 59) t3 (by decide)
          have e4 : LX9_need tp (59 : Int32) μ3 = some ((), μ4) := e4
          rw [e4, ob, ← nI_succ]
          have o4' : Out (fun z => z = tp ∨ z = h ∨ z = h + 1) μ μ4 := (o2'.tr o3).tr (o4.mo fun z hz => Or.inl hz)
          cases hv : numF x (nI np - 1) a with
          | inl e =>
            rw [hv] at t4
            obtain ⟨μ5, e5, o5, t5, g5⟩ := ih (i + 1) fu (.inl e) l μ4 (by omega) (by omega) (s3.sh o4.1) t4 (fun a ha => nomatch ha)
            have eE : ∀ f, (chainF x (nI np - 1) f (.inl e) l).1 = .inl e := fun f => by cases f <;> rfl
            rw [eE] at t5
            exact ⟨μ5, e5, o4'.tr o5, t5, fun a ha => nomatch ha⟩
          | inr v =>
            rw [hv] at t4
            obtain ⟨g6, g7⟩ := g2 a v.1 v.2 rfl hv
            have t4 : TpR μ4 tp x (needF x 59 (.inr v.2)) := t4
            have hr4 : ChR μ4 h (l ++ [v.1]) := (hr2.add hl (by rw [e3, g6])).fr ⟨(o4.2 h (by omega)).1, (o4.2 (h + 1) (by omega)).1⟩
            obtain ⟨μ5, e5, o5, t5, g5⟩ := ih (i + 1) fu (needF x 59 (.inr v.2)) (l ++ [v.1]) μ4 (by omega) (by omega) (s3.sh o4.1) t4 (fun b hb => ⟨by rw [List.length_append, hil]; rfl, hr4⟩)
            show ∃ μ', _ ∧ _ ∧ TpR μ' tp x (if l.length < 12 then chainF x (nI np - 1) f (needF x 59 (.inr v.2)) (l ++ [v.1]) else (.inl (3, a), l)).1 ∧ ∀ b, (if l.length < 12 then chainF x (nI np - 1) f (needF x 59 (.inr v.2)) (l ++ [v.1]) else (.inl (3, a), l)).1 = .inr b → ChR μ' h (if l.length < 12 then chainF x (nI np - 1) f (needF x 59 (.inr v.2)) (l ++ [v.1]) else (.inl (3, a), l)).2
            rw [if_pos hl]
            exact ⟨μ5, e5, o4'.tr o5, t5, g5⟩
        · rw [if_neg (show ¬ nI l.length < (12 : Int32) from nI_nlt (b := 12) (by omega) (by have := hr2.2.1; omega))]
          cases hv : numF x (nI np - 1) a with
          | inl e =>
            rw [hv] at t2
            have t2 : TpR μ2 tp x (.inl e) := t2
            rw [(fail_err (k := 0) (p := 4) t2 3).1, ob]
            exact ⟨μ2, rfl, o2', t2, fun b hb => nomatch hb⟩
          | inr v =>
            rw [hv] at t2
            obtain ⟨g6, g7⟩ := g2 a v.1 v.2 rfl hv
            rw [g7]
            obtain ⟨μ3, e3, o3, t3⟩ := X9_fail (k := 3) (p := a) t2 (by decide) (by decide)
            have e3 : LX9_fail tp (3 : Int32) (nI a) μ2 = some ((), μ3) := e3
            rw [e3, ob]
            show ∃ μ', _ ∧ _ ∧ TpR μ' tp x (if l.length < 12 then chainF x (nI np - 1) f (needF x 59 (.inr v.2)) (l ++ [v.1]) else (.inl (3, a), l)).1 ∧ ∀ b, (if l.length < 12 then chainF x (nI np - 1) f (needF x 59 (.inr v.2)) (l ++ [v.1]) else (.inl (3, a), l)).1 = .inr b → ChR μ' h (if l.length < 12 then chainF x (nI np - 1) f (needF x 59 (.inr v.2)) (l ++ [v.1]) else (.inl (3, a), l)).2
            rw [if_neg hl]
            exact ⟨μ3, rfl, o2'.tr (o3.mo fun z hz => Or.inl hz), t3, fun b hb => nomatch hb⟩
      · rw [show moreF x (.inr a) = 0 from if_neg ha, if_pos rfl]
        have eF : chainF x (nI np - 1) (f + 1) (.inr a) l = (.inr a, l) := if_neg ha
        rw [eF]
        exact ⟨μ1, rfl, o1', t1, fun b hb => hr1⟩
theorem X1_parse {tp h np : Nat} {x : Txt} {c : Cur} {μ : Mem} (hd : tp + 2 ≤ h ∨ h + 2 ≤ tp) (s : ChS μ h) (t : TpR μ tp x c) : ∃ μ' : Mem, LX1_parse h tp (nI np) μ = some ((), μ') ∧ Out (fun z => z = tp ∨ z = h ∨ z = h + 1) μ μ' ∧ TpR μ' tp x (chainF x (nI np - 1) 13 c []).1 ∧ ∀ a, (chainF x (nI np - 1) 13 c []).1 = .inr a → ChR μ' h (chainF x (nI np - 1) 13 c []).2 := by
  unfold LX1_parse
  rw [if_pos s.1, if_pos t.1.1]
  have o : Out (fun z => z = h) μ (p_I μ h 1 0) := (Out.rf (S := fun z => z = h)).pI rfl
  obtain ⟨μ', e1, o1, t1, g1⟩ := X1_parseL (np := np) hd 13 0 100000 c [] (p_I μ h 1 0) rfl (by decide) (s.sh o.1) (t.fr o (by omega) (by omega)) (fun a ha => ⟨rfl, gI_s, Nat.zero_le _, fun i hi => absurd hi (Nat.not_lt_zero _)⟩)
  exact ⟨μ', e1, (o.mo fun z hz => Or.inr (Or.inl hz)).tr o1, t1, g1⟩
