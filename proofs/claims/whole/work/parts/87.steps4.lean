/-! ===== WORK: the class reads the whole text ===== -/
theorem W2_len : ∀ w, w ∈ W2 → 3 ≤ w.length := by decide
theorem X10_parseStep {μ : Mem} {tp wk hh n a o : Nat} {x : Txt} {t : HutT} {pr : Nat → StepT} {rec : Nat → Nat → Nat → Int32 → Mem → Option (Unit × Mem)} {rc : Cur → Nat → (Nat → StepT) → StpT} {full : Prop} [Decidable full] (ap : ApP tp wk hh) (hN : x.2 ≤ 150) (ho : o ≤ 6) (hfull : full ↔ o = 6)
    (hrec : o < 6 → ∀ (c : Cur) (n : Nat) (pr : Nat → StepT) (μ : Mem), PsC μ wk hh t → TpR μ tp x c → (∀ a, c = .inr a → 4 * n ≤ a ∧ n ≤ 37 ∧ g_I μ wk 5 = nI n) → ∃ μ' : Mem, rec wk tp hh (nI (o + 1)) μ = some ((), μ') ∧ PsO μ μ' tp wk n x pr (rc c n pr))
    (c : PsC μ wk hh t) (r : TpR μ tp x (.inr a)) (hb : 4 * n ≤ a) (h5 : g_I μ wk 5 = nI n) :
    ∃ μ' : Mem, LX10_parseStep rec wk tp hh (nI o) μ = some ((), μ') ∧ PsO μ μ' tp wk n x pr (stepF x t rc full a n pr) := by
  obtain ⟨ap1, ap2, ap3⟩ := id ap
  unfold LX10_parseStep
  rw [if_pos c.1.1, if_pos r.1.1, if_pos c.2.1.1]
  obtain ⟨μ1, z, e1, o1, t1, g1⟩ := X9_word sw2 (by decide) r
  have ew : wordCur x W2 (.inr a) = wordF x W2 a := rfl
  rw [ew] at t1 g1
  rw [e1, ob]
  have c1 : PsC μ1 wk hh t := c.out ap (o1.mo fun z hz => Or.inl hz)
  have o1' : Out (inPs tp wk) μ μ1 := o1.mo fun z hz => Or.inl hz
  unfold stepF
  cases hv : wordF x W2 a with
  | inl e =>
    rw [hv] at t1 g1
    have g1 : z = -1 := g1
    rw [g1, if_neg (by decide), step30_err c1 t1]
    exact ⟨μ1, rfl, o1', t1, fun b hb => nomatch hb⟩
  | inr k =>
    rw [hv] at t1 g1
    obtain ⟨g2, g3⟩ := g1
    have g3 := g3 a rfl
    have t1 : TpR μ1 tp x (.inr k.2) := t1
    have hk : k.1 < 10 := wordF_lt hv
    have hat := wordF_at W2_len hv r.2.2.2.2.2.1
    have h51 : g_I μ1 wk 5 = nI n := by rw [(o1.2 wk (by omega)).1]; exact h5
    rw [g2]
    show ∃ μ' : Mem, _ ∧ PsO μ μ' tp wk n x pr (stepK x t rc full a k.1 k.2 n pr)
    unfold stepK
    by_cases h9 : k.1 = 9
    · rw [if_pos (show nI k.1 = (9 : Int32) by rw [h9]; rfl)]
      by_cases h6 : o = 6
      · rw [if_neg (show ¬ nI o < (6 : Int32) from nI_nlt (b := 6) (by omega) (by omega)), if_pos ⟨h9, hfull.mpr h6⟩, g3]
        obtain ⟨μ2, e2, o2, t2⟩ := X9_fail (k := 3) (p := a) t1 (by decide) (by decide)
        have e2 : LX9_fail tp (3 : Int32) (nI a) μ1 = some ((), μ2) := e2
        rw [e2, ob, step30_err (c1.out ap (o2.mo fun z hz => Or.inl hz)) t2]
        exact ⟨μ2, rfl, o1'.tr (o2.mo fun z hz => Or.inl hz), t2, fun b hb => nomatch hb⟩
      · rw [if_pos (show nI o < (6 : Int32) from nI_lt (show o < 6 by omega) (by decide)), if_neg (fun z => h6 (hfull.mp z.2))]
        exact step30_ok ap hN hk ho (fun _ => hrec (by omega)) c1 t1 (by omega) h51 o1
    · rw [if_neg (show ¬ nI k.1 = (9 : Int32) from fun z => h9 ((nI_eq (by omega) (by decide)).mp (show nI k.1 = nI 9 from z))), if_neg (fun z => h9 z.1)]
      exact step30_ok ap hN hk ho (fun z => absurd z h9) c1 t1 (by omega) h51 o1
theorem PsO.tr {μ ν ρ : Mem} {tp wk n : Nat} {x : Txt} {pr : Nat → StepT} {r s : StpT} (h1 : PsO μ ν tp wk n x pr r) (h2 : PsO ν ρ tp wk r.2.1 x r.2.2 s) (hs : ∀ e, r.1 = .inl e → s.1 = .inl e) : PsO μ ρ tp wk n x pr s := by
  obtain ⟨o1, t1, g1⟩ := h1
  obtain ⟨o2, t2, g2⟩ := h2
  refine ⟨o1.tr o2, t2, fun b hb => ?_⟩
  cases hr : r.1 with
  | inl e =>
    rw [hs e hr] at hb
    exact nomatch hb
  | inr d =>
    obtain ⟨v1, v2, v3, v4, v5⟩ := g1 d hr
    obtain ⟨w1, w2, w3, w4, w5⟩ := g2 b hb
    refine ⟨w1, by omega, ⟨w3.1, w3.2.1, fun i h1 h2 => ?_⟩, v4.tr (w4.le v2), fun i hi => by rw [w5 i (by omega), v5 i hi]⟩
    by_cases hi : i < r.2.1
    · rw [w5 i hi]
      exact v3.low w4 (Nat.le_refl _) i h1 hi
    · exact w3.2.2 i (by omega) h2
theorem X10_parseStepsL {tp wk hh o D : Nat} {x : Txt} {t : HutT} {rc : Cur → Nat → (Nat → StepT) → StpT} {full within : Prop} [Decidable full] [Decidable within] (ap : ApP tp wk hh) (hN : x.2 ≤ 150) (ho : o ≤ 6) (hfull : full ↔ o = 6) (hwith : within ↔ 0 < o)
    (hrec : o < 6 → ∀ (c : Cur) (n : Nat) (pr : Nat → StepT) (μ : Mem), PsC μ wk hh t → TpR μ tp x c → (∀ a, c = .inr a → 4 * n ≤ a ∧ n ≤ 37 ∧ g_I μ wk 5 = nI n) → ∃ μ' : Mem, LX10_parseSteps D wk tp hh (nI (o + 1)) μ = some ((), μ') ∧ PsO μ μ' tp wk n x pr (rc c n pr)) :
    ∀ (f i fu : Nat) (c : Cur) (n : Nat) (pr : Nat → StepT) (μ : Mem), f + i = 38 → f < fu → PsC μ wk hh t → TpR μ tp x c → (∀ a, c = .inr a → 4 * n ≤ a ∧ n ≤ 37 ∧ g_I μ wk 5 = nI n) →
      ∃ μ' : Mem, mX10_parseSteps_3 (LX10_parseSteps D) fu wk tp hh (nI o) (nI i) μ = some ((), μ') ∧ PsO μ μ' tp wk n x pr (stepsL x t rc full within f c n pr) := by
  obtain ⟨ap1, ap2, ap3⟩ := id ap
  intro f
  induction f with
  | zero =>
    intro i fu c n pr μ hi hfu cc r hc
    obtain ⟨fu, rfl⟩ : ∃ q, fu = q + 1 := ⟨fu - 1, by omega⟩
    rw [mX10_parseSteps_3, if_pos (show (37 : Int32) < nI i from nI_lt (a := 37) (by omega) (by omega))]
    exact ⟨μ, rfl, Out.rf, r, fun b hb => ⟨(hc b hb).1, Nat.le_refl _, ⟨(hc b hb).2.2, (hc b hb).2.1, fun i h1 h2 => by have h2 : i < n := h2; omega⟩, LowS.rf, fun _ _ => rfl⟩⟩
  | succ f ih =>
    intro i fu c n pr μ hi hfu cc r hc
    obtain ⟨fu, rfl⟩ : ∃ q, fu = q + 1 := ⟨fu - 1, by omega⟩
    rw [mX10_parseSteps_3, if_neg (show ¬ (37 : Int32) < nI i from nI_nlt (a := 37) (by omega) (by decide))]
    obtain ⟨μ1, e1, o1, t1, g1⟩ := X9_more r
    have o1' : Out (inPs tp wk) μ μ1 := o1.mo fun z hz => Or.inl hz
    have c1 : PsC μ1 wk hh t := cc.out ap o1'
    rw [e1, ob]
    cases c with
    | inl e =>
      rw [if_pos (show moreF x (.inl e) = 0 from rfl)]
      exact ⟨μ1, rfl, o1', t1, fun b hb => nomatch hb⟩
    | inr a =>
      obtain ⟨hc1, hc2, hc3⟩ := hc a rfl
      have h51 : g_I μ1 wk 5 = nI n := by rw [(o1.2 wk (by omega)).1]; exact hc3
      by_cases ha : a < x.2
      · rw [show moreF x (.inr a) = 1 from if_pos ha, if_neg (by decide)]
        have eF : stepsL x t rc full within (f + 1) (.inr a) n pr = if within ∧ chT x a = 93 then (.inr a, n, pr) else stepsL x t rc full within f (stepF x t rc full a n pr).1 (stepF x t rc full a n pr).2.1 (stepF x t rc full a n pr).2.2 := if_pos ha
        rw [eF]
        -- a STEP, and on
        have go : ∀ ν : Mem, Out (fun z => z = tp) μ ν → TpR ν tp x (.inr a) → ∃ μ' : Mem, mX10_parseSteps_31 (LX10_parseSteps D) (fun l0 l1 l2 l3 l4 μ => mX10_parseSteps_3 (LX10_parseSteps D) fu l0 l1 l2 l3 l4 μ) wk tp hh (nI o) (nI i) ν = some ((), μ') ∧ PsO μ μ' tp wk n x pr (stepsL x t rc full within f (stepF x t rc full a n pr).1 (stepF x t rc full a n pr).2.1 (stepF x t rc full a n pr).2.2) := by
          intro ν o tν
          unfold mX10_parseSteps_31
          have cν : PsC ν wk hh t := cc.out ap (o.mo fun z hz => Or.inl hz)
          have h5ν : g_I ν wk 5 = nI n := by rw [(o.2 wk (by omega)).1]; exact hc3
          obtain ⟨μ2, e2, p2⟩ := X10_parseStep (pr := pr) ap hN ho hfull hrec cν tν hc1 h5ν
          rw [e2, ob, ← nI_succ]
          have p2' : PsO μ μ2 tp wk n x pr (stepF x t rc full a n pr) := ⟨(o.mo fun z hz => Or.inl hz).tr p2.1, p2.2.1, fun b hb => by
            obtain ⟨q1, q2, q3, q4, q5⟩ := p2.2.2 b hb
            exact ⟨q1, q2, q3, (LowS.tp ap1 o).tr q4, q5⟩⟩
          obtain ⟨μ3, e3, p3⟩ := ih (i + 1) fu (stepF x t rc full a n pr).1 (stepF x t rc full a n pr).2.1 (stepF x t rc full a n pr).2.2 μ2 (by omega) (by omega) (cν.out ap p2.1) p2.2.1 (fun b hb => by
            obtain ⟨q1, q2, q3, q4, q5⟩ := p2.2.2 b hb
            exact ⟨q1, q3.2.1, q3.1⟩)
          refine ⟨μ3, e3, p2'.tr p3 fun e he => ?_⟩
          rw [he, stepsL_e]
        by_cases ho0 : o = 0
        · rw [if_pos (show nI o ≤ (0 : Int32) by rw [ho0]; decide), if_neg (fun z => by have := hwith.mp z.1; omega)]
          exact go μ1 o1 t1
        · rw [if_neg (show ¬ nI o ≤ (0 : Int32) from nI_nle (by omega) (by omega))]
          obtain ⟨μ2, e2, o2, t2, g2⟩ := X9_comes (k := 93) t1 (by decide)
          have e2 : LX9_comes tp (93 : Int32) μ1 = some (comesF x 93 (.inr a), μ2) := e2
          rw [e2, ob]
          by_cases h93 : chT x a = 93
          · rw [show comesF x 93 (.inr a) = 1 from if_pos h93, if_neg (by decide), if_pos ⟨hwith.mpr (by omega), h93⟩]
            have h52 : g_I μ2 wk 5 = nI n := by rw [(o2.2 wk (by omega)).1]; exact h51
            exact ⟨μ2, rfl, o1'.tr (o2.mo fun z hz => Or.inl hz), t2, fun b hb => by
              have hb : (Sum.inr a : Cur) = .inr b := hb
              cases hb
              exact ⟨hc1, Nat.le_refl _, ⟨h52, hc2, fun i h1 h2 => by have h2 : i < n := h2; omega⟩, LowS.tp ap1 (o1.tr o2), fun _ _ => rfl⟩⟩
          · rw [show comesF x 93 (.inr a) = 0 from if_neg h93, if_pos rfl, if_neg (fun z => h93 z.2)]
            exact go μ2 (o1.tr o2) t2
      · rw [show moreF x (.inr a) = 0 from if_neg ha, if_pos rfl]
        have eF : stepsL x t rc full within (f + 1) (.inr a) n pr = (.inr a, n, pr) := if_neg ha
        rw [eF]
        exact ⟨μ1, rfl, o1', t1, fun b hb => by
          have hb : (Sum.inr a : Cur) = .inr b := hb
          cases hb
          exact ⟨hc1, Nat.le_refl _, ⟨h51, hc2, fun i h1 h2 => by have h2 : i < n := h2; omega⟩, LowS.tp ap1 o1, fun _ _ => rfl⟩⟩
theorem X10_parseSteps {tp wk hh : Nat} {x : Txt} {t : HutT} (ap : ApP tp wk hh) (hN : x.2 ≤ 150) : ∀ (D D' o : Nat) (c : Cur) (n : Nat) (pr : Nat → StepT) (μ : Mem), D + o = 6 → D ≤ D' → PsC μ wk hh t → TpR μ tp x c → (∀ a, c = .inr a → 4 * n ≤ a ∧ n ≤ 37 ∧ g_I μ wk 5 = nI n) →
    ∃ μ' : Mem, LX10_parseSteps (D' + 1) wk tp hh (nI o) μ = some ((), μ') ∧ PsO μ μ' tp wk n x pr (stepsF x t D c n pr) := by
  intro D
  induction D with
  | zero =>
    intro D' o c n pr μ hD hD' cc r hc
    show ∃ μ' : Mem, LX10_parseSteps_b (LX10_parseSteps D') wk tp hh (nI o) μ = some ((), μ') ∧ _
    unfold LX10_parseSteps_b
    rw [if_pos cc.1.1, if_pos r.1.1, if_pos cc.2.1.1]
    exact X10_parseStepsL (rc := fun c n pr => (c, n, pr)) ap hN (by omega) ⟨fun _ => by omega, fun _ => trivial⟩ ⟨fun _ => by omega, fun _ => trivial⟩ (fun h => absurd h (by omega)) 38 0 100000 c n pr μ rfl (by decide) cc r hc
  | succ D ih =>
    intro D' o c n pr μ hD hD' cc r hc
    obtain ⟨D', rfl⟩ : ∃ q, D' = q + 1 := ⟨D' - 1, by omega⟩
    show ∃ μ' : Mem, LX10_parseSteps_b (LX10_parseSteps (D' + 1)) wk tp hh (nI o) μ = some ((), μ') ∧ _
    unfold LX10_parseSteps_b
    rw [if_pos cc.1.1, if_pos r.1.1, if_pos cc.2.1.1]
    exact X10_parseStepsL (rc := stepsF x t D) ap hN (by omega) ⟨fun z => z.elim, fun z => by omega⟩ ⟨fun z => by omega, fun z => by omega⟩ (fun h c n pr μ cc r hc => ih D' (o + 1) c n pr μ (by omega) (by omega) cc r hc) 38 0 100000 c n pr μ rfl (by decide) cc r hc
theorem X10_parse {μ : Mem} {tp wk hh : Nat} {x : Txt} {t : HutT} {c : Cur} (pr : Nat → StepT) (ap : ApP tp wk hh) (hN : x.2 ≤ 150) (cc : PsC μ wk hh t) (r : TpR μ tp x c) : ∃ μ' : Mem, LX10_parse wk tp hh μ = some ((), μ') ∧ Out (inPs tp wk) μ μ' ∧ TpR μ' tp x (stepsF x t 6 c 0 pr).1 ∧ ∀ b, (stepsF x t 6 c 0 pr).1 = .inr b → WorkR μ' wk (stepsF x t 6 c 0 pr).2.1 (stepsF x t 6 c 0 pr).2.2 := by
  obtain ⟨ap1, ap2, ap3⟩ := id ap
  unfold LX10_parse
  rw [if_pos cc.1.1, if_pos r.1.1, if_pos cc.2.1.1]
  have o : Out (fun z => z = wk) μ (p_I μ wk 5 0) := (Out.rf (S := fun z => z = wk)).pI rfl
  have o' : Out (inPs tp wk) μ (p_I μ wk 5 0) := o.mo fun z hz => Or.inr ⟨by omega, by omega⟩
  obtain ⟨μ', e1, p1, t1, g1⟩ := X10_parseSteps ap hN 6 11 0 c 0 pr (p_I μ wk 5 0) rfl (by decide) (cc.out ap o') (r.fr o (by omega) (by omega)) (fun a ha => ⟨by omega, by omega, gI_s⟩)
  have e1 : LX10_parseSteps 12 wk tp hh (0 : Int32) (p_I μ wk 5 0) = some ((), μ') := e1
  rw [e1, ob]
  refine ⟨μ', rfl, o'.tr p1, t1, fun b hb => ?_⟩
  obtain ⟨q1, q2, q3, q4, q5⟩ := g1 b hb
  exact ⟨q3.1, q3.2.1, fun i hi => q3.2.2 i (Nat.zero_le _) hi⟩
