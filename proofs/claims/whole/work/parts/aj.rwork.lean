/-! ===== the reference is told WORK ===== -/
theorem stepsL_in {x : Txt} {t : HutT} {rec : Cur → Nat → (Nat → StepT) → StpT} {full W : Prop} [Decidable full] [Decidable W] (h : W) : ∀ (f : Nat) (c : Cur) (n : Nat) (pr : Nat → StepT), stepsL x t rec full W f c n pr = stepsL x t rec full True f c n pr := by
  intro f
  induction f with
  | zero => intro c n pr; rfl
  | succ f ih =>
    intro c n pr
    cases c with
    | inl e => rfl
    | inr a =>
      show (if a < x.2 then (if W ∧ chT x a = 93 then _ else stepsL x t rec full W f _ _ _) else _) = (if a < x.2 then (if True ∧ chT x a = 93 then _ else stepsL x t rec full True f _ _ _) else _)
      rw [ih]
      by_cases h9 : chT x a = 93
      · rw [if_pos (show W ∧ chT x a = 93 from ⟨h, h9⟩), if_pos (show True ∧ chT x a = 93 from ⟨trivial, h9⟩)]
      · rw [if_neg (show ¬ (W ∧ chT x a = 93) from fun z => h9 z.2), if_neg (show ¬ (True ∧ chT x a = 93) from fun z => h9 z.2)]
/-- one STEP, where D more may stand within another -/
def sF1 (x : Txt) (t : HutT) (D : Nat) (a n : Nat) (pr : Nat → StepT) : StpT := match D with
  | 0 => stepF x t (fun c n pr => (c, n, pr)) True a n pr
  | D + 1 => stepF x t (stepsF x t D) False a n pr
theorem R_inner {x : Txt} {t : HutT} {o D : Nat} {rec : Nat → Mem → Option (Unit × Mem)} (hN : x.2 ≤ 150) (hD : D < 6) (ok : HutOk t) (H : StepH x t (o + 1) rec (sF1 x t D)) (hs : Nat) (c : Cur) (n : Nat) (pr : Nat → StepT) (μ : Mem) (pp : PsP μ x t (o + 1) n c) (hc : ∀ a, c = .inr a → TmA μ x a) : ∃ μ1 : Mem, mX12_readsStep_100 rec 100000 125 hs μ = mX12_readsStep_147 rec 125 hs μ1 ∧ OF pF (pS n) μ μ1 ∧ PsM μ1 x o n pr (needF x 93 (stepsF x t D c n pr).1, (stepsF x t D c n pr).2.1, (stepsF x t D c n pr).2.2) := by
  cases D with
  | zero =>
    exact R_within (rc := fun c n pr => (c, n, pr)) (full := True) hN (Nat.succ_pos o) ok H 38 0 100000 c n pr μ rfl (by decide) pp fun a ha => ⟨hc a ha, Nat.zero_le _⟩
  | succ D =>
    rw [show stepsF x t (D + 1) c n pr = stepsL x t (stepsF x t D) False True 38 c n pr from stepsL_in (W := D + 1 < 6) hD 38 c n pr]
    exact R_within (rc := stepsF x t D) (full := False) hN (Nat.succ_pos o) ok H 38 0 100000 c n pr μ rfl (by decide) pp fun a ha => ⟨hc a ha, Nat.zero_le _⟩
theorem R_readsStep {x : Txt} {t : HutT} (hN : x.2 ≤ 150) (ok : HutOk t) : ∀ (D D' o : Nat), D + o = 6 → D < D' → StepH x t o (LX12_readsStep D') (sF1 x t D) := by
  intro D
  induction D with
  | zero =>
    intro D' o hD hDD
    obtain ⟨d, rfl⟩ : ∃ q, D' = q + 1 := ⟨D' - 1, by omega⟩
    intro a n pr μ pp
    exact R_step (rec := LX12_readsStep d) (rc := fun c n pr => (c, n, pr)) (full := True) hN (by omega) ok ⟨fun _ => by omega, fun _ => trivial⟩ (fun z => absurd z (by omega)) a n pr μ pp
  | succ D ih =>
    intro D' o hD hDD
    obtain ⟨d, rfl⟩ : ∃ q, D' = q + 1 := ⟨D' - 1, by omega⟩
    intro a n pr μ pp
    exact R_step (rec := LX12_readsStep d) (rc := stepsF x t D) (full := False) hN (by omega) ok ⟨fun z => z.elim, fun z => by omega⟩ (fun _ hs c n pr μ pp hc => R_inner hN (by omega) ok (ih d (o + 1) (by omega) (by omega)) hs c n pr μ pp hc) a n pr μ pp
/-- STEP after STEP up to the end of the text -/
theorem R_workL {x : Txt} {t : HutT} {W : Prop} [Decidable W] (hW : ¬ W) (hN : x.2 ≤ 150) (ok : HutOk t) : ∀ (f i fu : Nat) (c : Cur) (n : Nat) (pr : Nat → StepT) (μ : Mem), f + i = 38 → f < fu → PsP μ x t 0 n c → (∀ a, c = .inr a → TmA μ x a ∧ i ≤ n) → ∃ μ1 : Mem, mX12_work_72 fu 125 μ = mX12_work_101 125 μ1 ∧ OF pF (pS n) μ μ1 ∧ PsM μ1 x 0 n pr (stepsL x t (stepsF x t 5) False W f c n pr) ∧ ∀ b, (stepsL x t (stepsF x t 5) False W f c n pr).1 = .inr b → TmA μ1 x b := by
  intro f
  induction f with
  | zero =>
    intro i fu c n pr μ hi hf pp hc
    obtain ⟨fu, rfl⟩ : ∃ q, fu = q + 1 := ⟨fu - 1, by omega⟩
    cases c with
    | inl e =>
      obtain ⟨q1, q2⟩ := TmB.err pp.1 rfl
      rw [mX12_work_72, q1, if_neg q2]
      exact ⟨μ, rfl, OF.rf, ⟨pp.1, fun b hb => nomatch hb⟩, fun b hb => nomatch hb⟩
    | inr a =>
      obtain ⟨ta, hin⟩ := hc a rfl
      have h4 := (pp.2.2 a rfl).1
      have ha := ta.2.2.2.2
      omega
  | succ f ih =>
    intro i fu c n pr μ hi hf pp hc
    obtain ⟨fu, rfl⟩ : ∃ q, fu = q + 1 := ⟨fu - 1, by omega⟩
    cases c with
    | inl e =>
      obtain ⟨q1, q2⟩ := TmB.err pp.1 rfl
      rw [mX12_work_72, q1, if_neg q2]
      exact ⟨μ, rfl, OF.rf, ⟨pp.1, fun b hb => nomatch hb⟩, fun b hb => nomatch hb⟩
    | inr a =>
      obtain ⟨ta, hin⟩ := hc a rfl
      obtain ⟨h4, h8, h28⟩ := pp.2.2 a rfl
      have hax := ta.2.2.2.2
      have eF : stepsL x t (stepsF x t 5) False W (f + 1) (.inr a) n pr = if a < x.2 then (if W ∧ chT x a = 93 then (.inr a, n, pr) else stepsL x t (stepsF x t 5) False W f (stepF x t (stepsF x t 5) False a n pr).1 (stepF x t (stepsF x t 5) False a n pr).2.1 (stepF x t (stepsF x t 5) False a n pr).2.2) else (.inr a, n, pr) := rfl
      rw [mX12_work_72, ta.2.1, if_pos rfl, ta.2.2.2.1, ta.1.2.1, eF]
      by_cases ha : a < x.2
      · rw [if_neg (nI_ge ha (by omega)), if_pos ha, if_neg (fun z => hW z.1)]
        obtain ⟨m1, e1, o1, p1, lt1⟩ := R_readsStep hN ok 6 12 0 rfl (by decide) a n pr μ pp
        have p1 : PsM m1 x 0 n pr (stepF x t (stepsF x t 5) False a n pr) := p1
        have lt1 : ∀ b, (stepF x t (stepsF x t 5) False a n pr).1 = .inr b → n < (stepF x t (stepsF x t 5) False a n pr).2.1 := lt1
        obtain ⟨m2, e2, o2, t2, g2⟩ := R_blanksC p1.1
        rw [e1, ob, e2, ob]
        have o12 : OF pF (pS n) μ m2 := o1.tr (t_p o2 (fun _ z => z.elim))
        cases hr : (stepF x t (stepsF x t 5) False a n pr).1 with
        | inl e =>
          rw [hr] at t2
          obtain ⟨q1, q2⟩ := TmB.err t2 rfl
          rw [stepsL_e]
          cases fu with
          | zero => omega
          | succ fu =>
            rw [mX12_work_72, q1, if_neg q2]
            exact ⟨m2, rfl, o12, ⟨t2, fun b hb => nomatch hb⟩, fun b hb => nomatch hb⟩
        | inr b =>
          obtain ⟨u1, u2, u3, u4, u5, u6⟩ := p1.2 b hr
          have p2 : PsM m2 x 0 n pr (stepF x t (stepsF x t 5) False a n pr) := ⟨t2, fun b' hb' => by
            obtain ⟨u1, u2, u3, u4, u5, u6⟩ := p1.2 b' hb'
            exact ⟨u1, u2, by rw [o2.2 8 (by decide)]; exact u3, by rw [o2.2 28 (by decide)]; exact u4, u5, fun i h1 h2 => (u6 i h1 h2).fr (o2.r (by omega) (fun z => z))⟩⟩
          obtain ⟨m3, e3, o3, p3, g3⟩ := ih (i + 1) fu (stepF x t (stepsF x t 5) False a n pr).1 (stepF x t (stepsF x t 5) False a n pr).2.1 (stepF x t (stepsF x t 5) False a n pr).2.2 m2 (by omega) (by omega) ⟨t2, pp.2.1.p ok o12, fun b' hb' => by
            obtain ⟨u1, u2, u3, u4, u5, u6⟩ := p2.2 b' hb'
            exact ⟨u1, u3, u4⟩⟩ (fun b' hb' => ⟨g2 b' hb', by have := lt1 b' hb'; omega⟩)
          rw [← hr]
          exact ⟨m3, e3, o12.tr (p_p o3 u2), p2.tr hr o3 p3, g3⟩
      · rw [if_pos (nI_le (by omega) (by omega)), if_neg ha]
        exact ⟨μ, rfl, OF.rf, ⟨pp.1, fun b hb => by
          have hb : (Sum.inr a : Cur) = .inr b := hb
          cases hb
          exact ⟨h4, Nat.le_refl _, h8, h28, fun _ _ => rfl, fun i h1 h2 => by have h2 : i < n := h2; omega⟩⟩, fun b hb => by
          have hb : (Sum.inr a : Cur) = .inr b := hb
          cases hb
          exact ta⟩
/-- a row of the HUT, laid over another -/
theorem R_rowL {h0 h1 : Nat} (hne : h0 ≠ h1) : ∀ (f k fu : Nat) (μ : Mem), ArS μ h0 419 → ArS μ h1 419 → f + k = 419 → f < fu → (∀ i, i < k → g_I μ h1 i = g_I μ h0 i) → ∃ μ' : Mem, mX12_copies_2 fu h0 h1 (nI k) μ = some ((), μ') ∧ Out (fun x => x = h1) μ μ' ∧ ∀ i, i < 419 → g_I μ' h1 i = g_I μ h0 i := by
  intro f
  induction f with
  | zero =>
    intro k fu μ a0 a1 hk hf h
    obtain ⟨fu, rfl⟩ : ∃ q, fu = q + 1 := ⟨fu - 1, by omega⟩
    rw [mX12_copies_2, if_pos (show (419 : Int32) ≤ nI k from nI_le (a := 419) (by omega) (by omega))]
    exact ⟨μ, rfl, Out.rf, fun i hi => h i (by omega)⟩
  | succ f ih =>
    intro k fu μ a0 a1 hk hf h
    obtain ⟨fu, rfl⟩ : ∃ q, fu = q + 1 := ⟨fu - 1, by omega⟩
    rw [mX12_copies_2, if_neg (show ¬ (419 : Int32) ≤ nI k from nI_ge (b := 419) (by omega) (by decide)), if_pos (a0.ix (by omega) (by decide)), if_pos (a1.ix (by omega) (by decide)), nI_clamp (show k < 2147483648 by omega), ← nI_succ]
    obtain ⟨μ', e1, o1, r1⟩ := ih (k + 1) fu (p_I μ h1 k (g_I μ h0 k)) a0 a1 (by omega) (by omega) (fun i hi => by
      by_cases e : i = k
      · rw [e, gI_s, gI_h hne]
      · rw [gI_k e, gI_h hne]; exact h i (by omega))
    exact ⟨μ', e1, ((Out.rf (S := fun x => x = h1)).pI rfl).tr o1, fun i hi => by rw [r1 i hi, gI_h hne]⟩
theorem R_row {μ : Mem} {h0 h1 : Nat} (hne : h0 ≠ h1) (a0 : ArS μ h0 419) (a1 : ArS μ h1 419) : ∃ μ' : Mem, LX12_copies h0 h1 μ = some ((), μ') ∧ Out (fun x => x = h1) μ μ' ∧ ∀ i, i < 419 → g_I μ' h1 i = g_I μ h0 i := by
  unfold LX12_copies
  rw [if_pos a0.1, if_pos a1.1]
  exact R_rowL hne 419 0 100000 μ a0 a1 rfl (by decide) (fun i hi => by omega)
