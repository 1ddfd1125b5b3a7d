/-! ===== the reference reads WORK: STEP after STEP ===== -/
abbrev pF : Nat → Prop := fun k => k = 4 ∨ k = 5 ∨ k = 6 ∨ k = 8 ∨ k = 28
abbrev pS (n : Nat) : Nat → Prop := fun y => 523 + n ≤ y ∧ y < 603
theorem t_p {S T : Nat → Prop} {μ ν : Mem} (o : OF tF S μ ν) (h : ∀ x, S x → T x) : OF pF T μ ν := o.mo (fun k z => by have z : k = 4 ∨ k = 5 ∨ k = 6 := z; show k = 4 ∨ k = 5 ∨ k = 6 ∨ k = 8 ∨ k = 28; omega) h
theorem p_p {n m : Nat} {μ ν : Mem} (o : OF pF (pS m) μ ν) (h : n ≤ m) : OF pF (pS n) μ ν := o.mo (fun _ z => z) (fun y z => by obtain ⟨z1, z2⟩ := z; exact ⟨by omega, z2⟩)
theorem HuM.p {n : Nat} {μ ν : Mem} {t : HutT} (h : HuM μ t) (ho : HutOk t) (o : OF pF (pS n) μ ν) : HuM ν t := h.fr ho fun x hx => o.r (by omega) (fun z => by obtain ⟨z1, z2⟩ := z; omega)
/-- before a STEP is read -/
def PsP (μ : Mem) (x : Txt) (t : HutT) (o n : Nat) (c : Cur) : Prop := TmR μ x c ∧ HuM μ t ∧ ∀ a, c = .inr a → 4 * n ≤ a ∧ g_I μ 125 8 = nI o ∧ g_I μ 125 28 = nI n
/-- after STEPS are read -/
def PsM (μ : Mem) (x : Txt) (o n : Nat) (pr : Nat → StepT) (r : StpT) : Prop := TmR μ x r.1 ∧ ∀ b, r.1 = .inr b → 4 * r.2.1 ≤ b ∧ n ≤ r.2.1 ∧ g_I μ 125 8 = nI o ∧ g_I μ 125 28 = nI r.2.1 ∧ (∀ i, i < n → r.2.2 i = pr i) ∧ ∀ i, n ≤ i → i < r.2.1 → StpM μ (523 + i) (r.2.2 i)
theorem PsM.tr {μ1 μ2 : Mem} {x : Txt} {o n : Nat} {pr : Nat → StepT} {r1 r2 : StpT} {b : Nat} (h1 : PsM μ1 x o n pr r1) (hb : r1.1 = .inr b) (of : OF pF (pS r1.2.1) μ1 μ2) {o2 : Nat} (h2 : PsM μ2 x o2 r1.2.1 r1.2.2 r2) : PsM μ2 x o2 n pr r2 := by
  refine ⟨h2.1, fun b2 hb2 => ?_⟩
  obtain ⟨u1, u2, u3, u4, u5, u6⟩ := h1.2 b hb
  obtain ⟨v1, v2, v3, v4, v5, v6⟩ := h2.2 b2 hb2
  refine ⟨v1, by omega, v3, v4, fun i hi => by rw [v5 i (by omega)]; exact u5 i hi, fun i hi1 hi2 => ?_⟩
  by_cases h : i < r1.2.1
  · rw [v5 i h]
    exact (u6 i hi1 h).fr (of.r (by omega) (fun z => by obtain ⟨z1, z2⟩ := z; omega))
  · exact v6 i (by omega) hi2
def StepH (x : Txt) (t : HutT) (o : Nat) (rec : Nat → Mem → Option (Unit × Mem)) (st : Nat → Nat → (Nat → StepT) → StpT) : Prop := ∀ a n pr μ, PsP μ x t o n (.inr a) → ∃ μ' : Mem, rec 125 μ = some ((), μ') ∧ OF pF (pS n) μ μ' ∧ PsM μ' x o n pr (st a n pr) ∧ ∀ b, (st a n pr).1 = .inr b → n < (st a n pr).2.1
theorem R_147 {rec : Nat → Mem → Option (Unit × Mem)} {μ : Mem} {x : Txt} {c : Cur} {hs : Nat} (t : TmR μ x c) (as : ArS μ hs 5) (h : 523 ≤ hs) : ∃ μ' : Mem, mX12_readsStep_147 rec 125 hs μ = some ((), μ') ∧ OF tF (fun y => y = hs) μ μ' ∧ TmR μ' x (needF x 59 c) ∧ g_I μ' hs = ru (g_I μ hs) 4 (g_I μ 125 28) := by
  have i4 : inA μ hs 15 (4 : Int32) = true := as.ix (i := 4) (by decide) (by decide)
  have o0 : OF tF (fun y => y = hs) μ (p_I μ hs 4 (g_I μ 125 28)) := (OF.rf (F := tF) (S := fun y => y = hs)).pS rfl (by omega)
  have t0 : TmR (p_I μ hs 4 (g_I μ 125 28)) x c := t.S (by omega) (by omega)
  obtain ⟨m1, e1, o1, t1⟩ := R_sign (k := 59) t0 (by decide)
  have e1 : LX12_sign 125 (59 : Int32) (p_I μ hs 4 (g_I μ 125 28)) = some ((), m1) := e1
  unfold mX12_readsStep_147
  rw [if_pos i4, show (4 : Int32).toNatClampNeg = 4 from rfl, e1, ob]
  exact ⟨m1, rfl, o0.tr (o1.mo (fun _ z => z) (fun _ z => z.elim)), t1, by rw [o1.r (by omega) (fun z => z), gI_row]⟩
theorem R_131e {rec : Nat → Mem → Option (Unit × Mem)} {hs : Nat} {x : Txt} {e : Nat × Nat} {μ : Mem} (t : TmR μ x (.inl e)) : ∃ μ1 : Mem, mX12_readsStep_131 rec 125 hs μ = mX12_readsStep_147 rec 125 hs μ1 ∧ OF pF nS μ μ1 ∧ TmR μ1 x (.inl e) := by
  obtain ⟨m1, e1, o1, t1⟩ := R_sign (k := 93) t (by decide)
  have e1 : LX12_sign 125 (93 : Int32) μ = some ((), m1) := e1
  have t1 : TmR m1 x (.inl e) := t1
  unfold mX12_readsStep_131
  rw [e1, ob]
  have o2 : OF pF nS m1 (p_I m1 125 8 (g_I m1 125 8 - 1)) := (OF.rf (F := pF) (S := nS)).p0 (Or.inr (Or.inr (Or.inr (Or.inl rfl))))
  exact ⟨_, rfl, (t_p o1 (fun _ z => z)).tr o2, t1.o (F := fun k => k = 8) (S := nS) (OF.rf.p0 rfl) (by decide) (fun z => z) (by decide) (by decide) (by decide)⟩
theorem R_withinE {rec : Nat → Mem → Option (Unit × Mem)} {hs fu : Nat} {x : Txt} {e : Nat × Nat} {μ : Mem} (t : TmR μ x (.inl e)) : ∃ μ1 : Mem, mX12_readsStep_100 rec (fu + 1) 125 hs μ = mX12_readsStep_147 rec 125 hs μ1 ∧ OF pF nS μ μ1 ∧ TmR μ1 x (.inl e) := by
  obtain ⟨q1, q2⟩ := TmB.err t rfl
  rw [mX12_readsStep_100, q1, if_neg q2]
  exact R_131e t
theorem R_within {x : Txt} {t : HutT} {o hs : Nat} {rec : Nat → Mem → Option (Unit × Mem)} {rc : Cur → Nat → (Nat → StepT) → StpT} {full : Prop} [Decidable full] (hN : x.2 ≤ 150) (ho : 0 < o) (ok : HutOk t) (H : StepH x t o rec (stepF x t rc full)) : ∀ (f i fu : Nat) (c : Cur) (n : Nat) (pr : Nat → StepT) (μ : Mem), f + i = 38 → f + 1 < fu → PsP μ x t o n c → (∀ a, c = .inr a → TmA μ x a ∧ i ≤ n) → ∃ μ1 : Mem, mX12_readsStep_100 rec fu 125 hs μ = mX12_readsStep_147 rec 125 hs μ1 ∧ OF pF (pS n) μ μ1 ∧ PsM μ1 x (o - 1) n pr (needF x 93 (stepsL x t rc full True f c n pr).1, (stepsL x t rc full True f c n pr).2.1, (stepsL x t rc full True f c n pr).2.2) := by
  intro f
  induction f with
  | zero =>
    intro i fu c n pr μ hi hf pp hc
    obtain ⟨fu, rfl⟩ : ∃ q, fu = q + 1 := ⟨fu - 1, by omega⟩
    cases c with
    | inl e =>
      obtain ⟨m1, e1, o1, t1⟩ := R_withinE (rec := rec) (hs := hs) (fu := fu) pp.1
      exact ⟨m1, e1, o1.mo (fun _ z => z) (fun _ z => z.elim), t1, fun b hb => nomatch hb⟩
    | inr a =>
      obtain ⟨ta, hin⟩ := hc a rfl
      have h4 := (pp.2.2 a rfl).1
      have ha := ta.2.2.2.2
      omega
  | succ f ih =>
    intro i fu c n pr μ hi hf pp hc
    obtain ⟨fu, rfl⟩ : ∃ q, fu = q + 1 := ⟨fu - 1, by omega⟩
    cases c with
    | inl e =>
      obtain ⟨m1, e1, o1, t1⟩ := R_withinE (rec := rec) (hs := hs) (fu := fu) pp.1
      exact ⟨m1, e1, o1.mo (fun _ z => z) (fun _ z => z.elim), t1, fun b hb => nomatch hb⟩
    | inr a =>
      obtain ⟨ta, hin⟩ := hc a rfl
      obtain ⟨h4, h8, h28⟩ := pp.2.2 a rfl
      have hax := ta.2.2.2.2
      have eF : stepsL x t rc full True (f + 1) (.inr a) n pr = if a < x.2 then (if True ∧ chT x a = 93 then (.inr a, n, pr) else stepsL x t rc full True f (stepF x t rc full a n pr).1 (stepF x t rc full a n pr).2.1 (stepF x t rc full a n pr).2.2) else (.inr a, n, pr) := rfl
      rw [mX12_readsStep_100, ta.2.1, if_pos rfl, ta.2.2.2.1, R_byte ta.1 (show a < 2147483648 by omega), ob, eF]
      by_cases h93 : chT x a = 93
      · rw [if_pos (show chI x a = (93 : Int32) from (chI_eq (by decide)).mpr h93), if_pos (chT_lt h93 (by decide)), if_pos ⟨trivial, h93⟩]
        obtain ⟨m1, e1, o1, t1⟩ := R_sign (k := 93) pp.1 (by decide)
        have e1 : LX12_sign 125 (93 : Int32) μ = some ((), m1) := e1
        have o2 : OF pF nS m1 (p_I m1 125 8 (g_I m1 125 8 - 1)) := (OF.rf (F := pF) (S := nS)).p0 (Or.inr (Or.inr (Or.inr (Or.inl rfl))))
        have o3 := (t_p o1 (fun _ z => z)).tr o2
        unfold mX12_readsStep_131
        rw [e1, ob]
        refine ⟨_, rfl, o3.mo (fun _ z => z) (fun _ z => z.elim), t1.o (F := fun k => k = 8) (S := nS) (OF.rf.p0 rfl) (by decide) (fun z => z) (by decide) (by decide) (by decide), fun b hb => ?_⟩
        have hb : needF x 93 (.inr a) = .inr b := hb
        obtain ⟨hb1, -⟩ := needF_at hb (by decide)
        refine ⟨by show 4 * n ≤ b; omega, Nat.le_refl _, ?_, ?_, fun _ _ => rfl, fun i h1 h2 => by have h2 : i < n := h2; omega⟩
        · rw [gI_s, o1.2 8 (by decide), h8]; exact nI_sub (b := 1) ho
        · rw [gI_k (by decide), o1.2 28 (by decide)]; exact h28
      · rw [if_neg (show ¬ chI x a = (93 : Int32) from chI_ne (by decide) h93)]
        obtain ⟨m1, e1, o1, p1, lt1⟩ := H a n pr μ pp
        obtain ⟨m2, e2, o2, t2, g2⟩ := R_blanksC p1.1
        rw [e1, ob, e2, ob]
        have o12 : OF pF (pS n) μ m2 := o1.tr (t_p o2 (fun _ z => z.elim))
        by_cases ha : a < x.2
        · rw [if_pos ha, if_neg (fun z => h93 z.2)]
          cases hr : (stepF x t rc full a n pr).1 with
          | inl e =>
            rw [hr] at t2
            obtain ⟨fu, rfl⟩ : ∃ q, fu = q + 1 := ⟨fu - 1, by omega⟩
            obtain ⟨m3, e3, o3, t3⟩ := R_withinE (rec := rec) (hs := hs) (fu := fu) t2
            rw [stepsL_e]
            exact ⟨m3, e3, o12.tr (o3.mo (fun _ z => z) (fun _ z => z.elim)), t3, fun b hb => nomatch hb⟩
          | inr b =>
            obtain ⟨u1, u2, u3, u4, u5, u6⟩ := p1.2 b hr
            have p2 : PsM m2 x o n pr (stepF x t rc full a n pr) := ⟨t2, fun b' hb' => by
              obtain ⟨u1, u2, u3, u4, u5, u6⟩ := p1.2 b' hb'
              exact ⟨u1, u2, by rw [o2.2 8 (by decide)]; exact u3, by rw [o2.2 28 (by decide)]; exact u4, u5, fun i h1 h2 => (u6 i h1 h2).fr (o2.r (by omega) (fun z => z))⟩⟩
            obtain ⟨m3, e3, o3, p3⟩ := ih (i + 1) fu (stepF x t rc full a n pr).1 (stepF x t rc full a n pr).2.1 (stepF x t rc full a n pr).2.2 m2 (by omega) (by omega) ⟨t2, pp.2.1.p ok o12, fun b' hb' => by
              obtain ⟨u1, u2, u3, u4, u5, u6⟩ := p2.2 b' hb'
              exact ⟨u1, u3, u4⟩⟩ (fun b' hb' => ⟨g2 b' hb', by have := lt1 b' hb'; omega⟩)
            rw [← hr]
            exact ⟨m3, e3, o12.tr (p_p o3 u2), p2.tr hr o3 p3⟩
        · rw [if_neg ha]
          have hs1 : stepF x t rc full a n pr = (.inl (1, a), n, pr) := by
            have hw : wordF x W2 a = .inl (1, a) := if_neg ha
            unfold stepF
            rw [hw]
          rw [hs1] at t2
          have t2 : TmR m2 x (.inl (1, a)) := t2
          obtain ⟨fu, rfl⟩ : ∃ q, fu = q + 1 := ⟨fu - 1, by omega⟩
          obtain ⟨m3, e3, o3, t3⟩ := R_withinE (rec := rec) (hs := hs) (fu := fu) t2
          have en : needF x 93 (.inr a) = .inl (1, a) := if_neg h93
          refine ⟨m3, e3, o12.tr (o3.mo (fun _ z => z) (fun _ z => z.elim)), ?_, fun b hb => ?_⟩
          · show TmR m3 x (needF x 93 (.inr a))
            rw [en]; exact t3
          · have hb : needF x 93 (.inr a) = .inr b := hb
            rw [en] at hb
            exact nomatch hb
