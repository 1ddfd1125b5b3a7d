/-! ===== STEPS that were read: each ends behind itself, six deep at most ===== -/
def SeqW (pr : Nat → StepT) (P : Nat → Nat → Prop) : Nat → Nat → Nat → Prop
  | 0, i, to => i = to
  | g + 1, i, to => i < (pr i).2.2.2.2 ∧ (pr i).2.2.2.2 ≤ to ∧ ((pr i).1 = 9 → P (i + 1) (pr i).2.2.2.2) ∧ SeqW pr P g (pr i).2.2.2.2 to
def WfQ (pr : Nat → StepT) : Nat → Nat → Nat → Prop
  | 0, _, _ => False
  | D + 1, i, to => ∃ g, SeqW pr (WfQ pr D) g i to
theorem SeqW.le {pr : Nat → StepT} {P : Nat → Nat → Prop} : ∀ (g i to : Nat), SeqW pr P g i to → i + g ≤ to := by
  intro g
  induction g with
  | zero => intro i to h; exact Nat.le_of_eq h
  | succ g ih =>
    intro i to h
    obtain ⟨h1, h2, h3, h4⟩ := h
    have := ih _ _ h4
    omega
theorem SeqW.loc {pr pr' : Nat → StepT} {P P' : Nat → Nat → Prop} {to : Nat} : ∀ (g i : Nat), (∀ j, i ≤ j → j < to → pr' j = pr j) → (∀ a b, i < a → b ≤ to → P a b → P' a b) → SeqW pr P g i to → SeqW pr' P' g i to := by
  intro g
  induction g with
  | zero => intro i _ _ h; exact h
  | succ g ih =>
    intro i he hP h
    obtain ⟨h1, h2, h3, h4⟩ := h
    have e : pr' i = pr i := he i (Nat.le_refl _) (by omega)
    show i < (pr' i).2.2.2.2 ∧ (pr' i).2.2.2.2 ≤ to ∧ ((pr' i).1 = 9 → P' (i + 1) (pr' i).2.2.2.2) ∧ SeqW pr' P' g (pr' i).2.2.2.2 to
    rw [e]
    exact ⟨h1, h2, fun z => hP _ _ (Nat.lt_succ_self _) h2 (h3 z), ih _ (fun j a b => he j (by omega) b) (fun a b ha hb => hP a b (by omega) hb) h4⟩
theorem WfQ.loc {pr pr' : Nat → StepT} : ∀ (D i to : Nat), (∀ j, i ≤ j → j < to → pr' j = pr j) → WfQ pr D i to → WfQ pr' D i to := by
  intro D
  induction D with
  | zero => intro i to _ h; exact h
  | succ D ih =>
    intro i to he h
    obtain ⟨g, hg⟩ := h
    exact ⟨g, SeqW.loc g i he (fun a b ha hb hP => ih a b (fun j y1 y2 => he j (by omega) (by omega)) hP) hg⟩
theorem SeqW.snoc {pr : Nat → StepT} {P : Nat → Nat → Prop} {j : Nat} : ∀ (g i : Nat), SeqW pr P g i j → j < (pr j).2.2.2.2 → ((pr j).1 = 9 → P (j + 1) (pr j).2.2.2.2) → SeqW pr P (g + 1) i (pr j).2.2.2.2 := by
  intro g
  induction g with
  | zero =>
    intro i h h1 h2
    have h : i = j := h
    subst h
    exact ⟨h1, Nat.le_refl _, h2, rfl⟩
  | succ g ih =>
    intro i h h1 h2
    obtain ⟨a1, a2, a3, a4⟩ := h
    exact ⟨a1, by omega, a3, ih _ a4 h1 h2⟩
theorem opF_num {x : Txt} {most : Int32} {a : Nat} {v : Nat × Nat} (h : opF x most a = .inr v) (hm : ¬ most = -2) : numF x most a = .inr v := by
  unfold opF at h
  rw [if_neg hm] at h
  exact h
theorem nI_m1_ne {n : Nat} (hn : n < 2147483648) : ¬ nI n - 1 = (-2 : Int32) := by
  intro e
  by_cases h : n = 0
  · subst h; exact absurd e (by decide)
  · rw [show (1 : Int32) = nI 1 from rfl, nI_sub (by omega)] at e
    have := congrArg Int32.toInt e
    rw [nI_toInt (by omega), show (-2 : Int32).toInt = -2 from by decide] at this
    omega
theorem opF_le {x : Txt} {n a : Nat} {v : Nat × Nat} (h : opF x (nI n) a = .inr v) (hn : n < 2147483648) : v.1 ≤ n := by
  refine numF_nat (v := v.1) (b := v.2) (opF_num h fun e => ?_) hn
  have := congrArg Int32.toInt e
  rw [nI_toInt (by omega), show (-2 : Int32).toInt = -2 from by decide] at this
  omega
theorem opF_lt {x : Txt} {n a : Nat} {v : Nat × Nat} (h : opF x (nI n - 1) a = .inr v) (hn : n < 2147483648) : v.1 < n := numF_pen (v := v.1) (b := v.2) (opF_num h (nI_m1_ne hn)) hn
theorem op3_ok {x : Txt} {t : HutT} {k a e : Nat} {v : (Nat × Nat × Nat) × Nat} (ht : t.1 ≤ 8) (hw : t.2.2.2.2.1 ≤ 16) (hk : k < 10) (h : op3 x t k a = .inr v) : StepOk t (k, v.1.1, v.1.2.1, v.1.2.2, e) := by
  unfold op3 at h
  cases h1 : opF x (mostA t (nI k)) a with
  | inl e => rw [h1] at h; exact nomatch h
  | inr u =>
    rw [h1] at h
    have h : (match opF x (mostB t (nI k)) u.2 with
      | .inl e => .inl e
      | .inr v => match opF x (mostC (nI k)) v.2 with
        | .inl e => .inl e
        | .inr z => .inr ((u.1, v.1, z.1), z.2)) = Sum.inr v := h
    cases h2 : opF x (mostB t (nI k)) u.2 with
    | inl e => rw [h2] at h; exact nomatch h
    | inr y =>
      rw [h2] at h
      have h : (match opF x (mostC (nI k)) y.2 with
        | .inl e => .inl e
        | .inr z => .inr ((u.1, y.1, z.1), z.2)) = Sum.inr v := h
      cases h3 : opF x (mostC (nI k)) y.2 with
      | inl e => rw [h3] at h; exact nomatch h
      | inr z =>
        rw [h3] at h
        have h : ((u.1, y.1, z.1), z.2) = v := Sum.inr.inj h
        subst h
        have ee : ∀ {m m' : Int32} {q : Nat} {w : Nat × Nat}, m = m' → opF x m q = .inr w → opF x m' q = .inr w := fun e h => e ▸ h
        have t8 : t.1 < 2147483648 := by omega
        have w16 : t.2.2.2.2.1 < 2147483648 := by omega
        have hk : k = 0 ∨ k = 1 ∨ k = 2 ∨ k = 3 ∨ k = 4 ∨ k = 5 ∨ k = 6 ∨ k = 7 ∨ k = 8 ∨ k = 9 := by omega
        unfold StepOk
        show k ≤ 9 ∧ ((k ≤ 1 ∨ (3 ≤ k ∧ k ≤ 7)) → u.1 < t.1) ∧ (k = 2 → u.1 < t.2.2.2.2.1) ∧ (k = 6 → y.1 < t.1) ∧ (k = 5 → y.1 ≤ 24) ∧ ((k = 5 ∨ k = 6) → z.1 ≤ 24) ∧ (k = 7 → y.1 ≤ 99 ∧ z.1 ≤ 99) ∧ (k = 9 → u.1 ≤ 60)
        rcases hk with rfl | rfl | rfl | rfl | rfl | rfl | rfl | rfl | rfl | rfl
        · have := opF_lt (ee (show mostA t (nI 0) = nI t.1 - 1 from rfl) h1) t8
          omega
        · have := opF_lt (ee (show mostA t (nI 1) = nI t.1 - 1 from rfl) h1) t8
          omega
        · have := opF_lt (ee (show mostA t (nI 2) = nI t.2.2.2.2.1 - 1 from rfl) h1) w16
          omega
        · have := opF_lt (ee (show mostA t (nI 3) = nI t.1 - 1 from rfl) h1) t8
          omega
        · have := opF_lt (ee (show mostA t (nI 4) = nI t.1 - 1 from rfl) h1) t8
          omega
        · have q1 := opF_lt (ee (show mostA t (nI 5) = nI t.1 - 1 from rfl) h1) t8
          have q2 := opF_le (ee (show mostB t (nI 5) = nI 24 from rfl) h2) (by decide)
          have q3 := opF_le (ee (show mostC (nI 5) = nI 24 from rfl) h3) (by decide)
          omega
        · have q1 := opF_lt (ee (show mostA t (nI 6) = nI t.1 - 1 from rfl) h1) t8
          have q2 := opF_lt (ee (show mostB t (nI 6) = nI t.1 - 1 from rfl) h2) t8
          have q3 := opF_le (ee (show mostC (nI 6) = nI 24 from rfl) h3) (by decide)
          omega
        · have q1 := opF_lt (ee (show mostA t (nI 7) = nI t.1 - 1 from rfl) h1) t8
          have q2 := opF_le (ee (show mostB t (nI 7) = nI 99 from rfl) h2) (by decide)
          have q3 := opF_le (ee (show mostC (nI 7) = nI 99 from rfl) h3) (by decide)
          omega
        · omega
        · have q1 := opF_le (ee (show mostA t (nI 9) = nI 60 from rfl) h1) (by decide)
          omega
/-- what a reading of STEPS leaves: those of before as they were; all right; in order -/
def StW (t : HutT) (D n : Nat) (pr : Nat → StepT) (r : StpT) : Prop := ∀ b, r.1 = .inr b → n ≤ r.2.1 ∧ (∀ i, i < n → r.2.2 i = pr i) ∧ (∀ i, n ≤ i → i < r.2.1 → StepOk t (r.2.2 i) ∧ (r.2.2 i).2.2.2.2 ≤ r.2.1) ∧ WfQ r.2.2 D n r.2.1
theorem needF_in {x : Txt} {k : Nat} {c : Cur} {b : Nat} (h : needF x k c = .inr b) : ∃ a, c = .inr a := by
  cases c with
  | inl e => exact nomatch h
  | inr a => exact ⟨a, rfl⟩
theorem stepF_w {x : Txt} {t : HutT} {rec : Cur → Nat → (Nat → StepT) → StpT} {full : Prop} [Decidable full] {D a n : Nat} {pr : Nat → StepT} (ht : t.1 ≤ 8) (hw : t.2.2.2.2.1 ≤ 16) (hr : ¬ full → ∀ c n pr, StW t D n pr (rec c n pr)) : ∀ b, (stepF x t rec full a n pr).1 = .inr b → n < (stepF x t rec full a n pr).2.1 ∧ (∀ i, i < n → (stepF x t rec full a n pr).2.2 i = pr i) ∧ (∀ i, n ≤ i → i < (stepF x t rec full a n pr).2.1 → StepOk t ((stepF x t rec full a n pr).2.2 i) ∧ ((stepF x t rec full a n pr).2.2 i).2.2.2.2 ≤ (stepF x t rec full a n pr).2.1) ∧ ((stepF x t rec full a n pr).2.2 n).2.2.2.2 = (stepF x t rec full a n pr).2.1 ∧ (((stepF x t rec full a n pr).2.2 n).1 = 9 → WfQ (stepF x t rec full a n pr).2.2 D (n + 1) (stepF x t rec full a n pr).2.1) := by
  intro b hb
  unfold stepF at hb ⊢
  cases hwd : wordF x W2 a with
  | inl e => rw [hwd] at hb; exact nomatch hb
  | inr kk =>
    rw [hwd] at hb
    have hk : kk.1 < 10 := wordF_lt hwd
    obtain ⟨k, b0⟩ := kk
    have hb : (stepK x t rec full a k b0 n pr).1 = .inr b := hb
    have hk : k < 10 := hk
    show n < (stepK x t rec full a k b0 n pr).2.1 ∧ (∀ i, i < n → (stepK x t rec full a k b0 n pr).2.2 i = pr i) ∧ (∀ i, n ≤ i → i < (stepK x t rec full a k b0 n pr).2.1 → StepOk t ((stepK x t rec full a k b0 n pr).2.2 i) ∧ ((stepK x t rec full a k b0 n pr).2.2 i).2.2.2.2 ≤ (stepK x t rec full a k b0 n pr).2.1) ∧ ((stepK x t rec full a k b0 n pr).2.2 n).2.2.2.2 = (stepK x t rec full a k b0 n pr).2.1 ∧ (((stepK x t rec full a k b0 n pr).2.2 n).1 = 9 → WfQ (stepK x t rec full a k b0 n pr).2.2 D (n + 1) (stepK x t rec full a k b0 n pr).2.1)
    unfold stepK at hb ⊢
    by_cases hf : k = 9 ∧ full
    · rw [if_pos hf] at hb; exact nomatch hb
    rw [if_neg hf] at hb ⊢
    cases h3 : op3 x t k b0 with
    | inl e => rw [h3] at hb; exact nomatch hb
    | inr v =>
      rw [h3] at hb
      by_cases h9 : k = 9
      · have nf : ¬ full := fun z => hf ⟨h9, z⟩
        have hb : (if k = 9 then againF x v.1 n (rec (needF x 91 (.inr v.2)) (n + 1) (up pr n (9, v.1.1, v.1.2.1, v.1.2.2, 0))) else (needF x 59 (.inr v.2), n + 1, up pr n (k, v.1.1, v.1.2.1, v.1.2.2, n + 1))).1 = .inr b := hb
        rw [if_pos h9] at hb
        simp only [if_pos h9]
        have r0 := hr nf (needF x 91 (.inr v.2)) (n + 1) (up pr n (9, v.1.1, v.1.2.1, v.1.2.2, 0))
        generalize rec (needF x 91 (.inr v.2)) (n + 1) (up pr n (9, v.1.1, v.1.2.1, v.1.2.2, 0)) = r at hb r0 ⊢
        have hb : needF x 59 (needF x 93 r.1) = .inr b := hb
        obtain ⟨b1, hb1⟩ := needF_in hb
        obtain ⟨b2, hb2⟩ := needF_in hb1
        obtain ⟨s1, s2, s3, s4⟩ := r0 b2 hb2
        unfold againF
        refine ⟨by show n < r.2.1; omega, fun i hi => ?_, fun i h1 h2 => ?_, ?_, fun _ => ?_⟩
        · show up r.2.2 n _ i = pr i
          rw [up_o (by omega), s2 i (by omega), up_o (by omega)]
        · have h2 : i < r.2.1 := h2
          show StepOk t (up r.2.2 n (9, v.1.1, v.1.2.1, v.1.2.2, r.2.1) i) ∧ (up r.2.2 n (9, v.1.1, v.1.2.1, v.1.2.2, r.2.1) i).2.2.2.2 ≤ r.2.1
          by_cases e : i = n
          · rw [e, up_s]
            have := op3_ok (e := r.2.1) ht hw hk h3
            rw [h9] at this
            exact ⟨this, Nat.le_refl _⟩
          · rw [up_o e]
            exact s3 i (by omega) h2
        · show (up r.2.2 n (9, v.1.1, v.1.2.1, v.1.2.2, r.2.1) n).2.2.2.2 = r.2.1
          rw [up_s]
        · exact s4.loc D (n + 1) r.2.1 fun j y1 y2 => up_o (by omega)
      · have hb : (if k = 9 then againF x v.1 n (rec (needF x 91 (.inr v.2)) (n + 1) (up pr n (9, v.1.1, v.1.2.1, v.1.2.2, 0))) else (needF x 59 (.inr v.2), n + 1, up pr n (k, v.1.1, v.1.2.1, v.1.2.2, n + 1))).1 = .inr b := hb
        simp only [if_neg h9]
        refine ⟨Nat.lt_succ_self _, fun i hi => up_o (by omega), fun i h1 h2 => ?_, ?_, fun z => ?_⟩
        · have e : i = n := by omega
          rw [e, up_s]
          exact ⟨op3_ok (e := n + 1) ht hw hk h3, Nat.le_refl _⟩
        · rw [up_s]
        · rw [up_s] at z; exact absurd z h9
theorem StW.e {t : HutT} {D n : Nat} {pr : Nat → StepT} {e : Nat × Nat} {r : StpT} (h : r.1 = .inl e) : StW t D n pr r := fun b hb => by rw [h] at hb; exact nomatch hb
theorem stepsL_w {x : Txt} {t : HutT} {rec : Cur → Nat → (Nat → StepT) → StpT} {full within : Prop} [Decidable full] [Decidable within] {D n0 : Nat} {pr0 : Nat → StepT} (ht : t.1 ≤ 8) (hw : t.2.2.2.2.1 ≤ 16) (hr : ¬ full → ∀ c n pr, StW t D n pr (rec c n pr)) : ∀ (f : Nat) (c : Cur) (n : Nat) (pr : Nat → StepT), n0 ≤ n → (∀ i, i < n0 → pr i = pr0 i) → (∀ i, n0 ≤ i → i < n → StepOk t (pr i) ∧ (pr i).2.2.2.2 ≤ n) → WfQ pr (D + 1) n0 n → StW t (D + 1) n0 pr0 (stepsL x t rec full within f c n pr) := by
  intro f
  induction f with
  | zero => intro c n pr h1 h2 h3 h4 b _; exact ⟨h1, h2, h3, h4⟩
  | succ f ih =>
    intro c n pr h1 h2 h3 h4
    cases c with
    | inl e => exact StW.e (e := e) rfl
    | inr a =>
      have eF : stepsL x t rec full within (f + 1) (.inr a) n pr = if a < x.2 then (if within ∧ chT x a = 93 then (.inr a, n, pr) else stepsL x t rec full within f (stepF x t rec full a n pr).1 (stepF x t rec full a n pr).2.1 (stepF x t rec full a n pr).2.2) else (.inr a, n, pr) := rfl
      rw [eF]
      by_cases ha : a < x.2
      · rw [if_pos ha]
        by_cases h93 : within ∧ chT x a = 93
        · rw [if_pos h93]
          exact fun b _ => ⟨h1, h2, h3, h4⟩
        rw [if_neg h93]
        have hs := stepF_w (x := x) (a := a) (n := n) (pr := pr) (D := D) ht hw hr
        generalize stepF x t rec full a n pr = r at hs ⊢
        cases hc : r.1 with
        | inl e =>
          rw [stepsL_e]
          exact StW.e (e := e) rfl
        | inr b =>
          obtain ⟨s1, s2, s3, s4, s5⟩ := hs b hc
          refine ih (.inr b) r.2.1 r.2.2 (by omega) (fun i hi => by rw [s2 i (by omega)]; exact h2 i hi) (fun i y1 y2 => ?_) ?_
          · by_cases e : i < n
            · rw [s2 i e]
              obtain ⟨z1, z2⟩ := h3 i y1 e
              exact ⟨z1, by omega⟩
            · exact s3 i (by omega) y2
          · obtain ⟨g, hg⟩ := h4
            have hg : SeqW pr (WfQ pr D) g n0 n := hg
            have hg' : SeqW r.2.2 (WfQ r.2.2 D) g n0 n := SeqW.loc g n0 (fun j y1 y2 => s2 j y2) (fun u w hu hw hP => WfQ.loc D u w (fun j y1 y2 => s2 j (by omega)) hP) hg
            refine ⟨g + 1, ?_⟩
            have := SeqW.snoc g n0 hg' (by rw [s4]; exact s1) (fun z => by rw [s4]; exact s5 z)
            rw [s4] at this
            exact this
      · rw [if_neg ha]
        exact fun b _ => ⟨h1, h2, h3, h4⟩
theorem stepsF_w {x : Txt} {t : HutT} (ht : t.1 ≤ 8) (hw : t.2.2.2.2.1 ≤ 16) : ∀ (D : Nat) (c : Cur) (n : Nat) (pr : Nat → StepT), StW t (D + 1) n pr (stepsF x t D c n pr) := by
  intro D
  induction D with
  | zero =>
    intro c n pr
    exact stepsL_w (D := 0) ht hw (fun z => absurd trivial z) 38 c n pr (Nat.le_refl _) (fun _ _ => rfl) (fun i h1 h2 => by omega) ⟨0, rfl⟩
  | succ D ih =>
    intro c n pr
    exact stepsL_w (D := D + 1) ht hw (fun _ => ih) 38 c n pr (Nat.le_refl _) (fun _ _ => rfl) (fun i h1 h2 => by omega) ⟨0, rfl⟩
