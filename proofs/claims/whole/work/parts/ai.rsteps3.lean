/-! ===== the reference reads WORK: one STEP ===== -/
theorem R_numbers9 {μ : Mem} {hs : Nat} (s : RfS μ) (as : ArS μ hs 5) (h0 : g_I μ hs 0 = nI 9) : LX12_numbers 125 hs μ = some ((), μ) := by
  have i0 : inA μ hs 15 (0 : Int32) = true := as.ix (i := 0) (by decide) (by decide)
  unfold LX12_numbers
  rw [if_pos s.1, if_pos as.1, if_pos i0, c0n, h0, if_neg (show ¬ nI 9 = (2 : Int32) by decide)]
  unfold mX12_numbers_25 mX12_numbers_43 mX12_numbers_58 mX12_numbers_71 mX12_numbers_86 mX12_numbers_107
  rw [if_neg (show ¬ nI 9 = (2 : Int32) by decide), if_pos (show (8 : Int32) ≤ nI 9 by decide), if_pos (show (2 : Int32) ≤ nI 9 by decide), if_neg (show ¬ nI 9 = (6 : Int32) by decide), if_neg (show ¬ nI 9 = (5 : Int32) by decide), if_neg (show ¬ nI 9 = (5 : Int32) by decide), if_neg (show ¬ nI 9 = (6 : Int32) by decide), if_neg (show ¬ nI 9 = (7 : Int32) by decide)]
/-- what stands behind the numbers of a STEP of the kind k -/
def step9 (rec : Nat → Mem → Option (Unit × Mem)) (hs k : Nat) (m27 : Mem) : Option (Unit × Mem) := if nI k = (9 : Int32) then (obind (LX12_number 125 (0 : Int32) (60 : Int32) m27) (fun (r31 : Int32) (m32 : Mem) => if inA m32 hs 15 (1 : Int32) = true then (obind (LX12_sign 125 (91 : Int32) (p_I m32 hs (1 : Int32).toNatClampNeg r31)) (fun (_ : Unit) (m37 : Mem) => obind (LX12_blanks 125 m37) (fun (_ : Unit) (m41 : Mem) => mX12_readsStep_100 rec 100000 125 hs m41))) else none)) else (mX12_readsStep_147 rec 125 hs m27)
theorem R_33 {rec : Nat → Mem → Option (Unit × Mem)} {μ : Mem} {x : Txt} {a n k : Nat} (t : TmA μ x a) (h28 : g_I μ 125 28 = nI n) (hn : n < 80) : ∃ m2 : Mem, mX12_readsStep_33 rec 125 (nI k) μ = (obind (LX12_numbers 125 (523 + n) m2) fun (_ : Unit) (m27 : Mem) => step9 rec (523 + n) k m27) ∧ OF pF (fun y => y = 523 + n) μ m2 ∧ TmR m2 x (.inr (sk x (ltE x a))) ∧ g_I m2 125 28 = nI (n + 1) ∧ g_I m2 125 8 = g_I μ 125 8 ∧ g_I m2 (523 + n) 0 = nI k ∧ ArS m2 (523 + n) 5 := by
  obtain ⟨m1, e1, o1, t1⟩ := R_skipWord t
  have s1 := t1.1.1
  have h28' : g_I m1 125 28 = nI n := by rw [o1.2 28 (by decide)]; exact h28
  obtain ⟨q1, q2, q3, q4⟩ := s1.t522.at hn (by decide)
  have e523 : 522 + 1 + n = 523 + n := by omega
  rw [e523] at q2 q3 q4
  have i0 : inA m1 (523 + n) 15 (0 : Int32) = true := q4.ix (i := 0) (by decide) (by decide)
  unfold mX12_readsStep_33
  rw [t.2.1, if_pos rfl, e1, ob, s1.h27, if_pos q522, h28', if_pos q1, q2, if_pos q3, if_pos q4.1, if_pos i0, c0n, ← nI_succ]
  refine ⟨_, rfl, ?_, ?_, ?_, ?_, gI_s, q4⟩
  · exact ((t_p o1 (fun _ z => z.elim)).p0 (Or.inr (Or.inr (Or.inr (Or.inr rfl))))).pS rfl (by omega)
  · exact (t1.r.o (F := fun k => k = 28) (S := nS) (OF.rf.p0 rfl) (by decide) (fun z => z) (by decide) (by decide) (by decide)).S (by omega) (by omega)
  · rw [gI_h (by omega), gI_s]
  · rw [gI_h (by omega), gI_k (by decide), o1.2 8 (by decide)]
theorem stepF_at {x : Txt} {t : HutT} {rec : Cur → Nat → (Nat → StepT) → StpT} {full : Prop} [Decidable full] {a n : Nat} {pr : Nat → StepT} {k b : Nat} (h : wordF x W2 a = .inr (k, b)) : stepF x t rec full a n pr = stepK x t rec full a k b n pr := by
  unfold stepF
  rw [h]
theorem R_step {x : Txt} {t : HutT} {o : Nat} {rec : Nat → Mem → Option (Unit × Mem)} {rc : Cur → Nat → (Nat → StepT) → StpT} {full : Prop} [Decidable full] (hN : x.2 ≤ 150) (ho : o ≤ 6) (ok : HutOk t) (hfull : full ↔ o = 6)
    (H : o < 6 → ∀ (hs : Nat) (c : Cur) (n : Nat) (pr : Nat → StepT) (μ : Mem), PsP μ x t (o + 1) n c → (∀ a, c = .inr a → TmA μ x a) → ∃ μ1 : Mem, mX12_readsStep_100 rec 100000 125 hs μ = mX12_readsStep_147 rec 125 hs μ1 ∧ OF pF (pS n) μ μ1 ∧ PsM μ1 x o n pr (needF x 93 (rc c n pr).1, (rc c n pr).2.1, (rc c n pr).2.2)) :
    StepH x t o (LX12_readsStep_b rec) (stepF x t rc full) := by
  intro a n pr μ ⟨t0, hu, h0⟩
  obtain ⟨h4, h8, h28⟩ := h0 a rfl
  have hax := t0.le
  have hn80 : n < 80 := by omega
  unfold LX12_readsStep_b
  rw [if_pos t0.1.1.1]
  obtain ⟨m1, e1, o1, t1, g1⟩ := R_stepHere t0
  have ta := g1 a rfl
  rw [e1, ob]
  have h81 : g_I m1 125 8 = nI o := by rw [o1.2 8 (by decide)]; exact h8
  have h281 : g_I m1 125 28 = nI n := by rw [o1.2 28 (by decide)]; exact h28
  have kv : kindV x W2 (.inr a) = oneV (wordIx x a (ltE x a) W2 0) := rfl
  rw [kv]
  have o1p : OF pF (pS n) μ m1 := t_p o1 (fun _ z => z.elim)
  cases hw : wordIx x a (ltE x a) W2 0 with
  | none =>
    have hwd : wordF x W2 a = .inl (1, a) := by
      unfold wordF
      rw [hw]
      split <;> rfl
    have hst : stepF x t rc full a n pr = (.inl (1, a), n, pr) := by
      unfold stepF
      rw [hwd]
    rw [show oneV none = (-1 : Int32) from rfl, if_pos rfl, ta.2.2.2.1, hst]
    obtain ⟨m2, e2, o2, t2⟩ := R_wrong (k := 1) (p := a) t1 (by decide) (by decide)
    have e2 : LX12_wrong 125 (1 : Int32) (nI a) m1 = some ((), m2) := e2
    have t2 : TmR m2 x (.inl (1, a)) := t2
    obtain ⟨q1, q2⟩ := TmB.err t2 rfl
    rw [e2, ob]
    unfold mX12_readsStep_19 mX12_readsStep_33
    rw [if_neg (by decide), q1, if_neg q2]
    exact ⟨m2, rfl, o1p.tr (t_p o2 (fun _ z => z.elim)), ⟨t2, fun b hb => nomatch hb⟩, fun b hb => nomatch hb⟩
  | some k =>
    have hl := wordIx_len W2 0 k 3 (by decide) hw
    obtain ⟨l1, l2⟩ := ltE_le hax
    have k1 := sk_at (x := x) (a := ltE x a)
    have k2 := sk_le (x := x) (a := ltE x a) l2
    have hwd : wordF x W2 a = .inr (k, sk x (ltE x a)) := by
      unfold wordF
      rw [hw, if_pos (by omega)]
      rfl
    have hk : k < 10 := wordF_lt hwd
    rw [stepF_at hwd, show oneV (some k) = nI k from rfl, if_neg (nI_nm1 (show k < 2147483648 by omega))]
    generalize hb0 : sk x (ltE x a) = b0 at k1 k2
    by_cases h9 : k = 9
    case neg =>
      have h9' : ¬ nI k = (9 : Int32) := fun z => h9 ((nI_eq (a := k) (b := 9) (by omega) (by decide)).mp z)
      unfold mX12_readsStep_19
      rw [if_neg h9']
      obtain ⟨m2, e2, o2, t2, f28, f8, f0, as2⟩ := R_33 (rec := rec) (k := k) ta h281 hn80
      rw [hb0] at t2
      have o2p : OF pF (pS n) m1 m2 := o2.mo (fun _ z => z) (fun y z => by have z : y = 523 + n := z; exact ⟨by omega, by omega⟩)
      obtain ⟨m3, e3, o3, t3, v3⟩ := R_numbers t2 ((hu.p ok o1p).p ok o2p) ok as2 (show 523 ≤ 523 + n by omega) f0 (by omega)
      have o3p : OF pF (pS n) m2 m3 := t_p o3 (fun y z => by have z : y = 523 + n := z; exact ⟨by omega, by omega⟩)
      have as3 : ArS m3 (523 + n) 5 := by unfold ArS; rw [sh_isK o3.1.1, sh_gN o3.1.1]; exact as2
      obtain ⟨m4, e4, o4, t4, g4⟩ := R_147 (rec := rec) t3 as3 (by omega)
      have o4p : OF pF (pS n) m3 m4 := t_p o4 (fun y z => by have z : y = 523 + n := z; exact ⟨by omega, by omega⟩)
      have f28' : g_I m3 125 28 = nI (n + 1) := by rw [o3.2 28 (by decide)]; exact f28
      rw [e2, e3, ob]
      unfold step9
      rw [if_neg h9', e4]
      have sk1 : stepK x t rc full a k b0 n pr = match op3 x t k b0 with
          | .inl e => (.inl e, n, pr)
          | .inr v => (needF x 59 (.inr v.2), n + 1, up pr n (k, v.1.1, v.1.2.1, v.1.2.2, n + 1)) := by
        unfold stepK
        rw [if_neg (fun z => h9 z.1)]
        cases op3 x t k b0 with
        | inl e => rfl
        | inr v => exact if_neg h9
      rw [sk1]
      cases h3 : op3 x t k b0 with
      | inl e =>
        rw [h3] at t4
        exact ⟨m4, rfl, ((o1p.tr o2p).tr o3p).tr o4p, ⟨t4, fun b hb => nomatch hb⟩, fun b hb => nomatch hb⟩
      | inr v =>
        rw [h3] at t4 v3
        obtain ⟨w0, w1, w2, w3⟩ := v3 v rfl
        obtain ⟨y1, y2⟩ := op3_at h3 k2
        refine ⟨m4, rfl, ((o1p.tr o2p).tr o3p).tr o4p, ⟨t4, fun b hb => ?_⟩, fun b hb => Nat.lt_succ_self n⟩
        have hb : needF x 59 (.inr v.2) = .inr b := hb
        obtain ⟨z1, z2⟩ := needF_at hb (by decide)
        refine ⟨by show 4 * (n + 1) ≤ b; omega, Nat.le_succ n, ?_, ?_, fun i hi => up_o (by omega), fun i hi1 hi2 => ?_⟩
        · rw [o4.2 8 (by decide), o3.2 8 (by decide), f8]; exact h81
        · rw [o4.2 28 (by decide)]; exact f28'
        · have hi2 : i < n + 1 := hi2
          obtain rfl : i = n := by omega
          show StpM m4 (523 + i) (up pr i _ i)
          rw [up_s]
          unfold StpM
          rw [g4, ru_s, f28', ru_o (by decide), ru_o (by decide), ru_o (by decide), ru_o (by decide)]
          exact ⟨w0, w1, w2, w3, rfl⟩
    subst h9
    have hb9 : ∀ (m : Mem) , mX12_readsStep_19 rec 125 (nI 9) m = (obind (LX12_opensOne 125 m) (fun (r11 : Int32) (m12 : Mem) => if r11 = 0 then (some ((), m12)) else (mX12_readsStep_33 rec 125 (nI 9) m12))) := fun m => if_pos rfl
    rw [hb9]
    obtain ⟨op6, opl⟩ := R_opens ta h81 ho
    by_cases h6 : o = 6
    · obtain ⟨m2, e2, o2, t2⟩ := op6 h6
      rw [e2, ob, if_pos rfl, show stepK x t rc full a 9 b0 n pr = (.inl (3, a), n, pr) from if_pos ⟨rfl, hfull.mpr h6⟩]
      exact ⟨m2, rfl, o1p.tr (t_p o2 (fun _ z => z.elim)), ⟨t2, fun b hb => nomatch hb⟩, fun b hb => nomatch hb⟩
    have ho6 : o < 6 := by omega
    rw [opl ho6, ob, if_neg (by decide)]
    have oo1 : OF pF (pS n) m1 (p_I m1 125 8 (nI (o + 1))) := (OF.rf (F := pF) (S := pS n)).p0 (Or.inr (Or.inr (Or.inr (Or.inl rfl))))
    have ta' : TmA (p_I m1 125 8 (nI (o + 1))) x a := ta.o (F := fun k => k = 8) (S := nS) (OF.rf.p0 rfl) (by decide) (fun z => z) (by decide) (by decide) (by decide)
    obtain ⟨m2, e2, o2, t2, f28, f8, f0, as2⟩ := R_33 (rec := rec) (k := 9) ta' (by rw [gI_k (by decide)]; exact h281) hn80
    rw [hb0] at t2
    rw [gI_s] at f8
    have o2p : OF pF (pS n) (p_I m1 125 8 (nI (o + 1))) m2 := o2.mo (fun _ z => z) (fun y z => by have z : y = 523 + n := z; exact ⟨by omega, by omega⟩)
    rw [e2, R_numbers9 t2.1.1 as2 f0, ob]
    unfold step9
    rw [if_pos (show nI 9 = (9 : Int32) from rfl)]
    obtain ⟨m3, e3, o3, t3⟩ := R_number (most := 60) t2
    have as3 : ArS m3 (523 + n) 5 := by unfold ArS; rw [sh_isK o3.1.1, sh_gN o3.1.1]; exact as2
    have i1 : inA m3 (523 + n) 15 (1 : Int32) = true := as3.ix (i := 1) (by decide) (by decide)
    rw [e3, ob, if_pos i1, c1n]
    obtain ⟨m4, hm4⟩ : ∃ m4, m4 = p_I m3 (523 + n) 1 (numV (numCur x 60 (.inr b0))) := ⟨_, rfl⟩
    rw [← hm4]
    have o4 : OF tF (fun y => y = 523 + n) m2 m4 := by rw [hm4]; exact (o3.mo (fun _ z => z) (fun _ z => z.elim)).pS rfl (by omega)
    have t4 : TmR m4 x (numC (numCur x 60 (.inr b0))) := by rw [hm4]; exact t3.S (by omega) (by omega)
    have r4 : g_I m4 (523 + n) = ru (g_I m2 (523 + n)) 1 (numV (numCur x 60 (.inr b0))) := by rw [hm4, gI_row, o3.r (by omega) (fun z => z)]
    obtain ⟨m5, e5, o5, t5⟩ := R_sign (k := 91) t4 (by decide)
    have e5 : LX12_sign 125 (91 : Int32) m4 = some ((), m5) := e5
    obtain ⟨m6, e6, o6, t6, g6⟩ := R_blanksC t5
    rw [e5, ob, e6, ob]
    have o46 : OF tF (fun y => y = 523 + n) m2 m6 := (o4.tr (o5.mo (fun _ z => z) (fun _ z => z.elim))).tr (o6.mo (fun _ z => z) (fun _ z => z.elim))
    have o46p : OF pF (pS n) m2 m6 := t_p o46 (fun y z => by have z : y = 523 + n := z; exact ⟨by omega, by omega⟩)
    have oA : OF pF (pS n) μ m6 := ((o1p.tr oo1).tr o2p).tr o46p
    have hu6 : HuM m6 t := hu.p ok oA
    have f28' : g_I m6 125 28 = nI (n + 1) := by rw [o46.2 28 (by decide)]; exact f28
    have f8' : g_I m6 125 8 = nI (o + 1) := by rw [o46.2 8 (by decide)]; exact f8
    have r6 : g_I m6 (523 + n) = ru (g_I m2 (523 + n)) 1 (numV (numCur x 60 (.inr b0))) := by rw [o6.r (by omega) (fun z => z), o5.r (by omega) (fun z => z)]; exact r4
    have as6 : ArS m6 (523 + n) 5 := by unfold ArS; rw [sh_isK o46.1.1, sh_gN o46.1.1]; exact as2
    -- the numbers of the document
    obtain ⟨oc, ov⟩ := op3_c (x := x) (t := t) (k := 9) (b := b0)
    rw [show mostA t (nI 9) = 60 from rfl, show mostB t (nI 9) = -2 from rfl, show mostC (nI 9) = -2 from rfl, op2, op2] at oc
    rw [show mostA t (nI 9) = 60 from rfl] at ov
    obtain ⟨n1, n2⟩ := opN (x := x) (c := .inr b0) (show ¬ (60 : Int32) = -2 by decide)
    rw [n1] at oc
    rw [n2] at ov
    have sk1 : stepK x t rc full a 9 b0 n pr = match op3 x t 9 b0 with
        | .inl e => (.inl e, n, pr)
        | .inr v => againF x v.1 n (rc (needF x 91 (.inr v.2)) (n + 1) (up pr n (9, v.1.1, v.1.2.1, v.1.2.2, 0))) := by
      unfold stepK
      rw [if_neg (fun z => h6 (hfull.mp z.2))]
      cases op3 x t 9 b0 with
      | inl e => rfl
      | inr v => exact if_pos rfl
    cases h3 : op3 x t 9 b0 with
    | inl e =>
      rw [show stepK x t rc full a 9 b0 n pr = (.inl e, n, pr) by rw [sk1, h3]]
      rw [oc, h3] at t6
      have t6 : TmR m6 x (.inl e) := t6
      obtain ⟨m7, e7, o7, t7⟩ := R_withinE (rec := rec) (hs := 523 + n) (fu := 99999) t6
      have e7 : mX12_readsStep_100 rec 100000 125 (523 + n) m6 = mX12_readsStep_147 rec 125 (523 + n) m7 := e7
      have as7 : ArS m7 (523 + n) 5 := by unfold ArS; rw [sh_isK o7.1.1, sh_gN o7.1.1]; exact as6
      obtain ⟨m8, e8, o8, t8, g8⟩ := R_147 (rec := rec) t7 as7 (by omega)
      rw [e7, e8]
      exact ⟨m8, rfl, (oA.tr (o7.mo (fun _ z => z) (fun _ z => z.elim))).tr (t_p o8 (fun y z => by have z : y = 523 + n := z; exact ⟨by omega, by omega⟩)), ⟨t8, fun b hb => nomatch hb⟩, fun b hb => nomatch hb⟩
    | inr v =>
      obtain ⟨y1, y2⟩ := op3_at h3 k2
      have v1 := (ov v h3).1
      rw [oc, h3] at t6 g6
      have t6 : TmR m6 x (needF x 91 (.inr v.2)) := t6
      have g6 : ∀ a, needF x 91 (.inr v.2) = .inr a → TmA m6 x a := g6
      obtain ⟨m7, e7, o7, p7⟩ := H ho6 (523 + n) (needF x 91 (.inr v.2)) (n + 1) (up pr n (9, v.1.1, v.1.2.1, v.1.2.2, 0)) m6 ⟨t6, hu6, fun a' ha' => by
        obtain ⟨z1, z2⟩ := needF_at ha' (by decide)
        exact ⟨by omega, f8', f28'⟩⟩ g6
      have as7 : ArS m7 (523 + n) 5 := by unfold ArS; rw [sh_isK o7.1.1, sh_gN o7.1.1]; exact as6
      obtain ⟨m8, e8, o8, t8, g8⟩ := R_147 (rec := rec) p7.1 as7 (by omega)
      rw [e7, e8, show stepK x t rc full a 9 b0 n pr = againF x v.1 n (rc (needF x 91 (.inr v.2)) (n + 1) (up pr n (9, v.1.1, v.1.2.1, v.1.2.2, 0))) by rw [sk1, h3]]
      generalize rc (needF x 91 (.inr v.2)) (n + 1) (up pr n (9, v.1.1, v.1.2.1, v.1.2.2, 0)) = rr at p7 t8 ⊢
      refine ⟨m8, rfl, (oA.tr (p_p o7 (by omega))).tr (t_p o8 (fun y z => by have z : y = 523 + n := z; exact ⟨by omega, by omega⟩)), ⟨t8, fun b hb => ?_⟩, fun b hb => ?_⟩
      · have hb : needF x 59 (needF x 93 rr.1) = .inr b := hb
        obtain ⟨a1, ha1⟩ := needF_in hb
        obtain ⟨u1, u2, u3, u4, u5, u6⟩ := p7.2 a1 ha1
        have u1 : 4 * rr.2.1 ≤ a1 := u1
        have u2 : n + 1 ≤ rr.2.1 := u2
        have u4 : g_I m7 125 28 = nI rr.2.1 := u4
        rw [ha1] at hb
        obtain ⟨z1, z2⟩ := needF_at hb (by decide)
        have hr7 : g_I m7 (523 + n) = g_I m6 (523 + n) := o7.r (by omega) (fun z => by obtain ⟨z1, z2⟩ := z; omega)
        refine ⟨by show 4 * rr.2.1 ≤ b; omega, by show n ≤ rr.2.1; omega, by rw [o8.2 8 (by decide)]; exact u3, by rw [o8.2 28 (by decide)]; exact u4, fun i hi => ?_, fun i hi1 hi2 => ?_⟩
        · show up rr.2.2 n _ i = _
          rw [up_o (by omega)]
          have := u5 i (by omega)
          rw [this, up_o (by omega)]
        · have hi2 : i < rr.2.1 := hi2
          show StpM m8 (523 + i) (up rr.2.2 n (9, v.1.1, v.1.2.1, v.1.2.2, rr.2.1) i)
          by_cases e : i = n
          · subst e
            rw [up_s]
            unfold StpM
            rw [g8, hr7, r6, u4, ru_s, ru_o (by decide), ru_o (by decide), ru_o (by decide), ru_s, f0]
            refine ⟨rfl, fun _ => v1, fun z => ?_, fun z => ?_, rfl⟩
            · have z : 9 ≤ 1 ∨ (5 ≤ 9 ∧ 9 ≤ 7) := z
              omega
            · have z : 5 ≤ 9 ∧ 9 ≤ 7 := z
              omega
          · rw [up_o e]
            exact (u6 i (by omega) hi2).fr (o8.r (by omega) (fun z => e (by have z : 523 + i = 523 + n := z; omega)))
      · have hb : needF x 59 (needF x 93 rr.1) = .inr b := hb
        obtain ⟨a1, ha1⟩ := needF_in hb
        have u2 : n + 1 ≤ rr.2.1 := (p7.2 a1 ha1).2.1
        show n < rr.2.1
        omega
