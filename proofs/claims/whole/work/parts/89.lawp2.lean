/-! ===== LAW: the class reads it ===== -/
def inLw (tp h : Nat) : Nat → Prop := fun z => z = tp ∨ z = h ∨ z = h + 2 ∨ z = h + 3
def Many (μ : Mem) (h : Nat) : Prop := ∃ m : Nat, m ≤ 150 ∧ g_I μ h 3 = nI m
def LawP (μ : Mem) (h : Nat) (ops : OpsT) : Prop := g_I μ h 3 = nI ops.length ∧ ops.length ≤ 150 ∧ ∀ j q, ops[j]? = some q → g_I μ (h + 2) j = lcode q ∧ (q.1 = 0 → g_I μ (h + 3) j = q.2)
theorem LawP.fr {μ ν : Mem} {h : Nat} {ops : OpsT} (r : LawP μ h ops) (e : g_I ν h = g_I μ h ∧ g_I ν (h + 2) = g_I μ (h + 2) ∧ g_I ν (h + 3) = g_I μ (h + 3)) : LawP ν h ops := by
  unfold LawP
  rw [e.1, e.2.1, e.2.2]
  exact r
theorem Many.fr {μ ν : Mem} {h : Nat} (r : Many μ h) (e : g_I ν h = g_I μ h) : Many ν h := by
  unfold Many
  rw [e]
  exact r
theorem X4_put {μ : Mem} {h : Nat} {z w : Int32} (s : LawS μ h) (m : Many μ h) : ∃ μ' : Mem, LX4_put h z w μ = some ((), μ') ∧ Out (fun a => a = h ∨ a = h + 2 ∨ a = h + 3) μ μ' ∧ Many μ' h ∧ ∀ (ops : OpsT) (q : Int32 × Int32), LawP μ h ops → ops.length < 150 → lcode q = z → (q.1 = 0 → q.2 = w) → LawP μ' h (ops ++ [q]) := by
  obtain ⟨s0, s1, s2, s3, s4, k1, k2, k3, k4, n1, n2, n3, n4⟩ := id s
  obtain ⟨n, hn, e3⟩ := id m
  unfold LX4_put
  rw [if_pos s0, e3]
  by_cases c : 150 ≤ n
  · rw [if_pos (show (150 : Int32) ≤ nI n from nI_le (a := 150) c (by omega))]
    refine ⟨μ, rfl, Out.rf, m, fun ops q r hl => ?_⟩
    have := r.1.symm.trans e3
    have := (nI_eq (by omega) (by omega)).mp this
    omega
  · rw [if_neg (show ¬ (150 : Int32) ≤ nI n from nI_ge (b := 150) (by omega) (by decide)), s2, if_pos (isK_p k2), if_pos (inA_n k2 n2 (by omega) (by decide)), s3, if_pos (isK_p k3), nI_clamp (n := n) (by omega)]
    have e3' : g_I (p_I μ (h + 2) n z) h 3 = nI n := by rw [gI_h (by omega)]; exact e3
    rw [e3', if_pos (inA_n k3 n3 (by omega) (by decide)), nI_clamp (n := n) (by omega)]
    have e3'' : g_I (p_I (p_I μ (h + 2) n z) (h + 3) n w) h 3 = nI n := by rw [gI_h (by omega)]; exact e3'
    rw [e3'', ← nI_succ]
    refine ⟨_, rfl, (((Out.rf (S := fun a => a = h ∨ a = h + 2 ∨ a = h + 3)).pI (Or.inr (Or.inl rfl))).pI (Or.inr (Or.inr rfl))).pI (Or.inl rfl), ⟨n + 1, by omega, gI_s⟩, fun ops q r hl hc hw => ?_⟩
    have hln : ops.length = n := (nI_eq (by omega) (by omega)).mp (r.1.symm.trans e3)
    refine ⟨by rw [gI_s, List.length_append, hln]; rfl, by rw [List.length_append]; simp; omega, fun j q' hj => ?_⟩
    rw [gI_rowo (by omega), gI_rowo (by omega), gI_row, gI_rowo (by omega), gI_row, gI_rowo (by omega)]
    by_cases ej : j < ops.length
    · rw [List.getElem?_append_left ej] at hj
      rw [ru_o (by omega), ru_o (by omega)]
      exact r.2.2 j q' hj
    · have hj2 : j < (ops ++ [q]).length := (List.getElem?_eq_some_iff.mp hj).1
      rw [List.length_append] at hj2
      have hj2 : j < ops.length + 1 := hj2
      have ej2 : j = ops.length := by omega
      subst ej2
      rw [List.getElem?_append_right (Nat.le_refl _), Nat.sub_self] at hj
      have hj : q = q' := Option.some.inj hj
      subst hj
      rw [hln, ru_s, ru_s]
      exact ⟨hc.symm, fun z => (hw z).symm⟩
/-- what comes of a reading of a LAW -/
def LwO (μ μ' : Mem) (tp h : Nat) (x : Txt) (c : Cur) (ops : OpsT) (r : LwT) : Prop := Out (inLw tp h) μ μ' ∧ Many μ' h ∧ TpR μ' tp x r.1 ∧ ((∀ a, c = .inr a → LawP μ h ops ∧ ops.length ≤ a) → ∀ b, r.1 = .inr b → LawP μ' h r.2)
def HRl (rec : Nat → Nat → Int32 → Mem → Option (Unit × Mem)) (rc : Cur → OpsT → LwT) (tp h o : Nat) (x : Txt) : Prop := ∀ (c : Cur) (ops : OpsT) (μ : Mem), LawS μ h → Many μ h → TpR μ tp x c → ∃ μ' : Mem, rec h tp (nI (o + 1)) μ = some ((), μ') ∧ LwO μ μ' tp h x c ops (rc c ops)
theorem tpLw {tp h : Nat} {μ ν : Mem} (o : Out (fun z => z = tp) μ ν) : Out (inLw tp h) μ ν := o.mo fun z hz => Or.inl hz
theorem putLw {tp h : Nat} {μ ν : Mem} (o : Out (fun a => a = h ∨ a = h + 2 ∨ a = h + 3) μ ν) : Out (inLw tp h) μ ν := o.mo fun z hz => Or.inr hz
theorem LawP.tp {tp h : Nat} {μ ν : Mem} {ops : OpsT} (r : LawP μ h ops) (hd : tp + 2 ≤ h ∨ h + 5 ≤ tp) (o : Out (fun z => z = tp) μ ν) : LawP ν h ops := r.fr ⟨(o.2 h (by omega)).1, (o.2 (h + 2) (by omega)).1, (o.2 (h + 3) (by omega)).1⟩
theorem Many.tp {tp h : Nat} {μ ν : Mem} (r : Many μ h) (hd : tp + 2 ≤ h ∨ h + 5 ≤ tp) (o : Out (fun z => z = tp) μ ν) : Many ν h := r.fr (o.2 h (by omega)).1
theorem TpR.put {tp h : Nat} {μ ν : Mem} {x : Txt} {c : Cur} (r : TpR μ tp x c) (hd : tp + 2 ≤ h ∨ h + 5 ≤ tp) (o : Out (fun a => a = h ∨ a = h + 2 ∨ a = h + 3) μ ν) : TpR ν tp x c := r.fr o (by omega) (by omega)
theorem W1_len : ∀ w, w ∈ W1 → 2 ≤ w.length := by decide
theorem X4_unit {μ : Mem} {tp h o : Nat} {x : Txt} {rec : Nat → Nat → Int32 → Mem → Option (Unit × Mem)} {rc : Cur → OpsT → LwT} {full : Prop} [Decidable full] {c : Cur} {ops : OpsT} (hd : tp + 2 ≤ h ∨ h + 5 ≤ tp) (hN : x.2 ≤ 150) (ho : o ≤ 6) (hfull : full ↔ o = 6) (hg : ¬ full → ∀ c ops, LwG x c ops (rc c ops)) (hrec : o < 6 → HRl rec rc tp h o x) (s : LawS μ h) (m : Many μ h) (r : TpR μ tp x c) :
    ∃ μ' : Mem, LX4_parseUnit rec h tp (nI o) μ = some ((), μ') ∧ LwO μ μ' tp h x c ops (unitF x rc full c ops) := by
  unfold LX4_parseUnit
  rw [if_pos s.1, if_pos r.1.1]
  obtain ⟨μ1, e1, o1, t1, g1⟩ := X9_digitComes r
  rw [e1, ob]
  cases c with
  | inl e =>
    rw [if_pos (show digF x (.inl e) = 0 from rfl)]
    obtain ⟨μ2, e2, o2, t2, g2⟩ := X9_comes (k := 40) t1 (by decide)
    have e2 : LX9_comes tp (40 : Int32) μ1 = some (comesF x 40 (.inl e), μ2) := e2
    rw [e2, ob, if_pos (show comesF x 40 (.inl e) = 0 from rfl)]
    obtain ⟨μ3, z, e3, o3, t3, g3⟩ := X9_word sw1 (by decide) t2
    have g3 : z = -1 := g3
    have m3 : Many μ3 h := ((m.tp hd o1).tp hd o2).tp hd o3
    obtain ⟨μ4, e4, o4, m4, -⟩ := X4_put (z := -1) (w := 0) (((s.sh o1.1).sh o2.1).sh o3.1) m3
    rw [e3, ob, g3, if_neg (by decide), if_neg (by decide), e4, ob]
    exact ⟨μ4, rfl, (tpLw ((o1.tr o2).tr o3)).tr (putLw o4), m4, TpR.put t3 hd o4, fun _ b hb => nomatch hb⟩
  | inr a =>
    have hax : a ≤ x.2 := r.2.2.2.2.2.1
    by_cases hdg : digT (chT x a)
    · rw [show digF x (.inr a) = 1 from if_pos hdg, if_neg (by decide)]
      have hlt : a < x.2 := by
        apply Classical.byContradiction
        intro z
        obtain ⟨d1, d2⟩ := hdg
        rw [chT_end z] at d2
        omega
      obtain ⟨μ2, z, e2, o2, t2, g2⟩ := X9_number (most := 999) t1
      have t2 : TpR μ2 tp x (numC (numF x 999 a)) := t2
      have m2 : Many μ2 h := (m.tp hd o1).tp hd o2
      obtain ⟨μ3, e3, o3, m3, p3⟩ := X4_put (z := 15) (w := z) ((s.sh o1.1).sh o2.1) m2
      rw [e2, ob, e3, ob]
      have eU : unitF x rc full (.inr a) ops = numL ops (numF x 999 a) := if_pos hdg
      rw [eU]
      refine ⟨μ3, rfl, (tpLw (o1.tr o2)).tr (putLw o3), m3, ?_, fun hp b hb => ?_⟩
      · cases hv : numF x 999 a with
        | inl e => rw [hv] at t2; exact TpR.put t2 hd o3
        | inr v => rw [hv] at t2; exact TpR.put t2 hd o3
      · cases hv : numF x 999 a with
        | inl e => rw [hv] at hb; exact nomatch hb
        | inr v =>
          obtain ⟨lp, la⟩ := hp a rfl
          exact p3 ops (0, nI v.1) ((lp.tp hd o1).tp hd o2) (by omega) rfl (fun _ => (g2 a v.1 v.2 rfl hv).1.symm)
    rw [show digF x (.inr a) = 0 from if_neg hdg, if_pos rfl]
    obtain ⟨μ2, e2, o2, t2, g2⟩ := X9_comes (k := 40) t1 (by decide)
    have e2 : LX9_comes tp (40 : Int32) μ1 = some (comesF x 40 (.inr a), μ2) := e2
    rw [e2, ob]
    have s2 : LawS μ2 h := (s.sh o1.1).sh o2.1
    have m2 : Many μ2 h := (m.tp hd o1).tp hd o2
    obtain ⟨h4, -⟩ := g2 a rfl
    have oo2 : Out (inLw tp h) μ μ2 := tpLw (o1.tr o2)
    by_cases hp40 : chT x a = 40
    · have eU : unitF x rc full (.inr a) ops = if full then (.inl (3, a), ops) else (needF x 41 (rc (needF x 40 (.inr a)) ops).1, (rc (needF x 40 (.inr a)) ops).2) := (if_neg hdg).trans (if_pos hp40)
      rw [show comesF x 40 (.inr a) = 1 from if_pos hp40, if_neg (by decide), eU]
      unfold LX4_parseBracket
      rw [if_pos s2.1, if_pos t2.1.1]
      by_cases h6 : o = 6
      · rw [if_neg (show ¬ nI o < (6 : Int32) from nI_nlt (b := 6) (by omega) (by omega)), if_pos (hfull.mpr h6), h4]
        obtain ⟨μ3, e3, o3, t3⟩ := X9_fail (k := 3) (p := a) t2 (by decide) (by decide)
        have e3 : LX9_fail tp (3 : Int32) (nI a) μ2 = some ((), μ3) := e3
        rw [e3, ob, ob]
        exact ⟨μ3, rfl, oo2.tr (tpLw o3), m2.tp hd o3, t3, fun _ b hb => nomatch hb⟩
      · have hnf : ¬ full := fun z => h6 (hfull.mp z)
        rw [if_pos (show nI o < (6 : Int32) from nI_lt (show o < 6 by omega) (by decide)), if_neg hnf]
        obtain ⟨μ3, e3, o3, t3⟩ := X9_need (k := 40) t2 (by decide)
        have e3 : LX9_need tp (40 : Int32) μ2 = some ((), μ3) := e3
        rw [e3, ob, ← nI_succ]
        obtain ⟨μ4, e4, o4, m4, t4, p4⟩ := hrec (by omega) (needF x 40 (.inr a)) ops μ3 (s2.sh o3.1) (m2.tp hd o3) t3
        rw [e4, ob]
        obtain ⟨μ5, e5, o5, t5⟩ := X9_need (k := 41) t4 (by decide)
        have e5 : LX9_need tp (41 : Int32) μ4 = some ((), μ5) := e5
        rw [e5, ob, ob]
        refine ⟨μ5, rfl, ((oo2.tr (tpLw o3)).tr o4).tr (tpLw o5), m4.tp hd o5, t5, fun hp b hb => ?_⟩
        have hb : needF x 41 (rc (needF x 40 (.inr a)) ops).1 = .inr b := hb
        obtain ⟨lp, la⟩ := hp a rfl
        cases hr : (rc (needF x 40 (.inr a)) ops).1 with
        | inl e => rw [hr] at hb; exact nomatch hb
        | inr d =>
          have := p4 (fun a1 ha1 => ⟨((lp.tp hd o1).tp hd o2).tp hd o3, by have := needF_at ha1 (by decide); omega⟩) d hr
          exact this.tp hd o5
    · have eU : unitF x rc full (.inr a) ops = wordL x rc full a ops (wordF x W1 a) := (if_neg hdg).trans (if_neg hp40)
      rw [show comesF x 40 (.inr a) = 0 from if_neg hp40, if_pos rfl, eU]
      obtain ⟨μ3, z, e3, o3, t3, g3⟩ := X9_word sw1 (by decide) t2
      have ew : wordCur x W1 (.inr a) = wordF x W1 a := rfl
      rw [ew] at t3 g3
      have s3 : LawS μ3 h := s2.sh o3.1
      have m3 : Many μ3 h := m2.tp hd o3
      rw [e3, ob]
      cases hv : wordF x W1 a with
      | inl e =>
        rw [hv] at t3 g3
        have g3 : z = -1 := g3
        obtain ⟨μ4, e4, o4, m4, -⟩ := X4_put (z := -1) (w := 0) s3 m3
        rw [g3, if_neg (by decide), if_neg (by decide), e4, ob]
        exact ⟨μ4, rfl, (oo2.tr (tpLw o3)).tr (putLw o4), m4, TpR.put t3 hd o4, fun _ b hb => nomatch hb⟩
      | inr k =>
        rw [hv] at t3 g3
        obtain ⟨g4, g5⟩ := g3
        have g5 := g5 a rfl
        have t3 : TpR μ3 tp x (.inr k.2) := t3
        have hk : k.1 < 10 := wordF_lt hv
        have hat := wordF_at W1_len hv hax
        show ∃ μ' : Mem, _ ∧ LwO μ μ' tp h x (.inr a) ops (if 8 ≤ k.1 then (if full then (.inl (3, a), ops) else pairL x rc k.1 k.2 ops) else (.inr k.2, ops ++ [(1, nI k.1)]))
        rw [g4]
        have ne : ∀ j : Nat, j < 10 → k.1 ≠ j → ¬ nI k.1 = nI j := fun j hj h z => h ((nI_eq (by omega) (by omega)).mp z)
        by_cases h8 : 8 ≤ k.1
        · -- least, most
          have pair : ∃ μ' : Mem, mX4_parseUnit_60 rec h tp (nI o) (nI k.1) μ3 = some ((), μ') ∧ LwO μ μ' tp h x (.inr a) ops (if full then (.inl (3, a), ops) else pairL x rc k.1 k.2 ops) := by
            unfold mX4_parseUnit_60 LX4_parsePair
            rw [if_pos s3.1, if_pos t3.1.1]
            by_cases h6 : o = 6
            · rw [if_neg (show ¬ nI o < (6 : Int32) from nI_nlt (b := 6) (by omega) (by omega)), if_pos (hfull.mpr h6), g5]
              obtain ⟨μ4, e4, o4, t4⟩ := X9_fail (k := 3) (p := a) t3 (by decide) (by decide)
              have e4 : LX9_fail tp (3 : Int32) (nI a) μ3 = some ((), μ4) := e4
              rw [e4, ob, ob]
              exact ⟨μ4, rfl, (oo2.tr (tpLw o3)).tr (tpLw o4), m3.tp hd o4, t4, fun _ b hb => nomatch hb⟩
            · have hnf : ¬ full := fun z => h6 (hfull.mp z)
              rw [if_pos (show nI o < (6 : Int32) from nI_lt (show o < 6 by omega) (by decide)), if_neg hnf]
              obtain ⟨μ4, e4, o4, t4⟩ := X9_need (k := 91) t3 (by decide)
              have e4 : LX9_need tp (91 : Int32) μ3 = some ((), μ4) := e4
              rw [e4, ob, ← nI_succ]
              obtain ⟨μ5, e5, o5, m5, t5, p5⟩ := hrec (by omega) (needF x 91 (.inr k.2)) ops μ4 (s3.sh o4.1) (m3.tp hd o4) t4
              rw [e5, ob]
              obtain ⟨μ6, e6, o6, t6⟩ := X9_need (k := 44) t5 (by decide)
              have e6 : LX9_need tp (44 : Int32) μ5 = some ((), μ6) := e6
              rw [e6, ob]
              obtain ⟨r1, hr1⟩ : ∃ r1, r1 = rc (needF x 91 (.inr k.2)) ops := ⟨_, rfl⟩
              have gg1 := hg hnf (needF x 91 (.inr k.2)) ops
              rw [← hr1] at t6 p5 gg1
              obtain ⟨μ7, e7, o7, m7, t7, p7⟩ := hrec (by omega) (needF x 44 r1.1) r1.2 μ6 (((s3.sh o4.1).sh o5.1).sh o6.1) (m5.tp hd o6) t6
              rw [e7, ob]
              obtain ⟨μ8, e8, o8, t8⟩ := X9_need (k := 93) t7 (by decide)
              have e8 : LX9_need tp (93 : Int32) μ7 = some ((), μ8) := e8
              rw [e8, ob]
              obtain ⟨r2, hr2⟩ : ∃ r2, r2 = rc (needF x 44 r1.1) r1.2 := ⟨_, rfl⟩
              have gg2 := hg hnf (needF x 44 r1.1) r1.2
              rw [← hr2] at t8 p7 gg2
              obtain ⟨μ9, e9, o9, m9, p9⟩ := X4_put (z := nI k.1) (w := 0) (((((s3.sh o4.1).sh o5.1).sh o6.1).sh o7.1).sh o8.1) (m7.tp hd o8)
              rw [e9, ob, ob]
              have eP : pairL x rc k.1 k.2 ops = (needF x 93 r2.1, r2.2 ++ [(nI (k.1 - 1), 0)]) := by unfold pairL; rw [← hr1, ← hr2]
              rw [eP]
              refine ⟨μ9, rfl, ((((((oo2.tr (tpLw o3)).tr (tpLw o4)).tr o5).tr (tpLw o6)).tr o7).tr (tpLw o8)).tr (putLw o9), m9, TpR.put t8 hd o9, fun hp b hb => ?_⟩
              have hb : needF x 93 r2.1 = .inr b := hb
              obtain ⟨lp, la⟩ := hp a rfl
              cases q2 : r2.1 with
              | inl e => rw [q2] at hb; exact nomatch hb
              | inr d2 =>
                rw [q2] at hb
                have n2 := needF_at hb (by decide)
                cases q3 : needF x 44 r1.1 with
                | inl e => rw [gg2.1 e q3] at q2; exact nomatch q2
                | inr a3 =>
                  cases q1 : r1.1 with
                  | inl e => rw [q1] at q3; exact nomatch q3
                  | inr d1 =>
                    rw [q1] at q3
                    have n3 := needF_at q3 (by decide)
                    cases q4 : needF x 91 (.inr k.2) with
                    | inl e => rw [gg1.1 e q4] at q1; exact nomatch q1
                    | inr a1 =>
                      have n4 := needF_at q4 (by decide)
                      have v1 := gg1.2 a1 d1 q4 q1 n4.2
                      have l4 : LawP μ4 h ops := (((lp.tp hd o1).tp hd o2).tp hd o3).tp hd o4
                      have l5 := p5 (fun a' ha' => by
                        rw [q4] at ha'
                        cases ha'
                        exact ⟨l4, by omega⟩) d1 q1
                      have v2 := gg2.2 a3 d2 (by rw [q1]; exact q3) q2 n3.2
                      have l7 := p7 (fun a' ha' => by
                        rw [q1, q3] at ha'
                        cases ha'
                        exact ⟨l5.tp hd o6, by omega⟩) d2 q2
                      refine p9 r2.2 (nI (k.1 - 1), 0) (l7.tp hd o8) (by omega) ?_ (fun z => absurd z (nI_ne0 (show 0 < k.1 - 1 by omega) (by omega)))
                      have hk' : k.1 = 8 ∨ k.1 = 9 := by omega
                      rcases hk' with hk' | hk' <;> rw [hk'] <;> decide
          rw [if_pos h8]
          have hk' : k.1 = 8 ∨ k.1 = 9 := by omega
          rcases hk' with hk' | hk'
          · rw [if_pos (show nI k.1 = (8 : Int32) by rw [hk']; rfl)]
            exact pair
          · rw [if_neg (show ¬ nI k.1 = (8 : Int32) from ne 8 (by decide) (by omega)), if_pos (show nI k.1 = (9 : Int32) by rw [hk']; rfl)]
            exact pair
        · rw [if_neg h8, if_neg (show ¬ nI k.1 = (8 : Int32) from ne 8 (by decide) (by omega)), if_neg (show ¬ nI k.1 = (9 : Int32) from ne 9 (by decide) (by omega))]
          obtain ⟨μ4, e4, o4, m4, p4⟩ := X4_put (z := nI k.1) (w := 0) s3 m3
          rw [e4, ob]
          refine ⟨μ4, rfl, (oo2.tr (tpLw o3)).tr (putLw o4), m4, TpR.put t3 hd o4, fun hp b hb => ?_⟩
          obtain ⟨lp, la⟩ := hp a rfl
          exact p4 ops (1, nI k.1) (((lp.tp hd o1).tp hd o2).tp hd o3) (by omega) (by unfold lcode; rw [if_neg (show ¬ (1 : Int32) = 0 by decide), if_pos rfl]) (fun z => absurd z (show ¬ (1 : Int32) = 0 by decide))
