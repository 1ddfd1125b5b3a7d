/-! ===== BEST: rows of WIRES tried one by one (class) ===== -/
/-- the best row so far, backwards, and how far off -/
abbrev Bst : Type := Option (List Nat × Int32)
def weighF (b : Bst) (r : List Nat) (n : Int32) : Bst := match b with
  | none => some (r, n)
  | some (r0, m) => if n < m then some (r, n) else if n = m ∧ r.length < r0.length then some (r, n) else some (r0, m)
def dfsN (rec : Nat → Bst → Bst) (ok : Nat → Prop) [DecidablePred ok] : Nat → Nat → Bst → Bst
  | 0, _, b => b
  | g + 1, j, b => dfsN rec ok g (j + 1) (if ok j then rec j b else b)
def nxOk (t : HutT) (used : Int32) (p q : Nat) : Prop := ¬ hasI used q ∧ hasI (hrsF t p) q
abbrev nxOkD (t : HutT) (used : Int32) (p : Nat) : DecidablePred (nxOk t used p) := fun q => inferInstanceAs (Decidable (¬ hasI used q ∧ hasI (hrsF t p) q))
def dfs (t : HutT) (ρ : Nat → Int32) (goal : Nat) (v : Int32) : Nat → List Nat → Nat → Int32 → Int32 → Bst → Bst
  | 0, _, _, _, _, b => b
  | f + 1, path, p, used, x, b => if ¬ jamI (t.2.1 p) (ρ (8 + p)) = 0 then b else if p = goal then weighF b (p :: path) (distF v (outF (t.2.1 p) x (ρ p) (ρ (8 + p)))) else
      @dfsN (fun q b => dfs t ρ goal v f (p :: path) q (used ||| bitI p) (outF (t.2.1 p) x (ρ p) (ρ (8 + p))) b) (nxOk t (used ||| bitI p) p) (nxOkD t (used ||| bitI p) p) t.1 0 b
def RowsS (μ : Mem) (h : Nat) : Prop := isK μ h 6 = true ∧ g_R μ h 0 = h + 1 ∧ g_R μ h 3 = h + 2 ∧ isK μ (h + 1) 15 = true ∧ isK μ (h + 2) 15 = true ∧ g_N μ (h + 1) = 8 ∧ g_N μ (h + 2) = 8
theorem RowsS.sh {μ ν : Mem} {h : Nat} (s : RowsS μ h) (e : Sh μ ν) : RowsS ν h := by
  unfold RowsS
  rw [sh_isK e, sh_gR e, sh_gN e]
  exact s
/-- what ROWS found -/
def BstR (μ : Mem) (h : Nat) : Bst → Prop
  | none => g_I μ h 1 = 0
  | some (r, n) => g_I μ h 1 = nI r.length ∧ 1 ≤ r.length ∧ r.length ≤ 8 ∧ g_I μ h 2 = n ∧ ∀ i, i < r.length → g_I μ (h + 1) i = nI (r.getD (r.length - 1 - i) 0)
def PathR (μ : Mem) (h : Nat) (path : List Nat) : Prop := ∀ i, i < path.length → g_I μ (h + 2) i = nI (path.getD (path.length - 1 - i) 0)
def inRows (h : Nat) : Nat → Prop := fun a => a = h ∨ a = h + 1 ∨ a = h + 2
theorem X6_weigh {μ : Mem} {h : Nat} {b : Bst} {r : List Nat} {n : Int32} (s : RowsS μ h) (hb : BstR μ h b) (h1 : 1 ≤ r.length) (h8 : r.length ≤ 8) (hp : PathR μ h r) : ∃ μ' : Mem, LX6_weigh h (nI r.length) n μ = some ((), μ') ∧ Out (fun a => a = h ∨ a = h + 1) μ μ' ∧ BstR μ' h (weighF b r n) ∧ ∀ k, k ≠ 1 → k ≠ 2 → g_I μ' h k = g_I μ h k := by
  obtain ⟨s0, s1, s2, k1, k2, n1, n2⟩ := id s
  have put : ∃ μ' : Mem, mX6_weigh_36 h (nI r.length) n 1 μ = some ((), μ') ∧ Out (fun a => a = h ∨ a = h + 1) μ μ' ∧ BstR μ' h (some (r, n)) ∧ ∀ k, k ≠ 1 → k ≠ 2 → g_I μ' h k = g_I μ h k := by
    unfold mX6_weigh_36
    have hin : inC (p_I (p_I μ h 1 (nI r.length)) h 2 n) (g_R μ h 3) (g_R μ h 0) 15 (0 : Int32) (0 : Int32) (nI r.length) = true := by
      rw [s1, s2]
      exact inC_n (sp := 0) (dp := 0) (N := 8) k2 k1 n2 n1 (by omega) (by omega) (by decide)
    rw [if_neg (show ¬ (1 : Int32) = 0 by decide), if_pos (by rw [s2]; exact isK_p k2), if_pos (by rw [s1]; exact isK_p k1), if_pos hin, s1, s2, nI_clamp (show r.length < 2147483648 by omega)]
    refine ⟨_, rfl, ?_, ⟨?_, h1, h8, ?_, fun i hi => ?_⟩, fun k a1 a2 => ?_⟩
    · refine (((Out.rf (S := fun a => a = h ∨ a = h + 1)).pI (Or.inl rfl)).pI (Or.inl rfl)).tr ⟨rfl, fun a ha => ⟨cp2_o (fun z => ha (Or.inr z)), rfl, rfl⟩⟩
    · show cp2 _ _ _ _ _ _ _ _ = _
      rw [cp2_o (by omega)]
      exact (gI_k (by decide)).trans gI_s
    · show cp2 _ _ _ _ _ _ _ _ = _
      rw [cp2_o (by omega)]
      exact gI_s
    · show cp2 _ _ _ _ _ _ _ _ = _
      rw [cp2_s]
      unfold va_cpy
      rw [if_pos (by exact ⟨Nat.zero_le _, by simpa using hi⟩)]
      have e2 : ∀ b, (p_I (p_I μ h 1 (nI r.length)) h 2 n).1 (h + 2) b = g_I μ (h + 2) b := fun b => (gI_h (by omega)).trans (gI_h (by omega))
      refine (e2 _).trans ?_
      simpa using hp i hi
    · show cp2 _ _ _ _ _ _ _ _ = _
      rw [cp2_o (by omega)]
      exact (gI_k a2).trans (gI_k a1)
  have skip : ∀ (b : Bst), BstR μ h b → ∃ μ' : Mem, mX6_weigh_36 h (nI r.length) n 0 μ = some ((), μ') ∧ Out (fun a => a = h ∨ a = h + 1) μ μ' ∧ BstR μ' h b ∧ ∀ k, k ≠ 1 → k ≠ 2 → g_I μ' h k = g_I μ h k := fun b hb => ⟨μ, if_pos rfl, Out.rf, hb, fun _ _ _ => rfl⟩
  unfold LX6_weigh
  rw [if_pos s0]
  match b, hb with
  | none, hb =>
    have hb : g_I μ h 1 = 0 := hb
    rw [if_pos hb]
    exact put
  | some (r0, m), hb =>
    obtain ⟨b1, b2, b3, b4, b5⟩ := id hb
    rw [b1, b4, if_neg (nI_ne0 (by omega) (by omega))]
    show ∃ μ' : Mem, _ ∧ _ ∧ BstR μ' h (if n < m then some (r, n) else if n = m ∧ r.length < r0.length then some (r, n) else some (r0, m)) ∧ _
    by_cases c1 : n < m
    · rw [if_pos c1, if_pos c1]
      exact put
    · rw [if_neg c1, if_neg c1]
      by_cases c2 : n = m
      · rw [if_pos c2]
        by_cases c3 : r.length < r0.length
        · rw [if_neg (nI_ge c3 (by omega)), if_pos (show n = m ∧ r.length < r0.length from ⟨c2, c3⟩)]
          exact put
        · rw [if_pos (nI_le (show r0.length ≤ r.length by omega) (by omega)), if_neg (show ¬ (n = m ∧ r.length < r0.length) from fun z => c3 z.2)]
          exact skip _ hb
      · rw [if_neg c2, if_neg (show ¬ (n = m ∧ r.length < r0.length) from fun z => c2 z.1)]
        exact skip _ hb
theorem PathR.cons {μ : Mem} {h p : Nat} {path : List Nat} (q : PathR μ h path) : PathR (p_I μ (h + 2) path.length (nI p)) h (p :: path) := by
  intro i hi
  rw [List.length_cons] at hi ⊢
  by_cases e : i = path.length
  · rw [e, gI_s, show path.length + 1 - 1 - path.length = 0 by omega]
    rfl
  · rw [gI_k e, q i (by omega), show path.length + 1 - 1 - i = (path.length - 1 - i) + 1 by omega]
    rfl
theorem PathR.tail {μ : Mem} {h p : Nat} {path : List Nat} (q : PathR μ h (p :: path)) : PathR μ h path := by
  intro i hi
  rw [q i (by rw [List.length_cons]; omega), List.length_cons, show path.length + 1 - 1 - i = (path.length - 1 - i) + 1 by omega]
  rfl
theorem PathR.fr {μ ν : Mem} {h : Nat} {path : List Nat} (q : PathR μ h path) (e : g_I ν (h + 2) = g_I μ (h + 2)) : PathR ν h path := by
  intro i hi
  rw [e]
  exact q i hi
/-- all that ROWS look at -/
def RowsC (μ : Mem) (h s hh goal : Nat) (t : HutT) (ρ : Nat → Int32) : Prop := RowsS μ h ∧ g_R μ h 4 = s ∧ g_R μ h 5 = hh ∧ StS μ s ∧ StR μ s t.1 t.2.1 ρ ∧ HutS μ hh ∧ HutR μ hh t ∧ g_I μ h 6 = nI goal
theorem RowsC.out {μ ν : Mem} {h s hh goal : Nat} {t : HutT} {ρ : Nat → Int32} (c : RowsC μ h s hh goal t ρ) (o : Out (inRows h) μ ν) (d1 : h + 3 ≤ s ∨ s + 34 ≤ h) (d2 : h + 3 ≤ hh ∨ hh + 6 ≤ h) (e6 : g_I ν h 6 = g_I μ h 6) : RowsC ν h s hh goal t ρ := by
  obtain ⟨c1, c2, c3, c4, c5, c6, c7, c8⟩ := c
  exact ⟨c1.sh o.1, by rw [sh_gR o.1]; exact c2, by rw [sh_gR o.1]; exact c3, c4.sh o.1, c5.fr fun a ha => o.2 a (by obtain ⟨x1, x2⟩ := ha; rintro (z | z | z) <;> omega), c6.sh o.1, c7.fr fun a ha => (o.2 a (by obtain ⟨x1, x2⟩ := ha; rintro (z | z | z) <;> omega)).1, by rw [e6]; exact c8⟩
theorem BstR.fr {μ ν : Mem} {h : Nat} {b : Bst} (r : BstR μ h b) (e1 : g_I ν h 1 = g_I μ h 1) (e2 : g_I ν h 2 = g_I μ h 2) (e3 : g_I ν (h + 1) = g_I μ (h + 1)) : BstR ν h b := by
  match b, r with
  | none, r => exact e1.trans r
  | some (q, n), ⟨r1, r2, r3, r4, r5⟩ => exact ⟨e1.trans r1, r2, r3, e2.trans r4, fun i hi => by rw [e3]; exact r5 i hi⟩
theorem X6_goOn (fp : FpNn) {h s hh goal : Nat} {t : HutT} {ρ : Nat → Int32} {v : Int32} (ho : HutOk t) (rk : RowK t.1 t.2.1 ρ) (hg : goal < t.1) (d1 : h + 3 ≤ s ∨ s + 34 ≤ h) (d2 : h + 3 ≤ hh ∨ hh + 6 ≤ h) :
    ∀ (f D : Nat) (path : List Nat) (p : Nat) (used x : Int32) (b : Bst) (μ : Mem), f + path.length = 8 → f ≤ D → p < t.1 → RowsC μ h s hh goal t ρ → PathR μ h path → BstR μ h b →
      ∃ μ' : Mem, LX6_goOn (D + 1) h (nI p) (nI path.length) used x v μ = some ((), μ') ∧ Out (inRows h) μ μ' ∧ BstR μ' h (dfs t ρ goal v f path p used x b) ∧ PathR μ' h path ∧ g_I μ' h 6 = g_I μ h 6 := by
  intro f
  induction f with
  | zero =>
    intro D path p used x b μ hl hD hp c hpath hb
    have e : LX6_goOn (D + 1) h (nI p) (nI path.length) used x v μ = some ((), μ) := by
      show LX6_goOn_b (LX6_goOn D) h (nI p) (nI path.length) used x v μ = _
      unfold LX6_goOn_b
      rw [if_pos c.1.1, if_pos (show (8 : Int32) ≤ nI path.length from nI_le (a := 8) (by omega) (by omega))]
    exact ⟨μ, e, Out.rf, hb, hpath, rfl⟩
  | succ f ih =>
    intro D path p used x b μ hl hD hp c hpath hb
    obtain ⟨D, rfl⟩ : ∃ q, D = q + 1 := ⟨D - 1, by omega⟩
    have hp8 : p < 8 := Nat.lt_of_lt_of_le hp ho.1
    obtain ⟨c1, c2, c3, c4, c5, c6, c7, c8⟩ := id c
    obtain ⟨s0, s1, s2, k1, k2, n1, n2⟩ := id c1
    obtain ⟨t0, t1, t2, t3, t5⟩ := id c4
    obtain ⟨tr, tp⟩ := t5 p hp8
    have hpr := c5.2.2.2.2.2 p hp
    obtain ⟨b0, b1, b2, b3, b4, b5⟩ := id hpr
    have cp : (nI p).toNatClampNeg = p := nI_clamp (by omega)
    have cl : (nI path.length).toNatClampNeg = path.length := nI_clamp (by omega)
    show ∃ μ' : Mem, LX6_goOn_b (LX6_goOn (D + 1)) h (nI p) (nI path.length) used x v μ = some ((), μ') ∧ _ ∧ BstR μ' h (if ¬ jamI (t.2.1 p) (ρ (8 + p)) = 0 then b else if p = goal then weighF b (p :: path) (distF v (outF (t.2.1 p) x (ρ p) (ρ (8 + p)))) else
      @dfsN (fun q b => dfs t ρ goal v f (p :: path) q (used ||| bitI p) (outF (t.2.1 p) x (ρ p) (ρ (8 + p))) b) (nxOk t (used ||| bitI p) p) (nxOkD t (used ||| bitI p) p) t.1 0 b) ∧ _ ∧ _
    unfold LX6_goOn_b
    rw [if_pos s0, if_neg (show ¬ (8 : Int32) ≤ nI path.length from nI_ge (b := 8) (by omega) (by decide)), c2, c3, if_pos (isK_p t0), if_pos (isK_p c6.1), if_pos t0, t1, if_pos (isK_p t2), if_pos (inA_n t2 t3 hp8 (by decide)), cp, tr, if_pos (isK_p tp.1), if_pos tp.1, X5_jams tp.1, ob, b0, b2]
    by_cases hj : jamI (t.2.1 p) (ρ (8 + p)) = 0
    · rw [if_pos hj, if_neg (Classical.not_not.mpr hj), s2, if_pos (isK_p k2), if_pos (inA_n k2 n2 (by omega) (by decide)), c2, if_pos (isK_p t0), if_pos t0, t1, if_pos (isK_p t2), if_pos (inA_n t2 t3 hp8 (by decide)), tr, if_pos (isK_p tp.1), if_pos tp.1, cl]
      obtain ⟨ν, hν⟩ : ∃ ν, ν = p_I μ (h + 2) path.length (nI p) := ⟨_, rfl⟩
      rw [← hν]
      have o1 : Out (inRows h) μ ν := by rw [hν]; exact (Out.rf (S := inRows h)).pI (Or.inr (Or.inr rfl))
      have e0 : g_I ν h = g_I μ h := by rw [hν]; exact gI_rowo (by omega)
      have e1 : g_I ν (h + 1) = g_I μ (h + 1) := by rw [hν]; exact gI_rowo (by omega)
      have cν := c.out o1 d1 d2 (by rw [e0])
      have bν : BstR ν h b := hb.fr (by rw [e0]) (by rw [e0]) e1
      have pν : PathR ν h (p :: path) := by rw [hν]; exact hpath.cons
      have tpν : PenS ν (s + 2 + 4 * p) := tp.sh o1.1
      have prν := cν.2.2.2.2.1.2.2.2.2.2 p hp
      have hnn : NnOk (g_I ν (s + 2 + 4 * p) 0) x (g_I ν (s + 2 + 4 * p) 1) (g_I ν (s + 2 + 4 * p) 2) := by
        rw [prν.1, prν.2.1, prν.2.2.1]
        exact (rk.2.1 p hp).1.nn fp
      rw [X5_outOf tpν.1 hnn, ob, prν.1, prν.2.1, prν.2.2.1, cν.2.2.2.2.2.2.2]
      by_cases eg : p = goal
      · rw [if_pos eg, if_pos (by rw [eg]), X11_distance, ob]
        obtain ⟨μ', e2, o2, b2, r2⟩ := X6_weigh (n := distF v (outF (t.2.1 p) x (ρ p) (ρ (8 + p)))) cν.1 bν (r := p :: path) (by rw [List.length_cons]; omega) (by rw [List.length_cons]; omega) pν
        rw [List.length_cons, nI_succ] at e2
        rw [e2, ob]
        exact ⟨μ', rfl, o1.tr (o2.mo fun a ha => by rcases ha with z | z; exact Or.inl z; exact Or.inr (Or.inl z)), b2, (pν.tail).fr ((o2.2 (h + 2) (by omega)).1), by rw [r2 6 (by decide) (by decide), e0]⟩
      · rw [if_neg eg, if_neg (fun z => eg ((nI_eq (by omega) (by have := ho.1; omega)).mp z))]
        have loop : ∀ (g j fu : Nat) (b : Bst) (ν : Mem), RowsC ν h s hh goal t ρ → PathR ν h (p :: path) → BstR ν h b → g + j = t.1 → g < fu → ∃ μ' : Mem, mX6_goOn_92 (LX6_goOn (D + 1)) fu h (nI p) (nI path.length) v (outF (t.2.1 p) x (ρ p) (ρ (8 + p))) (used ||| bitI p) (nI j) ν = some ((), μ') ∧ Out (inRows h) ν μ' ∧ BstR μ' h (@dfsN (fun q b => dfs t ρ goal v f (p :: path) q (used ||| bitI p) (outF (t.2.1 p) x (ρ p) (ρ (8 + p))) b) (nxOk t (used ||| bitI p) p) (nxOkD t (used ||| bitI p) p) g j b) ∧ PathR μ' h (p :: path) ∧ g_I μ' h 6 = g_I ν h 6 := by
          intro g
          induction g with
          | zero =>
            intro j fu b ν cν pν bν hj hf
            obtain ⟨fu, rfl⟩ : ∃ q, fu = q + 1 := ⟨fu - 1, by omega⟩
            obtain ⟨c1, c2, c3, c4, c5, c6, c7, c8⟩ := id cν
            rw [mX6_goOn_92, c3, if_pos (isK_p c6.1), if_pos c6.1, c7.1, if_pos (nI_le (by omega) (by have := ho.1; omega))]
            exact ⟨ν, rfl, Out.rf, bν, pν, rfl⟩
          | succ g ihg =>
            intro j fu b ν cν pν bν hj hf
            obtain ⟨fu, rfl⟩ : ∃ q, fu = q + 1 := ⟨fu - 1, by omega⟩
            obtain ⟨c1, c2, c3, c4, c5, c6, c7, c8⟩ := id cν
            have h8 := ho.1
            rw [mX6_goOn_92, c3, if_pos (isK_p c6.1), if_pos c6.1, c7.1, if_neg (nI_ge (by omega) (by omega))]
            show ∃ μ' : Mem, _ ∧ _ ∧ BstR μ' h (@dfsN _ (nxOk t (used ||| bitI p) p) (nxOkD t (used ||| bitI p) p) g (j + 1) (@ite _ (nxOk t (used ||| bitI p) p j) (nxOkD t (used ||| bitI p) p j) (dfs t ρ goal v f (p :: path) j (used ||| bitI p) (outF (t.2.1 p) x (ρ p) (ρ (8 + p))) b) b)) ∧ _ ∧ _
            by_cases hu : hasI (used ||| bitI p) j
            · rw [if_neg hu, if_neg (show ¬ nxOk t (used ||| bitI p) p j from fun z => z.1 hu), ← nI_succ]
              exact ihg (j + 1) fu b ν cν pν bν (by omega) (by omega)
            · rw [if_pos (Classical.not_not.mp hu), X3_isHeardBy c6 c7 ho (by omega), ob]
              by_cases hh' : hasI (hrsF t p) j
              · rw [if_pos hh', if_neg (show ¬ (1 : Int32) = 0 by decide), if_pos (show nxOk t (used ||| bitI p) p j from ⟨hu, hh'⟩)]
                obtain ⟨ν2, e2, o2, b2, p2, g2⟩ := ih D (p :: path) j (used ||| bitI p) (outF (t.2.1 p) x (ρ p) (ρ (8 + p))) b ν (by rw [List.length_cons]; omega) (by omega) (by omega) cν pν bν
                rw [List.length_cons, nI_succ] at e2
                rw [e2, ob, ← nI_succ]
                obtain ⟨μ', e3, o3, b3, p3, g3⟩ := ihg (j + 1) fu _ ν2 (cν.out o2 d1 d2 g2) p2 b2 (by omega) (by omega)
                exact ⟨μ', e3, o2.tr o3, b3, p3, g3.trans g2⟩
              · rw [if_neg hh', if_pos rfl, if_neg (show ¬ nxOk t (used ||| bitI p) p j from fun z => hh' z.2), ← nI_succ]
                exact ihg (j + 1) fu b ν cν pν bν (by omega) (by omega)
        obtain ⟨μ', e2, o2, b2, p2, g2⟩ := loop t.1 0 100000 b ν cν pν bν rfl (by have := ho.1; omega)
        exact ⟨μ', e2, o1.tr o2, b2, p2.tail, by rw [g2, e0]⟩
    · rw [if_neg hj, if_pos hj]
      exact ⟨μ, rfl, Out.rf, hb, hpath, rfl⟩
