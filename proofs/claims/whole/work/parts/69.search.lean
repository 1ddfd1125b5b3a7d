/-! ===== BEST (class): the search ===== -/
theorem StR.pR {μ : Mem} {s np h k v : Nat} {kf ρ : Nat → Int32} (r : StR μ s np kf ρ) : StR (p_R μ h k v) s np kf ρ := r.fr fun _ _ => ⟨rfl, rfl, rfl⟩
theorem HutS.gr {n : Nat} {SR S : Nat → Prop} {μ ν : Mem} {h : Nat} (s : HutS μ h) (g : Grow n SR S μ ν) (hs : ¬ SR h) : HutS ν h := by
  obtain ⟨z0, z1, z2, z3, z5, z6, k1, k2, k3, k4, k5, n1, n2, n3, n4, n5⟩ := s
  have e := g.R z0 hs
  exact ⟨g.k z0, by rw [e]; exact z1, by rw [e]; exact z2, by rw [e]; exact z3, by rw [e]; exact z5, by rw [e]; exact z6, g.k k1, g.k k2, g.k k3, g.k k4, g.k k5, by rw [g.N k1]; exact n1, by rw [g.N k2]; exact n2, by rw [g.N k3]; exact n3, by rw [g.N k4]; exact n4, by rw [g.N k5]; exact n5⟩
theorem X6_search (fp : FpNn) {μ : Mem} {h s hh goal p : Nat} {t : HutT} {ρ : Nat → Int32} {v : Int32} (ho : HutOk t) (rk : RowK t.1 t.2.1 ρ) (hg : goal < t.1) (hp : p < t.1) (d1 : h + 3 ≤ s ∨ s + 34 ≤ h) (d2 : h + 3 ≤ hh ∨ hh + 6 ≤ h) (rs : RowsS μ h) (ts : StS μ s) (r : StR μ s t.1 t.2.1 ρ) (hs : HutS μ hh) (hr : HutR μ hh t) :
    ∃ μ' : Mem, LX6_search h s hh (nI p) (nI goal) v μ = some ((), μ') ∧ Grow 0 (fun x => x = h) (inRows h) μ μ' ∧ RowsS μ' h ∧ BstR μ' h (dfs t ρ goal v 8 [] p 0 v none) := by
  unfold LX6_search
  rw [if_pos rs.1, if_pos ts.1, if_pos hs.1]
  obtain ⟨ν, hν⟩ : ∃ ν, ν = p_I (p_I (p_I (p_R (p_R μ h 4 s) h 5 hh) h 6 (nI goal)) h 1 0) h 2 0 := ⟨_, rfl⟩
  rw [← hν]
  have g1 : Grow 0 (fun x => x = h) (inRows h) μ ν := by
    rw [hν]
    exact (((Grow.pR (n := 0)).tr (Grow.pR (n := 0)) (Nat.le_refl 0)).tr ((((Out.rf (S := inRows h)).pI (Or.inl rfl)).pI (Or.inl rfl)).pI (Or.inl rfl)).gr (Nat.le_refl 0))
  have rR : ∀ k, k ≠ 4 → k ≠ 5 → g_R ν h k = g_R μ h k := fun k h4 h5 => by rw [hν]; exact (gR_k h5).trans (gR_k h4)
  have c : RowsC ν h s hh goal t ρ := by
    obtain ⟨s0, s1, s2, k1, k2, n1, n2⟩ := rs
    refine ⟨⟨g1.k s0, by rw [rR 0 (by decide) (by decide)]; exact s1, by rw [rR 3 (by decide) (by decide)]; exact s2, g1.k k1, g1.k k2, by rw [g1.N k1]; exact n1, by rw [g1.N k2]; exact n2⟩, ?_, ?_, ts.gr g1 (fun a ha z => by obtain ⟨x1, x2⟩ := ha; omega), r.gr ts g1 (fun a ha z => by obtain ⟨x1, x2⟩ := ha; rcases z with z | z | z <;> omega), hs.gr g1 (fun z => by omega), hr.fr (fun a ha => ?_), ?_⟩
    · rw [hν]; exact (gR_k (by decide)).trans gR_s
    · rw [hν]; exact gR_s
    · rw [hν]
      obtain ⟨x1, x2⟩ := ha
      exact (gI_rowo (by omega)).trans ((gI_rowo (by omega)).trans (gI_rowo (by omega)))
    · rw [hν]; exact (gI_k (by decide)).trans ((gI_k (by decide)).trans gI_s)
  obtain ⟨μ', e2, o2, b2, p2, g2⟩ := X6_goOn fp (v := v) ho rk hg d1 d2 8 11 [] p 0 v none ν rfl (by decide) hp c (fun i hi => absurd hi (Nat.not_lt_zero _)) (by show g_I ν h 1 = 0; rw [hν]; exact (gI_k (by decide)).trans gI_s)
  rw [show (12 : Nat) = 11 + 1 from rfl]
  have e2 : LX6_goOn (11 + 1) h (nI p) (0 : Int32) (0 : Int32) v v ν = some ((), μ') := e2
  rw [e2, ob]
  exact ⟨μ', rfl, g1.tr o2.gr (Nat.le_refl 0), c.1.sh o2.1, b2⟩
