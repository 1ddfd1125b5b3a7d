/-! ===== the class is asked: would ===== -/
theorem X11_would {B : Nat} {f : Fl} {μ : Mem} {a : ClT} {v1 v2 v3 v4 v5 v6 v7 v8 : Int32} (c : ClR μ f B a) : AskX B f μ (LX11_would 1 v1 v2 v3 v4 v5 v6 v7 v8 μ) (if offB v3 0 2147483647 then (.inl 1, rfA a 1) else if offB v4 0 24 then (.inl 1, rfA a 1) else if offB v5 0 900 then (.inl 1, rfA a 1) else if offB v6 0 7 then (.inl 1, rfA a 1) else if offB v7 0 99 then (.inl 1, rfA a 1) else if offB v8 0 99 then (.inl 1, rfA a 1) else (.inr (lawV a.2.2.2.2.1 (kn8 v1 v2 v3 v4 v5 v6 v7 v8)), a)) := by
  unfold LX11_would
  rw [if_pos c.1.1]
  refine ask_in c fun _ => ?_
  refine ask_in c fun _ => ?_
  refine ask_in c fun _ => ?_
  refine ask_in c fun _ => ?_
  refine ask_in c fun _ => ?_
  refine ask_in c fun _ => ?_
  obtain ⟨l1, l2, l3⟩ := law_at c
  obtain ⟨s0, s1, s2, s3, s4, k1, k2, k3, k4, n1, n2, n3, n4⟩ := id l2
  have inn : ∀ j : Nat, j < 8 → inA μ (laA f + 1) 15 (nI j) = true := fun j hj => inA_n k1 n1 hj (by decide)
  rw [l1, if_pos (isK_p s0), if_pos s0, s1, if_pos (isK_p k1), if_pos (show inA μ (laA f + 1) 15 (0 : Int32) = true from inn 0 (by decide)), if_pos (show inA μ (laA f + 1) 15 (1 : Int32) = true from inn 1 (by decide)), if_pos (show inA μ (laA f + 1) 15 (2 : Int32) = true from inn 2 (by decide)), if_pos (show inA μ (laA f + 1) 15 (3 : Int32) = true from inn 3 (by decide)), if_pos (show inA μ (laA f + 1) 15 (4 : Int32) = true from inn 4 (by decide)), if_pos (show inA μ (laA f + 1) 15 (5 : Int32) = true from inn 5 (by decide)), if_pos (show inA μ (laA f + 1) 15 (6 : Int32) = true from inn 6 (by decide)), if_pos (show inA μ (laA f + 1) 15 (7 : Int32) = true from inn 7 (by decide))]
  obtain ⟨ν, hν⟩ : ∃ ν, ν = p_I (p_I (p_I (p_I (p_I (p_I (p_I (p_I μ (laA f + 1) 0 v1) (laA f + 1) 1 v2) (laA f + 1) 2 v3) (laA f + 1) 3 v4) (laA f + 1) 4 v5) (laA f + 1) 5 v6) (laA f + 1) 6 v7) (laA f + 1) 7 v8 := ⟨_, rfl⟩
  have o1 : Out (fun x => x = laA f + 1) μ ν := by
    rw [hν]
    exact ((((((((Out.rf (S := fun x => x = laA f + 1)).pI rfl).pI rfl).pI rfl).pI rfl).pI rfl).pI rfl).pI rfl).pI rfl
  obtain ⟨μ', e1, o2⟩ := X4_levelOfGiven (μ := ν) (h := laA f) (kn := kn8 v1 v2 v3 v4 v5 v6 v7 v8) (ops := a.2.2.2.2.1) (l2.sh o1.1) (l3.fr ⟨(o1.2 _ (by omega)).1, (o1.2 _ (by omega)).1, (o1.2 _ (by omega)).1⟩) (fun k hk => by
    rw [hν]
    have hk : k = 0 ∨ k = 1 ∨ k = 2 ∨ k = 3 ∨ k = 4 ∨ k = 5 ∨ k = 6 ∨ k = 7 := by omega
    rcases hk with rfl | rfl | rfl | rfl | rfl | rfl | rfl | rfl <;> simp [gI_pI, kn8])
  show AskX B f μ (obind (LX4_levelOfGiven (laA f) (p_I (p_I (p_I (p_I (p_I (p_I (p_I (p_I μ (laA f + 1) 0 v1) (laA f + 1) 1 v2) (laA f + 1) 2 v3) (laA f + 1) 3 v4) (laA f + 1) 4 v5) (laA f + 1) 5 v6) (laA f + 1) 6 v7) (laA f + 1) 7 v8)) (fun r m => some (.inr r, m))) _
  rw [← hν, e1, ob]
  have oo : Out (fun x => x = laA f + 1 ∨ x = laA f + 4) μ μ' := (o1.mo fun x hx => Or.inl hx).tr (o2.mo fun x hx => Or.inr hx)
  have hl := la_or f
  exact AskX.out c oo (fun x hx => usd_law c.2.2.2.2 hx) (fun x h1 h2 z => by omega)
