/-! ===== the class clears LAW, CHAIN, BOOK ===== -/
def law0 : OpsT := [(1, nI 2)]
theorem law0_w : wfL law0 0 := Or.inr (Or.inl ⟨rfl, ⟨2, by decide, rfl⟩, Nat.le_refl 1⟩)
theorem X4_clear {μ : Mem} {h : Nat} (s : LawS μ h) : ∃ μ' : Mem, LX4_clear h μ = some ((), μ') ∧ Out (fun x => x = h ∨ x = h + 2 ∨ x = h + 3) μ μ' ∧ LawR μ' h law0 := by
  unfold LX4_clear
  rw [if_pos s.1]
  have o : Out (fun x => x = h ∨ x = h + 2 ∨ x = h + 3) μ (p_I μ h 3 0) := (Out.rf (S := fun x => x = h ∨ x = h + 2 ∨ x = h + 3)).pI (Or.inl rfl)
  obtain ⟨μ', e1, o1, m1, p1⟩ := X4_put (z := 2) (w := 0) (s.sh o.1) ⟨0, by decide, gI_s⟩
  rw [e1, ob]
  have lp : LawP (p_I μ h 3 0) h [] := ⟨gI_s, by decide, fun j q hj => by simp at hj⟩
  exact ⟨μ', rfl, o.tr o1, (p1 [] (1, nI 2) lp (by decide) rfl (fun z => absurd z (show ¬ (1 : Int32) = 0 by decide))).r law0_w⟩
theorem X1_clear {μ : Mem} {h : Nat} (s : ChS μ h) : ∃ μ' : Mem, LX1_clear h μ = some ((), μ') ∧ Out (fun x => x = h) μ μ' ∧ ChR μ' h [] := by
  unfold LX1_clear
  rw [if_pos s.1]
  exact ⟨_, rfl, (Out.rf (S := fun x => x = h)).pI rfl, gI_s, by decide, fun i hi => absurd hi (Nat.not_lt_zero _)⟩
theorem X0_clear {μ : Mem} {h : Nat} (s : BkS μ h) : ∃ μ' : Mem, LX0_clear h μ = some ((), μ') ∧ Out (fun x => x = h) μ μ' ∧ BkR μ' h [] := by
  unfold LX0_clear
  rw [if_pos s.1]
  exact ⟨_, rfl, (Out.rf (S := fun x => x = h)).pI rfl, gI_s, by decide, fun i hi => absurd hi (Nat.not_lt_zero _)⟩
