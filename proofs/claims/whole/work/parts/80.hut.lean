/-! ===== HUT: what its text says; the class reads a PEN, a WIRE ===== -/
def penF (x : Txt) (a : Nat) : (Nat × Nat) ⊕ ((Nat × Nat × Nat) × Nat) := match numF x 7 a with
  | .inl e => .inl e
  | .inr k => match numF x 99 k.2 with
    | .inl e => .inl e
    | .inr m => match numF x 99 m.2 with
      | .inl e => .inl e
      | .inr d => .inr ((k.1, m.1, d.1), d.2)
def wireF (x : Txt) (most : Int32) (a : Nat) : (Nat × Nat) ⊕ ((Nat × Nat) × Nat) := match numF x most a with
  | .inl e => .inl e
  | .inr u => match numF x most u.2 with
    | .inl e => .inl e
    | .inr v => if u.1 = v.1 then .inl (2, u.2) else .inr ((u.1, v.1), v.2)
def curR {α : Type} (r : (Nat × Nat) ⊕ (α × Nat)) : Cur := match r with
  | .inl e => .inl e
  | .inr v => .inr v.2
def inHt (tp h : Nat) : Nat → Prop := fun z => z = tp ∨ inHut h z
theorem numF_le {x : Txt} {most : Int32} {a v b : Nat} (h : numF x most a = .inr (v, b)) : nI v ≤ most ∧ v ≤ 100000000 := by
  have hb : ∀ (f c u : Nat), u ≤ 100000000 → (digs x f c u).1 ≤ 100000000 := by
    intro f
    induction f with
    | zero => intro c u hu; exact hu
    | succ f ih =>
      intro c u hu
      unfold digs
      by_cases e : digT (chT x c)
      · rw [if_pos e]
        exact ih _ _ (by split <;> omega)
      · rw [if_neg e]; exact hu
  unfold numF at h
  by_cases e : digT (chT x a)
  · rw [if_pos e] at h
    by_cases e2 : nI (digs x (x.2 - a) a 0).1 ≤ most
    · rw [if_pos e2] at h
      have : (digs x (x.2 - a) a 0).1 = v := congrArg Prod.fst (Sum.inr.inj h)
      rw [← this]
      exact ⟨e2, hb _ _ _ (Nat.zero_le _)⟩
    · rw [if_neg e2] at h; exact nomatch h
  · rw [if_neg e] at h; exact nomatch h
theorem numF_nat {x : Txt} {n a v b : Nat} (h : numF x (nI n) a = .inr (v, b)) (hn : n < 2147483648) : v ≤ n := by
  obtain ⟨h1, h2⟩ := numF_le h
  apply Classical.byContradiction
  intro z
  exact nI_ge (a := n) (b := v) (by omega) (by omega) h1
theorem X3_parsePen {μ : Mem} {tp h n a : Nat} {x : Txt} (hd : tp + 2 ≤ h ∨ h + 6 ≤ tp) (s : HutS μ h) (hn : g_I μ h 0 = nI n) (hn8 : n < 8) (t : TpR μ tp x (.inr a)) :
    ∃ (μ' : Mem) (z1 z2 z3 : Int32), LX3_parsePen h tp μ = some ((), μ') ∧ Out (inHt tp h) μ μ' ∧ TpR μ' tp x (curR (penF x a)) ∧ g_I μ' h = ru (g_I μ h) 0 (nI (n + 1)) ∧ g_I μ' (h + 1) = ru (g_I μ (h + 1)) n z1 ∧ g_I μ' (h + 2) = ru (g_I μ (h + 2)) n z2 ∧ g_I μ' (h + 3) = ru (g_I μ (h + 3)) n z3 ∧ g_I μ' (h + 4) = g_I μ (h + 4) ∧ g_I μ' (h + 5) = g_I μ (h + 5) ∧ ∀ v, penF x a = .inr v → z1 = nI v.1.1 ∧ z2 = nI v.1.2.1 ∧ z3 = nI v.1.2.2 := by
  obtain ⟨s0, q1, q2, q3, q5, q6, k1, k2, k3, k4, k5, n1, n2, n3, n4, n5⟩ := id s
  have cn : (nI n).toNatClampNeg = n := nI_clamp (by omega)
  unfold LX3_parsePen
  rw [if_pos s0, if_pos t.1.1, q1, if_pos (isK_p k1), hn]
  obtain ⟨μ1, z1, e1, o1, t1, g1⟩ := X9_number (most := 7) t
  rw [e1, ob]
  have h1 : g_I μ1 h = g_I μ h := (o1.2 h (by omega)).1
  rw [if_pos (show inA μ1 (h + 1) 15 (nI n) = true from inA_n (by rw [sh_isK o1.1]; exact k1) (by rw [sh_gN o1.1]; exact n1) hn8 (by decide)), sh_gR o1.1, q2, if_pos (isK_p k2), cn]
  obtain ⟨ν1, hν1⟩ : ∃ ν1, ν1 = p_I μ1 (h + 1) n z1 := ⟨_, rfl⟩
  rw [← hν1]
  have p1 : Out (fun z => z = h + 1) μ1 ν1 := by rw [hν1]; exact (Out.rf (S := fun z => z = h + 1)).pI rfl
  have sh1 : Sh μ ν1 := p1.1.trans o1.1
  obtain ⟨μ2, z2, e2, o2, t2, g2⟩ := X9_number (most := 99) (t1.fr p1 (by omega) (by omega))
  have iν1 : g_I ν1 h 0 = nI n := by rw [(p1.2 h (by omega)).1, h1]; exact hn
  rw [e2, ob, iν1, if_pos (show inA μ2 (h + 2) 15 (nI n) = true from inA_n (by rw [sh_isK o2.1, sh_isK sh1]; exact k2) (by rw [sh_gN o2.1, sh_gN sh1]; exact n2) hn8 (by decide)), sh_gR o2.1, sh_gR sh1, q3, if_pos (isK_p k3), cn]
  obtain ⟨ν2, hν2⟩ : ∃ ν2, ν2 = p_I μ2 (h + 2) n z2 := ⟨_, rfl⟩
  rw [← hν2]
  have p2 : Out (fun z => z = h + 2) μ2 ν2 := by rw [hν2]; exact (Out.rf (S := fun z => z = h + 2)).pI rfl
  have sh2 : Sh μ ν2 := p2.1.trans (o2.1.trans sh1)
  obtain ⟨μ3, z3, e3, o3, t3, g3⟩ := X9_number (most := 99) (t2.fr p2 (by omega) (by omega))
  have iν2 : g_I ν2 h = g_I μ h := by rw [(p2.2 h (by omega)).1, (o2.2 h (by omega)).1, (p1.2 h (by omega)).1, h1]
  rw [e3, ob, iν2, hn, if_pos (show inA μ3 (h + 3) 15 (nI n) = true from inA_n (by rw [sh_isK o3.1, sh_isK sh2]; exact k3) (by rw [sh_gN o3.1, sh_gN sh2]; exact n3) hn8 (by decide)), cn]
  have i5 : g_I (p_I μ3 (h + 3) n z3) h 0 = nI n := by rw [gI_h (by omega), (o3.2 h (by omega)).1, iν2]; exact hn
  rw [i5, ← nI_succ]
  obtain ⟨ν3, hν3⟩ : ∃ ν3, ν3 = p_I (p_I μ3 (h + 3) n z3) h 0 (nI (n + 1)) := ⟨_, rfl⟩
  rw [← hν3]
  have p3 : Out (fun z => z = h ∨ z = h + 3) μ3 ν3 := by rw [hν3]; exact ((Out.rf (S := fun z => z = h ∨ z = h + 3)).pI (Or.inr rfl)).pI (Or.inl rfl)
  have tt := t3.fr p3 (by omega) (by omega)
  have f1 : ∀ a, a ≠ tp → a ≠ h → a ≠ h + 1 → a ≠ h + 2 → a ≠ h + 3 → g_I ν3 a = g_I μ a := fun a b0 b1 b2 b3 b4 => by rw [(p3.2 a (by omega)).1, (o3.2 a b0).1, (p2.2 a b3).1, (o2.2 a b0).1, (p1.2 a b2).1, (o1.2 a b0).1]
  refine ⟨ν3, z1, z2, z3, rfl, (((o1.mo fun z hz => Or.inl hz).tr (p1.mo fun z hz => Or.inr ⟨by omega, by omega⟩)).tr ((o2.mo fun z hz => Or.inl hz).tr (p2.mo fun z hz => Or.inr ⟨by omega, by omega⟩))).tr ((o3.mo fun z hz => Or.inl hz).tr (p3.mo fun z hz => Or.inr ⟨by omega, by omega⟩)), ?_, ?_, ?_, ?_, ?_, f1 _ (by omega) (by omega) (by omega) (by omega) (by omega), f1 _ (by omega) (by omega) (by omega) (by omega) (by omega), ?_⟩
  · unfold penF
    cases hv : numF x 7 a with
    | inl e => rw [show numCur x 7 (.inr a) = numF x 7 a from rfl, hv] at tt; exact tt
    | inr v =>
      rw [show numCur x 7 (.inr a) = numF x 7 a from rfl, hv] at tt
      have tt : TpR ν3 tp x (numC (numCur x 99 (numC (numF x 99 v.2)))) := tt
      show TpR ν3 tp x (curR (match numF x 99 v.2 with
        | .inl e => .inl e
        | .inr m => match numF x 99 m.2 with
          | .inl e => .inl e
          | .inr d => .inr ((v.1, m.1, d.1), d.2)))
      cases hw : numF x 99 v.2 with
      | inl e => rw [hw] at tt; exact tt
      | inr w =>
        rw [hw] at tt
        have tt : TpR ν3 tp x (numC (numF x 99 w.2)) := tt
        show TpR ν3 tp x (curR (match numF x 99 w.2 with
          | .inl e => .inl e
          | .inr d => .inr ((v.1, w.1, d.1), d.2)))
        cases hu : numF x 99 w.2 with
        | inl e => rw [hu] at tt; exact tt
        | inr u => rw [hu] at tt; exact tt
  · rw [hν3, gI_row, gI_rowo (by omega), (o3.2 h (by omega)).1, iν2]
  · rw [(p3.2 _ (by omega)).1, (o3.2 _ (by omega)).1, (p2.2 _ (by omega)).1, (o2.2 _ (by omega)).1, hν1, gI_row, (o1.2 _ (by omega)).1]
  · rw [(p3.2 _ (by omega)).1, (o3.2 _ (by omega)).1, hν2, gI_row, (o2.2 _ (by omega)).1, (p1.2 _ (by omega)).1, (o1.2 _ (by omega)).1]
  · rw [hν3, gI_rowo (by omega), gI_row, (o3.2 _ (by omega)).1, (p2.2 _ (by omega)).1, (o2.2 _ (by omega)).1, (p1.2 _ (by omega)).1, (o1.2 _ (by omega)).1]
  · intro v hv
    unfold penF at hv
    cases h1 : numF x 7 a with
    | inl e => rw [h1] at hv; exact nomatch hv
    | inr k =>
      rw [h1] at hv
      have hv : (match numF x 99 k.2 with
        | .inl e => .inl e
        | .inr m => match numF x 99 m.2 with
          | .inl e => .inl e
          | .inr d => .inr ((k.1, m.1, d.1), d.2)) = Sum.inr v := hv
      cases h2 : numF x 99 k.2 with
      | inl e => rw [h2] at hv; exact nomatch hv
      | inr m =>
        rw [h2] at hv
        have hv : (match numF x 99 m.2 with
          | .inl e => .inl e
          | .inr d => .inr ((k.1, m.1, d.1), d.2)) = Sum.inr v := hv
        cases h3 : numF x 99 m.2 with
        | inl e => rw [h3] at hv; exact nomatch hv
        | inr d =>
          rw [h3] at hv
          have hv : ((k.1, m.1, d.1), d.2) = v := Sum.inr.inj hv
          subst hv
          refine ⟨(g1 a k.1 k.2 rfl h1).1, (g2 k.2 m.1 m.2 ?_ h2).1, (g3 m.2 d.1 d.2 ?_ h3).1⟩
          · show numC (numF x 7 a) = _
            rw [h1]; rfl
          · show numC (numCur x 99 (numC (numF x 7 a))) = _
            rw [h1]
            show numC (numF x 99 k.2) = _
            rw [h2]; rfl
