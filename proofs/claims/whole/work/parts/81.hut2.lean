/-! ===== HUT: the class reads a WIRE, a CLAUSE ===== -/
theorem X3_parseWire {μ : Mem} {tp h n np a : Nat} {x : Txt} (hd : tp + 2 ≤ h ∨ h + 6 ≤ tp) (s : HutS μ h) (hp : g_I μ h 0 = nI np) (hn : g_I μ h 4 = nI n) (hn16 : n < 16) (t : TpR μ tp x (.inr a)) :
    ∃ (μ' : Mem) (z1 z2 : Int32), LX3_parseWire h tp μ = some ((), μ') ∧ Out (inHt tp h) μ μ' ∧ TpR μ' tp x (curR (wireF x (nI np - 1) a)) ∧ g_I μ' h = ru (g_I μ h) 4 (nI (n + 1)) ∧ g_I μ' (h + 4) = ru (g_I μ (h + 4)) n z1 ∧ g_I μ' (h + 5) = ru (g_I μ (h + 5)) n z2 ∧ g_I μ' (h + 1) = g_I μ (h + 1) ∧ g_I μ' (h + 2) = g_I μ (h + 2) ∧ g_I μ' (h + 3) = g_I μ (h + 3) ∧ ∀ v, wireF x (nI np - 1) a = .inr v → z1 = nI v.1.1 ∧ z2 = nI v.1.2 := by
  obtain ⟨s0, q1, q2, q3, q5, q6, k1, k2, k3, k4, k5, n1, n2, n3, n4, n5⟩ := id s
  have cn : (nI n).toNatClampNeg = n := nI_clamp (by omega)
  unfold LX3_parseWire
  rw [if_pos s0, if_pos t.1.1, q5, if_pos (isK_p k4), hp, hn]
  obtain ⟨μ1, z1, e1, o1, t1, g1⟩ := X9_number (most := nI np - 1) t
  rw [e1, ob]
  have h1 : g_I μ1 h = g_I μ h := (o1.2 h (by omega)).1
  rw [if_pos (show inA μ1 (h + 4) 15 (nI n) = true from inA_n (by rw [sh_isK o1.1]; exact k4) (by rw [sh_gN o1.1]; exact n4) hn16 (by decide)), sh_gR o1.1, q6, if_pos (isK_p k5), cn]
  obtain ⟨ν1, hν1⟩ : ∃ ν1, ν1 = p_I μ1 (h + 4) n z1 := ⟨_, rfl⟩
  rw [← hν1]
  have p1 : Out (fun z => z = h + 4) μ1 ν1 := by rw [hν1]; exact (Out.rf (S := fun z => z = h + 4)).pI rfl
  have sh1 : Sh μ ν1 := p1.1.trans o1.1
  have iν1 : g_I ν1 h = g_I μ h := by rw [(p1.2 h (by omega)).1, h1]
  rw [iν1, hp, hn]
  obtain ⟨μ2, z2, e2, o2, t2, g2⟩ := X9_number (most := nI np - 1) (t1.fr p1 (by omega) (by omega))
  have sh2 : Sh μ μ2 := o2.1.trans sh1
  have iK4 : inA μ2 (h + 4) 15 (nI n) = true := inA_n (by rw [sh_isK sh2]; exact k4) (by rw [sh_gN sh2]; exact n4) hn16 (by decide)
  have iK5 : inA μ2 (h + 5) 15 (nI n) = true := inA_n (by rw [sh_isK sh2]; exact k5) (by rw [sh_gN sh2]; exact n5) hn16 (by decide)
  rw [e2, ob, if_pos iK5, cn]
  obtain ⟨ν2, hν2⟩ : ∃ ν2, ν2 = p_I μ2 (h + 5) n z2 := ⟨_, rfl⟩
  rw [← hν2]
  have p2 : Out (fun z => z = h + 5) μ2 ν2 := by rw [hν2]; exact (Out.rf (S := fun z => z = h + 5)).pI rfl
  have i2 : g_I ν2 h = g_I μ h := by rw [(p2.2 h (by omega)).1, (o2.2 h (by omega)).1, iν1]
  have f5 : g_I ν2 (h + 5) n = z2 := by rw [hν2, gI_s]
  have f4 : g_I ν2 (h + 4) n = z1 := by rw [(p2.2 (h + 4) (by omega)).1, (o2.2 (h + 4) (by omega)).1, hν1, gI_s]
  have gR2 : g_R μ2 = g_R μ := sh_gR sh2
  rw [gR2, q6, q5, if_pos (isK_p k5), i2, hn, if_pos iK5, if_pos (isK_p k4), if_pos iK4, cn, f5, f4]
  have tν : TpR ν2 tp x (numC (numCur x (nI np - 1) (numC (numF x (nI np - 1) a)))) := t2.fr p2 (by omega) (by omega)
  have a4 : g_I ν2 tp = g_I μ2 tp := (p2.2 tp (by omega)).1
  have base : Out (inHt tp h) μ ν2 := ((o1.mo fun z hz => Or.inl hz).tr (p1.mo fun z hz => Or.inr ⟨by omega, by omega⟩)).tr ((o2.mo fun z hz => Or.inl hz).tr (p2.mo fun z hz => Or.inr ⟨by omega, by omega⟩))
  have rows : g_I ν2 (h + 4) = ru (g_I μ (h + 4)) n z1 ∧ g_I ν2 (h + 5) = ru (g_I μ (h + 5)) n z2 ∧ g_I ν2 (h + 1) = g_I μ (h + 1) ∧ g_I ν2 (h + 2) = g_I μ (h + 2) ∧ g_I ν2 (h + 3) = g_I μ (h + 3) := by
    refine ⟨?_, ?_, ?_, ?_, ?_⟩
    · rw [(p2.2 _ (by omega)).1, (o2.2 _ (by omega)).1, hν1, gI_row, (o1.2 _ (by omega)).1]
    · rw [hν2, gI_row, (o2.2 _ (by omega)).1, (p1.2 _ (by omega)).1, (o1.2 _ (by omega)).1]
    · rw [(p2.2 _ (by omega)).1, (o2.2 _ (by omega)).1, (p1.2 _ (by omega)).1, (o1.2 _ (by omega)).1]
    · rw [(p2.2 _ (by omega)).1, (o2.2 _ (by omega)).1, (p1.2 _ (by omega)).1, (o1.2 _ (by omega)).1]
    · rw [(p2.2 _ (by omega)).1, (o2.2 _ (by omega)).1, (p1.2 _ (by omega)).1, (o1.2 _ (by omega)).1]
  -- the end
  have last : ∀ (ρ : Mem) (c : Cur), Out (fun z => z = tp) ν2 ρ → TpR ρ tp x c → ∃ μ' : Mem, mX3_parseWire_68 h ρ = some ((), μ') ∧ Out (inHt tp h) μ μ' ∧ TpR μ' tp x c ∧ g_I μ' h = ru (g_I μ h) 4 (nI (n + 1)) ∧ g_I μ' (h + 4) = ru (g_I μ (h + 4)) n z1 ∧ g_I μ' (h + 5) = ru (g_I μ (h + 5)) n z2 ∧ g_I μ' (h + 1) = g_I μ (h + 1) ∧ g_I μ' (h + 2) = g_I μ (h + 2) ∧ g_I μ' (h + 3) = g_I μ (h + 3) := by
    intro ρ c o tc
    unfold mX3_parseWire_68
    have ih : g_I ρ h = g_I μ h := by rw [(o.2 h (by omega)).1, i2]
    have i4 : g_I ρ h 4 = nI n := by rw [ih]; exact hn
    rw [i4, ← nI_succ]
    have p3 : Out (fun z => z = h) ρ (p_I ρ h 4 (nI (n + 1))) := (Out.rf (S := fun z => z = h)).pI rfl
    obtain ⟨w1, w2, w3, w4, w5⟩ := rows
    exact ⟨_, rfl, (base.tr (o.mo fun z hz => Or.inl hz)).tr (p3.mo fun z hz => Or.inr ⟨by omega, by omega⟩), tc.fr p3 (by omega) (by omega), by rw [gI_row, ih], by rw [gI_rowo (by omega), (o.2 _ (by omega)).1, w1], by rw [gI_rowo (by omega), (o.2 _ (by omega)).1, w2], by rw [gI_rowo (by omega), (o.2 _ (by omega)).1, w3], by rw [gI_rowo (by omega), (o.2 _ (by omega)).1, w4], by rw [gI_rowo (by omega), (o.2 _ (by omega)).1, w5]⟩
  -- a FAULT on the way
  have bad : ∀ e, TpR ν2 tp x (.inl e) → ∃ μ' : Mem, (if z2 = z1 then obind (LX9_fail tp 2 (g_I ν2 tp 4) ν2) (fun (_ : Unit) (m23 : Mem) => mX3_parseWire_68 h m23) else mX3_parseWire_68 h ν2) = some ((), μ') ∧ Out (inHt tp h) μ μ' ∧ TpR μ' tp x (.inl e) ∧ g_I μ' h = ru (g_I μ h) 4 (nI (n + 1)) ∧ g_I μ' (h + 4) = ru (g_I μ (h + 4)) n z1 ∧ g_I μ' (h + 5) = ru (g_I μ (h + 5)) n z2 ∧ g_I μ' (h + 1) = g_I μ (h + 1) ∧ g_I μ' (h + 2) = g_I μ (h + 2) ∧ g_I μ' (h + 3) = g_I μ (h + 3) := by
    intro e te
    by_cases c : z2 = z1
    · rw [if_pos c, (fail_err (k := 0) (p := 4) te 2).1, ob]
      exact last ν2 _ Out.rf te
    · rw [if_neg c]
      exact last ν2 _ Out.rf te
  cases hv : numF x (nI np - 1) a with
  | inl e =>
    have eW : wireF x (nI np - 1) a = .inl e := by unfold wireF; rw [hv]
    rw [hv] at tν
    rw [eW]
    obtain ⟨μ', b1, b2, b3, b4, b5, b6, b7, b8, b9⟩ := bad e tν
    exact ⟨μ', z1, z2, b1, b2, b3, b4, b5, b6, b7, b8, b9, fun v hv => nomatch hv⟩
  | inr u =>
    rw [hv] at tν
    obtain ⟨g3, -⟩ := g1 a u.1 u.2 rfl hv
    have tν : TpR ν2 tp x (numC (numF x (nI np - 1) u.2)) := tν
    have eW : wireF x (nI np - 1) a = (match numF x (nI np - 1) u.2 with
      | .inl e => .inl e
      | .inr v => if u.1 = v.1 then .inl (2, u.2) else .inr ((u.1, v.1), v.2)) := by
      unfold wireF
      rw [hv]
      rfl
    cases hw : numF x (nI np - 1) u.2 with
    | inl e =>
      rw [hw] at tν eW
      have eW : wireF x (nI np - 1) a = .inl e := eW
      rw [eW]
      obtain ⟨μ', b1, b2, b3, b4, b5, b6, b7, b8, b9⟩ := bad e tν
      exact ⟨μ', z1, z2, b1, b2, b3, b4, b5, b6, b7, b8, b9, fun v hv => nomatch hv⟩
    | inr v =>
      rw [hw] at tν eW
      have eW : wireF x (nI np - 1) a = if u.1 = v.1 then .inl (2, u.2) else .inr ((u.1, v.1), v.2) := eW
      obtain ⟨g4, g5⟩ := g2 u.2 v.1 v.2 (by show numC (numF x (nI np - 1) a) = _; rw [hv]; rfl) hw
      have tν : TpR ν2 tp x (.inr v.2) := tν
      have bu := (numF_le hv).2
      have bv := (numF_le hw).2
      rw [g3, g4]
      rw [g3, g4] at last
      by_cases c : u.1 = v.1
      · rw [if_pos c] at eW
        rw [if_pos (by rw [c]), a4, g5, eW]
        obtain ⟨μ3, e3, o3, t3⟩ := X9_fail (k := 2) (p := u.2) tν (by decide) (by decide)
        have e3 : LX9_fail tp (2 : Int32) (nI u.2) ν2 = some ((), μ3) := e3
        rw [e3, ob]
        obtain ⟨μ', b1, b2, b3, b4, b5, b6, b7, b8, b9⟩ := last μ3 _ o3 t3
        exact ⟨μ', _, _, b1, b2, b3, b4, b5, b6, b7, b8, b9, fun v hv => nomatch hv⟩
      · rw [if_neg c] at eW
        rw [if_neg (fun z => c ((nI_eq (by omega) (by omega)).mp z).symm), eW]
        obtain ⟨μ', b1, b2, b3, b4, b5, b6, b7, b8, b9⟩ := last ν2 _ Out.rf tν
        refine ⟨μ', _, _, b1, b2, b3, b4, b5, b6, b7, b8, b9, fun w hw' => ?_⟩
        have hw' : ((u.1, v.1), v.2) = w := Sum.inr.inj hw'
        subst hw'
        exact ⟨rfl, rfl⟩
