/-! ===== WORK: the class reads a STEP, and what stands within ===== -/
/-- what the reading looks at -/
def PsC (μ : Mem) (wk hh : Nat) (t : HutT) : Prop := WorkS μ wk ∧ HutS μ hh ∧ HutR μ hh t
def ApP (tp wk hh : Nat) : Prop := (tp + 2 ≤ wk ∨ wk + 6 ≤ tp) ∧ (tp + 2 ≤ hh ∨ hh + 6 ≤ tp) ∧ (wk + 6 ≤ hh ∨ hh + 6 ≤ wk)
theorem PsC.out {μ ν : Mem} {tp wk hh : Nat} {t : HutT} (c : PsC μ wk hh t) (ap : ApP tp wk hh) (o : Out (inPs tp wk) μ ν) : PsC ν wk hh t := by
  obtain ⟨c1, c2, c3⟩ := c
  obtain ⟨a1, a2, a3⟩ := ap
  exact ⟨c1.sh o.1, c2.sh o.1, c3.fr fun a ha => (o.2 a (by obtain ⟨y1, y2⟩ := ha; rintro (z | ⟨z1, z2⟩) <;> omega)).1⟩
/-- what comes of a reading of STEPS -/
def PsO (μ μ' : Mem) (tp wk n : Nat) (x : Txt) (pr : Nat → StepT) (r : StpT) : Prop := Out (inPs tp wk) μ μ' ∧ TpR μ' tp x r.1 ∧ ∀ b, r.1 = .inr b → 4 * r.2.1 ≤ b ∧ n ≤ r.2.1 ∧ StpR μ' wk n r.2.1 r.2.2 ∧ LowS wk n μ μ' ∧ ∀ i, i < n → r.2.2 i = pr i
theorem step30_err {μ : Mem} {tp wk hh : Nat} {x : Txt} {t : HutT} {e : Nat × Nat} {o w : Int32} {rec : Nat → Nat → Nat → Int32 → Mem → Option (Unit × Mem)} (c : PsC μ wk hh t) (r : TpR μ tp x (.inl e)) : mX10_parseStep_30 rec wk tp hh o w μ = some ((), μ) := by
  unfold mX10_parseStep_30
  obtain ⟨z1, z2, z3, e1⟩ := op3_err (w := w) c.2.1 c.2.2 r (α := Unit) (fun r21 r33 r45 m46 => obind (LX9_failed tp m46) (fun (r51 : Int32) (m52 : Mem) => if r51 = 0 then (if (g_I m52 wk 5) < (37 : Int32) then (if 0 < (g_R m52 wk 0) then (if inA m52 (g_R m52 wk 0) 15 (g_I m52 wk 5) = true then (if 0 < (g_R m52 wk 1) then (if inA m52 (g_R m52 wk 1) 15 (g_I m52 wk 5) = true then (if 0 < (g_R m52 wk 2) then (if inA m52 (g_R m52 wk 2) 15 (g_I m52 wk 5) = true then (if 0 < (g_R m52 wk 3) then (if inA m52 (g_R m52 wk 3) 15 (g_I m52 wk 5) = true then (if w = (9 : Int32) then (obind (LX9_need tp (91 : Int32) (p_I (p_I (p_I (p_I (p_I m52 (g_R m52 wk 0) (g_I m52 wk 5).toNatClampNeg w) (g_R m52 wk 1) (g_I m52 wk 5).toNatClampNeg r21) (g_R m52 wk 2) (g_I m52 wk 5).toNatClampNeg r33) (g_R m52 wk 3) (g_I m52 wk 5).toNatClampNeg r45) wk 5 ((g_I (p_I (p_I (p_I (p_I m52 (g_R m52 wk 0) (g_I m52 wk 5).toNatClampNeg w) (g_R m52 wk 1) (g_I m52 wk 5).toNatClampNeg r21) (g_R m52 wk 2) (g_I m52 wk 5).toNatClampNeg r33) (g_R m52 wk 3) (g_I m52 wk 5).toNatClampNeg r45) wk 5) + (1 : Int32)))) (fun (r68 : Unit) (m69 : Mem) => obind (rec wk tp hh (o + (1 : Int32)) m69) (fun (r74 : Unit) (m75 : Mem) => obind (LX9_need tp (93 : Int32) m75) (fun (r80 : Unit) (m81 : Mem) => mX10_parseStep_162 rec wk tp (g_I m52 wk 5) m81)))) else (mX10_parseStep_162 rec wk tp (g_I m52 wk 5) (p_I (p_I (p_I (p_I (p_I m52 (g_R m52 wk 0) (g_I m52 wk 5).toNatClampNeg w) (g_R m52 wk 1) (g_I m52 wk 5).toNatClampNeg r21) (g_R m52 wk 2) (g_I m52 wk 5).toNatClampNeg r33) (g_R m52 wk 3) (g_I m52 wk 5).toNatClampNeg r45) wk 5 ((g_I (p_I (p_I (p_I (p_I m52 (g_R m52 wk 0) (g_I m52 wk 5).toNatClampNeg w) (g_R m52 wk 1) (g_I m52 wk 5).toNatClampNeg r21) (g_R m52 wk 2) (g_I m52 wk 5).toNatClampNeg r33) (g_R m52 wk 3) (g_I m52 wk 5).toNatClampNeg r45) wk 5) + (1 : Int32))))) else none) else none) else none) else none) else none) else none) else none) else none) else (some ((), m52))) else (some ((), m52))))
  rw [e1]
  show obind (LX9_failed tp μ) _ = _
  rw [X9_failedE r, ob]
  exact if_neg (show ¬ (1 : Int32) = 0 by decide)
theorem step162 {μ ν : Mem} {tp wk n m : Nat} {x : Txt} {rec : Nat → Nat → Nat → Int32 → Mem → Option (Unit × Mem)} {c : Cur} (hd : tp + 2 ≤ wk ∨ wk + 6 ≤ tp) (s : WorkS ν wk) (hn : n < 37) (h5 : g_I ν wk 5 = nI m) (t : TpR ν tp x c) (o : Out (inPs tp wk) μ ν) :
    ∃ μ' : Mem, mX10_parseStep_162 rec wk tp (nI n) ν = some ((), μ') ∧ Out (inPs tp wk) μ μ' ∧ TpR μ' tp x (needF x 59 c) ∧ g_I μ' wk = g_I ν wk ∧ g_I μ' (wk + 5) = ru (g_I ν (wk + 5)) n (nI m) ∧ ∀ j, 1 ≤ j → j ≤ 4 → g_I μ' (wk + j) = g_I ν (wk + j) := by
  obtain ⟨w0, ⟨r1, r2, r3, r4, r5⟩, ⟨k1, k2, k3, k4, k5⟩, n1, n2, n3, n4, n5⟩ := id s
  unfold mX10_parseStep_162
  rw [r5, if_pos (isK_p k5), if_pos (inA_n k5 n5 hn (by decide)), nI_clamp (n := n) (by omega), h5]
  have p1 : Out (fun z => z = wk + 5) ν (p_I ν (wk + 5) n (nI m)) := (Out.rf (S := fun z => z = wk + 5)).pI rfl
  obtain ⟨μ', e1, o1, t1⟩ := X9_need (k := 59) (t.fr p1 (by omega) (by omega)) (by decide)
  have e1 : LX9_need tp (59 : Int32) (p_I ν (wk + 5) n (nI m)) = some ((), μ') := e1
  rw [e1, ob]
  exact ⟨μ', rfl, (o.tr (p1.mo fun z hz => Or.inr ⟨by omega, by omega⟩)).tr (o1.mo fun z hz => Or.inl hz), t1, by rw [(o1.2 wk (by omega)).1, gI_rowo (by omega)], by rw [(o1.2 (wk + 5) (by omega)).1, gI_row], fun j h1 h2 => by rw [(o1.2 (wk + j) (by omega)).1, gI_rowo (by omega)]⟩
theorem step30_ok {μ ν : Mem} {tp wk hh n w b o : Nat} {x : Txt} {t : HutT} {pr : Nat → StepT} {rec : Nat → Nat → Nat → Int32 → Mem → Option (Unit × Mem)} {rc : Cur → Nat → (Nat → StepT) → StpT} (ap : ApP tp wk hh) (hN : x.2 ≤ 150) (hw : w < 10) (ho : o ≤ 6)
    (hrec : w = 9 → ∀ (c : Cur) (n : Nat) (pr : Nat → StepT) (μ : Mem), PsC μ wk hh t → TpR μ tp x c → (∀ a, c = .inr a → 4 * n ≤ a ∧ n ≤ 37 ∧ g_I μ wk 5 = nI n) → ∃ μ' : Mem, rec wk tp hh (nI (o + 1)) μ = some ((), μ') ∧ PsO μ μ' tp wk n x pr (rc c n pr))
    (c : PsC ν wk hh t) (r : TpR ν tp x (.inr b)) (hb : 4 * n + 3 ≤ b) (h5 : g_I ν wk 5 = nI n) (ov : Out (fun z => z = tp) μ ν) :
    ∃ μ' : Mem, mX10_parseStep_30 rec wk tp hh (nI o) (nI w) ν = some ((), μ') ∧ PsO μ μ' tp wk n x pr (match op3 x t w b with
      | .inl e => (.inl e, n, pr)
      | .inr v => if w = 9 then againF x v.1 n (rc (needF x 91 (.inr v.2)) (n + 1) (up pr n (9, v.1.1, v.1.2.1, v.1.2.2, 0))) else (needF x 59 (.inr v.2), n + 1, up pr n (w, v.1.1, v.1.2.1, v.1.2.2, n + 1))) := by
  obtain ⟨ap1, ap2, ap3⟩ := id ap
  unfold mX10_parseStep_30
  obtain ⟨μ1, z1, z2, z3, e1, o1, t1, g1⟩ := X10_op3 (w := w) ap2 c.2.1 c.2.2 r (α := Unit) (fun r21 r33 r45 m46 => obind (LX9_failed tp m46) (fun (r51 : Int32) (m52 : Mem) => if r51 = 0 then (if (g_I m52 wk 5) < (37 : Int32) then (if 0 < (g_R m52 wk 0) then (if inA m52 (g_R m52 wk 0) 15 (g_I m52 wk 5) = true then (if 0 < (g_R m52 wk 1) then (if inA m52 (g_R m52 wk 1) 15 (g_I m52 wk 5) = true then (if 0 < (g_R m52 wk 2) then (if inA m52 (g_R m52 wk 2) 15 (g_I m52 wk 5) = true then (if 0 < (g_R m52 wk 3) then (if inA m52 (g_R m52 wk 3) 15 (g_I m52 wk 5) = true then (if nI w = (9 : Int32) then (obind (LX9_need tp (91 : Int32) (p_I (p_I (p_I (p_I (p_I m52 (g_R m52 wk 0) (g_I m52 wk 5).toNatClampNeg (nI w)) (g_R m52 wk 1) (g_I m52 wk 5).toNatClampNeg r21) (g_R m52 wk 2) (g_I m52 wk 5).toNatClampNeg r33) (g_R m52 wk 3) (g_I m52 wk 5).toNatClampNeg r45) wk 5 ((g_I (p_I (p_I (p_I (p_I m52 (g_R m52 wk 0) (g_I m52 wk 5).toNatClampNeg (nI w)) (g_R m52 wk 1) (g_I m52 wk 5).toNatClampNeg r21) (g_R m52 wk 2) (g_I m52 wk 5).toNatClampNeg r33) (g_R m52 wk 3) (g_I m52 wk 5).toNatClampNeg r45) wk 5) + (1 : Int32)))) (fun (r68 : Unit) (m69 : Mem) => obind (rec wk tp hh (nI o + (1 : Int32)) m69) (fun (r74 : Unit) (m75 : Mem) => obind (LX9_need tp (93 : Int32) m75) (fun (r80 : Unit) (m81 : Mem) => mX10_parseStep_162 rec wk tp (g_I m52 wk 5) m81)))) else (mX10_parseStep_162 rec wk tp (g_I m52 wk 5) (p_I (p_I (p_I (p_I (p_I m52 (g_R m52 wk 0) (g_I m52 wk 5).toNatClampNeg (nI w)) (g_R m52 wk 1) (g_I m52 wk 5).toNatClampNeg r21) (g_R m52 wk 2) (g_I m52 wk 5).toNatClampNeg r33) (g_R m52 wk 3) (g_I m52 wk 5).toNatClampNeg r45) wk 5 ((g_I (p_I (p_I (p_I (p_I m52 (g_R m52 wk 0) (g_I m52 wk 5).toNatClampNeg (nI w)) (g_R m52 wk 1) (g_I m52 wk 5).toNatClampNeg r21) (g_R m52 wk 2) (g_I m52 wk 5).toNatClampNeg r33) (g_R m52 wk 3) (g_I m52 wk 5).toNatClampNeg r45) wk 5) + (1 : Int32))))) else none) else none) else none) else none) else none) else none) else none) else none) else (some ((), m52))) else (some ((), m52))))
  rw [e1]
  have ob1 : Out (inPs tp wk) μ μ1 := (ov.tr o1).mo fun z hz => Or.inl hz
  have h51 : g_I μ1 wk = g_I ν wk := (o1.2 wk (by omega)).1
  have low1 : LowS wk n μ μ1 := LowS.tp ap1 (ov.tr o1)
  show ∃ μ' : Mem, obind (LX9_failed tp μ1) _ = some ((), μ') ∧ _
  rw [X9_failedE t1, ob]
  cases hv : op3 x t w b with
  | inl e =>
    rw [hv] at t1
    exact ⟨μ1, if_neg (show ¬ (1 : Int32) = 0 by decide), ob1, t1, fun b hb => nomatch hb⟩
  | inr v =>
    rw [hv] at t1
    obtain ⟨y1, y2, y3⟩ := g1 v hv
    have bb : b ≤ x.2 := r.2.2.2.2.2.1
    obtain ⟨q1, q2⟩ := op3_at hv bb
    have hn : n < 37 := by omega
    have cn : (nI n).toNatClampNeg = n := nI_clamp (by omega)
    have s1 : WorkS μ1 wk := c.1.sh o1.1
    obtain ⟨w0, ⟨r1, r2, r3, r4, r5⟩, ⟨k1, k2, k3, k4, k5⟩, n1, n2, n3, n4, n5⟩ := id s1
    have h5' : g_I μ1 wk 5 = nI n := by rw [h51]; exact h5
    rw [show errI (curR (Sum.inr v : (Nat × Nat) ⊕ ((Nat × Nat × Nat) × Nat))) = 0 from rfl, if_pos rfl, h5', if_pos (show nI n < (37 : Int32) from nI_lt hn (by decide)), r1, if_pos (isK_p k1), if_pos (inA_n k1 n1 hn (by decide)), r2, if_pos (isK_p k2), if_pos (inA_n k2 n2 hn (by decide)), r3, if_pos (isK_p k3), if_pos (inA_n k3 n3 hn (by decide)), r4, if_pos (isK_p k4), if_pos (inA_n k4 n4 hn (by decide)), cn]
    obtain ⟨ρ, hρ⟩ : ∃ ρ, ρ = p_I (p_I (p_I (p_I μ1 (wk + 1) n (nI w)) (wk + 2) n z1) (wk + 3) n z2) (wk + 4) n z3 := ⟨_, rfl⟩
    rw [← hρ]
    have hρ5 : g_I ρ wk = g_I μ1 wk := by rw [hρ, gI_rowo (by omega), gI_rowo (by omega), gI_rowo (by omega), gI_rowo (by omega)]
    have hρ5' : g_I ρ wk 5 = nI n := by rw [hρ5]; exact h5'
    rw [hρ5', ← nI_succ]
    obtain ⟨σ, hσ⟩ : ∃ σ, σ = p_I ρ wk 5 (nI (n + 1)) := ⟨_, rfl⟩
    rw [← hσ]
    have p1 : Out (fun z => wk ≤ z ∧ z < wk + 5) μ1 σ := by
      rw [hσ, hρ]
      exact (((((Out.rf (S := fun z => wk ≤ z ∧ z < wk + 5)).pI ⟨by omega, by omega⟩).pI ⟨by omega, by omega⟩).pI ⟨by omega, by omega⟩).pI ⟨by omega, by omega⟩).pI ⟨by omega, by omega⟩
    have oσ : Out (inPs tp wk) μ σ := ob1.tr (p1.mo fun z hz => Or.inr ⟨by omega, by omega⟩)
    have tσ : TpR σ tp x (.inr v.2) := t1.fr p1 (by omega) (by omega)
    have f1 : g_I σ (wk + 1) = ru (g_I μ1 (wk + 1)) n (nI w) := by rw [hσ, gI_rowo (by omega), hρ, gI_rowo (by omega), gI_rowo (by omega), gI_rowo (by omega), gI_row]
    have f2 : g_I σ (wk + 2) = ru (g_I μ1 (wk + 2)) n z1 := by rw [hσ, gI_rowo (by omega), hρ, gI_rowo (by omega), gI_rowo (by omega), gI_row, gI_rowo (by omega)]
    have f3 : g_I σ (wk + 3) = ru (g_I μ1 (wk + 3)) n z2 := by rw [hσ, gI_rowo (by omega), hρ, gI_rowo (by omega), gI_row, gI_rowo (by omega), gI_rowo (by omega)]
    have f4 : g_I σ (wk + 4) = ru (g_I μ1 (wk + 4)) n z3 := by rw [hσ, gI_rowo (by omega), hρ, gI_row, gI_rowo (by omega), gI_rowo (by omega), gI_rowo (by omega)]
    have f5 : g_I σ (wk + 5) = g_I μ1 (wk + 5) := by rw [hσ, gI_rowo (by omega), hρ, gI_rowo (by omega), gI_rowo (by omega), gI_rowo (by omega), gI_rowo (by omega)]
    have f0 : g_I σ wk 5 = nI (n + 1) := by rw [hσ, gI_s]
    have low2 : LowS wk n μ σ := low1.tr fun i hi j a b => by
      have hj : j = 1 ∨ j = 2 ∨ j = 3 ∨ j = 4 ∨ j = 5 := by omega
      rcases hj with rfl | rfl | rfl | rfl | rfl
      · rw [f1, ru_o (by omega)]
      · rw [f2, ru_o (by omega)]
      · rw [f3, ru_o (by omega)]
      · rw [f4, ru_o (by omega)]
      · rw [f5]
    have sσ : WorkS σ wk := s1.sh p1.1
    by_cases h9 : w = 9
    · rw [if_pos (show nI w = (9 : Int32) by rw [h9]; rfl)]
      obtain ⟨μ2, e2, o2, t2⟩ := X9_need (k := 91) tσ (by decide)
      have e2 : LX9_need tp (91 : Int32) σ = some ((), μ2) := e2
      rw [e2, ob, ← nI_succ]
      have o2' : Out (inPs tp wk) μ μ2 := oσ.tr (o2.mo fun z hz => Or.inl hz)
      have c2 : PsC μ2 wk hh t := c.out ap (((o1.mo fun z hz => Or.inl hz).tr (p1.mo fun z hz => Or.inr ⟨by omega, by omega⟩)).tr (o2.mo fun z hz => Or.inl hz))
      have g5 : g_I μ2 wk 5 = nI (n + 1) := by rw [(o2.2 wk (by omega)).1]; exact f0
      obtain ⟨μ3, e3, o3, t3, g3⟩ := hrec h9 (needF x 91 (.inr v.2)) (n + 1) (up pr n (9, v.1.1, v.1.2.1, v.1.2.2, 0)) μ2 c2 t2 (fun a ha => by
        have := needF_at ha (by decide)
        exact ⟨by omega, by omega, g5⟩)
      rw [e3, ob]
      obtain ⟨rr, hrr⟩ : ∃ rr, rr = rc (needF x 91 (.inr v.2)) (n + 1) (up pr n (9, v.1.1, v.1.2.1, v.1.2.2, 0)) := ⟨_, rfl⟩
      rw [← hrr] at t3 g3
      show ∃ μ' : Mem, _ ∧ PsO μ μ' tp wk n x pr (if w = 9 then againF x v.1 n (rc (needF x 91 (.inr v.2)) (n + 1) (up pr n (9, v.1.1, v.1.2.1, v.1.2.2, 0))) else (needF x 59 (.inr v.2), n + 1, up pr n (w, v.1.1, v.1.2.1, v.1.2.2, n + 1)))
      rw [if_pos h9, ← hrr]
      obtain ⟨μ4, e4, o4, t4⟩ := X9_need (k := 93) t3 (by decide)
      have e4 : LX9_need tp (93 : Int32) μ3 = some ((), μ4) := e4
      rw [e4, ob]
      have o4' : Out (inPs tp wk) μ μ4 := (o2'.tr o3).tr (o4.mo fun z hz => Or.inl hz)
      have s4 : WorkS μ4 wk := ((sσ.sh o2.1).sh o3.1).sh o4.1
      obtain ⟨m, hm⟩ : ∃ m : Int32, g_I μ4 wk 5 = m := ⟨_, rfl⟩
      -- the rest
      have fin : ∃ μ' : Mem, mX10_parseStep_162 rec wk tp (nI n) μ4 = some ((), μ') ∧ Out (inPs tp wk) μ μ' ∧ TpR μ' tp x (needF x 59 (needF x 93 rr.1)) ∧ g_I μ' wk = g_I μ4 wk ∧ g_I μ' (wk + 5) = ru (g_I μ4 (wk + 5)) n (g_I μ4 wk 5) ∧ ∀ j, 1 ≤ j → j ≤ 4 → g_I μ' (wk + j) = g_I μ4 (wk + j) := by
        obtain ⟨w0, ⟨r1, r2, r3, r4, r5⟩, ⟨k1, k2, k3, k4, k5⟩, n1, n2, n3, n4, n5⟩ := id s4
        unfold mX10_parseStep_162
        rw [r5, if_pos (isK_p k5), if_pos (inA_n k5 n5 hn (by decide)), cn]
        have p2 : Out (fun z => z = wk + 5) μ4 (p_I μ4 (wk + 5) n (g_I μ4 wk 5)) := (Out.rf (S := fun z => z = wk + 5)).pI rfl
        obtain ⟨μ', e5, o5, t5⟩ := X9_need (k := 59) (t4.fr p2 (by omega) (by omega)) (by decide)
        have e5 : LX9_need tp (59 : Int32) (p_I μ4 (wk + 5) n (g_I μ4 wk 5)) = some ((), μ') := e5
        rw [e5, ob]
        exact ⟨μ', rfl, (o4'.tr (p2.mo fun z hz => Or.inr ⟨by omega, by omega⟩)).tr (o5.mo fun z hz => Or.inl hz), t5, by rw [(o5.2 wk (by omega)).1, gI_rowo (by omega)], by rw [(o5.2 (wk + 5) (by omega)).1, gI_row], fun j h1 h2 => by rw [(o5.2 (wk + j) (by omega)).1, gI_rowo (by omega)]⟩
      obtain ⟨μ', e5, o5, t5, u0, u5, uj⟩ := fin
      refine ⟨μ', e5, o5, t5, fun b' hb' => ?_⟩
      have hb' : needF x 59 (needF x 93 rr.1) = .inr b' := hb'
      -- all went well
      cases hr1 : rr.1 with
      | inl e => rw [hr1] at hb'; exact nomatch hb'
      | inr d =>
        obtain ⟨v1, v2, v3, v4, v5⟩ := g3 d hr1
        rw [hr1] at hb'
        cases hd2 : needF x 93 (.inr d) with
        | inl e => rw [hd2] at hb'; exact nomatch hb'
        | inr d2 =>
          rw [hd2] at hb'
          have i1 := needF_at hd2 (by decide)
          have i2 := needF_at hb' (by decide)
          have h4i : g_I μ4 wk 5 = nI rr.2.1 := by rw [(o4.2 wk (by omega)).1]; exact v3.1
          have lowA : LowS wk (n + 1) μ2 μ4 := v4.tr (LowS.tp ap1 o4)
          have low24 : LowS wk (n + 1) σ μ4 := (LowS.tp ap1 o2).tr lowA
          have lowB : LowS wk n μ4 μ' := fun i hi j a b => by
            by_cases ej : j = 5
            · rw [ej, u5, ru_o (by omega)]
            · rw [uj j a (by omega)]
          show 4 * rr.2.1 ≤ b' ∧ n ≤ rr.2.1 ∧ StpR μ' wk n rr.2.1 (up rr.2.2 n (9, v.1.1, v.1.2.1, v.1.2.2, rr.2.1)) ∧ LowS wk n μ μ' ∧ ∀ i, i < n → up rr.2.2 n (9, v.1.1, v.1.2.1, v.1.2.2, rr.2.1) i = pr i
          refine ⟨by omega, by omega, ⟨by rw [u0]; exact h4i, v3.2.1, fun i hi1 hi2 => ?_⟩, (low2.tr (low24.le (by omega))).tr lowB, fun i hi => ?_⟩
          · rw [uj 1 (by decide) (by decide), uj 2 (by decide) (by decide), uj 3 (by decide) (by decide), uj 4 (by decide) (by decide), u5]
            by_cases ei : i = n
            · rw [ei, up_s, ru_s, h4i]
              have l1 := low24 n (by omega) 1 (by decide) (by decide)
              have l2 := low24 n (by omega) 2 (by decide) (by decide)
              have l3 := low24 n (by omega) 3 (by decide) (by decide)
              have l4 := low24 n (by omega) 4 (by decide) (by decide)
              rw [l1, l2, l3, l4, f1, f2, f3, f4, ru_s, ru_s, ru_s, ru_s, h9]
              exact ⟨rfl, y1, y2, y3, rfl⟩
            · rw [up_o ei, ru_o ei]
              have q := v3.2.2 i (by omega) hi2
              rw [(o4.2 (wk + 1) (by omega)).1, (o4.2 (wk + 2) (by omega)).1, (o4.2 (wk + 3) (by omega)).1, (o4.2 (wk + 4) (by omega)).1, (o4.2 (wk + 5) (by omega)).1]
              exact q
          · rw [up_o (by omega), v5 i (by omega), up_o (by omega)]
    · rw [if_neg (show ¬ nI w = (9 : Int32) from fun z => h9 ((nI_eq (by omega) (by decide)).mp (show nI w = nI 9 from z)))]
      obtain ⟨μ', e5, o5, t5, u0, u5, uj⟩ := step162 (rec := rec) (n := n) ap1 sσ hn f0 tσ oσ
      show ∃ μ' : Mem, _ ∧ PsO μ μ' tp wk n x pr (if w = 9 then againF x v.1 n (rc (needF x 91 (.inr v.2)) (n + 1) (up pr n (9, v.1.1, v.1.2.1, v.1.2.2, 0))) else (needF x 59 (.inr v.2), n + 1, up pr n (w, v.1.1, v.1.2.1, v.1.2.2, n + 1)))
      rw [if_neg h9]
      refine ⟨μ', e5, o5, t5, fun b' hb' => ?_⟩
      have i2 := needF_at (a := v.2) hb' (by decide)
      refine ⟨by show 4 * (n + 1) ≤ b'; omega, by show n ≤ n + 1; omega, ⟨by rw [u0]; exact f0, by show n + 1 ≤ 37; omega, fun i hi1 hi2 => ?_⟩, low2.tr (fun i hi j a b => ?_), fun i hi => up_o (by omega)⟩
      · have hi2 : i < n + 1 := hi2
        have ei : i = n := by omega
        subst ei
        rw [uj 1 (by decide) (by decide), uj 2 (by decide) (by decide), uj 3 (by decide) (by decide), uj 4 (by decide) (by decide), u5, f1, f2, f3, f4, ru_s, ru_s, ru_s, ru_s, ru_s]
        show nI w = nI (up pr i (w, v.1.1, v.1.2.1, v.1.2.2, i + 1) i).1 ∧ z1 = nI (up pr i (w, v.1.1, v.1.2.1, v.1.2.2, i + 1) i).2.1 ∧ z2 = nI (up pr i (w, v.1.1, v.1.2.1, v.1.2.2, i + 1) i).2.2.1 ∧ z3 = nI (up pr i (w, v.1.1, v.1.2.1, v.1.2.2, i + 1) i).2.2.2.1 ∧ nI (i + 1) = nI (up pr i (w, v.1.1, v.1.2.1, v.1.2.2, i + 1) i).2.2.2.2
        rw [up_s]
        exact ⟨rfl, y1, y2, y3, rfl⟩
      · by_cases ej : j = 5
        · rw [ej, u5, ru_o (by omega)]
        · rw [uj j a (by omega)]
