/-! ===== a STEP of WORK (class) ===== -/
/-- a STEP: its word, its numbers, where it ends -/
abbrev StepT : Type := Nat × Nat × Nat × Nat × Nat
def doF (t : HutT) (ops : List (Int32 × Int32)) (q : StepT) (ρ : Nat → Int32) : Int32 × (Nat → Int32) :=
  if q.1 = 0 then (if canP (t.2.1 q.2.1) ρ q.2.1 = 0 then (0, ρ) else (1, sRead ops (t.2.1 q.2.1) ρ q.2.1 (nI q.2.2.1)))
  else if q.1 = 1 then (if canP (t.2.1 q.2.1) ρ q.2.1 = 0 then (0, ρ) else (1, sRead ops (t.2.1 q.2.1) ρ q.2.1 (-(nI q.2.2.1))))
  else if q.1 = 2 then (if nOf ρ (t.2.2.2.2.2.1 q.2.1) = 0 then (0, ρ) else if canP (t.2.1 (t.2.2.2.2.2.2.1 q.2.1)) ρ (t.2.2.2.2.2.2.1 q.2.1) = 0 then (0, ρ) else (1, sRead ops (t.2.1 (t.2.2.2.2.2.2.1 q.2.1)) ρ (t.2.2.2.2.2.2.1 q.2.1) (inRow t.1 t.2.1 ρ (t.2.2.2.2.2.1 q.2.1))))
  else if q.1 = 3 then (if ρ (24 + q.2.1) = 0 then (0, ρ) else (1, sLay ρ q.2.1 (ρ (16 + q.2.1))))
  else if q.1 = 4 then (if ρ (16 + q.2.1) = -1 then (0, ρ) else (1, sLay ρ q.2.1 (-1)))
  else if q.1 = 5 then (if nI q.2.2.1 - nI q.2.2.2.1 < 0 then (0, ρ) else (1, sLay ρ q.2.1 (nI q.2.2.1 - nI q.2.2.2.1)))
  else if q.1 = 6 then (if cpRef (t.2.1 q.2.2.1) (t.2.1 q.2.1) ρ q.2.1 q.2.2.1 (nI q.2.2.2.1) then (0, ρ) else (1, sCp ρ q.2.1 q.2.2.1 q.2.2.2.1 (mxI (mnI (nI q.2.2.2.1) (ρ (24 + q.2.1))) (ρ (24 + q.2.2.1)))))
  else if q.1 = 7 then (if ρ q.2.1 = nI q.2.2.1 ∧ ρ (8 + q.2.1) = nI q.2.2.2.1 then (0, ρ) else (1, sTune ρ q.2.1 (nI q.2.2.1) (nI q.2.2.2.1)))
  else (if (900 : Int32) ≤ ρ 32 then (0, ρ) else (1, sDay t.1 ρ))
/-- a STEP that holds together -/
def StepOk (t : HutT) (q : StepT) : Prop := q.1 ≤ 9 ∧ ((q.1 ≤ 1 ∨ (3 ≤ q.1 ∧ q.1 ≤ 7)) → q.2.1 < t.1) ∧ (q.1 = 2 → q.2.1 < t.2.2.2.2.1) ∧ (q.1 = 6 → q.2.2.1 < t.1) ∧ (q.1 = 5 → q.2.2.1 ≤ 24) ∧ ((q.1 = 5 ∨ q.1 = 6) → q.2.2.2.1 ≤ 24) ∧ (q.1 = 7 → q.2.2.1 ≤ 99 ∧ q.2.2.2.1 ≤ 99) ∧ (q.1 = 9 → q.2.1 ≤ 60)
theorem ite1 {α β : Type} {c : Prop} [Decidable c] {a a' : α} {b b' : β} : (if c then (a, b) else (a', b')).1 = if c then a else a' := by split <;> rfl
theorem ite2 {α β : Type} {c : Prop} [Decidable c] {a a' : α} {b b' : β} : (if c then (a, b) else (a', b')).2 = if c then b else b' := by split <;> rfl
theorem b01 {c : Prop} [Decidable c] : (if c then (0 : Int32) else 1) = 0 ∨ (if c then (0 : Int32) else 1) = 1 := by
  split
  · exact Or.inl rfl
  · exact Or.inr rfl
def WorkS (μ : Mem) (h : Nat) : Prop := isK μ h 10 = true ∧ (g_R μ h 0 = h + 1 ∧ g_R μ h 1 = h + 2 ∧ g_R μ h 2 = h + 3 ∧ g_R μ h 3 = h + 4 ∧ g_R μ h 4 = h + 5) ∧ (isK μ (h + 1) 15 = true ∧ isK μ (h + 2) 15 = true ∧ isK μ (h + 3) 15 = true ∧ isK μ (h + 4) 15 = true ∧ isK μ (h + 5) 15 = true) ∧ g_N μ (h + 1) = 37 ∧ g_N μ (h + 2) = 37 ∧ g_N μ (h + 3) = 37 ∧ g_N μ (h + 4) = 37 ∧ g_N μ (h + 5) = 37
theorem WorkS.sh {μ ν : Mem} {h : Nat} (s : WorkS μ h) (e : Sh μ ν) : WorkS ν h := by
  unfold WorkS
  rw [sh_isK e, sh_gR e, sh_gN e]
  exact s
/-- WORK told: n STEPS -/
def WorkR (μ : Mem) (h n : Nat) (pr : Nat → StepT) : Prop := g_I μ h 5 = nI n ∧ n ≤ 37 ∧ ∀ i, i < n → g_I μ (h + 1) i = nI (pr i).1 ∧ g_I μ (h + 2) i = nI (pr i).2.1 ∧ g_I μ (h + 3) i = nI (pr i).2.2.1 ∧ g_I μ (h + 4) i = nI (pr i).2.2.2.1 ∧ g_I μ (h + 5) i = nI (pr i).2.2.2.2
theorem StR.penI {c : Prop} [Decidable c] {μ μ' : Mem} {s np q : Nat} {kf ρ σ : Nat → Int32} (r : StR μ s np kf ρ) (hq : q < np) (o : Out (fun a => s + 2 + 4 * q ≤ a ∧ a < s + 2 + 4 * q + 4) μ μ') (hp : PenR μ' (s + 2 + 4 * q) (kf q) (if c then ρ else σ) q) (h0 : σ 32 = ρ 32 ∧ σ 33 = ρ 33 ∧ σ 34 = ρ 34) (hs : ∀ p, p < 8 → p ≠ q → sameP ρ σ p) : StR μ' s np kf (if c then ρ else σ) := by
  by_cases e : c
  · rw [if_pos e] at hp ⊢
    exact r.pen hq o hp ⟨rfl, rfl, rfl⟩ fun _ _ _ => sameP.rf
  · rw [if_neg e] at hp ⊢
    exact r.pen hq o hp h0 hs
/-- what a STEP changes -/
def inDo (s lh : Nat) : Nat → Prop := fun x => inSt s x ∨ x = lh + 1 ∨ x = lh + 4
theorem X10_isDone (fp : FpNn) {μ : Mem} {wk s hh lh i : Nat} {t : HutT} {ops : List (Int32 × Int32)} {ρ : Nat → Int32} {q : StepT} (ws : WorkS μ wk) (hi : i < 37) (v1 : g_I μ (wk + 1) i = nI q.1) (v2 : g_I μ (wk + 2) i = nI q.2.1) (v3 : g_I μ (wk + 3) i = nI q.2.2.1) (v4 : g_I μ (wk + 4) i = nI q.2.2.2.1) (ts : StS μ s) (r : StR μ s t.1 t.2.1 ρ) (rk : RowK t.1 t.2.1 ρ) (hs : HutS μ hh) (hr : HutR μ hh t) (ho : HutOk t) (l : LawS μ lh) (lr : LawR μ lh ops) (ok : StepOk t q) (h9 : q.1 ≠ 9) (hd : lh + 5 ≤ s ∨ s + 34 ≤ lh) :
    ∃ μ' : Mem, LX10_isDone wk s hh lh (nI i) μ = some ((doF t ops q ρ).1, μ') ∧ Out (inDo s lh) μ μ' ∧ StR μ' s t.1 t.2.1 (doF t ops q ρ).2 := by
  obtain ⟨w0, ⟨r1, r2, r3, r4, r5⟩, ⟨k1, k2, k3, k4, k5⟩, n1, n2, n3, n4, n5⟩ := id ws
  obtain ⟨t0, t1, t2, t3, t5⟩ := id ts
  obtain ⟨o1, o2, o3, o4, o5, o6, o7, o8⟩ := ok
  have h8 := ho.1
  have ci : (nI i).toNatClampNeg = i := nI_clamp (by omega)
  have ne : ∀ a b : Nat, a < 10 → b < 10 → a ≠ b → ¬ nI a = nI b := fun a b ha hb hab z => hab ((nI_eq (by omega) (by omega)).mp z)
  unfold LX10_isDone
  rw [if_pos w0, if_pos t0, if_pos hs.1, if_pos l.1, r2, if_pos (isK_p k2), if_pos (inA_n k2 n2 hi (by decide)), r1, if_pos (isK_p k1), if_pos (inA_n k1 n1 hi (by decide)), ci, v1, v2, t1, r3, r4]
  have in3 : inA μ (wk + 3) 15 (nI i) = true := inA_n k3 n3 hi (by decide)
  have in4 : inA μ (wk + 4) 15 (nI i) = true := inA_n k4 n4 hi (by decide)
  have lay0 : ∀ (p : Nat) (n : Int32), p < 8 → sLay ρ p n 32 = ρ 32 ∧ sLay ρ p n 33 = ρ 33 ∧ sLay ρ p n 34 = ρ 34 := fun p n hp => ⟨sLay_far (by omega) (by omega) (by omega) (by omega), sLay_far (by omega) (by omega) (by omega) (by omega), sLay_far (by omega) (by omega) (by omega) (by omega)⟩
  have penI : ∀ p, p < t.1 → 0 < s + 1 ∧ inA μ (s + 1) 17 (nI p) = true ∧ (nI p).toNatClampNeg = p ∧ g_R μ (s + 1) p = s + 2 + 4 * p ∧ 0 < s + 2 + 4 * p ∧ PenS μ (s + 2 + 4 * p) := fun p hp => by
    obtain ⟨a1, a2⟩ := t5 p (by omega)
    exact ⟨isK_p t2, inA_n t2 t3 (by omega) (by decide), nI_clamp (by omega), a1, isK_p a2.1, a2⟩
  have penO : ∀ (p : Nat) (ν : Mem), p < t.1 → Out (fun a => s + 2 + 4 * p ≤ a ∧ a < s + 2 + 4 * p + 4) μ ν → Out (inDo s lh) μ ν := fun p ν hp o => o.mo fun x hx => Or.inl ⟨by omega, by omega⟩
  have hc : q.1 = 0 ∨ q.1 = 1 ∨ q.1 = 2 ∨ q.1 = 3 ∨ q.1 = 4 ∨ q.1 = 5 ∨ q.1 = 6 ∨ q.1 = 7 ∨ q.1 = 8 := by omega
  rcases hc with e | e | e | e | e | e | e | e | e
  · have hF : doF t ops q ρ = (if canP (t.2.1 q.2.1) ρ q.2.1 = 0 then (0, ρ) else (1, sRead ops (t.2.1 q.2.1) ρ q.2.1 (nI q.2.2.1))) := by
      unfold doF
      rw [if_pos e]
    rw [hF, ite1, ite2, e]
    have hp := o2 (by omega)
    rw [if_pos (show nI 0 = (0 : Int32) from rfl), if_pos (isK_p k3), if_pos in3, v3]
    obtain ⟨μ', e1, z1, z2⟩ := X8_write fp (v := nI q.2.2.1) l lr ts r rk.2.1 hp hd
    rw [e1, ob, if_pos b01]
    exact ⟨μ', rfl, z1, z2⟩
  · have hF : doF t ops q ρ = (if canP (t.2.1 q.2.1) ρ q.2.1 = 0 then (0, ρ) else (1, sRead ops (t.2.1 q.2.1) ρ q.2.1 (-(nI q.2.2.1)))) := by
      unfold doF
      rw [if_neg (show ¬ q.1 = 0 by omega), if_pos e]
    rw [hF, ite1, ite2, e]
    have hp := o2 (by omega)
    rw [if_neg (show ¬ nI 1 = (0 : Int32) from ne 1 0 (by decide) (by decide) (by decide)), if_pos (show nI 1 = (1 : Int32) from rfl), if_pos (isK_p k3), if_pos in3, v3]
    obtain ⟨μ', e1, z1, z2⟩ := X8_write fp (v := -(nI q.2.2.1)) l lr ts r rk.2.1 hp hd
    rw [e1, ob, if_pos b01]
    exact ⟨μ', rfl, z1, z2⟩
  · have hF : doF t ops q ρ = (if nOf ρ (t.2.2.2.2.2.1 q.2.1) = 0 then (0, ρ) else if canP (t.2.1 (t.2.2.2.2.2.2.1 q.2.1)) ρ (t.2.2.2.2.2.2.1 q.2.1) = 0 then (0, ρ) else (1, sRead ops (t.2.1 (t.2.2.2.2.2.2.1 q.2.1)) ρ (t.2.2.2.2.2.2.1 q.2.1) (inRow t.1 t.2.1 ρ (t.2.2.2.2.2.1 q.2.1)))) := by
      unfold doF
      rw [if_neg (show ¬ q.1 = 0 by omega), if_neg (show ¬ q.1 = 1 by omega), if_pos e]
    rw [hF, e]
    have hp := o3 e
    obtain ⟨z0, zz1, zz2, zz3, z5, z6, y1, y2, y3, y4, y5, m1, m2, m3, m4, m5⟩ := id hs
    obtain ⟨p1, p2⟩ := hr.2.2.2.2 _ hp
    obtain ⟨p3, p4⟩ := ho.2.2.2.1 _ hp
    have h16 := ho.2.1
    rw [if_neg (show ¬ nI 2 = (0 : Int32) from ne 2 0 (by decide) (by decide) (by decide)), if_neg (show ¬ nI 2 = (1 : Int32) from ne 2 1 (by decide) (by decide) (by decide)), if_pos (show nI 2 = (2 : Int32) from rfl), z5, if_pos (isK_p y4), if_pos (inA_n y4 m4 (by omega) (by decide)), z6, if_pos (isK_p y5), if_pos (inA_n y5 m5 (by omega) (by decide)), nI_clamp (show q.2.1 < 2147483648 by omega), p1, p2]
    obtain ⟨μ', e1, z1, z2⟩ := X8_hear fp l lr ts r rk.2.1 p3 p4 hd
    rw [e1, ob]
    by_cases c1 : nOf ρ (t.2.2.2.2.2.1 q.2.1) = 0
    · rw [if_pos c1] at z2 ⊢
      rw [if_pos c1, if_pos (Or.inl rfl)]
      exact ⟨μ', rfl, z1, z2⟩
    · rw [if_neg c1] at z2 ⊢
      rw [if_neg c1, if_pos b01, ite1, ite2]
      exact ⟨μ', rfl, z1, z2⟩
  · have hF : doF t ops q ρ = (if ρ (24 + q.2.1) = 0 then (0, ρ) else (1, sLay ρ q.2.1 (ρ (16 + q.2.1)))) := by
      unfold doF
      rw [if_neg (show ¬ q.1 = 0 by omega), if_neg (show ¬ q.1 = 1 by omega), if_neg (show ¬ q.1 = 2 by omega), if_pos e]
    rw [hF, ite1, ite2, e]
    have hp := o2 (by omega)
    obtain ⟨a0, a1, a2, a3, a4, a5⟩ := penI _ hp
    rw [if_neg (show ¬ nI 3 = (0 : Int32) from ne 3 0 (by decide) (by decide) (by decide)), if_neg (show ¬ nI 3 = (1 : Int32) from ne 3 1 (by decide) (by decide) (by decide)), if_neg (show ¬ nI 3 = (2 : Int32) from ne 3 2 (by decide) (by decide) (by decide)), if_pos (show nI 3 = (3 : Int32) from rfl), if_pos a0, if_pos a1, a2, a3, if_pos a4, if_pos a5.1]
    obtain ⟨μ', e1, z1, z2⟩ := X5_wipe a5 (r.2.2.2.2.2 _ hp) (by omega)
    rw [e1, ob, if_pos b01]
    exact ⟨μ', rfl, penO _ _ hp z1, r.penI hp z1 z2 (lay0 _ _ (by omega)) fun p hp' hne => sLay_same (by omega) hp' hne⟩
  · have hF : doF t ops q ρ = (if ρ (16 + q.2.1) = -1 then (0, ρ) else (1, sLay ρ q.2.1 (-1))) := by
      unfold doF
      rw [if_neg (show ¬ q.1 = 0 by omega), if_neg (show ¬ q.1 = 1 by omega), if_neg (show ¬ q.1 = 2 by omega), if_neg (show ¬ q.1 = 3 by omega), if_pos e]
    rw [hF, ite1, ite2, e]
    have hp := o2 (by omega)
    obtain ⟨a0, a1, a2, a3, a4, a5⟩ := penI _ hp
    rw [if_neg (show ¬ nI 4 = (0 : Int32) from ne 4 0 (by decide) (by decide) (by decide)), if_neg (show ¬ nI 4 = (1 : Int32) from ne 4 1 (by decide) (by decide) (by decide)), if_neg (show ¬ nI 4 = (2 : Int32) from ne 4 2 (by decide) (by decide) (by decide)), if_neg (show ¬ nI 4 = (3 : Int32) from ne 4 3 (by decide) (by decide) (by decide)), if_pos (show nI 4 = (4 : Int32) from rfl), if_pos a0, if_pos a1, a2, a3, if_pos a4, if_pos a5.1]
    obtain ⟨μ', e1, z1, z2⟩ := X5_tear a5 (r.2.2.2.2.2 _ hp) (by omega)
    rw [e1, ob, if_pos b01]
    exact ⟨μ', rfl, penO _ _ hp z1, r.penI hp z1 z2 (lay0 _ _ (by omega)) fun p hp' hne => sLay_same (by omega) hp' hne⟩
  · have hF : doF t ops q ρ = (if nI q.2.2.1 - nI q.2.2.2.1 < 0 then (0, ρ) else (1, sLay ρ q.2.1 (nI q.2.2.1 - nI q.2.2.2.1))) := by
      unfold doF
      rw [if_neg (show ¬ q.1 = 0 by omega), if_neg (show ¬ q.1 = 1 by omega), if_neg (show ¬ q.1 = 2 by omega), if_neg (show ¬ q.1 = 3 by omega), if_neg (show ¬ q.1 = 4 by omega), if_pos e]
    rw [hF, ite1, ite2, e]
    have hp := o2 (by omega)
    obtain ⟨a0, a1, a2, a3, a4, a5⟩ := penI _ hp
    rw [if_neg (show ¬ nI 5 = (0 : Int32) from ne 5 0 (by decide) (by decide) (by decide)), if_neg (show ¬ nI 5 = (1 : Int32) from ne 5 1 (by decide) (by decide) (by decide)), if_neg (show ¬ nI 5 = (2 : Int32) from ne 5 2 (by decide) (by decide) (by decide)), if_neg (show ¬ nI 5 = (3 : Int32) from ne 5 3 (by decide) (by decide) (by decide)), if_neg (show ¬ nI 5 = (4 : Int32) from ne 5 4 (by decide) (by decide) (by decide)), if_pos (show nI 5 = (5 : Int32) from rfl), if_pos a0, if_pos a1, a2, a3, if_pos a4, if_pos (isK_p k3), if_pos in3, if_pos (isK_p k4), if_pos in4, if_pos a5.1, v3, v4]
    have hn : nI q.2.2.1 - nI q.2.2.2.1 ≤ 24 := by
      have b1 := o5 e
      have b2 := o6 (Or.inl e)
      apply Int32.le_iff_toInt_le.mpr
      rw [Int32.toInt_sub, nI_toInt (by omega), nI_toInt (by omega), show (24 : Int32).toInt = 24 from rfl, Int.bmod_eq_of_le] <;> omega
    obtain ⟨μ', e1, z1, z2⟩ := X5_lay a5 (r.2.2.2.2.2 _ hp) (by omega) hn
    rw [e1, ob, if_pos b01]
    exact ⟨μ', rfl, penO _ _ hp z1, r.penI hp z1 z2 (lay0 _ _ (by omega)) fun p hp' hne => sLay_same (by omega) hp' hne⟩
  · have hF : doF t ops q ρ = (if cpRef (t.2.1 q.2.2.1) (t.2.1 q.2.1) ρ q.2.1 q.2.2.1 (nI q.2.2.2.1) then (0, ρ) else (1, sCp ρ q.2.1 q.2.2.1 q.2.2.2.1 (mxI (mnI (nI q.2.2.2.1) (ρ (24 + q.2.1))) (ρ (24 + q.2.2.1))))) := by
      unfold doF
      rw [if_neg (show ¬ q.1 = 0 by omega), if_neg (show ¬ q.1 = 1 by omega), if_neg (show ¬ q.1 = 2 by omega), if_neg (show ¬ q.1 = 3 by omega), if_neg (show ¬ q.1 = 4 by omega), if_neg (show ¬ q.1 = 5 by omega), if_pos e]
    rw [hF, ite1, ite2, e]
    have hp := o2 (by omega)
    have hb := o4 e
    obtain ⟨a0, a1, a2, a3, a4, a5⟩ := penI _ hp
    obtain ⟨b0, b1, b2, b3, b4, b5⟩ := penI _ hb
    rw [if_neg (show ¬ nI 6 = (0 : Int32) from ne 6 0 (by decide) (by decide) (by decide)), if_neg (show ¬ nI 6 = (1 : Int32) from ne 6 1 (by decide) (by decide) (by decide)), if_neg (show ¬ nI 6 = (2 : Int32) from ne 6 2 (by decide) (by decide) (by decide)), if_neg (show ¬ nI 6 = (3 : Int32) from ne 6 3 (by decide) (by decide) (by decide)), if_neg (show ¬ nI 6 = (4 : Int32) from ne 6 4 (by decide) (by decide) (by decide)), if_neg (show ¬ nI 6 = (5 : Int32) from ne 6 5 (by decide) (by decide) (by decide)), if_pos (show nI 6 = (6 : Int32) from rfl), if_pos a0, if_pos (isK_p k3), if_pos in3, v3, if_pos b1, b2, b3, if_pos b4, if_pos a1, a2, a3, if_pos a4, if_pos (isK_p k4), if_pos in4, v4, if_pos b5.1]
    obtain ⟨μ', e1, z1, z2⟩ := X5_takeCopy b5 a5 (r.2.2.2.2.2 _ hb) (r.2.2.2.2.2 _ hp) (by omega) (by omega) (o6 (Or.inr e)) (by omega)
    rw [e1, ob, if_pos b01]
    exact ⟨μ', rfl, penO _ _ hb z1, r.penI hb z1 z2 ⟨sCp_far (by have := o6 (Or.inr e); omega) (by have := o6 (Or.inr e); omega) (by omega), sCp_far (by have := o6 (Or.inr e); omega) (by have := o6 (Or.inr e); omega) (by omega), sCp_far (by have := o6 (Or.inr e); omega) (by have := o6 (Or.inr e); omega) (by omega)⟩ fun p hp' hne => by
      have h24 := o6 (Or.inr e)
      exact ⟨sCp_far (by omega) (by omega) (by omega), sCp_far (by omega) (by omega) (by omega), sCp_far (by omega) (by omega) (by omega), sCp_far (by omega) (by omega) (by omega), fun i hi => ⟨sCp_far (by omega) (by omega) (by omega), sCp_far (by omega) (by omega) (by omega)⟩⟩⟩
  · have hF : doF t ops q ρ = (if ρ q.2.1 = nI q.2.2.1 ∧ ρ (8 + q.2.1) = nI q.2.2.2.1 then (0, ρ) else (1, sTune ρ q.2.1 (nI q.2.2.1) (nI q.2.2.2.1))) := by
      unfold doF
      rw [if_neg (show ¬ q.1 = 0 by omega), if_neg (show ¬ q.1 = 1 by omega), if_neg (show ¬ q.1 = 2 by omega), if_neg (show ¬ q.1 = 3 by omega), if_neg (show ¬ q.1 = 4 by omega), if_neg (show ¬ q.1 = 5 by omega), if_neg (show ¬ q.1 = 6 by omega), if_pos e]
    rw [hF, ite1, ite2, e]
    have hp := o2 (by omega)
    obtain ⟨a0, a1, a2, a3, a4, a5⟩ := penI _ hp
    rw [if_neg (show ¬ nI 7 = (0 : Int32) from ne 7 0 (by decide) (by decide) (by decide)), if_neg (show ¬ nI 7 = (1 : Int32) from ne 7 1 (by decide) (by decide) (by decide)), if_neg (show ¬ nI 7 = (2 : Int32) from ne 7 2 (by decide) (by decide) (by decide)), if_neg (show ¬ nI 7 = (3 : Int32) from ne 7 3 (by decide) (by decide) (by decide)), if_neg (show ¬ nI 7 = (4 : Int32) from ne 7 4 (by decide) (by decide) (by decide)), if_neg (show ¬ nI 7 = (5 : Int32) from ne 7 5 (by decide) (by decide) (by decide)), if_neg (show ¬ nI 7 = (6 : Int32) from ne 7 6 (by decide) (by decide) (by decide)), if_pos (show nI 7 = (7 : Int32) from rfl), if_pos a0, if_pos a1, a2, a3, if_pos a4, if_pos (isK_p k3), if_pos in3, v3, if_pos (isK_p k4), if_pos in4, v4, if_pos a5.1]
    obtain ⟨μ', e1, z1, z2⟩ := X5_tune (m := nI q.2.2.1) (d := nI q.2.2.2.1) a5 (r.2.2.2.2.2 _ hp) (by omega)
    rw [e1, ob, if_pos b01]
    have far : ∀ a, a ≠ q.2.1 → a ≠ 8 + q.2.1 → sTune ρ q.2.1 (nI q.2.2.1) (nI q.2.2.2.1) a = ρ a := fun a h1 h2 => by unfold sTune; rw [ru_o h2, ru_o h1]
    exact ⟨μ', rfl, penO _ _ hp z1, r.penI hp z1 z2 ⟨far _ (by omega) (by omega), far _ (by omega) (by omega), far _ (by omega) (by omega)⟩ fun p hp' hne => ⟨far _ (by omega) (by omega), far _ (by omega) (by omega), far _ (by omega) (by omega), far _ (by omega) (by omega), fun i hi => ⟨far _ (by omega) (by omega), far _ (by omega) (by omega)⟩⟩⟩
  · have hF : doF t ops q ρ = (if (900 : Int32) ≤ ρ 32 then (0, ρ) else (1, sDay t.1 ρ)) := by
      unfold doF
      rw [if_neg (show ¬ q.1 = 0 by omega), if_neg (show ¬ q.1 = 1 by omega), if_neg (show ¬ q.1 = 2 by omega), if_neg (show ¬ q.1 = 3 by omega), if_neg (show ¬ q.1 = 4 by omega), if_neg (show ¬ q.1 = 5 by omega), if_neg (show ¬ q.1 = 6 by omega), if_neg (show ¬ q.1 = 7 by omega)]
    rw [hF, ite1, ite2, e]
    rw [if_neg (show ¬ nI 8 = (0 : Int32) from ne 8 0 (by decide) (by decide) (by decide)), if_neg (show ¬ nI 8 = (1 : Int32) from ne 8 1 (by decide) (by decide) (by decide)), if_neg (show ¬ nI 8 = (2 : Int32) from ne 8 2 (by decide) (by decide) (by decide)), if_neg (show ¬ nI 8 = (3 : Int32) from ne 8 3 (by decide) (by decide) (by decide)), if_neg (show ¬ nI 8 = (4 : Int32) from ne 8 4 (by decide) (by decide) (by decide)), if_neg (show ¬ nI 8 = (5 : Int32) from ne 8 5 (by decide) (by decide) (by decide)), if_neg (show ¬ nI 8 = (6 : Int32) from ne 8 6 (by decide) (by decide) (by decide)), if_neg (show ¬ nI 8 = (7 : Int32) from ne 8 7 (by decide) (by decide) (by decide))]
    unfold LX10_isDayDone
    rw [if_pos t0, r.2.2.1]
    by_cases c1 : (900 : Int32) ≤ ρ 32
    · rw [if_pos c1, if_pos c1, if_neg (Int32.not_lt.mpr c1), ob, if_pos (Or.inl rfl)]
      exact ⟨μ, rfl, Out.rf, r⟩
    · rw [if_neg c1, if_neg c1, if_pos (Int32.not_le.mp c1)]
      obtain ⟨μ', e1, z1, z2⟩ := X8_endDay ts r rk.2.1 rk.h24
      rw [e1, ob, ob, if_pos (Or.inr rfl)]
      exact ⟨μ', rfl, z1.mo fun x hx => Or.inl hx, z2⟩
