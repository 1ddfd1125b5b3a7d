/-! ===== the reference reads WORK: the numbers of a STEP ===== -/
def opCur (x : Txt) (most : Int32) (c : Cur) : Cur := if most = -2 then c else numC (numCur x most c)
def opV (x : Txt) (most : Int32) (c : Cur) : Int32 := if most = -2 then 0 else numV (numCur x most c)
theorem opF_c {x : Txt} {most : Int32} {a : Nat} : (∀ e, opF x most a = .inl e → opCur x most (.inr a) = .inl e) ∧ ∀ v, opF x most a = .inr v → opCur x most (.inr a) = .inr v.2 ∧ opV x most (.inr a) = nI v.1 := by
  unfold opF opCur opV
  by_cases h : most = -2
  · rw [if_pos h, if_pos h, if_pos h]
    exact ⟨(fun e he => nomatch he), fun v hv => by
      have hv := Sum.inr.inj hv
      rw [← hv]
      exact ⟨rfl, rfl⟩⟩
  · rw [if_neg h, if_neg h, if_neg h]
    refine ⟨fun e he => ?_, fun v hv => ?_⟩
    · show numC (numF x most a) = _
      rw [he]; rfl
    · refine ⟨?_, ?_⟩
      · show numC (numF x most a) = _
        rw [hv]; rfl
      · show numV (numF x most a) = _
        rw [hv]; rfl
theorem opCur_e {x : Txt} {most : Int32} {e : Nat × Nat} : opCur x most (.inl e) = .inl e := by
  unfold opCur
  split <;> rfl
theorem op3_c {x : Txt} {t : HutT} {k b : Nat} : opCur x (mostC (nI k)) (opCur x (mostB t (nI k)) (opCur x (mostA t (nI k)) (.inr b))) = curR (op3 x t k b) ∧ ∀ v, op3 x t k b = .inr v → opV x (mostA t (nI k)) (.inr b) = nI v.1.1 ∧ opV x (mostB t (nI k)) (opCur x (mostA t (nI k)) (.inr b)) = nI v.1.2.1 ∧ opV x (mostC (nI k)) (opCur x (mostB t (nI k)) (opCur x (mostA t (nI k)) (.inr b))) = nI v.1.2.2 := by
  cases h1 : opF x (mostA t (nI k)) b with
  | inl e =>
    have e3 : op3 x t k b = .inl e := by simp only [op3, h1]
    rw [e3, (opF_c.1 e h1), opCur_e, opCur_e]
    exact ⟨rfl, (fun v hv => nomatch hv)⟩
  | inr u =>
    obtain ⟨u1, u2⟩ := opF_c.2 u h1
    rw [u1]
    cases h2 : opF x (mostB t (nI k)) u.2 with
    | inl e =>
      have e3 : op3 x t k b = .inl e := by simp only [op3, h1, h2]
      rw [e3, (opF_c.1 e h2), opCur_e]
      exact ⟨rfl, (fun v hv => nomatch hv)⟩
    | inr y =>
      obtain ⟨y1, y2⟩ := opF_c.2 y h2
      rw [y1]
      cases h3 : opF x (mostC (nI k)) y.2 with
      | inl e =>
        have e3 : op3 x t k b = .inl e := by simp only [op3, h1, h2, h3]
        rw [e3, (opF_c.1 e h3)]
        exact ⟨rfl, (fun v hv => nomatch hv)⟩
      | inr z =>
        obtain ⟨z1, z2⟩ := opF_c.2 z h3
        have e3 : op3 x t k b = .inr ((u.1, y.1, z.1), z.2) := by simp only [op3, h1, h2, h3]
        rw [e3, z1]
        refine ⟨rfl, fun v hv => ?_⟩
        have hv := Sum.inr.inj hv
        rw [← hv]
        exact ⟨u2, y2, z2⟩
theorem opN {x : Txt} {most : Int32} {c : Cur} (h : ¬ most = -2) : opCur x most c = numC (numCur x most c) ∧ opV x most c = numV (numCur x most c) := ⟨if_neg h, if_neg h⟩
theorem op2 {x : Txt} {c : Cur} : opCur x (-2) c = c := if_pos rfl
/-- a number, and stored at the place j of the row hs -/
theorem R_numJ {μ : Mem} {x : Txt} {c : Cur} {most : Int32} {hs j : Nat} (t : TmR μ x c) (as : ArS μ hs 5) (h1 : hs ≠ 125) (h2 : hs ≠ 126) (hj : j < 5) : ∃ μ1 : Mem, LX12_number 125 0 most μ = some (numV (numCur x most c), μ1) ∧ inA μ1 hs 15 (nI j) = true ∧ OF tF (fun y => y = hs) μ (p_I μ1 hs j (numV (numCur x most c))) ∧ TmR (p_I μ1 hs j (numV (numCur x most c))) x (numC (numCur x most c)) ∧ g_I (p_I μ1 hs j (numV (numCur x most c))) hs = ru (g_I μ hs) j (numV (numCur x most c)) ∧ ArS (p_I μ1 hs j (numV (numCur x most c))) hs 5 := by
  obtain ⟨μ1, e1, o1, t1⟩ := R_number (most := most) t
  have as1 : ArS μ1 hs 5 := by unfold ArS; rw [sh_isK o1.1.1, sh_gN o1.1.1]; exact as
  exact ⟨μ1, e1, as1.ix hj (by decide), (o1.mo (fun _ z => z) (fun _ z => z.elim)).pS rfl h1, t1.S h1 h2, by rw [gI_row, o1.r h1 (fun z => z)], as1⟩
theorem R_penJ {μ : Mem} {x : Txt} {c : Cur} {np hs j : Nat} (t : TmR μ x c) (hn : g_I μ 129 0 = nI np) (as : ArS μ hs 5) (h1 : hs ≠ 125) (h2 : hs ≠ 126) (hj : j < 5) : ∃ μ1 : Mem, LX12_penHere 125 μ = some (numV (numCur x (nI np - 1) c), μ1) ∧ inA μ1 hs 15 (nI j) = true ∧ OF tF (fun y => y = hs) μ (p_I μ1 hs j (numV (numCur x (nI np - 1) c))) ∧ TmR (p_I μ1 hs j (numV (numCur x (nI np - 1) c))) x (numC (numCur x (nI np - 1) c)) ∧ g_I (p_I μ1 hs j (numV (numCur x (nI np - 1) c))) hs = ru (g_I μ hs) j (numV (numCur x (nI np - 1) c)) ∧ ArS (p_I μ1 hs j (numV (numCur x (nI np - 1) c))) hs 5 := by
  obtain ⟨μ1, e1, o1, t1⟩ := R_penHere t hn
  have as1 : ArS μ1 hs 5 := by unfold ArS; rw [sh_isK o1.1.1, sh_gN o1.1.1]; exact as
  exact ⟨μ1, e1, as1.ix hj (by decide), (o1.mo (fun _ z => z) (fun _ z => z.elim)).pS rfl h1, t1.S h1 h2, by rw [gI_row, o1.r h1 (fun z => z)], as1⟩
/-- what the numbers of a STEP of the kind k leave in its row -/
def NumO (μ : Mem) (x : Txt) (hs k : Nat) (r : (Nat × Nat) ⊕ ((Nat × Nat × Nat) × Nat)) : Prop := TmR μ x (curR r) ∧ ∀ v, r = .inr v → g_I μ hs 0 = nI k ∧ (k ≠ 8 → g_I μ hs 1 = nI v.1.1) ∧ ((k ≤ 1 ∨ (5 ≤ k ∧ k ≤ 7)) → g_I μ hs 2 = nI v.1.2.1) ∧ ((5 ≤ k ∧ k ≤ 7) → g_I μ hs 3 = nI v.1.2.2)
theorem R_numbers {μ : Mem} {x : Txt} {t : HutT} {b hs k : Nat} (tm : TmR μ x (.inr b)) (hu : HuM μ t) (ho : HutOk t) (as : ArS μ hs 5) (h1 : 523 ≤ hs) (h0 : g_I μ hs 0 = nI k) (hk : k < 9) : ∃ μ' : Mem, LX12_numbers 125 hs μ = some ((), μ') ∧ OF tF (fun y => y = hs) μ μ' ∧ NumO μ' x hs k (op3 x t k b) := by
  have s := tm.1.1
  have t8 := ho.1
  have w16 := ho.2.1
  have hn1 : hs ≠ 125 := by omega
  have hn2 : hs ≠ 126 := by omega
  have i0 : inA μ hs 15 (0 : Int32) = true := as.ix (i := 0) (by decide) (by decide)
  have np2 : ¬ nI t.1 - 1 = (-2 : Int32) := nI_m1_ne (by omega)
  have nw2 : ¬ nI t.2.2.2.2.1 - 1 = (-2 : Int32) := nI_m1_ne (by omega)
  obtain ⟨oc, ov⟩ := op3_c (x := x) (t := t) (k := k) (b := b)
  unfold LX12_numbers NumO
  rw [if_pos s.1, if_pos as.1, if_pos i0, c0n, h0, ← oc]
  have v129 : ∀ (ν : Mem), OF tF (fun y => y = hs) μ ν → g_I ν 129 0 = nI t.1 := fun ν o => by rw [o.r (by decide) (by omega)]; exact hu.1.1
  have hk : k = 0 ∨ k = 1 ∨ k = 2 ∨ k = 3 ∨ k = 4 ∨ k = 5 ∨ k = 6 ∨ k = 7 ∨ k = 8 := by omega
  rcases hk with rfl | rfl | rfl | rfl | rfl | rfl | rfl | rfl | rfl
  · rw [show mostA t (nI 0) = nI t.1 - 1 from rfl, show mostB t (nI 0) = 99999999 from rfl, show mostC (nI 0) = -2 from rfl, op2] at *
    obtain ⟨n1, n2⟩ := opN (x := x) (c := .inr b) np2
    obtain ⟨m1, e1, x1, o1, t1, g1, a1⟩ := R_penJ (j := 1) tm hu.1.1 as hn1 hn2 (by decide)
    obtain ⟨m2, e2, x2, o2, t2, g2, a2⟩ := R_numJ (most := 99999999) (j := 2) t1 a1 hn1 hn2 (by decide)
    obtain ⟨n3, n4⟩ := opN (x := x) (c := numC (numCur x (nI t.1 - 1) (.inr b))) (show ¬ (99999999 : Int32) = -2 by decide)
    have x1 : inA m1 hs 15 (1 : Int32) = true := x1
    have x2 : inA m2 hs 15 (2 : Int32) = true := x2
    rw [n1] at ov ⊢
    rw [n2, n3, n4] at ov
    rw [n3]
    rw [if_neg (show ¬ nI 0 = (2 : Int32) by decide)]
    unfold mX12_numbers_25 mX12_numbers_43 mX12_numbers_58 mX12_numbers_71 mX12_numbers_86 mX12_numbers_107
    rw [if_neg (show ¬ nI 0 = (2 : Int32) by decide), if_neg (show ¬ (8 : Int32) ≤ nI 0 by decide), e1, ob, if_pos x1, if_neg (show ¬ (2 : Int32) ≤ nI 0 by decide), c1n, e2, ob, if_pos x2, c2n, if_neg (show ¬ nI 0 = (6 : Int32) by decide), if_neg (show ¬ nI 0 = (5 : Int32) by decide), if_neg (show ¬ nI 0 = (5 : Int32) by decide), if_neg (show ¬ nI 0 = (6 : Int32) by decide), if_neg (show ¬ nI 0 = (7 : Int32) by decide)]
    refine ⟨_, rfl, o1.tr o2, t2, fun v hv => ?_⟩
    obtain ⟨v1, v2, v3⟩ := ov v hv
    rw [g2, g1]
    exact ⟨h0, fun _ => v1, fun _ => v2, fun z => by omega⟩
  · rw [show mostA t (nI 1) = nI t.1 - 1 from rfl, show mostB t (nI 1) = 99999999 from rfl, show mostC (nI 1) = -2 from rfl, op2] at *
    obtain ⟨n1, n2⟩ := opN (x := x) (c := .inr b) np2
    obtain ⟨m1, e1, x1, o1, t1, g1, a1⟩ := R_penJ (j := 1) tm hu.1.1 as hn1 hn2 (by decide)
    obtain ⟨m2, e2, x2, o2, t2, g2, a2⟩ := R_numJ (most := 99999999) (j := 2) t1 a1 hn1 hn2 (by decide)
    obtain ⟨n3, n4⟩ := opN (x := x) (c := numC (numCur x (nI t.1 - 1) (.inr b))) (show ¬ (99999999 : Int32) = -2 by decide)
    have x1 : inA m1 hs 15 (1 : Int32) = true := x1
    have x2 : inA m2 hs 15 (2 : Int32) = true := x2
    rw [n1] at ov ⊢
    rw [n2, n3, n4] at ov
    rw [n3]
    rw [if_neg (show ¬ nI 1 = (2 : Int32) by decide)]
    unfold mX12_numbers_25 mX12_numbers_43 mX12_numbers_58 mX12_numbers_71 mX12_numbers_86 mX12_numbers_107
    rw [if_neg (show ¬ nI 1 = (2 : Int32) by decide), if_neg (show ¬ (8 : Int32) ≤ nI 1 by decide), e1, ob, if_pos x1, if_neg (show ¬ (2 : Int32) ≤ nI 1 by decide), c1n, e2, ob, if_pos x2, c2n, if_neg (show ¬ nI 1 = (6 : Int32) by decide), if_neg (show ¬ nI 1 = (5 : Int32) by decide), if_neg (show ¬ nI 1 = (5 : Int32) by decide), if_neg (show ¬ nI 1 = (6 : Int32) by decide), if_neg (show ¬ nI 1 = (7 : Int32) by decide)]
    refine ⟨_, rfl, o1.tr o2, t2, fun v hv => ?_⟩
    obtain ⟨v1, v2, v3⟩ := ov v hv
    rw [g2, g1]
    exact ⟨h0, fun _ => v1, fun _ => v2, fun z => by omega⟩
  · rw [show mostA t (nI 2) = nI t.2.2.2.2.1 - 1 from rfl, show mostB t (nI 2) = -2 from rfl, show mostC (nI 2) = -2 from rfl, op2, op2] at *
    obtain ⟨n1, n2⟩ := opN (x := x) (c := .inr b) nw2
    obtain ⟨m1, e1, x1, o1, t1, g1, a1⟩ := R_numJ (most := nI t.2.2.2.2.1 - 1) (j := 1) tm as hn1 hn2 (by decide)
    have x1 : inA m1 hs 15 (1 : Int32) = true := x1
    rw [n1, n2] at ov
    rw [n1]
    rw [if_pos (show nI 2 = (2 : Int32) from rfl), s.h12, if_pos q129, if_pos (show inA μ 129 15 (1 : Int32) = true from s.a129.ix (i := 1) (by decide) (by decide)), c1n, hu.1.2.1, e1, ob, if_pos x1]
    unfold mX12_numbers_25 mX12_numbers_43 mX12_numbers_58 mX12_numbers_71 mX12_numbers_86 mX12_numbers_107
    rw [if_pos (show nI 2 = (2 : Int32) from rfl), if_pos (show (2 : Int32) ≤ nI 2 by decide), if_neg (show ¬ nI 2 = (6 : Int32) by decide), if_neg (show ¬ nI 2 = (5 : Int32) by decide), if_neg (show ¬ nI 2 = (5 : Int32) by decide), if_neg (show ¬ nI 2 = (6 : Int32) by decide), if_neg (show ¬ nI 2 = (7 : Int32) by decide)]
    refine ⟨_, rfl, o1, t1, fun v hv => ?_⟩
    obtain ⟨v1, v2, v3⟩ := ov v hv
    rw [g1]
    exact ⟨h0, fun _ => v1, fun z => by omega, fun z => by omega⟩
  · rw [show mostA t (nI 3) = nI t.1 - 1 from rfl, show mostB t (nI 3) = -2 from rfl, show mostC (nI 3) = -2 from rfl, op2, op2] at *
    obtain ⟨n1, n2⟩ := opN (x := x) (c := .inr b) np2
    obtain ⟨m1, e1, x1, o1, t1, g1, a1⟩ := R_penJ (j := 1) tm hu.1.1 as hn1 hn2 (by decide)
    have x1 : inA m1 hs 15 (1 : Int32) = true := x1
    rw [n1, n2] at ov
    rw [n1]
    rw [if_neg (show ¬ nI 3 = (2 : Int32) by decide)]
    unfold mX12_numbers_25 mX12_numbers_43 mX12_numbers_58 mX12_numbers_71 mX12_numbers_86 mX12_numbers_107
    rw [if_neg (show ¬ nI 3 = (2 : Int32) by decide), if_neg (show ¬ (8 : Int32) ≤ nI 3 by decide), e1, ob, if_pos x1, c1n, if_pos (show (2 : Int32) ≤ nI 3 by decide), if_neg (show ¬ nI 3 = (6 : Int32) by decide), if_neg (show ¬ nI 3 = (5 : Int32) by decide), if_neg (show ¬ nI 3 = (5 : Int32) by decide), if_neg (show ¬ nI 3 = (6 : Int32) by decide), if_neg (show ¬ nI 3 = (7 : Int32) by decide)]
    refine ⟨_, rfl, o1, t1, fun v hv => ?_⟩
    obtain ⟨v1, v2, v3⟩ := ov v hv
    rw [g1]
    exact ⟨h0, fun _ => v1, fun z => by omega, fun z => by omega⟩
  · rw [show mostA t (nI 4) = nI t.1 - 1 from rfl, show mostB t (nI 4) = -2 from rfl, show mostC (nI 4) = -2 from rfl, op2, op2] at *
    obtain ⟨n1, n2⟩ := opN (x := x) (c := .inr b) np2
    obtain ⟨m1, e1, x1, o1, t1, g1, a1⟩ := R_penJ (j := 1) tm hu.1.1 as hn1 hn2 (by decide)
    have x1 : inA m1 hs 15 (1 : Int32) = true := x1
    rw [n1, n2] at ov
    rw [n1]
    rw [if_neg (show ¬ nI 4 = (2 : Int32) by decide)]
    unfold mX12_numbers_25 mX12_numbers_43 mX12_numbers_58 mX12_numbers_71 mX12_numbers_86 mX12_numbers_107
    rw [if_neg (show ¬ nI 4 = (2 : Int32) by decide), if_neg (show ¬ (8 : Int32) ≤ nI 4 by decide), e1, ob, if_pos x1, c1n, if_pos (show (2 : Int32) ≤ nI 4 by decide), if_neg (show ¬ nI 4 = (6 : Int32) by decide), if_neg (show ¬ nI 4 = (5 : Int32) by decide), if_neg (show ¬ nI 4 = (5 : Int32) by decide), if_neg (show ¬ nI 4 = (6 : Int32) by decide), if_neg (show ¬ nI 4 = (7 : Int32) by decide)]
    refine ⟨_, rfl, o1, t1, fun v hv => ?_⟩
    obtain ⟨v1, v2, v3⟩ := ov v hv
    rw [g1]
    exact ⟨h0, fun _ => v1, fun z => by omega, fun z => by omega⟩
  · rw [show mostA t (nI 5) = nI t.1 - 1 from rfl, show mostB t (nI 5) = 24 from rfl, show mostC (nI 5) = 24 from rfl] at *
    obtain ⟨n1, n2⟩ := opN (x := x) (c := .inr b) np2
    obtain ⟨m1, e1, x1, o1, t1, g1, a1⟩ := R_penJ (j := 1) tm hu.1.1 as hn1 hn2 (by decide)
    obtain ⟨m2, e2, x2, o2, t2, g2, a2⟩ := R_numJ (most := 24) (j := 2) t1 a1 hn1 hn2 (by decide)
    obtain ⟨m3, e3, x3, o3, t3, g3, a3⟩ := R_numJ (most := 24) (j := 3) t2 a2 hn1 hn2 (by decide)
    obtain ⟨n3, n4⟩ := opN (x := x) (c := numC (numCur x (nI t.1 - 1) (.inr b))) (show ¬ (24 : Int32) = -2 by decide)
    obtain ⟨n5, n6⟩ := opN (x := x) (c := numC (numCur x 24 (numC (numCur x (nI t.1 - 1) (.inr b))))) (show ¬ (24 : Int32) = -2 by decide)
    have x1 : inA m1 hs 15 (1 : Int32) = true := x1
    have x2 : inA m2 hs 15 (2 : Int32) = true := x2
    have x3 : inA m3 hs 15 (3 : Int32) = true := x3
    rw [n1, n2, n3, n4, n6] at ov
    rw [n1, n3, n5]
    rw [if_neg (show ¬ nI 5 = (2 : Int32) by decide)]
    unfold mX12_numbers_25 mX12_numbers_43 mX12_numbers_58 mX12_numbers_71 mX12_numbers_86 mX12_numbers_97 mX12_numbers_107
    rw [if_neg (show ¬ nI 5 = (2 : Int32) by decide), if_neg (show ¬ (8 : Int32) ≤ nI 5 by decide), e1, ob, if_pos x1, c1n, if_pos (show (2 : Int32) ≤ nI 5 by decide), if_neg (show ¬ nI 5 = (6 : Int32) by decide), if_pos (show nI 5 = (5 : Int32) from rfl), e2, ob, if_pos x2, c2n, if_pos (show nI 5 = (5 : Int32) from rfl), e3, ob, if_pos x3, c3n, if_neg (show ¬ nI 5 = (7 : Int32) by decide)]
    refine ⟨_, rfl, (o1.tr o2).tr o3, t3, fun v hv => ?_⟩
    obtain ⟨v1, v2, v3⟩ := ov v hv
    rw [g3, g2, g1]
    exact ⟨h0, fun _ => v1, fun _ => v2, fun _ => v3⟩
  · rw [show mostA t (nI 6) = nI t.1 - 1 from rfl, show mostB t (nI 6) = nI t.1 - 1 from rfl, show mostC (nI 6) = 24 from rfl] at *
    obtain ⟨n1, n2⟩ := opN (x := x) (c := .inr b) np2
    obtain ⟨m1, e1, x1, o1, t1, g1, a1⟩ := R_penJ (j := 1) tm hu.1.1 as hn1 hn2 (by decide)
    obtain ⟨m2, e2, x2, o2, t2, g2, a2⟩ := R_penJ (j := 2) t1 (v129 _ o1) a1 hn1 hn2 (by decide)
    obtain ⟨m3, e3, x3, o3, t3, g3, a3⟩ := R_numJ (most := 24) (j := 3) t2 a2 hn1 hn2 (by decide)
    obtain ⟨n3, n4⟩ := opN (x := x) (c := numC (numCur x (nI t.1 - 1) (.inr b))) np2
    obtain ⟨n5, n6⟩ := opN (x := x) (c := numC (numCur x (nI t.1 - 1) (numC (numCur x (nI t.1 - 1) (.inr b))))) (show ¬ (24 : Int32) = -2 by decide)
    have x1 : inA m1 hs 15 (1 : Int32) = true := x1
    have x2 : inA m2 hs 15 (2 : Int32) = true := x2
    have x3 : inA m3 hs 15 (3 : Int32) = true := x3
    rw [n1, n2, n3, n4, n6] at ov
    rw [n1, n3, n5]
    rw [if_neg (show ¬ nI 6 = (2 : Int32) by decide)]
    unfold mX12_numbers_25 mX12_numbers_43 mX12_numbers_58 mX12_numbers_71 mX12_numbers_86 mX12_numbers_97 mX12_numbers_107
    rw [if_neg (show ¬ nI 6 = (2 : Int32) by decide), if_neg (show ¬ (8 : Int32) ≤ nI 6 by decide), e1, ob, if_pos x1, c1n, if_pos (show (2 : Int32) ≤ nI 6 by decide), if_pos (show nI 6 = (6 : Int32) from rfl), e2, ob, if_pos x2, c2n, if_neg (show ¬ nI 6 = (5 : Int32) by decide), if_neg (show ¬ nI 6 = (5 : Int32) by decide), if_pos (show nI 6 = (6 : Int32) from rfl), e3, ob, if_pos x3, c3n, if_neg (show ¬ nI 6 = (7 : Int32) by decide)]
    refine ⟨_, rfl, (o1.tr o2).tr o3, t3, fun v hv => ?_⟩
    obtain ⟨v1, v2, v3⟩ := ov v hv
    rw [g3, g2, g1]
    exact ⟨h0, fun _ => v1, fun _ => v2, fun _ => v3⟩
  · rw [show mostA t (nI 7) = nI t.1 - 1 from rfl, show mostB t (nI 7) = 99 from rfl, show mostC (nI 7) = 99 from rfl] at *
    obtain ⟨n1, n2⟩ := opN (x := x) (c := .inr b) np2
    obtain ⟨m1, e1, x1, o1, t1, g1, a1⟩ := R_penJ (j := 1) tm hu.1.1 as hn1 hn2 (by decide)
    obtain ⟨m2, e2, x2, o2, t2, g2, a2⟩ := R_numJ (most := 99) (j := 2) t1 a1 hn1 hn2 (by decide)
    obtain ⟨m3, e3, x3, o3, t3, g3, a3⟩ := R_numJ (most := 99) (j := 3) t2 a2 hn1 hn2 (by decide)
    obtain ⟨n3, n4⟩ := opN (x := x) (c := numC (numCur x (nI t.1 - 1) (.inr b))) (show ¬ (99 : Int32) = -2 by decide)
    obtain ⟨n5, n6⟩ := opN (x := x) (c := numC (numCur x 99 (numC (numCur x (nI t.1 - 1) (.inr b))))) (show ¬ (99 : Int32) = -2 by decide)
    have x1 : inA m1 hs 15 (1 : Int32) = true := x1
    have x2 : inA m2 hs 15 (2 : Int32) = true := x2
    have x3 : inA m3 hs 15 (3 : Int32) = true := x3
    rw [n1, n2, n3, n4, n6] at ov
    rw [n1, n3, n5]
    rw [if_neg (show ¬ nI 7 = (2 : Int32) by decide)]
    unfold mX12_numbers_25 mX12_numbers_43 mX12_numbers_58 mX12_numbers_71 mX12_numbers_86 mX12_numbers_107
    rw [if_neg (show ¬ nI 7 = (2 : Int32) by decide), if_neg (show ¬ (8 : Int32) ≤ nI 7 by decide), e1, ob, if_pos x1, c1n, if_pos (show (2 : Int32) ≤ nI 7 by decide), if_neg (show ¬ nI 7 = (6 : Int32) by decide), if_neg (show ¬ nI 7 = (5 : Int32) by decide), if_neg (show ¬ nI 7 = (5 : Int32) by decide), if_neg (show ¬ nI 7 = (6 : Int32) by decide), if_pos (show nI 7 = (7 : Int32) from rfl), e2, ob, if_pos x2, c2n, e3, ob, if_pos x3, c3n]
    refine ⟨_, rfl, (o1.tr o2).tr o3, t3, fun v hv => ?_⟩
    obtain ⟨v1, v2, v3⟩ := ov v hv
    rw [g3, g2, g1]
    exact ⟨h0, fun _ => v1, fun _ => v2, fun _ => v3⟩
  · rw [show mostA t (nI 8) = -2 from rfl, show mostB t (nI 8) = -2 from rfl, show mostC (nI 8) = -2 from rfl, op2, op2, op2] at *
    rw [if_neg (show ¬ nI 8 = (2 : Int32) by decide)]
    unfold mX12_numbers_25 mX12_numbers_43 mX12_numbers_58 mX12_numbers_71 mX12_numbers_86 mX12_numbers_107
    rw [if_neg (show ¬ nI 8 = (2 : Int32) by decide), if_pos (show (8 : Int32) ≤ nI 8 by decide), if_pos (show (2 : Int32) ≤ nI 8 by decide), if_neg (show ¬ nI 8 = (6 : Int32) by decide), if_neg (show ¬ nI 8 = (5 : Int32) by decide), if_neg (show ¬ nI 8 = (5 : Int32) by decide), if_neg (show ¬ nI 8 = (6 : Int32) by decide), if_neg (show ¬ nI 8 = (7 : Int32) by decide)]
    exact ⟨_, rfl, OF.rf, tm, fun v hv => ⟨h0, fun z => absurd rfl z, fun z => by omega, fun z => by omega⟩⟩
