/-! ===== the reference: a CLAUSE of a HUT ===== -/
abbrev cF : Nat → Prop := fun k => k = 4 ∨ k = 5 ∨ k = 6 ∨ k = 7
abbrev cS : Nat → Prop := fun x => x = 128 ∨ (131 ≤ x ∧ x < 139) ∨ (149 ≤ x ∧ x < 165)
theorem t_c {S : Nat → Prop} {μ ν : Mem} (o : OF tF nS μ ν) : OF cF S μ ν := o.mo (fun k z => by have z : k = 4 ∨ k = 5 ∨ k = 6 := z; show k = 4 ∨ k = 5 ∨ k = 6 ∨ k = 7; omega) (fun _ z => z.elim)
/-- a HUT as far as it is read -/
def HrM (μ : Mem) (l : HutL) : Prop := (g_I μ 128 0 = nI l.1.length ∧ g_I μ 128 1 = nI l.2.1.length ∧ g_I μ 128 2 = nI l.2.2) ∧ (∀ p, p < l.1.length → g_I μ (131 + p) 0 = nI (l.1.getD p (0, 0, 0)).1 ∧ g_I μ (131 + p) 1 = nI (l.1.getD p (0, 0, 0)).2.1 ∧ g_I μ (131 + p) 2 = nI (l.1.getD p (0, 0, 0)).2.2) ∧ ∀ w, w < l.2.1.length → g_I μ (149 + w) 0 = nI (l.2.1.getD w (0, 0)).1 ∧ g_I μ (149 + w) 1 = nI (l.2.1.getD w (0, 0)).2
theorem HrM.fr {μ ν : Mem} {l : HutL} (h : HrM μ l) (h8 : l.1.length ≤ 8) (h16 : l.2.1.length ≤ 16) (e : ∀ x, cS x → g_I ν x = g_I μ x) : HrM ν l := by
  obtain ⟨h1, h2, h3⟩ := h
  refine ⟨by rw [e 128 (Or.inl rfl)]; exact h1, fun p hp => by rw [e (131 + p) (Or.inr (Or.inl ⟨by omega, by omega⟩))]; exact h2 p hp, fun w hw => by rw [e (149 + w) (Or.inr (Or.inr ⟨by omega, by omega⟩))]; exact h3 w hw⟩
theorem HrM.t {μ ν : Mem} {l : HutL} (h : HrM μ l) (h8 : l.1.length ≤ 8) (h16 : l.2.1.length ≤ 16) {F : Nat → Prop} (o : OF F nS μ ν) : HrM ν l := h.fr h8 h16 fun x hx => o.r (by have hx : x = 128 ∨ (131 ≤ x ∧ x < 139) ∨ (149 ≤ x ∧ x < 165) := hx; omega) (fun z => z)
theorem numC_in {x : Txt} {most : Int32} {c : Cur} {b : Nat} (h : numC (numCur x most c) = .inr b) : ∃ a v, c = .inr a ∧ numF x most a = .inr (v, b) ∧ numV (numCur x most c) = nI v := by
  cases c with
  | inl e => exact nomatch h
  | inr a =>
    have h : numC (numF x most a) = .inr b := h
    cases hv : numF x most a with
    | inl e => rw [hv] at h; exact nomatch h
    | inr v =>
      rw [hv] at h
      have h : (Sum.inr v.2 : Cur) = .inr b := h
      cases h
      exact ⟨a, v.1, rfl, hv, by show numV (numF x most a) = _; rw [hv]; rfl⟩
theorem numV_at {x : Txt} {most : Int32} {a : Nat} {v : Nat × Nat} (h : numF x most a = .inr v) : numCur x most (.inr a) = .inr v := h
theorem numC_e {x : Txt} {most : Int32} {e : Nat × Nat} : numC (numCur x most (.inl e)) = .inl e := rfl
/-- the three numbers of a PEN -/
theorem pen_c {x : Txt} {b : Nat} : numC (numCur x 99 (numC (numCur x 99 (numC (numCur x 7 (.inr b)))))) = curR (penF x b) ∧ ∀ v, penF x b = .inr v → numV (numCur x 7 (.inr b)) = nI v.1.1 ∧ numV (numCur x 99 (numC (numCur x 7 (.inr b)))) = nI v.1.2.1 ∧ numV (numCur x 99 (numC (numCur x 99 (numC (numCur x 7 (.inr b)))))) = nI v.1.2.2 := by
  unfold penF
  show numC (numCur x 99 (numC (numCur x 99 (numC (numF x 7 b))))) = _ ∧ ∀ v, _ → numV (numF x 7 b) = _ ∧ numV (numCur x 99 (numC (numF x 7 b))) = _ ∧ numV (numCur x 99 (numC (numCur x 99 (numC (numF x 7 b))))) = _
  cases h1 : numF x 7 b with
  | inl e => exact ⟨rfl, fun v hv => nomatch hv⟩
  | inr k =>
    show numC (numCur x 99 (numC (numF x 99 k.2))) = curR (match numF x 99 k.2 with
      | .inl e => .inl e
      | .inr m => match numF x 99 m.2 with
        | .inl e => .inl e
        | .inr d => .inr ((k.1, m.1, d.1), d.2)) ∧ ∀ v, (match numF x 99 k.2 with
      | .inl e => .inl e
      | .inr m => match numF x 99 m.2 with
        | .inl e => .inl e
        | .inr d => .inr ((k.1, m.1, d.1), d.2)) = Sum.inr v → nI k.1 = _ ∧ numV (numF x 99 k.2) = _ ∧ numV (numCur x 99 (numC (numF x 99 k.2))) = _
    cases h2 : numF x 99 k.2 with
    | inl e => exact ⟨rfl, fun v hv => nomatch hv⟩
    | inr m =>
      show numC (numF x 99 m.2) = curR (match numF x 99 m.2 with
        | .inl e => .inl e
        | .inr d => .inr ((k.1, m.1, d.1), d.2)) ∧ ∀ v, (match numF x 99 m.2 with
        | .inl e => .inl e
        | .inr d => .inr ((k.1, m.1, d.1), d.2)) = Sum.inr v → nI k.1 = _ ∧ nI m.1 = _ ∧ numV (numF x 99 m.2) = _
      cases h3 : numF x 99 m.2 with
      | inl e => exact ⟨rfl, fun v hv => nomatch hv⟩
      | inr d =>
        refine ⟨rfl, fun v hv => ?_⟩
        have hv : ((k.1, m.1, d.1), d.2) = v := Sum.inr.inj hv
        subst hv
        exact ⟨rfl, rfl, rfl⟩
/-- the end of a CLAUSE of the kind k -/
theorem R_266 {μ : Mem} {x : Txt} {c : Cur} {k n : Nat} (hk : k < 3) (t : TmR μ x c) (hn : g_I μ 128 k = nI n) : ∃ μ' : Mem, mX12_clause_266 125 (nI k) μ = some ((), μ') ∧ OF tF (fun x => x = 128) μ μ' ∧ TmR μ' x (needF x 59 c) ∧ ∀ b, needF x 59 c = .inr b → g_I μ' 128 = ru (g_I μ 128) k (nI (if k < 2 then n + 1 else n)) := by
  obtain ⟨μ1, e1, o1, t1⟩ := R_sign (k := 59) t (by decide)
  have e1 : LX12_sign 125 (59 : Int32) μ = some ((), μ1) := e1
  have s1 := t1.1.1
  have v1 : g_I μ1 128 = g_I μ 128 := o1.r (by decide) (fun z => z)
  have ck : (nI k).toNatClampNeg = k := nI_clamp (by omega)
  have wr : ∀ v : Int32, OF tF (fun x => x = 128) μ (p_I μ1 128 k v) ∧ TmR (p_I μ1 128 k v) x (needF x 59 c) := fun v => by
    have o2 : OF nS (fun x => x = 128) μ1 (p_I μ1 128 k v) := OF.rf.pS rfl (by decide)
    exact ⟨(o1.mo (fun _ z => z) (fun _ z => z.elim)).tr (o2.mo (fun _ z => z.elim) (fun _ z => z)), t1.o o2 (fun z => z) (by decide) (fun z => z) (fun z => z) (fun z => z)⟩
  unfold mX12_clause_266
  rw [e1, ob, s1.h11, if_pos q128, if_pos (s1.a128.ix hk (by decide)), ck, v1, hn]
  cases hc : needF x 59 c with
  | inl e =>
    rw [hc] at t1 wr
    obtain ⟨q1, q2⟩ := TmB.err t1 rfl
    rw [q1, if_neg q2]
    exact ⟨_, rfl, (wr _).1, (wr _).2, fun b hb => nomatch hb⟩
  | inr b =>
    rw [hc] at t1 wr
    obtain ⟨b0, tb, -⟩ := t1.2
    rw [tb.2.1, if_pos rfl]
    by_cases h2 : k < 2
    · rw [if_neg (show ¬ (2 : Int32) ≤ nI k from nI_ge (b := 2) h2 (by decide)), ← nI_succ, if_pos h2]
      exact ⟨_, rfl, (wr _).1, (wr _).2, fun b hb => by rw [gI_row, v1]⟩
    · rw [if_pos (show (2 : Int32) ≤ nI k from nI_le (a := 2) (by omega) (by omega)), Int32.add_zero, if_neg h2]
      exact ⟨_, rfl, (wr _).1, (wr _).2, fun b hb => by rw [gI_row, v1]⟩
theorem TmR.S {μ : Mem} {x : Txt} {c : Cur} {a k : Nat} {v : Int32} (t : TmR μ x c) (h : a ≠ 125) (h2 : a ≠ 126) : TmR (p_I μ a k v) x c := t.o (F := nS) (S := fun x => x = a) (OF.rf.pS rfl h) (fun z => z) (fun z => h2 z.symm) (fun z => z) (fun z => z) (fun z => z)
theorem len_snoc {α : Type} {l : List α} {v : α} : (l ++ [v]).length = l.length + 1 := by rw [List.length_append]; rfl
/-- a PEN's CLAUSE -/
theorem R_clP {μ : Mem} {x : Txt} {b i : Nat} {l : HutL} (t : TmR μ x (.inr b)) (h8 : l.1.length < 8) (h16 : l.2.1.length ≤ 16) (h7 : g_I μ 125 7 = nI i) (hr : HrM μ l) {T : Option (Unit × Mem) → Prop} (hT : ∀ ν : Mem, OF cF cS μ ν → (∃ μ' : Mem, mX12_clause_266 125 (nI 0) ν = some ((), μ') ∧ OF cF cS μ μ' ∧ TmR μ' x (clP x l (penF x b)).1 ∧ g_I μ' 125 7 = nI (i + 1) ∧ ∀ a, (clP x l (penF x b)).1 = .inr a → HrM μ' (clP x l (penF x b)).2) → T (mX12_clause_157 125 (nI 0) ν)) : T (
    (if 0 < (g_R μ 125 13) then (if 0 < (g_R μ 125 11) then (if inA μ (g_R μ 125 11) 15 (0 : Int32) = true then (if inA μ (g_R μ 125 13) 19 (g_I (p_I μ 125 7 ((g_I μ 125 7) + (1 : Int32))) (g_R μ 125 11) (0 : Int32).toNatClampNeg) = true then (if 0 < (g_R μ (g_R μ 125 13) (g_I (p_I μ 125 7 ((g_I μ 125 7) + (1 : Int32))) (g_R μ 125 11) (0 : Int32).toNatClampNeg).toNatClampNeg) then (obind (LX12_number 125 (0 : Int32) (7 : Int32) (p_I μ 125 7 ((g_I μ 125 7) + (1 : Int32)))) (fun (r34 : Int32) (m35 : Mem) => if inA m35 (g_R μ (g_R μ 125 13) (g_I (p_I μ 125 7 ((g_I μ 125 7) + (1 : Int32))) (g_R μ 125 11) (0 : Int32).toNatClampNeg).toNatClampNeg) 15 (0 : Int32) = true then (if 0 < (g_R m35 125 13) then (if 0 < (g_R m35 125 11) then (if inA m35 (g_R m35 125 11) 15 (0 : Int32) = true then (if inA m35 (g_R m35 125 13) 19 (g_I (p_I m35 (g_R μ (g_R μ 125 13) (g_I (p_I μ 125 7 ((g_I μ 125 7) + (1 : Int32))) (g_R μ 125 11) (0 : Int32).toNatClampNeg).toNatClampNeg) (0 : Int32).toNatClampNeg r34) (g_R m35 125 11) (0 : Int32).toNatClampNeg) = true then (if 0 < (g_R m35 (g_R m35 125 13) (g_I (p_I m35 (g_R μ (g_R μ 125 13) (g_I (p_I μ 125 7 ((g_I μ 125 7) + (1 : Int32))) (g_R μ 125 11) (0 : Int32).toNatClampNeg).toNatClampNeg) (0 : Int32).toNatClampNeg r34) (g_R m35 125 11) (0 : Int32).toNatClampNeg).toNatClampNeg) then (obind (LX12_number 125 (0 : Int32) (99 : Int32) (p_I m35 (g_R μ (g_R μ 125 13) (g_I (p_I μ 125 7 ((g_I μ 125 7) + (1 : Int32))) (g_R μ 125 11) (0 : Int32).toNatClampNeg).toNatClampNeg) (0 : Int32).toNatClampNeg r34)) (fun (r44 : Int32) (m45 : Mem) => if inA m45 (g_R m35 (g_R m35 125 13) (g_I (p_I m35 (g_R μ (g_R μ 125 13) (g_I (p_I μ 125 7 ((g_I μ 125 7) + (1 : Int32))) (g_R μ 125 11) (0 : Int32).toNatClampNeg).toNatClampNeg) (0 : Int32).toNatClampNeg r34) (g_R m35 125 11) (0 : Int32).toNatClampNeg).toNatClampNeg) 15 (1 : Int32) = true then (if 0 < (g_R m45 125 13) then (if 0 < (g_R m45 125 11) then (if inA m45 (g_R m45 125 11) 15 (0 : Int32) = true then (if inA m45 (g_R m45 125 13) 19 (g_I (p_I m45 (g_R m35 (g_R m35 125 13) (g_I (p_I m35 (g_R μ (g_R μ 125 13) (g_I (p_I μ 125 7 ((g_I μ 125 7) + (1 : Int32))) (g_R μ 125 11) (0 : Int32).toNatClampNeg).toNatClampNeg) (0 : Int32).toNatClampNeg r34) (g_R m35 125 11) (0 : Int32).toNatClampNeg).toNatClampNeg) (1 : Int32).toNatClampNeg r44) (g_R m45 125 11) (0 : Int32).toNatClampNeg) = true then (if 0 < (g_R m45 (g_R m45 125 13) (g_I (p_I m45 (g_R m35 (g_R m35 125 13) (g_I (p_I m35 (g_R μ (g_R μ 125 13) (g_I (p_I μ 125 7 ((g_I μ 125 7) + (1 : Int32))) (g_R μ 125 11) (0 : Int32).toNatClampNeg).toNatClampNeg) (0 : Int32).toNatClampNeg r34) (g_R m35 125 11) (0 : Int32).toNatClampNeg).toNatClampNeg) (1 : Int32).toNatClampNeg r44) (g_R m45 125 11) (0 : Int32).toNatClampNeg).toNatClampNeg) then (obind (LX12_number 125 (0 : Int32) (99 : Int32) (p_I m45 (g_R m35 (g_R m35 125 13) (g_I (p_I m35 (g_R μ (g_R μ 125 13) (g_I (p_I μ 125 7 ((g_I μ 125 7) + (1 : Int32))) (g_R μ 125 11) (0 : Int32).toNatClampNeg).toNatClampNeg) (0 : Int32).toNatClampNeg r34) (g_R m35 125 11) (0 : Int32).toNatClampNeg).toNatClampNeg) (1 : Int32).toNatClampNeg r44)) (fun (r54 : Int32) (m55 : Mem) => if inA m55 (g_R m45 (g_R m45 125 13) (g_I (p_I m45 (g_R m35 (g_R m35 125 13) (g_I (p_I m35 (g_R μ (g_R μ 125 13) (g_I (p_I μ 125 7 ((g_I μ 125 7) + (1 : Int32))) (g_R μ 125 11) (0 : Int32).toNatClampNeg).toNatClampNeg) (0 : Int32).toNatClampNeg r34) (g_R m35 125 11) (0 : Int32).toNatClampNeg).toNatClampNeg) (1 : Int32).toNatClampNeg r44) (g_R m45 125 11) (0 : Int32).toNatClampNeg).toNatClampNeg) 15 (2 : Int32) = true then (mX12_clause_157 125 (nI 0) (p_I m55 (g_R m45 (g_R m45 125 13) (g_I (p_I m45 (g_R m35 (g_R m35 125 13) (g_I (p_I m35 (g_R μ (g_R μ 125 13) (g_I (p_I μ 125 7 ((g_I μ 125 7) + (1 : Int32))) (g_R μ 125 11) (0 : Int32).toNatClampNeg).toNatClampNeg) (0 : Int32).toNatClampNeg r34) (g_R m35 125 11) (0 : Int32).toNatClampNeg).toNatClampNeg) (1 : Int32).toNatClampNeg r44) (g_R m45 125 11) (0 : Int32).toNatClampNeg).toNatClampNeg) (2 : Int32).toNatClampNeg r54)) else none)) else none) else none) else none) else none) else none) else none)) else none) else none) else none) else none) else none) else none)) else none) else none) else none) else none) else none)) := by
  have s := t.1.1
  obtain ⟨⟨hr1, hr2, hr3⟩, hr4, hr5⟩ := id hr
  obtain ⟨a1, a2, a3, a4⟩ := s.t130.at (i := l.1.length) (by omega) (by decide)
  have a2 : g_R μ 130 (nI l.1.length).toNatClampNeg = 131 + l.1.length := a2
  have a3 : 0 < 131 + l.1.length := by omega
  have hr1' : g_I (p_I μ 125 7 (nI (i + 1))) 128 0 = nI l.1.length := by rw [gI_h (by decide)]; exact hr1
  have i0 : inA μ 128 15 (0 : Int32) = true := s.a128.ix (i := 0) (by decide) (by decide)
  have o0 : OF cF cS μ (p_I μ 125 7 (nI (i + 1))) := OF.rf.p0 (Or.inr (Or.inr (Or.inr rfl)))
  have t0 : TmR (p_I μ 125 7 (nI (i + 1))) x (.inr b) := t.o (F := fun k => k = 7) (S := nS) (OF.rf.p0 rfl) (by decide) (fun z => z) (by decide) (by decide) (by decide)
  rw [s.h13, if_pos q130, s.h11, if_pos q128, if_pos i0, c0n, c1n, c2n, h7, ← nI_succ, hr1', if_pos a1, a2, if_pos a3]
  -- the first number
  obtain ⟨m1, e1, o1, t1⟩ := R_number (most := 7) t0
  have s1 := t1.1.1
  have x1 : ArS m1 (131 + l.1.length) 3 := by unfold ArS; rw [sh_isK o1.1.1, sh_gN o1.1.1]; exact a4
  have b1 : inA m1 130 19 (nI l.1.length) = true := by rw [sh_inA o1.1.1]; exact a1
  have b2 : g_R m1 130 (nI l.1.length).toNatClampNeg = 131 + l.1.length := by rw [sh_gR o1.1.1]; exact a2
  have i1 : inA m1 128 15 (0 : Int32) = true := s1.a128.ix (i := 0) (by decide) (by decide)
  have f1 : g_I m1 128 0 = nI l.1.length := by rw [o1.r (by decide) (fun z => z)]; exact hr1'
  rw [e1, ob, if_pos (show inA m1 (131 + l.1.length) 15 (0 : Int32) = true from x1.ix (i := 0) (by decide) (by decide)), s1.h13, if_pos q130, s1.h11, if_pos q128, if_pos i1, gI_h (show (128 : Nat) ≠ 131 + l.1.length by omega), f1, if_pos b1, b2, if_pos a3]
  -- the second one
  obtain ⟨m2, e2, o2, t2⟩ := R_number (most := 99) (t1.S (a := 131 + l.1.length) (k := 0) (v := numV (numCur x 7 (.inr b))) (by omega) (by omega))
  have s2 := t2.1.1
  have x2 : ArS m2 (131 + l.1.length) 3 := by unfold ArS; rw [sh_isK o2.1.1, sh_gN o2.1.1]; exact x1
  have d1 : inA m2 130 19 (nI l.1.length) = true := by rw [sh_inA o2.1.1]; exact b1
  have d2 : g_R m2 130 (nI l.1.length).toNatClampNeg = 131 + l.1.length := by rw [sh_gR o2.1.1]; exact b2
  have i2 : inA m2 128 15 (0 : Int32) = true := s2.a128.ix (i := 0) (by decide) (by decide)
  have f2 : g_I m2 128 0 = nI l.1.length := by rw [o2.r (by decide) (fun z => z), gI_h (by omega)]; exact f1
  rw [e2, ob, if_pos (show inA m2 (131 + l.1.length) 15 (1 : Int32) = true from x2.ix (i := 1) (by decide) (by decide)), s2.h13, if_pos q130, s2.h11, if_pos q128, if_pos i2, gI_h (show (128 : Nat) ≠ 131 + l.1.length by omega), f2, if_pos d1, d2, if_pos a3]
  -- the third one
  obtain ⟨m3, e3, o3, t3⟩ := R_number (most := 99) (t2.S (a := 131 + l.1.length) (k := 1) (v := numV (numCur x 99 (numC (numCur x 7 (.inr b))))) (by omega) (by omega))
  have x3 : ArS m3 (131 + l.1.length) 3 := by unfold ArS; rw [sh_isK o3.1.1, sh_gN o3.1.1]; exact x2
  have f3 : g_I m3 128 0 = nI l.1.length := by rw [o3.r (by decide) (fun z => z), gI_h (by omega)]; exact f2
  rw [e3, ob, if_pos (show inA m3 (131 + l.1.length) 15 (2 : Int32) = true from x3.ix (i := 2) (by decide) (by decide))]
  obtain ⟨pc, pv⟩ := pen_c (x := x) (b := b)
  rw [pc] at t3
  obtain ⟨ν, hν⟩ : ∃ ν, ν = p_I m3 (131 + l.1.length) 2 (numV (numCur x 99 (numC (numCur x 99 (numC (numCur x 7 (.inr b))))))) := ⟨_, rfl⟩
  rw [← hν]
  have inS : cS (131 + l.1.length) := Or.inr (Or.inl ⟨by omega, by omega⟩)
  have oo : OF cF cS μ ν := by
    rw [hν]
    exact ((((((o0.tr (t_c o1)).pS inS (by omega)).tr (t_c o2)).pS inS (by omega)).tr (t_c o3)).pS inS (by omega))
  have tν : TmR ν x (curR (penF x b)) := by rw [hν]; exact t3.S (by omega) (by omega)
  refine hT ν oo ?_
  obtain ⟨μ', e4, o4, t4, g4⟩ := R_266 (k := 0) (n := l.1.length) (by decide) tν (by rw [hν, gI_h (by omega)]; exact f3)
  have eC : (clP x l (penF x b)).1 = needF x 59 (curR (penF x b)) := by
    cases penF x b with
    | inl e => rfl
    | inr v => rfl
  have o4' : OF cF cS ν μ' := o4.mo (fun k z => by have z : k = 4 ∨ k = 5 ∨ k = 6 := z; show k = 4 ∨ k = 5 ∨ k = 6 ∨ k = 7; omega) (fun _ z => Or.inl z)
  refine ⟨μ', e4, oo.tr o4', by rw [eC]; exact t4, ?_, fun a ha => ?_⟩
  · have q1 : g_I m1 125 7 = nI (i + 1) := by rw [o1.2 7 (by decide)]; exact gI_s
    have q2 : g_I m2 125 7 = nI (i + 1) := by rw [o2.2 7 (by decide), gI_h (by omega)]; exact q1
    have q3 : g_I m3 125 7 = nI (i + 1) := by rw [o3.2 7 (by decide), gI_h (by omega)]; exact q2
    rw [o4.2 7 (by decide), hν, gI_h (by omega)]
    exact q3
  · rw [eC] at ha
    have g4 := g4 a ha
    obtain ⟨b1, hb1⟩ := needF_in ha
    cases hp : penF x b with
    | inl e => rw [hp] at hb1; exact nomatch hb1
    | inr v =>
      obtain ⟨v1, v2, v3⟩ := pv v hp
      show HrM μ' (l.1 ++ [v.1], l.2)
      have g128 : ∀ k, g_I ν 128 k = g_I μ 128 k := fun k => by
        rw [hν, gI_h (by omega), o3.r (by decide) (fun z => z), gI_h (by omega), o2.r (by decide) (fun z => z), gI_h (by omega), o1.r (by decide) (fun z => z), gI_h (by decide)]
      have gof : ∀ y, y ≠ 125 → y ≠ 128 → y ≠ 131 + l.1.length → g_I μ' y = g_I μ y := fun y h1 h2 h3 => by
        rw [o4.r h1 h2, hν, gI_rowo h3, o3.r h1 (fun z => z), gI_rowo h3, o2.r h1 (fun z => z), gI_rowo h3, o1.r h1 (fun z => z), gI_rowo h1]
      have gp : g_I μ' (131 + l.1.length) 0 = nI v.1.1 ∧ g_I μ' (131 + l.1.length) 1 = nI v.1.2.1 ∧ g_I μ' (131 + l.1.length) 2 = nI v.1.2.2 := by
        rw [o4.r (by omega) (by omega), hν]
        refine ⟨?_, ?_, ?_⟩
        · rw [gI_k (by decide), o3.r (by omega) (fun z => z), gI_k (by decide), o2.r (by omega) (fun z => z), gI_s, v1]
        · rw [gI_k (by decide), o3.r (by omega) (fun z => z), gI_s, v2]
        · rw [gI_s, v3]
      refine ⟨⟨?_, ?_, ?_⟩, fun p hp => ?_, fun w hw => ?_⟩
      · rw [g4, ru_s, if_pos (by decide)]
        show nI (l.1.length + 1) = nI (l.1 ++ [v.1]).length
        rw [len_snoc]
      · rw [g4, ru_o (by decide), g128]; exact hr2
      · rw [g4, ru_o (by decide), g128]; exact hr3
      · have hp : p < (l.1 ++ [v.1]).length := hp
        rw [len_snoc] at hp
        show g_I μ' (131 + p) 0 = nI ((l.1 ++ [v.1]).getD p (0, 0, 0)).1 ∧ g_I μ' (131 + p) 1 = nI ((l.1 ++ [v.1]).getD p (0, 0, 0)).2.1 ∧ g_I μ' (131 + p) 2 = nI ((l.1 ++ [v.1]).getD p (0, 0, 0)).2.2
        by_cases e : p = l.1.length
        · rw [e, getD_last3]; exact gp
        · rw [getD_app3 (show p < l.1.length by omega), gof (131 + p) (by omega) (by omega) (by omega)]
          exact hr4 p (by omega)
      · rw [gof (149 + w) (by omega) (by omega) (by omega)]
        exact hr5 w hw
