/-! ===== HUT: its CLAUSES ===== -/
/-- PENS told, WIRES told, the SHEET's places -/
abbrev HutL : Type := List (Nat × Nat × Nat) × List (Nat × Nat) × Nat
def hutT (l : HutL) : HutT := (l.1.length, fun i => nI (l.1.getD i (0, 0, 0)).1, fun i => nI (l.1.getD i (0, 0, 0)).2.1, fun i => nI (l.1.getD i (0, 0, 0)).2.2, l.2.1.length, fun w => (l.2.1.getD w (0, 0)).1, fun w => (l.2.1.getD w (0, 0)).2, nI l.2.2)
def clP (x : Txt) (l : HutL) (r : (Nat × Nat) ⊕ ((Nat × Nat × Nat) × Nat)) : Cur × HutL := match r with
  | .inl e => (.inl e, l)
  | .inr v => (needF x 59 (.inr v.2), (l.1 ++ [v.1], l.2))
def clW (x : Txt) (l : HutL) (r : (Nat × Nat) ⊕ ((Nat × Nat) × Nat)) : Cur × HutL := match r with
  | .inl e => (.inl e, l)
  | .inr v => (needF x 59 (.inr v.2), (l.1, l.2.1 ++ [v.1], l.2.2))
def clS (x : Txt) (l : HutL) (r : (Nat × Nat) ⊕ (Nat × Nat)) : Cur × HutL := match r with
  | .inl e => (.inl e, l)
  | .inr v => (needF x 59 (.inr v.2), (l.1, l.2.1, v.1))
/-- a CLAUSE of the kind k, read on at b, begun at a; i CLAUSES stand ahead of it -/
def clK (x : Txt) (i a k b : Nat) (l : HutL) : Cur × HutL := if 60 ≤ i ∨ (k = 0 ∧ 8 ≤ l.1.length) ∨ (k = 1 ∧ 16 ≤ l.2.1.length) then (.inl (3, a), l) else if k = 0 then clP x l (penF x b) else if k = 1 then clW x l (wireF x (nI l.1.length - 1) b) else clS x l (numF x 24 b)
def clauseF (x : Txt) (i a : Nat) (l : HutL) : Cur × HutL := match wordF x W0 a with
  | .inl e => (.inl e, l)
  | .inr k => clK x i a k.1 k.2 l
theorem wordIx_lt {x : Txt} {a e : Nat} : ∀ (ws : List (List Nat)) (i k : Nat), wordIx x a e ws i = some k → i ≤ k ∧ k < i + ws.length := by
  intro ws
  induction ws with
  | nil => intro i k h; exact nomatch h
  | cons w r ih =>
    intro i k h
    unfold wordIx at h
    rw [List.length_cons]
    by_cases c : isW x a e w
    · rw [if_pos c] at h
      cases h
      omega
    · rw [if_neg c] at h
      have := ih (i + 1) k h
      omega
theorem wordF_lt {x : Txt} {ws : List (List Nat)} {a : Nat} {v : Nat × Nat} (h : wordF x ws a = .inr v) : v.1 < ws.length := by
  unfold wordF at h
  by_cases c : a < x.2
  · rw [if_pos c] at h
    cases hw : wordIx x a (ltE x a) ws 0 with
    | none => rw [hw] at h; exact nomatch h
    | some k =>
      rw [hw] at h
      have h : (k, sk x (ltE x a)) = v := Sum.inr.inj h
      subst h
      have := wordIx_lt ws 0 k hw
      show k < _
      omega
  · rw [if_neg c] at h; exact nomatch h
theorem getD_app3 {α : Type} {d : α} {l r : List α} {i : Nat} (h : i < l.length) : (l ++ r).getD i d = l.getD i d := by
  rw [List.getD_eq_getElem?_getD, List.getD_eq_getElem?_getD, List.getElem?_append_left h]
theorem getD_last3 {α : Type} {d v : α} {l : List α} : (l ++ [v]).getD l.length d = v := by
  rw [List.getD_eq_getElem?_getD, List.getElem?_append_right (by omega), Nat.sub_self]
  rfl
/-- the class's HUT at h holds what l says -/
def HutH (μ : Mem) (h : Nat) (l : HutL) : Prop := l.1.length ≤ 8 ∧ l.2.1.length ≤ 16 ∧ HutR μ h (hutT l)
theorem HutH.fr {μ ν : Mem} {h : Nat} {l : HutL} (r : HutH μ h l) (e : ∀ a, inHut h a → g_I ν a = g_I μ a) : HutH ν h l := ⟨r.1, r.2.1, r.2.2.fr e⟩
theorem X3_clause91 {μ ν : Mem} {tp h : Nat} {x : Txt} {c : Cur} (hd : tp + 2 ≤ h ∨ h + 6 ≤ tp) (o : Out (inHt tp h) μ ν) (t : TpR ν tp x c) : ∃ μ' : Mem, mX3_parseClause_91 tp ν = some ((), μ') ∧ Out (inHt tp h) μ μ' ∧ TpR μ' tp x (needF x 59 c) ∧ ∀ a, inHut h a → g_I μ' a = g_I ν a := by
  unfold mX3_parseClause_91
  obtain ⟨μ', e1, o1, t1⟩ := X9_need (k := 59) t (by decide)
  have e1 : LX9_need tp (59 : Int32) ν = some ((), μ') := e1
  rw [e1, ob]
  exact ⟨μ', rfl, o.tr (o1.mo fun z hz => Or.inl hz), t1, fun a ha => (o1.2 a (by obtain ⟨y1, y2⟩ := ha; omega)).1⟩
theorem X3_clauseK {μ ν : Mem} {tp h i a k b : Nat} {x : Txt} {l : HutL} (hd : tp + 2 ≤ h ∨ h + 6 ≤ tp) (hi : i ≤ 60) (o : Out (inHt tp h) μ ν) (s : HutS ν h) (hr : HutH ν h l) (t : TpR ν tp x (.inr b)) (h4 : g_I ν tp 4 = nI a) (hk : k < 3) :
    ∃ μ' : Mem, (if (60 : Int32) ≤ nI i then (mX3_parseClause_46 tp ν) else (if nI k = 0 then (if (8 : Int32) ≤ (g_I ν h 0) then (mX3_parseClause_46 tp ν) else (mX3_parseClause_32 h tp (nI k) ν)) else (mX3_parseClause_32 h tp (nI k) ν))) = some ((), μ') ∧ Out (inHt tp h) μ μ' ∧ TpR μ' tp x (clK x i a k b l).1 ∧ ∀ b', (clK x i a k b l).1 = .inr b' → HutH μ' h (clK x i a k b l).2 := by
  obtain ⟨l8, l16, q0, q4, q7, qp, qw⟩ := id hr
  have q0 : g_I ν h 0 = nI l.1.length := q0
  have q4 : g_I ν h 4 = nI l.2.1.length := q4
  have many : ∃ μ' : Mem, mX3_parseClause_46 tp ν = some ((), μ') ∧ Out (inHt tp h) μ μ' ∧ TpR μ' tp x (.inl (3, a)) ∧ ∀ b', (Sum.inl (3, a) : Cur) = .inr b' → HutH μ' h l := by
    unfold mX3_parseClause_46
    rw [h4]
    obtain ⟨μ', e1, o1, t1⟩ := X9_fail (k := 3) (p := a) t (by decide) (by decide)
    have e1 : LX9_fail tp (3 : Int32) (nI a) ν = some ((), μ') := e1
    rw [e1, ob]
    exact ⟨μ', rfl, o.tr (o1.mo fun z hz => Or.inl hz), t1, fun b' hb => nomatch hb⟩
  unfold clK
  by_cases c60 : 60 ≤ i
  · rw [if_pos (show (60 : Int32) ≤ nI i from nI_le (a := 60) c60 (by omega)), if_pos (Or.inl c60)]
    exact many
  rw [if_neg (show ¬ (60 : Int32) ≤ nI i from nI_ge (b := 60) (by omega) (by decide))]
  have hk' : k = 0 ∨ k = 1 ∨ k = 2 := by omega
  rcases hk' with rfl | rfl | rfl
  · rw [if_pos (show nI 0 = (0 : Int32) from rfl), q0]
    by_cases c8 : 8 ≤ l.1.length
    · rw [if_pos (show (8 : Int32) ≤ nI l.1.length from nI_le (a := 8) c8 (by omega)), if_pos (Or.inr (Or.inl ⟨rfl, c8⟩))]
      exact many
    · rw [if_neg (show ¬ (8 : Int32) ≤ nI l.1.length from nI_ge (b := 8) (by omega) (by decide)), if_neg (by omega), if_pos rfl]
      unfold mX3_parseClause_32
      rw [if_neg (show ¬ nI 0 = (1 : Int32) by decide)]
      unfold mX3_parseClause_56
      rw [if_pos (show nI 0 = (0 : Int32) from rfl)]
      obtain ⟨μ1, z1, z2, z3, e1, o1, t1, w0, w1, w2, w3, w4, w5, wv⟩ := X3_parsePen hd s q0 (by omega) t
      obtain ⟨μ', e2, o2, t2, g2⟩ := X3_clause91 hd (o.tr o1) t1
      rw [e1, ob, e2]
      unfold clP
      cases hv : penF x b with
      | inl e =>
        rw [hv] at t2
        exact ⟨μ', rfl, o2, t2, fun b' hb => nomatch hb⟩
      | inr v =>
        rw [hv] at t2
        obtain ⟨v1, v2, v3⟩ := wv v hv
        refine ⟨μ', rfl, o2, t2, fun b' hb => ?_⟩
        show HutH μ' h (l.1 ++ [v.1], l.2)
        refine HutH.fr (μ := μ1) ?_ g2
        refine ⟨by show (l.1 ++ [v.1]).length ≤ 8; rw [List.length_append]; simp; omega, l16, ?_, ?_, ?_, ?_, ?_⟩
        · show g_I μ1 h 0 = nI (l.1 ++ [v.1]).length
          rw [w0, ru_s, List.length_append]; rfl
        · show g_I μ1 h 4 = _
          rw [w0, ru_o (by decide)]; exact q4
        · show g_I μ1 h 7 = _
          rw [w0, ru_o (by decide)]; exact q7
        · intro p hp
          have hp : p < (l.1 ++ [v.1]).length := hp
          rw [List.length_append] at hp
          have hp : p < l.1.length + 1 := hp
          show g_I μ1 (h + 1) p = nI ((l.1 ++ [v.1]).getD p (0, 0, 0)).1 ∧ g_I μ1 (h + 2) p = nI ((l.1 ++ [v.1]).getD p (0, 0, 0)).2.1 ∧ g_I μ1 (h + 3) p = nI ((l.1 ++ [v.1]).getD p (0, 0, 0)).2.2
          rw [w1, w2, w3]
          by_cases ep : p = l.1.length
          · rw [ep, ru_s, ru_s, ru_s, getD_last3]
            exact ⟨v1, v2, v3⟩
          · rw [ru_o ep, ru_o ep, ru_o ep, getD_app3 (by omega)]
            exact qp p (by show p < l.1.length; omega)
        · intro w hw
          show g_I μ1 (h + 4) w = _ ∧ g_I μ1 (h + 5) w = _
          rw [w4, w5]
          exact qw w hw
  · rw [if_neg (show ¬ nI 1 = (0 : Int32) by decide)]
    unfold mX3_parseClause_32
    rw [if_pos (show nI 1 = (1 : Int32) from rfl), q4]
    by_cases c16 : 16 ≤ l.2.1.length
    · rw [if_neg (show ¬ nI l.2.1.length < (16 : Int32) from nI_nlt (b := 16) c16 (by omega)), if_pos (Or.inr (Or.inr ⟨rfl, c16⟩))]
      exact many
    · rw [if_pos (show nI l.2.1.length < (16 : Int32) from nI_lt (b := 16) (by omega) (by decide)), if_neg (by omega), if_neg (by decide), if_pos rfl]
      unfold mX3_parseClause_56
      rw [if_neg (show ¬ nI 1 = (0 : Int32) by decide), if_pos (show nI 1 = (1 : Int32) from rfl)]
      obtain ⟨μ1, z1, z2, e1, o1, t1, w0, w4, w5, w1, w2, w3, wv⟩ := X3_parseWire hd s q0 q4 (by omega) t
      obtain ⟨μ', e2, o2, t2, g2⟩ := X3_clause91 hd (o.tr o1) t1
      rw [e1, ob, e2]
      unfold clW
      cases hv : wireF x (nI l.1.length - 1) b with
      | inl e =>
        rw [hv] at t2
        exact ⟨μ', rfl, o2, t2, fun b' hb => nomatch hb⟩
      | inr v =>
        rw [hv] at t2
        obtain ⟨v1, v2⟩ := wv v hv
        refine ⟨μ', rfl, o2, t2, fun b' hb => ?_⟩
        show HutH μ' h (l.1, l.2.1 ++ [v.1], l.2.2)
        refine HutH.fr (μ := μ1) ?_ g2
        refine ⟨l8, by show (l.2.1 ++ [v.1]).length ≤ 16; rw [List.length_append]; simp; omega, ?_, ?_, ?_, ?_, ?_⟩
        · show g_I μ1 h 0 = nI l.1.length
          rw [w0, ru_o (by decide)]; exact q0
        · show g_I μ1 h 4 = nI (l.2.1 ++ [v.1]).length
          rw [w0, ru_s, List.length_append]; rfl
        · show g_I μ1 h 7 = _
          rw [w0, ru_o (by decide)]; exact q7
        · intro p hp
          show g_I μ1 (h + 1) p = _ ∧ g_I μ1 (h + 2) p = _ ∧ g_I μ1 (h + 3) p = _
          rw [w1, w2, w3]
          exact qp p hp
        · intro w hw
          have hw : w < (l.2.1 ++ [v.1]).length := hw
          rw [List.length_append] at hw
          have hw : w < l.2.1.length + 1 := hw
          show g_I μ1 (h + 4) w = nI ((l.2.1 ++ [v.1]).getD w (0, 0)).1 ∧ g_I μ1 (h + 5) w = nI ((l.2.1 ++ [v.1]).getD w (0, 0)).2
          rw [w4, w5]
          by_cases ep : w = l.2.1.length
          · rw [ep, ru_s, ru_s, getD_last3]
            exact ⟨v1, v2⟩
          · rw [ru_o ep, ru_o ep, getD_app3 (by omega)]
            exact qw w (by show w < l.2.1.length; omega)
  · rw [if_neg (show ¬ nI 2 = (0 : Int32) by decide)]
    unfold mX3_parseClause_32
    rw [if_neg (show ¬ nI 2 = (1 : Int32) by decide), if_neg (by omega), if_neg (by decide), if_neg (by decide)]
    unfold mX3_parseClause_56
    rw [if_neg (show ¬ nI 2 = (0 : Int32) by decide), if_neg (show ¬ nI 2 = (1 : Int32) by decide)]
    obtain ⟨μ1, z, e1, o1, t1, g1⟩ := X9_number (most := 24) t
    have t1 : TpR μ1 tp x (numC (numF x 24 b)) := t1
    have p1 : Out (fun z => z = h) μ1 (p_I μ1 h 7 z) := (Out.rf (S := fun z => z = h)).pI rfl
    obtain ⟨μ', e2, o2, t2, g2⟩ := X3_clause91 hd (o.tr ((o1.mo fun z hz => Or.inl hz).tr (p1.mo fun z hz => Or.inr ⟨by omega, by omega⟩))) (t1.fr p1 (by omega) (by omega))
    rw [e1, ob, e2]
    unfold clS
    cases hv : numF x 24 b with
    | inl e =>
      rw [hv] at t2
      exact ⟨μ', rfl, o2, t2, fun b' hb => nomatch hb⟩
    | inr v =>
      rw [hv] at t2
      obtain ⟨v1, -⟩ := g1 b v.1 v.2 rfl hv
      refine ⟨μ', rfl, o2, t2, fun b' hb => ?_⟩
      show HutH μ' h (l.1, l.2.1, v.1)
      refine HutH.fr (μ := p_I μ1 h 7 z) ?_ g2
      have f : ∀ a, inHut h a → g_I μ1 a = g_I ν a := fun a ha => (o1.2 a (by obtain ⟨y1, y2⟩ := ha; omega)).1
      obtain ⟨r0, r4, r7, rp, rw'⟩ := hr.2.2.fr f
      refine ⟨l8, l16, ?_, ?_, ?_, ?_, ?_⟩
      · rw [gI_k (by decide)]; exact r0
      · rw [gI_k (by decide)]; exact r4
      · rw [gI_s]; exact v1
      · intro p hp
        rw [gI_rowo (by omega), gI_rowo (by omega), gI_rowo (by omega)]
        exact rp p hp
      · intro w hw
        rw [gI_rowo (by omega), gI_rowo (by omega)]
        exact rw' w hw
