/-! ===== HUT: the whole text ===== -/
theorem X3_parseClause {μ : Mem} {tp h i a : Nat} {x : Txt} {l : HutL} (hd : tp + 2 ≤ h ∨ h + 6 ≤ tp) (hi : i ≤ 60) (s : HutS μ h) (hr : HutH μ h l) (t : TpR μ tp x (.inr a)) :
    ∃ μ' : Mem, LX3_parseClause h tp (nI i) μ = some ((), μ') ∧ Out (inHt tp h) μ μ' ∧ TpR μ' tp x (clauseF x i a l).1 ∧ ∀ b', (clauseF x i a l).1 = .inr b' → HutH μ' h (clauseF x i a l).2 := by
  unfold LX3_parseClause
  rw [if_pos s.1, if_pos t.1.1]
  obtain ⟨μ1, z, e1, o1, t1, g1⟩ := X9_word sw0 (by decide) t
  rw [e1, ob]
  have o1' : Out (inHt tp h) μ μ1 := o1.mo fun z hz => Or.inl hz
  unfold clauseF
  have ew : wordCur x W0 (.inr a) = wordF x W0 a := rfl
  rw [ew] at t1 g1
  cases hv : wordF x W0 a with
  | inl e =>
    rw [hv] at t1 g1
    have g1 : z = -1 := g1
    rw [if_pos g1]
    exact ⟨μ1, rfl, o1', t1, fun b hb => nomatch hb⟩
  | inr v =>
    rw [hv] at t1 g1
    obtain ⟨g2, g3⟩ := g1
    have hk : v.1 < 3 := wordF_lt hv
    rw [g2, if_neg (nI_nm1 (by omega))]
    exact X3_clauseK hd hi o1' (s.sh o1.1) (hr.fr fun b hb => (o1.2 b (by obtain ⟨y1, y2⟩ := hb; omega)).1) t1 (g3 a rfl) hk
def hutF (x : Txt) : Nat → Nat → Cur → HutL → Cur × HutL
  | 0, _, c, l => (c, l)
  | f + 1, i, c, l => match c with
    | .inl e => (.inl e, l)
    | .inr a => if a < x.2 then hutF x f (i + 1) (clauseF x i a l).1 (clauseF x i a l).2 else (.inr a, l)
theorem hutF_e {x : Txt} {e : Nat × Nat} {l : HutL} : ∀ f i, hutF x f i (.inl e) l = (.inl e, l) := fun f i => by cases f <;> rfl
theorem X3_parseL {tp h : Nat} {x : Txt} (hd : tp + 2 ≤ h ∨ h + 6 ≤ tp) : ∀ (f i fu : Nat) (c : Cur) (l : HutL) (μ : Mem), f + i = 61 → f < fu → HutS μ h → TpR μ tp x c → (∀ a, c = .inr a → HutH μ h l) →
    ∃ μ' : Mem, mX3_parse_18 fu h tp (nI i) μ = some ((), μ') ∧ Out (inHt tp h) μ μ' ∧ TpR μ' tp x (hutF x f i c l).1 ∧ ∀ a, (hutF x f i c l).1 = .inr a → HutH μ' h (hutF x f i c l).2 := by
  intro f
  induction f with
  | zero =>
    intro i fu c l μ hi hfu s t hc
    obtain ⟨fu, rfl⟩ : ∃ q, fu = q + 1 := ⟨fu - 1, by omega⟩
    rw [mX3_parse_18, if_pos (show (60 : Int32) < nI i from nI_lt (a := 60) (by omega) (by omega))]
    exact ⟨μ, rfl, Out.rf, t, hc⟩
  | succ f ih =>
    intro i fu c l μ hi hfu s t hc
    obtain ⟨fu, rfl⟩ : ∃ q, fu = q + 1 := ⟨fu - 1, by omega⟩
    rw [mX3_parse_18, if_neg (show ¬ (60 : Int32) < nI i from nI_nlt (a := 60) (by omega) (by decide))]
    obtain ⟨μ1, e1, o1, t1, g1⟩ := X9_more t
    have o1' : Out (inHt tp h) μ μ1 := o1.mo fun z hz => Or.inl hz
    rw [e1, ob]
    cases c with
    | inl e =>
      rw [if_pos (show moreF x (.inl e) = 0 from rfl)]
      exact ⟨μ1, rfl, o1', t1, fun a ha => nomatch ha⟩
    | inr a =>
      have hr1 : HutH μ1 h l := (hc a rfl).fr fun b hb => (o1.2 b (by obtain ⟨y1, y2⟩ := hb; omega)).1
      by_cases ha : a < x.2
      · rw [show moreF x (.inr a) = 1 from if_pos ha, if_neg (by decide)]
        obtain ⟨μ2, e2, o2, t2, g2⟩ := X3_parseClause hd (show i ≤ 60 by omega) (s.sh o1.1) hr1 t1
        rw [e2, ob, ← nI_succ]
        have eF : hutF x (f + 1) i (.inr a) l = hutF x f (i + 1) (clauseF x i a l).1 (clauseF x i a l).2 := if_pos ha
        rw [eF]
        obtain ⟨μ3, e3, o3, t3, g3⟩ := ih (i + 1) fu (clauseF x i a l).1 (clauseF x i a l).2 μ2 (by omega) (by omega) ((s.sh o1.1).sh o2.1) t2 g2
        exact ⟨μ3, e3, (o1'.tr o2).tr o3, t3, g3⟩
      · rw [show moreF x (.inr a) = 0 from if_neg ha, if_pos rfl]
        have eF : hutF x (f + 1) i (.inr a) l = (.inr a, l) := if_neg ha
        rw [eF]
        exact ⟨μ1, rfl, o1', t1, fun b hb => hr1⟩
def hutL0 : HutL := ([], [], 8)
theorem X3_parse {μ : Mem} {tp h : Nat} {x : Txt} {c : Cur} (hd : tp + 2 ≤ h ∨ h + 6 ≤ tp) (s : HutS μ h) (t : TpR μ tp x c) : ∃ μ' : Mem, LX3_parse h tp μ = some ((), μ') ∧ Out (inHt tp h) μ μ' ∧ TpR μ' tp x (hutF x 61 0 c hutL0).1 ∧ ∀ a, (hutF x 61 0 c hutL0).1 = .inr a → HutH μ' h (hutF x 61 0 c hutL0).2 := by
  unfold LX3_parse
  rw [if_pos s.1, if_pos t.1.1]
  have o : Out (fun z => z = h) μ (p_I (p_I (p_I μ h 0 0) h 4 0) h 7 8) := (((Out.rf (S := fun z => z = h)).pI rfl).pI rfl).pI rfl
  obtain ⟨μ', e1, o1, t1, g1⟩ := X3_parseL hd 61 0 100000 c hutL0 (p_I (p_I (p_I μ h 0 0) h 4 0) h 7 8) rfl (by decide) (s.sh o.1) (t.fr o (by omega) (by omega)) (fun a ha => ⟨by decide, by decide, by rw [gI_k (by decide), gI_k (by decide), gI_s]; rfl, by rw [gI_k (by decide), gI_s]; rfl, by rw [gI_s]; rfl, fun p hp => absurd hp (Nat.not_lt_zero _), fun w hw => absurd hw (Nat.not_lt_zero _)⟩)
  exact ⟨μ', e1, (o.mo fun z hz => Or.inr ⟨by omega, by omega⟩).tr o1, t1, g1⟩
/-- the bounds of what a HUT's text says -/
def LOk (l : HutL) : Prop := l.1.length ≤ 8 ∧ l.2.1.length ≤ 16 ∧ (∀ p, p ∈ l.1 → p.1 ≤ 7 ∧ p.2.1 ≤ 99 ∧ p.2.2 ≤ 99) ∧ (∀ w, w ∈ l.2.1 → w.1 < l.1.length ∧ w.2 < l.1.length) ∧ l.2.2 ≤ 24
theorem getD_mem {α : Type} {d : α} {l : List α} {i : Nat} (h : i < l.length) : l.getD i d ∈ l := by
  rw [List.getD_eq_getElem?_getD, List.getElem?_eq_getElem h]
  exact List.getElem_mem h
theorem LOk.hut {l : HutL} (h : LOk l) : HutOk (hutT l) := by
  obtain ⟨h1, h2, h3, h4, h5⟩ := h
  refine ⟨h1, h2, fun p hp => ?_, fun w hw => ?_, l.2.2, rfl, h5⟩
  · obtain ⟨a, b, c⟩ := h3 _ (getD_mem (d := (0, 0, 0)) hp)
    exact ⟨⟨_, rfl, by omega⟩, ⟨_, rfl, b⟩, _, rfl, c⟩
  · exact h4 _ (getD_mem (d := (0, 0)) hw)
theorem numF_pen {x : Txt} {np a v b : Nat} (h : numF x (nI np - 1) a = .inr (v, b)) (hn : np < 2147483648) : v < np := by
  obtain ⟨h1, h2⟩ := numF_le h
  by_cases e : np = 0
  · subst e
    have : nI 0 - 1 = (-1 : Int32) := by decide
    rw [this] at h1
    have := Int32.le_iff_toInt_le.mp h1
    rw [nI_toInt (by omega), show (-1 : Int32).toInt = -1 from rfl] at this
    omega
  · rw [show (1 : Int32) = nI 1 from rfl, nI_sub (by omega)] at h1
    apply Classical.byContradiction
    intro z
    exact nI_ge (a := np - 1) (b := v) (by omega) (by omega) h1
theorem clK_ok {x : Txt} {i a k b : Nat} {l : HutL} (h : LOk l) : LOk (clK x i a k b l).2 := by
  unfold clK
  by_cases c : 60 ≤ i ∨ (k = 0 ∧ 8 ≤ l.1.length) ∨ (k = 1 ∧ 16 ≤ l.2.1.length)
  · rw [if_pos c]; exact h
  rw [if_neg c]
  obtain ⟨h1, h2, h3, h4, h5⟩ := id h
  by_cases k0 : k = 0
  · rw [if_pos k0]
    unfold clP
    cases hv : penF x b with
    | inl e => exact h
    | inr v =>
      have hb : v.1.1 ≤ 7 ∧ v.1.2.1 ≤ 99 ∧ v.1.2.2 ≤ 99 := by
        unfold penF at hv
        cases e1 : numF x 7 b with
        | inl e => rw [e1] at hv; exact nomatch hv
        | inr k =>
          rw [e1] at hv
          have hv : (match numF x 99 k.2 with
            | .inl e => .inl e
            | .inr m => match numF x 99 m.2 with
              | .inl e => .inl e
              | .inr d => .inr ((k.1, m.1, d.1), d.2)) = Sum.inr v := hv
          cases e2 : numF x 99 k.2 with
          | inl e => rw [e2] at hv; exact nomatch hv
          | inr m =>
            rw [e2] at hv
            have hv : (match numF x 99 m.2 with
              | .inl e => .inl e
              | .inr d => .inr ((k.1, m.1, d.1), d.2)) = Sum.inr v := hv
            cases e3 : numF x 99 m.2 with
            | inl e => rw [e3] at hv; exact nomatch hv
            | inr d =>
              rw [e3] at hv
              have hv : ((k.1, m.1, d.1), d.2) = v := Sum.inr.inj hv
              subst hv
              exact ⟨numF_nat (n := 7) (v := k.1) (b := k.2) e1 (by decide), numF_nat (n := 99) (v := m.1) (b := m.2) e2 (by decide), numF_nat (n := 99) (v := d.1) (b := d.2) e3 (by decide)⟩
      show LOk (l.1 ++ [v.1], l.2)
      refine ⟨by show (l.1 ++ [v.1]).length ≤ 8; rw [List.length_append]; simp; omega, h2, fun p hp => ?_, fun w hw => ?_, h5⟩
      · rcases List.mem_append.mp hp with hp | hp
        · exact h3 p hp
        · rw [List.mem_singleton.mp hp]; exact hb
      · have := h4 w hw
        show w.1 < (l.1 ++ [v.1]).length ∧ w.2 < (l.1 ++ [v.1]).length
        rw [List.length_append]
        omega
  rw [if_neg k0]
  by_cases k1 : k = 1
  · rw [if_pos k1]
    unfold clW
    cases hv : wireF x (nI l.1.length - 1) b with
    | inl e => exact h
    | inr v =>
      have hb : v.1.1 < l.1.length ∧ v.1.2 < l.1.length := by
        unfold wireF at hv
        cases e1 : numF x (nI l.1.length - 1) b with
        | inl e => rw [e1] at hv; exact nomatch hv
        | inr u =>
          rw [e1] at hv
          have hv : (match numF x (nI l.1.length - 1) u.2 with
            | .inl e => .inl e
            | .inr v => if u.1 = v.1 then .inl (2, u.2) else .inr ((u.1, v.1), v.2)) = Sum.inr v := hv
          cases e2 : numF x (nI l.1.length - 1) u.2 with
          | inl e => rw [e2] at hv; exact nomatch hv
          | inr w =>
            rw [e2] at hv
            have hv : (if u.1 = w.1 then .inl (2, u.2) else .inr ((u.1, w.1), w.2)) = Sum.inr v := hv
            by_cases c : u.1 = w.1
            · rw [if_pos c] at hv; exact nomatch hv
            · rw [if_neg c] at hv
              have hv : ((u.1, w.1), w.2) = v := Sum.inr.inj hv
              subst hv
              exact ⟨numF_pen (v := u.1) (b := u.2) e1 (by omega), numF_pen (v := w.1) (b := w.2) e2 (by omega)⟩
      show LOk (l.1, l.2.1 ++ [v.1], l.2.2)
      refine ⟨h1, by show (l.2.1 ++ [v.1]).length ≤ 16; rw [List.length_append]; simp; omega, h3, fun w hw => ?_, h5⟩
      rcases List.mem_append.mp hw with hw | hw
      · exact h4 w hw
      · rw [List.mem_singleton.mp hw]; exact hb
  rw [if_neg k1]
  unfold clS
  cases hv : numF x 24 b with
  | inl e => exact h
  | inr v => exact ⟨h1, h2, h3, h4, numF_nat (n := 24) (v := v.1) (b := v.2) hv (by decide)⟩
theorem hutF_ok {x : Txt} : ∀ (f i : Nat) (c : Cur) (l : HutL), LOk l → LOk (hutF x f i c l).2 := by
  intro f
  induction f with
  | zero => intro i c l h; exact h
  | succ f ih =>
    intro i c l h
    cases c with
    | inl e => exact h
    | inr a =>
      by_cases ha : a < x.2
      · have eF : hutF x (f + 1) i (.inr a) l = hutF x f (i + 1) (clauseF x i a l).1 (clauseF x i a l).2 := if_pos ha
        rw [eF]
        refine ih _ _ _ ?_
        unfold clauseF
        cases wordF x W0 a with
        | inl e => exact h
        | inr k => exact clK_ok h
      · have eF : hutF x (f + 1) i (.inr a) l = (.inr a, l) := if_neg ha
        rw [eF]
        exact h
theorem hutL0_ok : LOk hutL0 := ⟨by decide, by decide, fun p hp => absurd hp (List.not_mem_nil), fun w hw => absurd hw (List.not_mem_nil), by decide⟩
