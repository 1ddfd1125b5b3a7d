/-! ===== LAW: the class reads products and sums, the whole text ===== -/
theorem X4_prodL {tp h o : Nat} {x : Txt} {rec : Nat → Nat → Int32 → Mem → Option (Unit × Mem)} {rc : Cur → OpsT → LwT} {full : Prop} [Decidable full] (hd : tp + 2 ≤ h ∨ h + 5 ≤ tp) (hN : x.2 ≤ 150) (ho : o ≤ 6) (hfull : full ↔ o = 6) (hg : ¬ full → ∀ c ops, LwG x c ops (rc c ops)) (hrec : o < 6 → HRl rec rc tp h o x) :
    ∀ (f i fu : Nat) (c : Cur) (ops : OpsT) (μ : Mem), f + i = 150 → f < fu → LawS μ h → Many μ h → TpR μ tp x c →
      ∃ μ' : Mem, mX4_parseProduct_8 rec fu h tp (nI o) (nI i) μ = some ((), μ') ∧ LwO μ μ' tp h x c ops (loopL x [42, 47, 37] 4 (unitF x rc full) f c ops) := by
  intro f
  induction f with
  | zero =>
    intro i fu c ops μ hi hfu s m r
    obtain ⟨fu, rfl⟩ : ∃ q, fu = q + 1 := ⟨fu - 1, by omega⟩
    rw [mX4_parseProduct_8, if_pos (show (150 : Int32) ≤ nI i from nI_le (a := 150) (by omega) (by omega))]
    exact ⟨μ, rfl, Out.rf, m, r, fun hp b hb => (hp b hb).1⟩
  | succ f ih =>
    intro i fu c ops μ hi hfu s m r
    obtain ⟨fu, rfl⟩ : ∃ q, fu = q + 1 := ⟨fu - 1, by omega⟩
    rw [mX4_parseProduct_8, if_neg (show ¬ (150 : Int32) ≤ nI i from nI_ge (b := 150) (by omega) (by decide))]
    obtain ⟨μ1, z, e1, o1, g1⟩ := X9_oneOf sc4 r
    rw [e1, ob]
    cases hv : oneR x c [42, 47, 37] 0 with
    | none =>
      rw [hv] at g1
      obtain ⟨g2, t1⟩ := g1
      rw [g2, if_pos rfl, loopL_n hv]
      exact ⟨μ1, rfl, tpLw o1, m.tp hd o1, t1, fun hp b hb => ((hp b hb).1).tp hd o1⟩
    | some v =>
      rw [hv] at g1
      obtain ⟨g2, t1⟩ := g1
      obtain ⟨a0, q1, q2, q3, -, q5⟩ := oneR_at (x := x) (cs := [42, 47, 37]) (by decide) [42, 47, 37] 0 (by decide) hv
      have q5 : v.1 < 3 := by simpa using q5
      rw [g2, if_neg (nI_nm1 (by omega)), loopL_s hv]
      obtain ⟨μ2, e2, o2, m2, t2, p2⟩ := X4_unit (c := .inr v.2) (ops := ops) hd hN ho hfull hg hrec (s.sh o1.1) (m.tp hd o1) t1
      rw [e2, ob]
      obtain ⟨u, hu⟩ : ∃ u, u = unitF x rc full (.inr v.2) ops := ⟨_, rfl⟩
      have ug := unit_g (full := full) hg (.inr v.2) ops
      rw [← hu] at t2 p2 ug ⊢
      obtain ⟨μ3, e3, o3, m3, p3⟩ := X4_put (z := (12 : Int32) + nI v.1) (w := 0) ((s.sh o1.1).sh o2.1) m2
      rw [e3, ob, ← nI_succ]
      obtain ⟨μ4, e4, o4, m4, t4, p4⟩ := ih (i + 1) fu u.1 (u.2 ++ [(nI (4 + v.1), 0)]) μ3 (by omega) (by omega) (((s.sh o1.1).sh o2.1).sh o3.1) m3 (TpR.put t2 hd o3)
      refine ⟨μ4, e4, (((tpLw o1).tr o2).tr (putLw o3)).tr o4, m4, t4, fun hp b hb => ?_⟩
      obtain ⟨lp, la⟩ := hp a0 q1
      have hk : a0 + 1 ≤ v.2 ∧ v.2 ≤ x.2 := by rw [q3]; exact ⟨sk_ge, sk_le q2⟩
      refine p4 (fun a2 ha2 => ?_) b hb
      have l2 := p2 (fun a' ha' => by cases ha'; exact ⟨lp.tp hd o1, by omega⟩) a2 ha2
      obtain ⟨w1, w2, w3⟩ := ug.2 v.2 a2 rfl ha2 hk.2
      refine ⟨p3 u.2 (nI (4 + v.1), 0) l2 (by omega) ?_ (fun z => absurd z (nI_ne0 (show 0 < 4 + v.1 by omega) (by omega))), by rw [List.length_append]; simp; omega⟩
      have hk' : v.1 = 0 ∨ v.1 = 1 ∨ v.1 = 2 := by omega
      rcases hk' with hk' | hk' | hk' <;> rw [hk'] <;> decide
theorem X4_prod {μ : Mem} {tp h o : Nat} {x : Txt} {rec : Nat → Nat → Int32 → Mem → Option (Unit × Mem)} {rc : Cur → OpsT → LwT} {full : Prop} [Decidable full] {c : Cur} {ops : OpsT} (hd : tp + 2 ≤ h ∨ h + 5 ≤ tp) (hN : x.2 ≤ 150) (ho : o ≤ 6) (hfull : full ↔ o = 6) (hg : ¬ full → ∀ c ops, LwG x c ops (rc c ops)) (hrec : o < 6 → HRl rec rc tp h o x) (s : LawS μ h) (m : Many μ h) (r : TpR μ tp x c) :
    ∃ μ' : Mem, LX4_parseProduct rec h tp (nI o) μ = some ((), μ') ∧ LwO μ μ' tp h x c ops (prodF x rc full c ops) := by
  unfold LX4_parseProduct prodF
  rw [if_pos s.1, if_pos r.1.1]
  obtain ⟨μ1, e1, o1, m1, t1, p1⟩ := X4_unit (c := c) (ops := ops) hd hN ho hfull hg hrec s m r
  rw [e1, ob]
  obtain ⟨u, hu⟩ : ∃ u, u = unitF x rc full c ops := ⟨_, rfl⟩
  have ug := unit_g (full := full) hg c ops
  rw [← hu] at t1 p1 ug ⊢
  obtain ⟨μ2, e2, o2, m2, t2, p2⟩ := X4_prodL hd hN ho hfull hg hrec 150 0 100000 u.1 u.2 μ1 rfl (by decide) (s.sh o1.1) m1 t1
  refine ⟨μ2, e2, o1.tr o2, m2, t2, fun hp b hb => p2 (fun a2 ha2 => ?_) b hb⟩
  cases c with
  | inl e => rw [ug.1 e rfl] at ha2; exact nomatch ha2
  | inr a =>
    obtain ⟨w1, w2, w3⟩ := ug.2 a a2 rfl ha2 r.2.2.2.2.2.1
    exact ⟨p1 hp a2 ha2, by have := (hp a rfl).2; omega⟩
theorem X4_sumL {tp h o : Nat} {x : Txt} {rec : Nat → Nat → Int32 → Mem → Option (Unit × Mem)} {rc : Cur → OpsT → LwT} {full : Prop} [Decidable full] (hd : tp + 2 ≤ h ∨ h + 5 ≤ tp) (hN : x.2 ≤ 150) (ho : o ≤ 6) (hfull : full ↔ o = 6) (hg : ¬ full → ∀ c ops, LwG x c ops (rc c ops)) (hrec : o < 6 → HRl rec rc tp h o x) :
    ∀ (f i fu : Nat) (c : Cur) (ops : OpsT) (μ : Mem), f + i = 150 → f < fu → LawS μ h → Many μ h → TpR μ tp x c →
      ∃ μ' : Mem, mX4_parseSum_8 rec fu h tp (nI o) (nI i) μ = some ((), μ') ∧ LwO μ μ' tp h x c ops (loopL x [43, 45] 2 (prodF x rc full) f c ops) := by
  intro f
  induction f with
  | zero =>
    intro i fu c ops μ hi hfu s m r
    obtain ⟨fu, rfl⟩ : ∃ q, fu = q + 1 := ⟨fu - 1, by omega⟩
    rw [mX4_parseSum_8, if_pos (show (150 : Int32) ≤ nI i from nI_le (a := 150) (by omega) (by omega))]
    exact ⟨μ, rfl, Out.rf, m, r, fun hp b hb => (hp b hb).1⟩
  | succ f ih =>
    intro i fu c ops μ hi hfu s m r
    obtain ⟨fu, rfl⟩ : ∃ q, fu = q + 1 := ⟨fu - 1, by omega⟩
    rw [mX4_parseSum_8, if_neg (show ¬ (150 : Int32) ≤ nI i from nI_ge (b := 150) (by omega) (by decide))]
    obtain ⟨μ1, z, e1, o1, g1⟩ := X9_oneOf sc3 r
    rw [e1, ob]
    cases hv : oneR x c [43, 45] 0 with
    | none =>
      rw [hv] at g1
      obtain ⟨g2, t1⟩ := g1
      rw [g2, if_pos rfl, loopL_n hv]
      exact ⟨μ1, rfl, tpLw o1, m.tp hd o1, t1, fun hp b hb => ((hp b hb).1).tp hd o1⟩
    | some v =>
      rw [hv] at g1
      obtain ⟨g2, t1⟩ := g1
      obtain ⟨a0, q1, q2, q3, -, q5⟩ := oneR_at (x := x) (cs := [43, 45]) (by decide) [43, 45] 0 (by decide) hv
      have q5 : v.1 < 2 := by simpa using q5
      rw [g2, if_neg (nI_nm1 (by omega)), loopL_s hv]
      obtain ⟨μ2, e2, o2, m2, t2, p2⟩ := X4_prod (c := .inr v.2) (ops := ops) hd hN ho hfull hg hrec (s.sh o1.1) (m.tp hd o1) t1
      rw [e2, ob]
      obtain ⟨u, hu⟩ : ∃ u, u = prodF x rc full (.inr v.2) ops := ⟨_, rfl⟩
      have ug := prod_g (full := full) hg (.inr v.2) ops
      rw [← hu] at t2 p2 ug ⊢
      obtain ⟨μ3, e3, o3, m3, p3⟩ := X4_put (z := (10 : Int32) + nI v.1) (w := 0) ((s.sh o1.1).sh o2.1) m2
      rw [e3, ob, ← nI_succ]
      obtain ⟨μ4, e4, o4, m4, t4, p4⟩ := ih (i + 1) fu u.1 (u.2 ++ [(nI (2 + v.1), 0)]) μ3 (by omega) (by omega) (((s.sh o1.1).sh o2.1).sh o3.1) m3 (TpR.put t2 hd o3)
      refine ⟨μ4, e4, (((tpLw o1).tr o2).tr (putLw o3)).tr o4, m4, t4, fun hp b hb => ?_⟩
      obtain ⟨lp, la⟩ := hp a0 q1
      have hk : a0 + 1 ≤ v.2 ∧ v.2 ≤ x.2 := by rw [q3]; exact ⟨sk_ge, sk_le q2⟩
      refine p4 (fun a2 ha2 => ?_) b hb
      have l2 := p2 (fun a' ha' => by cases ha'; exact ⟨lp.tp hd o1, by omega⟩) a2 ha2
      obtain ⟨w1, w2, w3⟩ := ug.2 v.2 a2 rfl ha2 hk.2
      refine ⟨p3 u.2 (nI (2 + v.1), 0) l2 (by omega) ?_ (fun z => absurd z (nI_ne0 (show 0 < 2 + v.1 by omega) (by omega))), by rw [List.length_append]; simp; omega⟩
      have hk' : v.1 = 0 ∨ v.1 = 1 := by omega
      rcases hk' with hk' | hk' <;> rw [hk'] <;> decide
theorem X4_sum {μ : Mem} {tp h o : Nat} {x : Txt} {rec : Nat → Nat → Int32 → Mem → Option (Unit × Mem)} {rc : Cur → OpsT → LwT} {full : Prop} [Decidable full] {c : Cur} {ops : OpsT} (hd : tp + 2 ≤ h ∨ h + 5 ≤ tp) (hN : x.2 ≤ 150) (ho : o ≤ 6) (hfull : full ↔ o = 6) (hg : ¬ full → ∀ c ops, LwG x c ops (rc c ops)) (hrec : o < 6 → HRl rec rc tp h o x) (s : LawS μ h) (m : Many μ h) (r : TpR μ tp x c) :
    ∃ μ' : Mem, LX4_parseSum_b rec h tp (nI o) μ = some ((), μ') ∧ LwO μ μ' tp h x c ops (sumG x rc full c ops) := by
  unfold LX4_parseSum_b sumG
  rw [if_pos s.1, if_pos r.1.1]
  obtain ⟨μ1, e1, o1, m1, t1, p1⟩ := X4_prod (c := c) (ops := ops) hd hN ho hfull hg hrec s m r
  rw [e1, ob]
  obtain ⟨u, hu⟩ : ∃ u, u = prodF x rc full c ops := ⟨_, rfl⟩
  have ug := prod_g (full := full) hg c ops
  rw [← hu] at t1 p1 ug ⊢
  obtain ⟨μ2, e2, o2, m2, t2, p2⟩ := X4_sumL hd hN ho hfull hg hrec 150 0 100000 u.1 u.2 μ1 rfl (by decide) (s.sh o1.1) m1 t1
  refine ⟨μ2, e2, o1.tr o2, m2, t2, fun hp b hb => p2 (fun a2 ha2 => ?_) b hb⟩
  cases c with
  | inl e => rw [ug.1 e rfl] at ha2; exact nomatch ha2
  | inr a =>
    obtain ⟨w1, w2, w3⟩ := ug.2 a a2 rfl ha2 r.2.2.2.2.2.1
    exact ⟨p1 hp a2 ha2, by have := (hp a rfl).2; omega⟩
theorem X4_parseSum {tp h : Nat} {x : Txt} (hd : tp + 2 ≤ h ∨ h + 5 ≤ tp) (hN : x.2 ≤ 150) : ∀ (D D' o : Nat) (c : Cur) (ops : OpsT) (μ : Mem), D + o = 6 → D ≤ D' → LawS μ h → Many μ h → TpR μ tp x c → ∃ μ' : Mem, LX4_parseSum (D' + 1) h tp (nI o) μ = some ((), μ') ∧ LwO μ μ' tp h x c ops (sumF x D c ops) := by
  intro D
  induction D with
  | zero =>
    intro D' o c ops μ hD hD' s m r
    exact X4_sum (rec := LX4_parseSum D') (rc := fun c ops => (c, ops)) (full := True) hd hN (by omega) ⟨fun _ => by omega, fun _ => trivial⟩ (fun h => absurd trivial h) (fun h => absurd h (by omega)) s m r
  | succ D ih =>
    intro D' o c ops μ hD hD' s m r
    obtain ⟨D', rfl⟩ : ∃ q, D' = q + 1 := ⟨D' - 1, by omega⟩
    exact X4_sum (rec := LX4_parseSum (D' + 1)) (rc := sumF x D) (full := False) hd hN (by omega) ⟨fun z => z.elim, fun z => by omega⟩ (fun _ => sumF_g D) (fun h c ops μ s m r => ih D' (o + 1) c ops μ (by omega) (by omega) s m r) s m r
/-- the text of a LAW -/
def lawF (x : Txt) (c : Cur) : LwT := (endF x (sumF x 6 c []).1, (sumF x 6 c []).2)
theorem X4_parse {μ : Mem} {tp h : Nat} {x : Txt} {c : Cur} (hd : tp + 2 ≤ h ∨ h + 5 ≤ tp) (hN : x.2 ≤ 150) (s : LawS μ h) (r : TpR μ tp x c) : ∃ μ' : Mem, LX4_parse h tp μ = some ((), μ') ∧ Out (inLw tp h) μ μ' ∧ TpR μ' tp x (lawF x c).1 ∧ ∀ b, (lawF x c).1 = .inr b → LawP μ' h (lawF x c).2 := by
  unfold LX4_parse
  rw [if_pos s.1, if_pos r.1.1]
  have o : Out (fun a => a = h ∨ a = h + 2 ∨ a = h + 3) μ (p_I μ h 3 0) := (Out.rf (S := fun a => a = h ∨ a = h + 2 ∨ a = h + 3)).pI (Or.inl rfl)
  obtain ⟨μ1, e1, o1, m1, t1, p1⟩ := X4_parseSum hd hN 6 11 0 c [] (p_I μ h 3 0) rfl (by decide) (s.sh o.1) ⟨0, by decide, gI_s⟩ (TpR.put r hd o)
  have e1 : LX4_parseSum 12 h tp (0 : Int32) (p_I μ h 3 0) = some ((), μ1) := e1
  rw [e1, ob]
  obtain ⟨μ2, e2, o2, t2⟩ := X9_needEnd t1
  rw [e2, ob]
  refine ⟨μ2, rfl, ((putLw o).tr o1).tr (tpLw o2), t2, fun b hb => ?_⟩
  have hb : endF x (sumF x 6 c []).1 = .inr b := hb
  cases hr : (sumF x 6 c []).1 with
  | inl e => rw [hr] at hb; exact nomatch hb
  | inr d => exact (p1 (fun a ha => ⟨⟨gI_s, by decide, fun j q hj => by simp at hj⟩, Nat.zero_le _⟩) d hr).tp hd o2
