/-! ===== a STATE of the class: copied, begun, counted; the HUT ===== -/
theorem X8_copyFromL {s t np : Nat} {kf ρ : Nat → Int32} (hd : s + 34 ≤ t ∨ t + 34 ≤ s) (hnp : np ≤ 8) : ∀ (f j fu : Nat) (μ : Mem), StS μ s → StS μ t → StR μ t np kf ρ → g_I μ s 1 = nI np → (∀ p, p < j → PenR μ (s + 2 + 4 * p) (kf p) ρ p) → f + j = np → f < fu →
    ∃ μ' : Mem, mX8_copyFrom_34 fu s t (nI j) μ = some ((), μ') ∧ Out (fun a => s + 2 ≤ a ∧ a < s + 34) μ μ' ∧ ∀ p, p < np → PenR μ' (s + 2 + 4 * p) (kf p) ρ p := by
  intro f
  induction f with
  | zero =>
    intro j fu μ ss tt r hc hp hj hf
    obtain ⟨fu, rfl⟩ : ∃ q, fu = q + 1 := ⟨fu - 1, by omega⟩
    rw [mX8_copyFrom_34, hc, if_pos (nI_le (by omega) (by omega))]
    have : j = np := by omega
    exact ⟨μ, rfl, Out.rf, by rw [← this]; exact hp⟩
  | succ f ih =>
    intro j fu μ ss tt r hc hp hj hf
    obtain ⟨fu, rfl⟩ : ∃ q, fu = q + 1 := ⟨fu - 1, by omega⟩
    obtain ⟨a0, a1, a2, a3, a5⟩ := id ss
    obtain ⟨b0, b1, b2, b3, b5⟩ := id tt
    obtain ⟨ar, ap⟩ := a5 j (by omega)
    obtain ⟨br, bp⟩ := b5 j (by omega)
    have cj : (nI j).toNatClampNeg = j := nI_clamp (by omega)
    rw [mX8_copyFrom_34, hc, if_neg (nI_ge (by omega) (by omega)), a1, if_pos (isK_p a2), if_pos (inA_n a2 a3 (by omega) (by decide)), cj, ar, if_pos (isK_p ap.1), b1, if_pos (isK_p b2), if_pos (inA_n b2 b3 (by omega) (by decide)), br, if_pos (isK_p bp.1), if_pos ap.1]
    obtain ⟨μ1, e1, o1, p1⟩ := X5_copyFrom ap bp (r.2.2.2.2.2 j (by omega)) (by omega)
    rw [e1, ob, ← nI_succ]
    obtain ⟨μ', e2, o2, p2⟩ := ih (j + 1) fu μ1 (ss.sh o1.1) (tt.sh o1.1) (r.fr fun a ha => o1.2 a (by obtain ⟨q1, q2⟩ := ha; omega)) (by rw [(o1.2 s (by omega)).1]; exact hc) (fun p hp' => by
      by_cases e : p = j
      · rw [e]; exact p1
      · exact (hp p (by omega)).fr (fun a h1 h2 => o1.2 a (by omega)) sameP.rf) (by omega) (by omega)
    exact ⟨μ', e2, (o1.mo fun a ha => by omega).tr o2, p2⟩
theorem X8_copyFrom {μ : Mem} {s t np : Nat} {kf ρ : Nat → Int32} (ss : StS μ s) (tt : StS μ t) (r : StR μ t np kf ρ) (hd : s + 34 ≤ t ∨ t + 34 ≤ s) : ∃ μ' : Mem, LX8_copyFrom s t μ = some ((), μ') ∧ Out (inSt s) μ μ' ∧ StR μ' s np kf ρ := by
  obtain ⟨a0, a1, a2, a3, a4, a5⟩ := id r
  unfold LX8_copyFrom
  rw [if_pos ss.1, if_pos tt.1]
  have e1 : ∀ b, g_I (p_I μ s 1 (g_I μ t 1)) t b = g_I μ t b := fun b => gI_h (by omega)
  have e2 : ∀ b, g_I (p_I (p_I μ s 1 (g_I μ t 1)) s 2 (g_I μ t 2)) t b = g_I μ t b := fun b => by rw [gI_h (by omega), e1]
  have e3 : ∀ b, g_I (p_I (p_I (p_I μ s 1 (g_I μ t 1)) s 2 (g_I μ t 2)) s 3 (g_I μ t 3)) t b = g_I μ t b := fun b => by rw [gI_h (by omega), e2]
  rw [e1, e2, e3, a1, a2, a3, a4]
  obtain ⟨ν, hν⟩ : ∃ ν, ν = p_I (p_I (p_I (p_I μ s 1 (nI np)) s 2 (ρ 32)) s 3 (ρ 33)) s 4 (ρ 34) := ⟨_, rfl⟩
  rw [← hν]
  have o1 : Out (fun a => a = s) μ ν := by
    rw [hν]
    exact ((((Out.rf (S := fun a => a = s)).pI rfl).pI rfl).pI rfl).pI rfl
  have i1 : g_I ν s 1 = nI np := by rw [hν, gI_k (by decide), gI_k (by decide), gI_k (by decide), gI_s]
  have i2 : g_I ν s 2 = ρ 32 := by rw [hν, gI_k (by decide), gI_k (by decide), gI_s]
  have i3 : g_I ν s 3 = ρ 33 := by rw [hν, gI_k (by decide), gI_s]
  have i4 : g_I ν s 4 = ρ 34 := by rw [hν, gI_s]
  obtain ⟨μ', e4, o2, p2⟩ := X8_copyFromL hd a0 np 0 100000 ν (ss.sh o1.1) (tt.sh o1.1) (r.fr fun a ha => o1.2 a (by obtain ⟨q1, q2⟩ := ha; omega)) i1 (fun p hp => absurd hp (Nat.not_lt_zero _)) (by omega) (by omega)
  have es := (o2.2 s (by omega)).1
  refine ⟨μ', e4, (o1.mo fun a ha => ⟨by omega, by omega⟩).tr (o2.mo fun a ha => ⟨by omega, by omega⟩), a0, by rw [es]; exact i1, by rw [es]; exact i2, by rw [es]; exact i3, by rw [es]; exact i4, p2⟩
/-- how many records the first j PENS have -/
def sumR (ρ : Nat → Int32) : Nat → Int32
  | 0 => 0
  | j + 1 => sumR ρ j + ρ (24 + j)
theorem X8_recordsL {μ : Mem} {s np : Nat} {kf ρ : Nat → Int32} (t : StS μ s) (r : StR μ s np kf ρ) : ∀ (f j fu : Nat), f + j = np → f < fu → mX8_records_4 fu s (sumR ρ j) (nI j) μ = some (sumR ρ np, μ) := by
  obtain ⟨a0, a1, a2, a3, a4, a5⟩ := id r
  obtain ⟨t0, t1, t2, t3, t5⟩ := id t
  intro f
  induction f with
  | zero =>
    intro j fu hj hf
    obtain ⟨fu, rfl⟩ : ∃ q, fu = q + 1 := ⟨fu - 1, by omega⟩
    rw [mX8_records_4, a1, if_pos (nI_le (by omega) (by omega)), show j = np by omega]
  | succ f ih =>
    intro j fu hj hf
    obtain ⟨fu, rfl⟩ : ∃ q, fu = q + 1 := ⟨fu - 1, by omega⟩
    obtain ⟨tr, tp⟩ := t5 j (by omega)
    rw [mX8_records_4, a1, if_neg (nI_ge (by omega) (by omega)), t1, if_pos (isK_p t2), if_pos (inA_n t2 t3 (by omega) (by decide)), nI_clamp (n := j) (by omega), tr, if_pos (isK_p tp.1), if_pos tp.1, (a5 j (by omega)).2.2.2.2.1, ← nI_succ]
    exact ih (j + 1) fu (by omega) (by omega)
theorem X8_records {μ : Mem} {s np : Nat} {kf ρ : Nat → Int32} (t : StS μ s) (r : StR μ s np kf ρ) : LX8_records s μ = some (sumR ρ np, μ) := by
  unfold LX8_records
  rw [if_pos t.1]
  exact X8_recordsL t r np 0 100000 (by omega) (by have := r.1; omega)
/-- the things of a HUT -/
def HutS (μ : Mem) (h : Nat) : Prop := isK μ h 3 = true ∧ g_R μ h 1 = h + 1 ∧ g_R μ h 2 = h + 2 ∧ g_R μ h 3 = h + 3 ∧ g_R μ h 5 = h + 4 ∧ g_R μ h 6 = h + 5 ∧ isK μ (h + 1) 15 = true ∧ isK μ (h + 2) 15 = true ∧ isK μ (h + 3) 15 = true ∧ isK μ (h + 4) 15 = true ∧ isK μ (h + 5) 15 = true ∧ g_N μ (h + 1) = 8 ∧ g_N μ (h + 2) = 8 ∧ g_N μ (h + 3) = 8 ∧ g_N μ (h + 4) = 16 ∧ g_N μ (h + 5) = 16
theorem HutS.sh {μ μ' : Mem} {h : Nat} (s : HutS μ h) (e : Sh μ μ') : HutS μ' h := by
  unfold HutS
  rw [sh_isK e, sh_gR e, sh_gN e]
  exact s
/-- what is told of the HUT: PENS, KINDS, M, D as told; WIRES, from, to; places of a SHEET -/
abbrev HutT : Type := Nat × (Nat → Int32) × (Nat → Int32) × (Nat → Int32) × Nat × (Nat → Nat) × (Nat → Nat) × Int32
def HutR (μ : Mem) (h : Nat) (t : HutT) : Prop := g_I μ h 0 = nI t.1 ∧ g_I μ h 4 = nI t.2.2.2.2.1 ∧ g_I μ h 7 = t.2.2.2.2.2.2.2 ∧ (∀ p, p < t.1 → g_I μ (h + 1) p = t.2.1 p ∧ g_I μ (h + 2) p = t.2.2.1 p ∧ g_I μ (h + 3) p = t.2.2.2.1 p) ∧ ∀ w, w < t.2.2.2.2.1 → g_I μ (h + 4) w = nI (t.2.2.2.2.2.1 w) ∧ g_I μ (h + 5) w = nI (t.2.2.2.2.2.2.1 w)
def HutOk (t : HutT) : Prop := t.1 ≤ 8 ∧ t.2.2.2.2.1 ≤ 16 ∧ (∀ p, p < t.1 → (∃ k : Nat, t.2.1 p = nI k ∧ k < 8) ∧ (∃ m : Nat, t.2.2.1 p = nI m ∧ m ≤ 99) ∧ ∃ d : Nat, t.2.2.2.1 p = nI d ∧ d ≤ 99) ∧ (∀ w, w < t.2.2.2.2.1 → t.2.2.2.2.2.1 w < t.1 ∧ t.2.2.2.2.2.2.1 w < t.1) ∧ ∃ c : Nat, t.2.2.2.2.2.2.2 = nI c ∧ c ≤ 24
def inHut (h : Nat) : Nat → Prop := fun a => h ≤ a ∧ a < h + 6
theorem HutR.fr {μ μ' : Mem} {h : Nat} {t : HutT} (r : HutR μ h t) (e : ∀ a, inHut h a → g_I μ' a = g_I μ a) : HutR μ' h t := by
  unfold HutR
  rw [e h ⟨by omega, by omega⟩, e (h + 1) ⟨by omega, by omega⟩, e (h + 2) ⟨by omega, by omega⟩, e (h + 3) ⟨by omega, by omega⟩, e (h + 4) ⟨by omega, by omega⟩, e (h + 5) ⟨by omega, by omega⟩]
  exact r
/-- the row of a HUT just told -/
def row0 (t : HutT) : Nat → Int32 := fun k => if k < 8 then (if k < t.1 then t.2.2.1 k else 0) else if k < 16 then (if k - 8 < t.1 then t.2.2.2.1 (k - 8) else 0) else if k < 24 then (if k - 16 < t.1 then t.2.2.2.2.2.2.2 else -1) else if k < 35 then 0 else -1
theorem row0_m {t : HutT} {p : Nat} (h : p < t.1) (h8 : p < 8) : row0 t p = t.2.2.1 p := by unfold row0; rw [if_pos h8, if_pos h]
theorem row0_d {t : HutT} {p : Nat} (h : p < t.1) (h8 : p < 8) : row0 t (8 + p) = t.2.2.2.1 p := by unfold row0; rw [if_neg (by omega), if_pos (by omega), if_pos (by omega), Nat.add_sub_cancel_left]
theorem row0_s {t : HutT} {p : Nat} (h : p < t.1) (h8 : p < 8) : row0 t (16 + p) = t.2.2.2.2.2.2.2 := by unfold row0; rw [if_neg (by omega), if_neg (by omega), if_pos (by omega), if_pos (by omega)]
theorem row0_n {t : HutT} {p : Nat} (h8 : p < 8) : row0 t (24 + p) = 0 := by unfold row0; rw [if_neg (by omega), if_neg (by omega), if_neg (by omega), if_pos (by omega)]
theorem row0_r {t : HutT} {a : Nat} (h : 35 ≤ a) : row0 t a = -1 := by unfold row0; rw [if_neg (by omega), if_neg (by omega), if_neg (by omega), if_neg (by omega)]
theorem RowK.row0 {t : HutT} (h : HutOk t) : RowK t.1 t.2.1 (row0 t) := by
  obtain ⟨h1, h2, h3, h4, c, hc, hc24⟩ := h
  refine ⟨h1, fun p hp => ?_, fun p hp hp8 => row0_n hp8⟩
  obtain ⟨⟨k, hk, hk8⟩, ⟨m, hm, hm9⟩, d, hd, hd9⟩ := h3 p hp
  have hp8 : p < 8 := by omega
  refine ⟨⟨k, m, d, 0, hk, hk8, by rw [row0_m hp hp8]; exact hm, hm9, by rw [row0_d hp hp8]; exact hd, hd9, by rw [row0_n hp8]; rfl, Or.inr ⟨c, by rw [row0_s hp hp8]; exact hc, hc24, Nat.zero_le _⟩, fun i hi => Or.inl (row0_r (by omega))⟩, fun i _ hi => row0_r (by omega)⟩
theorem X8_beginL {s h : Nat} {t : HutT} (ht : t.1 ≤ 8) (hd : s + 34 ≤ h ∨ h + 6 ≤ s) : ∀ (f j fu : Nat) (μ : Mem), StS μ s → HutS μ h → HutR μ h t → g_I μ s 1 = nI t.1 → (∀ p, p < j → PenR μ (s + 2 + 4 * p) (t.2.1 p) (row0 t) p) → f + j = t.1 → f < fu →
    ∃ μ' : Mem, mX8_begin_25 fu s h (nI j) μ = some ((), μ') ∧ Out (fun a => s + 2 ≤ a ∧ a < s + 34) μ μ' ∧ ∀ p, p < t.1 → PenR μ' (s + 2 + 4 * p) (t.2.1 p) (row0 t) p := by
  intro f
  induction f with
  | zero =>
    intro j fu μ ss hs hr hc hp hj hf
    obtain ⟨fu, rfl⟩ : ∃ q, fu = q + 1 := ⟨fu - 1, by omega⟩
    rw [mX8_begin_25, hc, if_pos (nI_le (by omega) (by omega))]
    have : j = t.1 := by omega
    exact ⟨μ, rfl, Out.rf, by rw [← this]; exact hp⟩
  | succ f ih =>
    intro j fu μ ss hs hr hc hp hj hf
    obtain ⟨fu, rfl⟩ : ∃ q, fu = q + 1 := ⟨fu - 1, by omega⟩
    obtain ⟨a0, a1, a2, a3, a5⟩ := id ss
    obtain ⟨ar, ap⟩ := a5 j (by omega)
    obtain ⟨z0, z1, z2, z3, z5, z6, k1, k2, k3, k4, k5, n1, n2, n3, n4, n5⟩ := id hs
    obtain ⟨q0, q4, q7, qp, qw⟩ := id hr
    obtain ⟨w1, w2, w3⟩ := qp j (by omega)
    have cj : (nI j).toNatClampNeg = j := nI_clamp (by omega)
    rw [mX8_begin_25, hc, if_neg (nI_ge (by omega) (by omega)), a1, if_pos (isK_p a2), if_pos (inA_n a2 a3 (by omega) (by decide)), cj, ar, if_pos (isK_p ap.1), z1, z2, z3, if_pos (isK_p k1), if_pos (inA_n k1 n1 (by omega) (by decide)), if_pos (isK_p k2), if_pos (inA_n k2 n2 (by omega) (by decide)), if_pos (isK_p k3), if_pos (inA_n k3 n3 (by omega) (by decide)), if_pos ap.1, w1, w2, w3, q7]
    obtain ⟨μ1, e1, o1, p1⟩ := X5_begin (k := t.2.1 j) (m := t.2.2.1 j) (d := t.2.2.2.1 j) (n := t.2.2.2.2.2.2.2) (ρ := row0 t) (p := j) ap (by omega) (row0_m (by omega) (by omega)) (row0_d (by omega) (by omega))
    rw [e1, ob, ← nI_succ]
    have p1' : PenR μ1 (s + 2 + 4 * j) (t.2.1 j) (row0 t) j := p1.fr (fun a _ _ => ⟨rfl, rfl, rfl⟩) ⟨(sLay_far (by omega) (by omega) (by omega) (by omega)).symm, (sLay_far (by omega) (by omega) (by omega) (by omega)).symm, by rw [row0_s (by omega) (by omega)]; unfold sLay; rw [rbl_o (by omega), ru_o (by omega), ru_s], by rw [row0_n (by omega)]; unfold sLay; rw [rbl_o (by omega), ru_s], fun i hi => ⟨by rw [row0_r (by omega)]; exact (if_pos (by omega)).symm, by rw [row0_r (by omega)]; exact (if_pos (by omega)).symm⟩⟩
    obtain ⟨μ', e2, o2, p2⟩ := ih (j + 1) fu μ1 (ss.sh o1.1) (hs.sh o1.1) (hr.fr fun a ha => (o1.2 a (by obtain ⟨x1, x2⟩ := ha; omega)).1) (by rw [(o1.2 s (by omega)).1]; exact hc) (fun p hp' => by
      by_cases e : p = j
      · rw [e]; exact p1'
      · exact (hp p (by omega)).fr (fun a h1 h2 => o1.2 a (by omega)) sameP.rf) (by omega) (by omega)
    exact ⟨μ', e2, (o1.mo fun a ha => by omega).tr o2, p2⟩
theorem X8_begin {μ : Mem} {s h : Nat} {t : HutT} (ss : StS μ s) (hs : HutS μ h) (hr : HutR μ h t) (ht : t.1 ≤ 8) (hd : s + 34 ≤ h ∨ h + 6 ≤ s) : ∃ μ' : Mem, LX8_begin s h μ = some ((), μ') ∧ Out (inSt s) μ μ' ∧ StR μ' s t.1 t.2.1 (row0 t) := by
  unfold LX8_begin
  rw [if_pos ss.1, if_pos hs.1, hr.1]
  obtain ⟨ν, hν⟩ : ∃ ν, ν = p_I (p_I (p_I (p_I μ s 1 (nI t.1)) s 2 0) s 3 0) s 4 0 := ⟨_, rfl⟩
  rw [← hν]
  have o1 : Out (fun a => a = s) μ ν := by
    rw [hν]
    exact ((((Out.rf (S := fun a => a = s)).pI rfl).pI rfl).pI rfl).pI rfl
  have i1 : g_I ν s 1 = nI t.1 := by rw [hν, gI_k (by decide), gI_k (by decide), gI_k (by decide), gI_s]
  have i2 : g_I ν s 2 = 0 := by rw [hν, gI_k (by decide), gI_k (by decide), gI_s]
  have i3 : g_I ν s 3 = 0 := by rw [hν, gI_k (by decide), gI_s]
  have i4 : g_I ν s 4 = 0 := by rw [hν, gI_s]
  obtain ⟨μ', e4, o2, p2⟩ := X8_beginL ht hd t.1 0 100000 ν (ss.sh o1.1) (hs.sh o1.1) (hr.fr fun a ha => (o1.2 a (by obtain ⟨x1, x2⟩ := ha; omega)).1) i1 (fun p hp => absurd hp (Nat.not_lt_zero _)) (by omega) (by omega)
  have es := (o2.2 s (by omega)).1
  have r32 : row0 t 32 = 0 ∧ row0 t 33 = 0 ∧ row0 t 34 = 0 := ⟨by unfold row0; simp, by unfold row0; simp, by unfold row0; simp⟩
  exact ⟨μ', e4, (o1.mo fun a ha => ⟨by omega, by omega⟩).tr (o2.mo fun a ha => ⟨by omega, by omega⟩), ht, by rw [es]; exact i1, by rw [es, r32.1]; exact i2, by rw [es, r32.2.1]; exact i3, by rw [es, r32.2.2]; exact i4, p2⟩
