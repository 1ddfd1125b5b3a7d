/-! ===== HISTORY of the class: WORK kept, undone; IMAGES ===== -/
theorem SlOk.sh {μ ν : Mem} {h B : Nat} (o : SlOk μ h B) (e : Sh μ ν) : SlOk ν h B := by
  refine ⟨fun a i v => ?_, fun a i b j v1 v2 hne => ?_⟩
  · rw [sh_gR e]
    rcases o.1 a i v with z | ⟨z1, z2⟩
    · exact Or.inl z
    · exact Or.inr ⟨z1, z2.sh e⟩
  · rw [sh_gR e]
    exact o.2 a i b j v1 v2 hne
theorem HisS.sh {μ ν : Mem} {h : Nat} (s : HisS μ h) (e : Sh μ ν) : HisS ν h := by
  unfold HisS
  rw [sh_isK e, sh_gR e, sh_gN e]
  exact s
theorem X2_slotE {μ : Mem} {h a i : Nat} (hs : HisS μ h) (v : Slo h a i) (hne : g_R μ a i ≠ 0) : LX2_slot a (nI i) μ = some (g_R μ a i, μ) := by
  obtain ⟨ka, hi, hN, hi48, ha1, ha2⟩ := v.row hs
  unfold LX2_slot
  rw [if_pos ka, if_pos (inA_n ka rfl hi hN), nI_clamp (show i < 2147483648 by omega), if_pos (Nat.pos_of_ne_zero hne), if_pos (Nat.pos_of_ne_zero hne)]
theorem X2_cp {μ : Mem} {h B a i t np : Nat} {kf ρ : Nat → Int32} (ok : SlOk μ h B) (v : Slo h a i) (h0 : g_R μ a i ≠ 0) (ts : StS μ t) (r : StR μ t np kf ρ) (hsrc : t + 34 ≤ B ∨ ∃ b j, Slo h b j ∧ (b ≠ a ∨ j ≠ i) ∧ g_R μ b j = t) :
    ∃ μ2 : Mem, LX8_copyFrom (g_R μ a i) t μ = some ((), μ2) ∧ Out (inSt (g_R μ a i)) μ μ2 ∧ B ≤ g_R μ a i ∧ StR μ2 (g_R μ a i) np kf ρ ∧ ∀ b j, Slo h b j → (b ≠ a ∨ j ≠ i) → ∀ (np' : Nat) (kf' ρ' : Nat → Int32), g_R μ b j ≠ 0 → StR μ (g_R μ b j) np' kf' ρ' → StR μ2 (g_R μ b j) np' kf' ρ' := by
  rcases ok.1 a i v with z | ⟨z1, z2⟩
  · exact absurd z h0
  have ht0 : t ≠ 0 := by have := isK_p ts.1; omega
  have hd : g_R μ a i + 34 ≤ t ∨ t + 34 ≤ g_R μ a i := by
    rcases hsrc with q | ⟨b, j, vb, hne, hb⟩
    · exact Or.inr (by omega)
    · rcases ok.2 a i b j v vb (by omega) with q | q | q | q
      · exact absurd q h0
      · exact absurd (hb ▸ q) ht0
      · exact Or.inl (by omega)
      · exact Or.inr (by omega)
  obtain ⟨μ2, e2, o2, r2⟩ := X8_copyFrom z2 ts r hd
  refine ⟨μ2, e2, o2, z1, r2, fun b j vb hne np' kf' ρ' hb0 rb => rb.fr fun x hx => o2.2 x fun hx2 => ?_⟩
  obtain ⟨x1, x2⟩ := hx
  obtain ⟨y1, y2⟩ := hx2
  rcases ok.2 a i b j v vb (by omega) with q | q | q | q
  · exact h0 q
  · exact hb0 q
  · omega
  · omega
/-- what HISTORY holds: WORKS, the rows ahead of each, IMAGES, of each the row, its WORKS, the rows ahead of them -/
abbrev HisT : Type := Nat × (Nat → Nat → Int32) × Nat × (Nat → Nat → Int32) × (Nat → Nat) × (Nat → Nat → Nat → Int32)
def HisR (μ : Mem) (h np : Nat) (kf : Nat → Int32) (t : HisT) : Prop := g_I μ h 4 = nI t.1 ∧ g_I μ h 5 = nI t.2.2.1 ∧ t.1 ≤ 16 ∧ t.2.2.1 ≤ 3 ∧ (∀ i, i < t.1 → g_R μ (h + 1) i ≠ 0 ∧ StR μ (g_R μ (h + 1) i) np kf (t.2.1 i)) ∧
  ∀ k, k < t.2.2.1 → g_R μ (h + 2) k ≠ 0 ∧ StR μ (g_R μ (h + 2) k) np kf (t.2.2.2.1 k) ∧ g_I μ (h + 4) k = nI (t.2.2.2.2.1 k) ∧ t.2.2.2.2.1 k ≤ 16 ∧ ∀ i, i < t.2.2.2.2.1 k → g_R μ (h + 1) i ≠ 0 ∧ g_R μ (h + 3) (16 * k + i) ≠ 0 ∧ StR μ (g_R μ (h + 3) (16 * k + i)) np kf (t.2.2.2.2.2 k i)
def His (μ : Mem) (h B np : Nat) (kf : Nat → Int32) (t : HisT) : Prop := HisS μ h ∧ SlOk μ h B ∧ HisR μ h np kf t ∧ h + 5 ≤ B ∧ B ≤ g_n μ + 1
theorem X2_clear {μ : Mem} {h B np np' : Nat} {kf kf' : Nat → Int32} {t : HisT} (hh : His μ h B np kf t) : ∃ μ' : Mem, LX2_clear h μ = some ((), μ') ∧ Out (fun x => x = h) μ μ' ∧ His μ' h B np' kf' (0, t.2.1, 0, t.2.2.2) := by
  obtain ⟨hs, ok, hr, hb, hB⟩ := hh
  unfold LX2_clear
  rw [if_pos hs.1]
  refine ⟨_, rfl, (Out.rf (S := fun x => x = h)).pI rfl |>.pI rfl, hs.sh rfl, ok.sh rfl, ⟨?_, ?_, Nat.zero_le _, Nat.zero_le _, fun i hi => absurd hi (Nat.not_lt_zero _), fun k hk => absurd hk (Nat.not_lt_zero _)⟩, hb, hB⟩
  · rw [gI_k (by decide), gI_s]; rfl
  · rw [gI_s]; rfl
/-- HISTORY is as it was where nothing of it changed -/
theorem His.fr {n : Nat} {SR S : Nat → Prop} {μ ν : Mem} {h B np : Nat} {kf : Nat → Int32} {t : HisT} (hh : His μ h B np kf t) (g : Grow n SR S μ ν) (hR : ∀ a, (h ≤ a ∧ a < h + 5) ∨ B ≤ a → ¬ SR a) (hS : ∀ a, (h ≤ a ∧ a < h + 5) ∨ B ≤ a → ¬ S a) : His ν h B np kf t := by
  obtain ⟨hs, ok, ⟨w4, w5, hw, hi, hp, hm⟩, hb, hB⟩ := hh
  obtain ⟨k0, r0, r1, r2, r3, k1, k2, k3, k4, n1, n2, n3, n4⟩ := id hs
  have e1 := g.R k1 (hR (h + 1) (by omega))
  have e2 := g.R k2 (hR (h + 2) (by omega))
  have e3 := g.R k3 (hR (h + 3) (by omega))
  have v0 := (g.V k0 (hS h (by omega))).1
  have v4 := (g.V k4 (hS (h + 4) (by omega))).1
  have eR : ∀ a i, Slo h a i → g_R ν a = g_R μ a := by
    intro a i v
    rcases v with ⟨rfl, -⟩ | ⟨rfl, -⟩ | ⟨rfl, -⟩
    · exact e1
    · exact e2
    · exact e3
  have big : ∀ a i, Slo h a i → g_R μ a i ≠ 0 → StS μ (g_R μ a i) ∧ B ≤ g_R μ a i := fun a i v h0 => by
    rcases ok.1 a i v with z | ⟨z1, z2⟩
    · exact absurd z h0
    · exact ⟨z2, z1⟩
  have cv : ∀ a i ρ, Slo h a i → g_R μ a i ≠ 0 → StR μ (g_R μ a i) np kf ρ → StR ν (g_R μ a i) np kf ρ := fun a i ρ v h0 r => by
    obtain ⟨z1, z2⟩ := big a i v h0
    exact r.gr z1 g fun x hx => hS x (Or.inr (by obtain ⟨y1, y2⟩ := hx; omega))
  refine ⟨hs.gr g (hR h (by omega)), ⟨fun a i v => ?_, fun a i b j v1 v2 hne => by rw [eR a i v1, eR b j v2]; exact ok.2 a i b j v1 v2 hne⟩, ⟨by rw [v0]; exact w4, by rw [v0]; exact w5, hw, hi, fun i hi' => ?_, fun k hk => ?_⟩, hb, by have := g.1; omega⟩
  · rw [eR a i v]
    rcases ok.1 a i v with z | ⟨z1, z2⟩
    · exact Or.inl z
    · exact Or.inr ⟨z1, z2.gr g fun x hx => hR x (Or.inr (by obtain ⟨y1, y2⟩ := hx; omega))⟩
  · obtain ⟨q1, q2⟩ := hp i hi'
    have v : Slo h (h + 1) i := Or.inl ⟨rfl, by omega⟩
    rw [e1]
    exact ⟨q1, cv _ _ _ v q1 q2⟩
  · obtain ⟨q1, q2, q3, q4, q5⟩ := hm k hk
    rw [e1, e2, e3, v4]
    refine ⟨q1, cv _ _ _ (Or.inr (Or.inl ⟨rfl, by omega⟩)) q1 q2, q3, q4, fun i hi' => ?_⟩
    obtain ⟨p1, p2, p3⟩ := q5 i hi'
    exact ⟨p1, p2, cv _ _ _ (Or.inr (Or.inr ⟨rfl, by omega⟩)) p2 p3⟩
/-- a STATE put into a place -/
theorem X2_put {μ : Mem} {h B a i t np : Nat} {kf ρ : Nat → Int32} (hs : HisS μ h) (ok : SlOk μ h B) (hb : h + 5 ≤ B) (hB : B ≤ g_n μ + 1) (v : Slo h a i) (ts : StS μ t) (r : StR μ t np kf ρ) (hsrc : t + 34 ≤ B) (hta : ∀ x, inSt t x → x ≠ a) :
    ∃ (s : Nat) (μ1 μ2 : Mem), LX2_slot a (nI i) μ = some (s, μ1) ∧ isK μ1 s 8 = true ∧ LX8_copyFrom s t μ1 = some ((), μ2) ∧ Grow 1 (fun x => x = a) (fun x => B ≤ x) μ μ2 ∧ SlOk μ2 h B ∧ g_R μ2 a i ≠ 0 ∧ StR μ2 (g_R μ2 a i) np kf ρ ∧
      ∀ b j, Slo h b j → (b ≠ a ∨ j ≠ i) → g_R μ2 b j = g_R μ b j ∧ ∀ (np' : Nat) (kf' ρ' : Nat → Int32), g_R μ b j ≠ 0 → StR μ (g_R μ b j) np' kf' ρ' → StR μ2 (g_R μ b j) np' kf' ρ' := by
  obtain ⟨s, μ1, e1, g1, ok1, rs, sB, st, ro, -⟩ := X2_slot hs ok v hB hb
  have s0 : g_R μ1 a i ≠ 0 := by omega
  have hs1 : HisS μ1 h := hs.gr g1 (by have := (v.row hs).2.2.2.2; omega)
  have ts1 : StS μ1 t := ts.gr g1 fun x hx => hta x hx
  have r1 : StR μ1 t np kf ρ := r.gr ts g1 fun x hx z => z
  obtain ⟨μ2, e2, o2, b2, r2, oth⟩ := X2_cp ok1 v s0 ts1 r1 (Or.inl hsrc)
  rw [rs] at e2 o2 r2 b2
  have g2 : Grow 0 (fun x => x = a) (fun x => B ≤ x) μ1 μ2 := (o2.mo fun x hx => by obtain ⟨y1, y2⟩ := hx; exact Nat.le_trans b2 y1).gr
  have eR := sh_gR o2.1
  refine ⟨s, μ1, μ2, e1, st.1, e2, (g1.mo (Nat.le_refl _) (fun _ _ z => z) (fun _ _ z => z.elim)).tr g2 (Nat.le_refl _), ok1.sh o2.1, by rw [eR]; exact s0, by rw [eR, rs]; exact r2, fun b j vb hne => ?_⟩
  rw [eR, ro b j vb hne]
  refine ⟨rfl, fun np' kf' ρ' h0 rr => ?_⟩
  have := oth b j vb hne np' kf' ρ' (by rw [ro b j vb hne]; exact h0)
  rw [ro b j vb hne] at this
  rcases ok.1 b j vb with z | ⟨z1, z2⟩
  · exact absurd z h0
  · exact this (rr.gr z2 g1 fun _ _ z => z)
