/-! ===== HISTORY of the class: places for STATES, made when first needed ===== -/
def HisS (μ : Mem) (h : Nat) : Prop := isK μ h 2 = true ∧ g_R μ h 0 = h + 1 ∧ g_R μ h 1 = h + 2 ∧ g_R μ h 2 = h + 3 ∧ g_R μ h 3 = h + 4 ∧ isK μ (h + 1) 18 = true ∧ isK μ (h + 2) 18 = true ∧ isK μ (h + 3) 18 = true ∧ isK μ (h + 4) 15 = true ∧ g_N μ (h + 1) = 16 ∧ g_N μ (h + 2) = 3 ∧ g_N μ (h + 3) = 48 ∧ g_N μ (h + 4) = 3
theorem HisS.gr {n : Nat} {SR S : Nat → Prop} {μ ν : Mem} {h : Nat} (s : HisS μ h) (g : Grow n SR S μ ν) (hs : ¬ SR h) : HisS ν h := by
  obtain ⟨k0, r0, r1, r2, r3, k1, k2, k3, k4, n1, n2, n3, n4⟩ := s
  have e := g.R k0 hs
  exact ⟨g.k k0, by rw [e]; exact r0, by rw [e]; exact r1, by rw [e]; exact r2, by rw [e]; exact r3, g.k k1, g.k k2, g.k k3, g.k k4, by rw [g.N k1]; exact n1, by rw [g.N k2]; exact n2, by rw [g.N k3]; exact n3, by rw [g.N k4]; exact n4⟩
/-- the place i of the row a is one of HISTORY's -/
def Slo (h a i : Nat) : Prop := (a = h + 1 ∧ i < 16) ∨ (a = h + 2 ∧ i < 3) ∨ (a = h + 3 ∧ i < 48)
theorem Slo.row {μ : Mem} {h a i : Nat} (v : Slo h a i) (s : HisS μ h) : isK μ a 18 = true ∧ i < g_N μ a ∧ g_N μ a < 2147483648 ∧ i < 48 ∧ h < a ∧ a < h + 4 := by
  obtain ⟨k0, r0, r1, r2, r3, k1, k2, k3, k4, n1, n2, n3, n4⟩ := s
  rcases v with ⟨rfl, hi⟩ | ⟨rfl, hi⟩ | ⟨rfl, hi⟩
  · exact ⟨k1, by omega, by omega, by omega, by omega, by omega⟩
  · exact ⟨k2, by omega, by omega, by omega, by omega, by omega⟩
  · exact ⟨k3, by omega, by omega, by omega, by omega, by omega⟩
/-- what lies in the places: nothing, or a STATE of its own, from B on -/
def SlOk (μ : Mem) (h B : Nat) : Prop := (∀ a i, Slo h a i → g_R μ a i = 0 ∨ (B ≤ g_R μ a i ∧ StS μ (g_R μ a i))) ∧ ∀ a i b j, Slo h a i → Slo h b j → (a ≠ b ∨ i ≠ j) → g_R μ a i = 0 ∨ g_R μ b j = 0 ∨ g_R μ a i + 34 ≤ g_R μ b j ∨ g_R μ b j + 34 ≤ g_R μ a i
theorem Grow.pR {n : Nat} {S : Nat → Prop} {μ : Mem} {a k v : Nat} : Grow n (fun x => x = a) S μ (p_R μ a k v) := ⟨Nat.le_refl _, Nat.le_add_right _ _, Nat.le_add_right _ _, fun b _ => ⟨rfl, rfl, fun hb => funext fun _ => if_neg hb, fun _ => ⟨rfl, rfl, rfl⟩⟩⟩
theorem Keep.gr {n : Nat} {SR S : Nat → Prop} {μ ν : Mem} (h : Keep (g_n μ) μ ν) (hc : g_c ν ≤ g_c μ + 34 * n) (hw : g_w ν ≤ g_w μ + 653 * n) : Grow n SR S μ ν := ⟨h.1, hc, hw, fun a ha => by
  obtain ⟨c1, c2, c3, c4, c5, c6⟩ := h.2 a ha
  exact ⟨c1, c2, fun _ => c3, fun _ => ⟨c4, c5, c6⟩⟩⟩
theorem StS.sepA {μ : Mem} {s a c : Nat} (t : StS μ s) (hk : isK μ a c = true) (hc : c = 18 ∨ c = 2) : ¬ inSt s a := by
  rintro ⟨h1, h2⟩
  obtain ⟨a0, a1, a2, a3, a5⟩ := t
  have no : ∀ b q, isK μ b q = true → q ≠ c → a ≠ b := by
    intro b q hb hq e
    subst e
    exact hq ((isK_iff.mp hb).2.2.symm.trans (isK_iff.mp hk).2.2)
  by_cases e0 : a = s
  · exact no _ _ a0 (by omega) e0
  by_cases e1 : a = s + 1
  · exact no _ _ a2 (by omega) e1
  have hp : (a - s - 2) / 4 < 8 := by omega
  obtain ⟨-, b0, -, -, -, b4, b5, b6, -⟩ := a5 _ hp
  have := no _ _ b0 (by omega)
  have := no _ _ b4 (by omega)
  have := no _ _ b5 (by omega)
  have := no _ _ b6 (by omega)
  omega
theorem X2_slot {μ : Mem} {h B a i : Nat} (hs : HisS μ h) (ok : SlOk μ h B) (v : Slo h a i) (hB : B ≤ g_n μ + 1) (hb : h + 5 ≤ B) : ∃ (s : Nat) (μ' : Mem), LX2_slot a (nI i) μ = some (s, μ') ∧ Grow 1 (fun x => x = a) (fun _ => False) μ μ' ∧ SlOk μ' h B ∧ g_R μ' a i = s ∧ B ≤ s ∧ StS μ' s ∧ (∀ b j, Slo h b j → (b ≠ a ∨ j ≠ i) → g_R μ' b j = g_R μ b j) ∧ (g_R μ a i ≠ 0 → μ' = μ) := by
  obtain ⟨ka, hi, hN, hi48, ha1, ha2⟩ := v.row hs
  have ci : (nI i).toNatClampNeg = i := nI_clamp (by omega)
  have hin : inA μ a 18 (nI i) = true := inA_n ka rfl hi hN
  unfold LX2_slot
  rw [if_pos ka, if_pos hin, ci]
  by_cases e : g_R μ a i = 0
  · rw [e, if_neg (Nat.lt_irrefl 0)]
    unfold mk
    rw [ob]
    obtain ⟨m1, e1⟩ : ∃ m1, m1 = p_new μ 8 0 5 := ⟨_, rfl⟩
    rw [← e1]
    have n1 : g_n m1 = g_n μ + 1 := by rw [e1]; rfl
    obtain ⟨m2, e2, st, n2, c2, w2, kp⟩ := X8_init (μ := m1) (s := g_n μ + 1) n1 (by rw [e1]; exact isK_new)
    rw [e2, ob]
    have kp1 : Keep (g_n μ) μ m1 := by rw [e1]; exact Keep.nw (Nat.le_refl _)
    have kp2 : Keep (g_n μ) μ m2 := kp1.tr (kp.le (by omega))
    have ka2 : isK m2 a 18 = true := kp2.k ka (isK_le ka)
    have haN : g_N m2 a = g_N μ a := (kp2.2 a (isK_le ka)).2.1
    rw [if_pos (show inA m2 a 18 (nI i) = true from inA_n ka2 haN hi hN), gR_s, if_pos (Nat.succ_pos _), if_pos (Nat.succ_pos _)]
    obtain ⟨m3, e3⟩ : ∃ m3, m3 = p_R m2 a i (g_n μ + 1) := ⟨_, rfl⟩
    rw [← e3]
    have g2 : Grow 1 (fun x => x = a) (fun _ => False) μ m2 := kp2.gr (by have : g_c m1 = g_c μ + 1 := by rw [e1]; rfl
                                                                          omega) (by have : g_w m1 = g_w μ + 5 := by rw [e1]; rfl
                                                                                     omega)
    have gp : Grow 0 (fun x => x = a) (fun _ => False) m2 m3 := by rw [e3]; exact Grow.pR
    have g3 := g2.tr gp (Nat.le_refl 1)
    have hale := isK_le ka
    have st3 : StS m3 (g_n μ + 1) := st.gr gp fun x hx z => by obtain ⟨y1, y2⟩ := hx; omega
    have r3 : g_R m3 a i = g_n μ + 1 := by rw [e3, gR_s]
    have ro : ∀ b j, Slo h b j → (b ≠ a ∨ j ≠ i) → g_R m3 b j = g_R μ b j := by
      intro b j vb hne
      have hb' := isK_le (vb.row hs).1
      rw [e3]
      by_cases eb : b = a
      · rw [eb, gR_k (by omega), (kp2.2 a hale).2.2.1]
      · rw [gR_h eb, (kp2.2 b hb').2.2.1]
    have so : ∀ b j, Slo h b j → g_R μ b j = 0 ∨ (B ≤ g_R μ b j ∧ StS m3 (g_R μ b j) ∧ g_R μ b j + 33 ≤ g_n μ) := by
      intro b j vb
      rcases ok.1 b j vb with z | ⟨z1, z2⟩
      · exact Or.inl z
      · exact Or.inr ⟨z1, z2.gr g3 (fun x hx z => by rw [z] at hx; exact z2.sepA ka (Or.inl rfl) hx), z2.le _ ⟨by omega, by omega⟩⟩
    refine ⟨g_n μ + 1, m3, rfl, g3, ⟨fun b j vb => ?_, fun b j c k vb vc hne => ?_⟩, r3, by omega, st3, ro, fun z => absurd rfl z⟩
    · by_cases ee : b ≠ a ∨ j ≠ i
      · rw [ro b j vb ee]
        rcases so b j vb with z | ⟨z1, z2, -⟩
        · exact Or.inl z
        · exact Or.inr ⟨z1, z2⟩
      · have e1 : b = a := by omega
        have e2 : j = i := by omega
        rw [e1, e2, r3]
        exact Or.inr ⟨by omega, st3⟩
    · by_cases ee : b ≠ a ∨ j ≠ i
      · rw [ro b j vb ee]
        by_cases ef : c ≠ a ∨ k ≠ i
        · rw [ro c k vc ef]
          exact ok.2 b j c k vb vc hne
        · have e1 : c = a := by omega
          have e2 : k = i := by omega
          rw [e1, e2, r3]
          rcases so b j vb with z | ⟨z1, z2, z3⟩
          · exact Or.inl z
          · exact Or.inr (Or.inr (Or.inl (by omega)))
      · have e1 : b = a := by omega
        have e2 : j = i := by omega
        rw [ro c k vc (by omega), e1, e2, r3]
        rcases so c k vc with z | ⟨z1, z2, z3⟩
        · exact Or.inr (Or.inl z)
        · exact Or.inr (Or.inr (Or.inr (by omega)))
  · have hp : 0 < g_R μ a i := Nat.pos_of_ne_zero e
    rw [if_pos hp, if_pos hp]
    rcases ok.1 a i v with z | ⟨z1, z2⟩
    · exact absurd z e
    · exact ⟨_, μ, rfl, Grow.rf, ok, rfl, z1, z2, fun _ _ _ _ => rfl, fun _ => rfl⟩
