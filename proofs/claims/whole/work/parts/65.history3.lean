/-! ===== HISTORY of the class: IMAGES ===== -/
/-- what lies in HISTORY's places -/
def HisD (μ : Mem) (h np : Nat) (kf : Nat → Int32) (t : HisT) : Prop := (∀ i, i < t.1 → i < 16 ∧ g_R μ (h + 1) i ≠ 0 ∧ StR μ (g_R μ (h + 1) i) np kf (t.2.1 i)) ∧
  ∀ k, k < t.2.2.1 → k < 3 ∧ g_R μ (h + 2) k ≠ 0 ∧ StR μ (g_R μ (h + 2) k) np kf (t.2.2.2.1 k) ∧ ∀ i, i < t.2.2.2.2.1 k → i < 16 ∧ g_R μ (h + 1) i ≠ 0 ∧ g_R μ (h + 3) (16 * k + i) ≠ 0 ∧ StR μ (g_R μ (h + 3) (16 * k + i)) np kf (t.2.2.2.2.2 k i)
theorem HisR.d {μ : Mem} {h np : Nat} {kf : Nat → Int32} {t : HisT} (r : HisR μ h np kf t) : HisD μ h np kf t := by
  obtain ⟨w4, w5, hw, hi, hp, hm⟩ := r
  refine ⟨fun i hi' => ⟨by omega, hp i hi'⟩, fun k hk => ?_⟩
  obtain ⟨q1, q2, q3, q4, q5⟩ := hm k hk
  exact ⟨by omega, q1, q2, fun i hi' => ⟨by omega, q5 i hi'⟩⟩
/-- all places but (a, i) are as they were -/
def Oth (h a i : Nat) (μ ν : Mem) : Prop := ∀ b j, Slo h b j → (b ≠ a ∨ j ≠ i) → g_R ν b j = g_R μ b j ∧ ∀ (np' : Nat) (kf' ρ' : Nat → Int32), g_R μ b j ≠ 0 → StR μ (g_R μ b j) np' kf' ρ' → StR ν (g_R μ b j) np' kf' ρ'
theorem HisD.put {μ ν : Mem} {h np a i : Nat} {kf ρ : Nat → Int32} {t t' : HisT} (d : HisD μ h np kf t) (o : Oth h a i μ ν) (h0 : g_R ν a i ≠ 0) (rr : StR ν (g_R ν a i) np kf ρ)
    (hp : ∀ j, j < t'.1 → j < 16 ∧ ((a = h + 1 ∧ i = j ∧ t'.2.1 j = ρ) ∨ (j < t.1 ∧ t'.2.1 j = t.2.1 j ∧ (a ≠ h + 1 ∨ i ≠ j))))
    (hm : ∀ k, k < t'.2.2.1 → k < 3 ∧ ((a = h + 2 ∧ i = k ∧ t'.2.2.2.1 k = ρ) ∨ (k < t.2.2.1 ∧ t'.2.2.2.1 k = t.2.2.2.1 k ∧ (a ≠ h + 2 ∨ i ≠ k))) ∧ ∀ j, j < t'.2.2.2.2.1 k → j < 16 ∧ ((a = h + 1 ∧ i = j) ∨ g_R μ (h + 1) j ≠ 0) ∧ ((a = h + 3 ∧ i = 16 * k + j ∧ t'.2.2.2.2.2 k j = ρ) ∨ (k < t.2.2.1 ∧ j < t.2.2.2.2.1 k ∧ t'.2.2.2.2.2 k j = t.2.2.2.2.2 k j ∧ (a ≠ h + 3 ∨ i ≠ 16 * k + j)))) : HisD ν h np kf t' := by
  refine ⟨fun j hj => ?_, fun k hk => ?_⟩
  · obtain ⟨j16, c⟩ := hp j hj
    refine ⟨j16, ?_⟩
    rcases c with ⟨rfl, rfl, e⟩ | ⟨e1, e2, e3⟩
    · rw [e]; exact ⟨h0, rr⟩
    · obtain ⟨-, q1, q2⟩ := d.1 j e1
      obtain ⟨p1, p2⟩ := o (h + 1) j (Or.inl ⟨rfl, j16⟩) (by omega)
      rw [p1, e2]
      exact ⟨q1, p2 _ _ _ q1 q2⟩
  · obtain ⟨k3, c, cj⟩ := hm k hk
    refine ⟨k3, ?_, ?_, fun j hj => ?_⟩
    · rcases c with ⟨rfl, rfl, e⟩ | ⟨e1, e2, e3⟩
      · exact h0
      · obtain ⟨-, q1, q2, -⟩ := d.2 k e1
        rw [(o (h + 2) k (Or.inr (Or.inl ⟨rfl, k3⟩)) (by omega)).1]
        exact q1
    · rcases c with ⟨rfl, rfl, e⟩ | ⟨e1, e2, e3⟩
      · rw [e]; exact rr
      · obtain ⟨-, q1, q2, -⟩ := d.2 k e1
        obtain ⟨p1, p2⟩ := o (h + 2) k (Or.inr (Or.inl ⟨rfl, k3⟩)) (by omega)
        rw [p1, e2]
        exact p2 _ _ _ q1 q2
    · obtain ⟨j16, c1, c2⟩ := cj j hj
      refine ⟨j16, ?_, ?_⟩
      · by_cases e : a = h + 1 ∧ i = j
        · obtain ⟨rfl, rfl⟩ := e; exact h0
        · rw [(o (h + 1) j (Or.inl ⟨rfl, j16⟩) (by omega)).1]
          rcases c1 with z | z
          · exact absurd z e
          · exact z
      · rcases c2 with ⟨rfl, rfl, e⟩ | ⟨e1, e2, e3, e4⟩
        · rw [e]; exact ⟨h0, rr⟩
        · obtain ⟨-, -, -, q⟩ := d.2 k e1
          obtain ⟨-, -, q1, q2⟩ := q j e2
          obtain ⟨p1, p2⟩ := o (h + 3) (16 * k + j) (Or.inr (Or.inr ⟨rfl, by omega⟩)) (by omega)
          rw [p1, e3]
          exact ⟨q1, p2 _ _ _ q1 q2⟩
theorem HisD.oI {μ ν : Mem} {h B np : Nat} {kf : Nat → Int32} {t : HisT} (d : HisD μ h np kf t) (ok : SlOk μ h B) (o : Out (fun x => x < B) μ ν) : HisD ν h np kf t := by
  have eR : g_R ν = g_R μ := sh_gR o.1
  have cv : ∀ a i (ρ' : Nat → Int32), Slo h a i → g_R μ a i ≠ 0 → StR μ (g_R μ a i) np kf ρ' → StR ν (g_R μ a i) np kf ρ' := fun a i ρ' v h0 rr => by
    rcases ok.1 a i v with z | ⟨z1, z2⟩
    · exact absurd z h0
    · exact rr.fr fun x hx => o.2 x (by obtain ⟨y1, y2⟩ := hx; omega)
  unfold HisD
  rw [eR]
  refine ⟨fun i hi => ?_, fun k hk => ?_⟩
  · obtain ⟨a1, a2, a3⟩ := d.1 i hi
    exact ⟨a1, a2, cv _ _ _ (Or.inl ⟨rfl, a1⟩) a2 a3⟩
  · obtain ⟨a1, a2, a3, a4⟩ := d.2 k hk
    refine ⟨a1, a2, cv _ _ _ (Or.inr (Or.inl ⟨rfl, a1⟩)) a2 a3, fun i hi => ?_⟩
    obtain ⟨b1, b2, b3, b4⟩ := a4 i hi
    exact ⟨b1, b2, b3, cv _ _ _ (Or.inr (Or.inr ⟨rfl, by omega⟩)) b3 b4⟩
/-- a STATE put from one place into another -/
theorem X2_put2 {μ : Mem} {h B a i c k np : Nat} {kf ρ : Nat → Int32} (hs : HisS μ h) (ok : SlOk μ h B) (hb : h + 5 ≤ B) (hB : B ≤ g_n μ + 1) (v : Slo h a i) (w : Slo h c k) (hne : c ≠ a ∨ k ≠ i) (h0 : g_R μ c k ≠ 0) (r : StR μ (g_R μ c k) np kf ρ) :
    ∃ (s : Nat) (μ1 μ2 : Mem), LX2_slot a (nI i) μ = some (s, μ1) ∧ isK μ1 s 8 = true ∧ g_R μ1 h = g_R μ h ∧ LX2_slot c (nI k) μ1 = some (g_R μ c k, μ1) ∧ LX8_copyFrom s (g_R μ c k) μ1 = some ((), μ2) ∧ Grow 1 (fun x => x = a) (fun x => B ≤ x) μ μ2 ∧ SlOk μ2 h B ∧ g_R μ2 a i ≠ 0 ∧ StR μ2 (g_R μ2 a i) np kf ρ ∧ Oth h a i μ μ2 := by
  obtain ⟨s, μ1, e1, g1, ok1, rs, sB, st, ro, -⟩ := X2_slot hs ok v hB hb
  have s0 : g_R μ1 a i ≠ 0 := by omega
  have ha := (v.row hs).2.2.2.2
  have hs1 : HisS μ1 h := hs.gr g1 (by omega)
  have ck := ro c k w hne
  have h0' : g_R μ1 c k ≠ 0 := by rw [ck]; exact h0
  have e2 := X2_slotE hs1 w h0'
  rw [ck] at e2
  have ts : StS μ1 (g_R μ c k) ∧ StS μ (g_R μ c k) := by
    refine ⟨?_, ?_⟩
    · rcases ok1.1 c k w with z | ⟨z1, z2⟩
      · exact absurd z h0'
      · rw [ck] at z2; exact z2
    · rcases ok.1 c k w with z | ⟨z1, z2⟩
      · exact absurd z h0
      · exact z2
  have r1 : StR μ1 (g_R μ c k) np kf ρ := r.gr ts.2 g1 fun x hx z => z
  obtain ⟨μ2, e3, o2, b2, r2, oth⟩ := X2_cp ok1 v s0 ts.1 r1 (Or.inr ⟨c, k, w, hne, ck⟩)
  rw [rs] at e3 o2 r2 b2
  have g2 : Grow 0 (fun x => x = a) (fun x => B ≤ x) μ1 μ2 := (o2.mo fun x hx => by obtain ⟨y1, y2⟩ := hx; exact Nat.le_trans b2 y1).gr
  have eR := sh_gR o2.1
  refine ⟨s, μ1, μ2, e1, st.1, g1.R hs.1 (by omega), e2, e3, (g1.mo (Nat.le_refl _) (fun _ _ z => z) (fun _ _ z => z.elim)).tr g2 (Nat.le_refl _), ok1.sh o2.1, by rw [eR]; exact s0, by rw [eR, rs]; exact r2, fun b j vb hne => ?_⟩
  rw [eR, ro b j vb hne]
  refine ⟨rfl, fun np' kf' ρ' h0 rr => ?_⟩
  have := oth b j vb hne np' kf' ρ' (by rw [ro b j vb hne]; exact h0)
  rw [ro b j vb hne] at this
  rcases ok.1 b j vb with z | ⟨z1, z2⟩
  · exact absurd z h0
  · exact this (rr.gr z2 g1 fun _ _ z => z)
theorem X2_imageL {h B np w m : Nat} {kf ρ : Nat → Int32} {past im : Nat → Nat → Int32} {iw : Nat → Nat} {ip : Nat → Nat → Nat → Int32} (hb : h + 5 ≤ B) (hw : w ≤ 16) (hm : m < 3) (hiw : ∀ k, k < m → iw k ≤ 16) : ∀ (f j fu : Nat) (μ : Mem), HisS μ h → SlOk μ h B → B ≤ g_n μ + 1 → g_I μ h 4 = nI w → g_I μ h 5 = nI m → HisD μ h np kf (w, past, m + 1, up im m ρ, up iw m j, up ip m past) → f + j = w → f < fu →
    ∃ μ' : Mem, mX2_takeImage_30 fu h (nI j) μ = some ((), μ') ∧ Grow f (SRh h) (fun x => x = h ∨ B ≤ x) μ μ' ∧ HisS μ' h ∧ SlOk μ' h B ∧ B ≤ g_n μ' + 1 ∧ g_I μ' h 4 = nI w ∧ g_I μ' h 5 = nI (m + 1) ∧ HisD μ' h np kf (w, past, m + 1, up im m ρ, up iw m w, up ip m past) := by
  intro f
  induction f with
  | zero =>
    intro j fu μ hs ok hB i4 i5 d hj hf
    obtain ⟨fu, rfl⟩ : ∃ q, fu = q + 1 := ⟨fu - 1, by omega⟩
    rw [mX2_takeImage_30, i4, if_pos (nI_le (by omega) (by omega)), i5, ← nI_succ]
    have o : Out (fun x => x = h) μ (p_I μ h 5 (nI (m + 1))) := (Out.rf (S := fun x => x = h)).pI rfl
    have hj : j = w := by omega
    rw [hj] at d
    exact ⟨_, rfl, (o.mo fun x hx => Or.inl hx).gr, hs.sh o.1, ok.sh o.1, hB, by rw [gI_k (by decide)]; exact i4, gI_s, d.oI ok (o.mo fun x hx => by omega)⟩
  | succ f ih =>
    intro j fu μ hs ok hB i4 i5 d hj hf
    obtain ⟨fu, rfl⟩ : ∃ q, fu = q + 1 := ⟨fu - 1, by omega⟩
    obtain ⟨-, q0, q1⟩ := d.1 j (show j < w by omega)
    obtain ⟨s, μ1, μ2, e1, k1, r1, e2, e3, g2, ok2, n2, r2, o2⟩ := X2_put2 (a := h + 3) (i := 16 * m + j) (c := h + 1) (k := j) hs ok hb hB (Or.inr (Or.inr ⟨rfl, by omega⟩)) (Or.inl ⟨rfl, by omega⟩) (Or.inl (by omega)) q0 q1
    rw [mX2_takeImage_30, i4, if_neg (nI_ge (by omega) (by omega)), hs.2.2.2.1, if_pos (isK_p hs.2.2.2.2.2.2.2.1), i5, show (16 : Int32) = nI 16 from rfl, nI_mul, nI_add, Nat.mul_comm m 16, e1, ob, r1, hs.2.1, if_pos (isK_p hs.2.2.2.2.2.1), e2, ob, if_pos k1, e3, ob, ← nI_succ]
    have hs2 : HisS μ2 h := hs.gr g2 (by omega)
    have v2 := (g2.V hs.1 (by omega)).1
    obtain ⟨μ', e4, g3, hs3, ok3, hB3, i43, i53, d3⟩ := ih (j + 1) fu μ2 hs2 ok2 (by have := g2.1; omega) (by rw [v2]; exact i4) (by rw [v2]; exact i5) (d.put (t' := (w, past, m + 1, up im m ρ, up iw m (j + 1), up ip m past)) o2 n2 r2 (fun i hi => ⟨(d.1 i hi).1, Or.inr ⟨hi, rfl, Or.inl (by omega)⟩⟩) (fun k hk => by
      obtain ⟨d1, d2, d3, d4⟩ := d.2 k hk
      refine ⟨d1, Or.inr ⟨hk, rfl, Or.inl (by omega)⟩, fun i hi => ?_⟩
      by_cases ek : k = m
      · subst ek
        have hi' : i < up iw k (j + 1) k := hi
        rw [up_s] at hi'
        have hiw : i < w := by omega
        refine ⟨by omega, Or.inr (d.1 i hiw).2.1, ?_⟩
        show (_ ∧ _ ∧ up ip k past k i = _) ∨ (k < k + 1 ∧ i < up iw k j k ∧ up ip k past k i = up ip k past k i ∧ _)
        rw [up_s, up_s]
        by_cases ei : i = j
        · rw [ei]; exact Or.inl ⟨rfl, rfl, rfl⟩
        · exact Or.inr ⟨Nat.lt_succ_self _, by omega, rfl, Or.inr (by omega)⟩
      · have hi' : i < up iw m (j + 1) k := hi
        rw [up_o ek] at hi'
        have hi2 : i < up iw m j k := by rw [up_o ek]; exact hi'
        obtain ⟨f1, f2, f3, f4⟩ := d4 i hi2
        exact ⟨f1, Or.inr f2, Or.inr ⟨hk, hi2, rfl, Or.inr (by omega)⟩⟩)) (by omega) (by omega)
    exact ⟨μ', e4, (g2.mo (Nat.le_refl 1) (fun x _ hx => ⟨by omega, by omega⟩) (fun x _ hx => Or.inr hx)).tr g3 (by omega), hs3, ok3, hB3, i43, i53, d3⟩
