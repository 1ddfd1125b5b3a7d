/-! ===== HISTORY of the class: kept, taken back, imaged, given back ===== -/
def up {α : Type} (f : Nat → α) (i : Nat) (v : α) : Nat → α := fun a => if a = i then v else f a
theorem up_s {α : Type} {f : Nat → α} {i : Nat} {v : α} : up f i v i = v := if_pos rfl
theorem up_o {α : Type} {f : Nat → α} {i a : Nat} {v : α} (h : a ≠ i) : up f i v a = f a := if_neg h
/-- what HISTORY's methods change -/
def SRh (h : Nat) : Nat → Prop := fun x => h < x ∧ x < h + 4
def Sh4 (h B : Nat) : Nat → Prop := fun x => x = h ∨ x = h + 4 ∨ B ≤ x
theorem X2_keep {μ : Mem} {h B np s : Nat} {kf ρ : Nat → Int32} {t : HisT} (hh : His μ h B np kf t) (hw : t.1 < 16) (ts : StS μ s) (r : StR μ s np kf ρ) (hsB : s + 34 ≤ B) (hsh : s + 34 ≤ h ∨ h + 5 ≤ s) :
    ∃ μ' : Mem, LX2_keep h s μ = some ((), μ') ∧ Grow 1 (SRh h) (Sh4 h B) μ μ' ∧ His μ' h B np kf (t.1 + 1, up t.2.1 t.1 ρ, t.2.2) := by
  obtain ⟨hs, ok, ⟨w4, w5, hw16, hi, hp, hm⟩, hb, hB⟩ := hh
  have v : Slo h (h + 1) t.1 := Or.inl ⟨rfl, hw⟩
  obtain ⟨a, μ1, μ2, e1, k1, e2, g2, ok2, n2, r2, oth⟩ := X2_put hs ok hb hB v ts r hsB (fun x hx => by obtain ⟨y1, y2⟩ := hx; omega)
  unfold LX2_keep
  rw [if_pos hs.1, if_pos ts.1, hs.2.1, if_pos (isK_p hs.2.2.2.2.2.1), w4, e1, ob, if_pos k1, e2, ob]
  have hs2 : HisS μ2 h := hs.gr g2 (by omega)
  have i2 : ∀ b, g_I μ2 h b = g_I μ h b := fun b => by rw [(g2.V hs.1 (by omega)).1]
  have i4 : g_I μ2 (h + 4) = g_I μ (h + 4) := (g2.V hs.2.2.2.2.2.2.2.2.1 (by omega)).1
  rw [i2, w4, ← nI_succ]
  have o3 : Out (fun x => x = h) μ2 (p_I μ2 h 4 (nI (t.1 + 1))) := (Out.rf (S := fun x => x = h)).pI rfl
  have cv : ∀ (b : Nat) (ρ' : Nat → Int32), B ≤ b → StR μ2 b np kf ρ' → StR (p_I μ2 h 4 (nI (t.1 + 1))) b np kf ρ' := fun b ρ' h1 rr => rr.fr fun x hx => o3.2 x (by obtain ⟨y1, y2⟩ := hx; omega)
  have big : ∀ a i, Slo h a i → g_R μ2 a i ≠ 0 → B ≤ g_R μ2 a i := fun a i v h0 => by
    rcases ok2.1 a i v with z | ⟨z1, z2⟩
    · exact absurd z h0
    · exact z1
  refine ⟨_, rfl, (g2.mo (Nat.le_refl 1) (fun x _ hx => ⟨by omega, by omega⟩) (fun x _ hx => Or.inr (Or.inr hx))).tr ((o3.mo fun x hx => Or.inl hx).gr) (Nat.le_refl 1), hs2.sh o3.1, ok2.sh o3.1, ⟨gI_s, ?_, by show t.1 + 1 ≤ 16; omega, hi, fun i hi' => ?_, fun k hk => ?_⟩, hb, by have := g2.1; show B ≤ g_n μ2 + 1; omega⟩
  · rw [gI_k (by decide), i2]; exact w5
  · show g_R μ2 (h + 1) i ≠ 0 ∧ StR _ (g_R μ2 (h + 1) i) np kf (up t.2.1 t.1 ρ i)
    by_cases e : i = t.1
    · rw [e, up_s]
      exact ⟨n2, cv _ _ (big _ _ v n2) r2⟩
    · have hi2 : i < t.1 := by have : i < t.1 + 1 := hi'; omega
      obtain ⟨q1, q2⟩ := hp i hi2
      have vi : Slo h (h + 1) i := Or.inl ⟨rfl, by omega⟩
      obtain ⟨p1, p2⟩ := oth (h + 1) i vi (Or.inr e)
      rw [up_o e, p1]
      exact ⟨q1, cv _ _ (by rw [← p1]; exact big _ _ vi (by rw [p1]; exact q1)) (p2 _ _ _ q1 q2)⟩
  · obtain ⟨q1, q2, q3, q4, q5⟩ := hm k hk
    have v2 : Slo h (h + 2) k := Or.inr (Or.inl ⟨rfl, by show k < 3; have : k < t.2.2.1 := hk; omega⟩)
    obtain ⟨p1, p2⟩ := oth (h + 2) k v2 (Or.inl (by omega))
    show g_R μ2 (h + 2) k ≠ 0 ∧ StR _ (g_R μ2 (h + 2) k) np kf _ ∧ g_I (p_I μ2 h 4 (nI (t.1 + 1))) (h + 4) k = _ ∧ _ ∧ ∀ i, i < t.2.2.2.2.1 k → g_R μ2 (h + 1) i ≠ 0 ∧ g_R μ2 (h + 3) (16 * k + i) ≠ 0 ∧ StR _ (g_R μ2 (h + 3) (16 * k + i)) np kf _
    rw [p1]
    refine ⟨q1, cv _ _ (by rw [← p1]; exact big _ _ v2 (by rw [p1]; exact q1)) (p2 _ _ _ q1 q2), by rw [gI_h (by omega), i4]; exact q3, q4, fun i hi' => ?_⟩
    obtain ⟨z1, z2, z3⟩ := q5 i hi'
    have v3 : Slo h (h + 3) (16 * k + i) := Or.inr (Or.inr ⟨rfl, by have : k < t.2.2.1 := hk; have : i < t.2.2.2.2.1 k := hi'; omega⟩)
    obtain ⟨y1, y2⟩ := oth (h + 3) (16 * k + i) v3 (Or.inl (by omega))
    rw [y1]
    refine ⟨?_, z2, cv _ _ (by rw [← y1]; exact big _ _ v3 (by rw [y1]; exact z2)) (y2 _ _ _ z2 z3)⟩
    by_cases e : i = t.1
    · rw [e]; exact n2
    · rw [(oth (h + 1) i (Or.inl ⟨rfl, by have : i < t.2.2.2.2.1 k := hi'; omega⟩) (Or.inr e)).1]; exact z1
/-- one of HISTORY's STATES copied into a STATE outside -/
theorem X2_get {μ : Mem} {h B a i s np : Nat} {kf ρ : Nat → Int32} (ok : SlOk μ h B) (v : Slo h a i) (h0 : g_R μ a i ≠ 0) (ts : StS μ s) (r : StR μ (g_R μ a i) np kf ρ) (hsB : s + 34 ≤ B) : ∃ μ' : Mem, LX8_copyFrom s (g_R μ a i) μ = some ((), μ') ∧ Out (inSt s) μ μ' ∧ StR μ' s np kf ρ := by
  rcases ok.1 a i v with z | ⟨z1, z2⟩
  · exact absurd z h0
  · exact X8_copyFrom ts z2 r (by omega)
theorem X2_takeBack {μ : Mem} {h B np s : Nat} {kf : Nat → Int32} {t : HisT} (hh : His μ h B np kf t) {w : Nat} (hw : t.1 = w + 1) (ts : StS μ s) (hsB : s + 34 ≤ B) (hsh : s + 34 ≤ h ∨ h + 5 ≤ s) :
    ∃ μ' : Mem, LX2_takeBack h s μ = some ((), μ') ∧ Out (fun x => x = h ∨ inSt s x) μ μ' ∧ His μ' h B np kf (w, t.2) ∧ StR μ' s np kf (t.2.1 w) := by
  obtain ⟨hs, ok, ⟨w4, w5, hw16, hi, hp, hm⟩, hb, hB⟩ := id hh
  have v : Slo h (h + 1) w := Or.inl ⟨rfl, by omega⟩
  obtain ⟨q1, q2⟩ := hp w (by omega)
  unfold LX2_takeBack
  have e4 : g_I μ h 4 - 1 = nI w := by rw [w4, hw]; exact nI_pred _
  rw [if_pos hs.1, if_pos ts.1, hs.2.1, if_pos (isK_p hs.2.2.2.2.2.1), e4, gI_s]
  obtain ⟨ν, hν⟩ : ∃ ν, ν = p_I μ h 4 (nI w) := ⟨_, rfl⟩
  rw [← hν]
  have o1 : Out (fun x => x = h) μ ν := by rw [hν]; exact (Out.rf (S := fun x => x = h)).pI rfl
  have h1 : His ν h B np kf (w, t.2) := by
    have big : ∀ a i, Slo h a i → g_R μ a i ≠ 0 → B ≤ g_R μ a i := fun a i v h0 => by
      rcases ok.1 a i v with z | ⟨z1, z2⟩
      · exact absurd z h0
      · exact z1
    have cv : ∀ (b : Nat) (ρ' : Nat → Int32), B ≤ b → StR μ b np kf ρ' → StR ν b np kf ρ' := fun b ρ' h1 rr => rr.fr fun x hx => o1.2 x (by obtain ⟨y1, y2⟩ := hx; omega)
    have eR : g_R ν = g_R μ := sh_gR o1.1
    refine ⟨hs.sh o1.1, ok.sh o1.1, ⟨by rw [hν, gI_s], by rw [hν, gI_k (by decide)]; exact w5, by show w ≤ 16; omega, hi, fun i hi' => ?_, fun k hk => ?_⟩, hb, by rw [sh_gn o1.1]; exact hB⟩
    · rw [eR]
      obtain ⟨z1, z2⟩ := hp i (by have : i < w := hi'; omega)
      exact ⟨z1, cv _ _ (big _ _ (Or.inl ⟨rfl, by have : i < w := hi'; omega⟩) z1) z2⟩
    · have hk' : k < t.2.2.1 := hk
      obtain ⟨z1, z2, z3, z4, z5⟩ := hm k hk
      rw [eR]
      refine ⟨z1, cv _ _ (big _ _ (Or.inr (Or.inl ⟨rfl, by omega⟩)) z1) z2, by rw [hν, gI_h (by omega)]; exact z3, z4, fun i hi' => ?_⟩
      obtain ⟨y1, y2, y3⟩ := z5 i hi'
      have hi2 : i < t.2.2.2.2.1 k := hi'
      exact ⟨y1, y2, cv _ _ (big _ _ (Or.inr (Or.inr ⟨rfl, by omega⟩)) y2) y3⟩
  have ts1 : StS ν s := ts.sh o1.1
  have eR : g_R ν = g_R μ := sh_gR o1.1
  rw [X2_slotE h1.1 v (by rw [eR]; exact q1), ob]
  have q2' : StR ν (g_R ν (h + 1) w) np kf (t.2.1 w) := by
    rw [eR]
    rcases ok.1 _ _ v with z | ⟨z1, z2⟩
    · exact absurd z q1
    · exact q2.fr fun x hx => o1.2 x (by obtain ⟨y1, y2⟩ := hx; omega)
  obtain ⟨μ', e2, o2, r2⟩ := X2_get h1.2.1 v (by rw [eR]; exact q1) ts1 q2' hsB
  rw [e2, ob]
  refine ⟨μ', rfl, (o1.mo fun x hx => Or.inl hx).tr (o2.mo fun x hx => Or.inr hx), h1.fr (n := 0) (SR := fun _ => False) o2.gr (fun _ _ z => z) (fun a ha hx => by obtain ⟨y1, y2⟩ := hx; omega), r2⟩
