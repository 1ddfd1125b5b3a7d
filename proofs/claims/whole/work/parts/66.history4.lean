/-! ===== HISTORY of the class: an IMAGE taken, given back ===== -/
/-- the IMAGES' WORKS -/
def HisW (μ : Mem) (h : Nat) (t : HisT) : Prop := t.1 ≤ 16 ∧ t.2.2.1 ≤ 3 ∧ ∀ k, k < t.2.2.1 → g_I μ (h + 4) k = nI (t.2.2.2.2.1 k) ∧ t.2.2.2.2.1 k ≤ 16
theorem HisR.w {μ : Mem} {h np : Nat} {kf : Nat → Int32} {t : HisT} (r : HisR μ h np kf t) : HisW μ h t := ⟨r.2.2.1, r.2.2.2.1, fun k hk => ⟨(r.2.2.2.2.2 k hk).2.2.1, (r.2.2.2.2.2 k hk).2.2.2.1⟩⟩
theorem HisD.r {μ : Mem} {h np : Nat} {kf : Nat → Int32} {t : HisT} (d : HisD μ h np kf t) (w : HisW μ h t) (i4 : g_I μ h 4 = nI t.1) (i5 : g_I μ h 5 = nI t.2.2.1) : HisR μ h np kf t := by
  refine ⟨i4, i5, w.1, w.2.1, fun i hi => (d.1 i hi).2, fun k hk => ?_⟩
  obtain ⟨d1, d2, d3, d4⟩ := d.2 k hk
  obtain ⟨w1, w2⟩ := w.2.2 k hk
  exact ⟨d2, d3, w1, w2, fun i hi => (d4 i hi).2⟩
theorem X2_takeImage {μ : Mem} {h B np s : Nat} {kf ρ : Nat → Int32} {t : HisT} (hh : His μ h B np kf t) (hm : t.2.2.1 < 3) (ts : StS μ s) (r : StR μ s np kf ρ) (hsB : s + 34 ≤ B) (hsh : s + 34 ≤ h ∨ h + 5 ≤ s) :
    ∃ μ' : Mem, LX2_takeImage h s μ = some ((), μ') ∧ Grow 17 (SRh h) (Sh4 h B) μ μ' ∧ His μ' h B np kf (t.1, t.2.1, t.2.2.1 + 1, up t.2.2.2.1 t.2.2.1 ρ, up t.2.2.2.2.1 t.2.2.1 t.1, up t.2.2.2.2.2 t.2.2.1 t.2.1) := by
  obtain ⟨hs, ok, rr, hb, hB⟩ := hh
  have hW := rr.w
  have d := rr.d
  have v : Slo h (h + 2) t.2.2.1 := Or.inr (Or.inl ⟨rfl, hm⟩)
  obtain ⟨a, μ1, μ2, e1, k1, e2, g2, ok2, n2, r2, oth⟩ := X2_put hs ok hb hB v ts r hsB (fun x hx => by obtain ⟨y1, y2⟩ := hx; omega)
  have hs2 : HisS μ2 h := hs.gr g2 (by omega)
  have i2 : ∀ b, g_I μ2 h b = g_I μ h b := fun b => by rw [(g2.V hs.1 (by omega)).1]
  have i24 : g_I μ2 (h + 4) = g_I μ (h + 4) := (g2.V hs.2.2.2.2.2.2.2.2.1 (by omega)).1
  unfold LX2_takeImage
  rw [if_pos hs.1, if_pos ts.1, hs.2.2.1, if_pos (isK_p hs.2.2.2.2.2.2.1), rr.2.1, e1, ob, if_pos k1, e2, ob, hs2.2.2.2.2.1, if_pos (isK_p hs2.2.2.2.2.2.2.2.2.1), i2, rr.2.1, if_pos (inA_n hs2.2.2.2.2.2.2.2.2.1 hs2.2.2.2.2.2.2.2.2.2.2.2.2 hm (by decide)), i2, rr.1, nI_clamp (show t.2.2.1 < 2147483648 by omega)]
  obtain ⟨ν, hν⟩ : ∃ ν, ν = p_I μ2 (h + 4) t.2.2.1 (nI t.1) := ⟨_, rfl⟩
  rw [← hν]
  have o3 : Out (fun x => x = h + 4) μ2 ν := by rw [hν]; exact (Out.rf (S := fun x => x = h + 4)).pI rfl
  have d2 : HisD μ2 h np kf (t.1, t.2.1, t.2.2.1 + 1, up t.2.2.2.1 t.2.2.1 ρ, up t.2.2.2.2.1 t.2.2.1 0, up t.2.2.2.2.2 t.2.2.1 t.2.1) := by
    refine d.put oth n2 r2 (fun j hj => ⟨(d.1 j hj).1, Or.inr ⟨hj, rfl, Or.inl (by omega)⟩⟩) (fun k hk => ?_)
    have hk' : k < t.2.2.1 + 1 := hk
    refine ⟨by omega, ?_, fun j hj => ?_⟩
    · by_cases e : k = t.2.2.1
      · rw [e]; exact Or.inl ⟨rfl, rfl, up_s⟩
      · exact Or.inr ⟨by omega, up_o e, Or.inr (by omega)⟩
    · by_cases e : k = t.2.2.1
      · have : j < up t.2.2.2.2.1 t.2.2.1 0 k := hj
        rw [e, up_s] at this
        exact absurd this (Nat.not_lt_zero _)
      · have hj' : j < up t.2.2.2.2.1 t.2.2.1 0 k := hj
        rw [up_o e] at hj'
        obtain ⟨-, -, -, f4⟩ := d.2 k (by omega)
        obtain ⟨y1, y2, y3, y4⟩ := f4 j hj'
        refine ⟨y1, Or.inr y2, Or.inr ⟨by omega, hj', ?_, Or.inl (by omega)⟩⟩
        show up t.2.2.2.2.2 t.2.2.1 t.2.1 k j = _
        rw [up_o e]
  obtain ⟨μ', e4, g4, hs4, ok4, hB4, i44, i45, d4⟩ := X2_imageL (h := h) (B := B) (np := np) (w := t.1) (m := t.2.2.1) (kf := kf) (ρ := ρ) (past := t.2.1) (im := t.2.2.2.1) (iw := t.2.2.2.2.1) (ip := t.2.2.2.2.2) hb hW.1 hm (fun k hk => (hW.2.2 k hk).2) t.1 0 100000 ν (hs2.sh o3.1) (ok2.sh o3.1) (by have := g2.1; rw [sh_gn o3.1]; omega) (by rw [(o3.2 h (by omega)).1, i2]; exact rr.1) (by rw [(o3.2 h (by omega)).1, i2]; exact rr.2.1) (d2.oI ok2 (o3.mo fun x hx => by omega)) rfl (by have := hW.1; omega)
  have e44 : g_I μ' (h + 4) = g_I ν (h + 4) := (g4.V (hs2.sh o3.1).2.2.2.2.2.2.2.2.1 (by omega)).1
  have gA : Grow 1 (SRh h) (Sh4 h B) μ ν := (g2.mo (Nat.le_refl 1) (fun x _ hx => ⟨by omega, by omega⟩) (fun x _ hx => Or.inr (Or.inr hx))).tr ((o3.mo fun x hx => Or.inr (Or.inl hx)).gr) (Nat.le_refl 1)
  refine ⟨μ', e4, gA.tr (g4.mo (Nat.le_refl _) (fun _ _ z => z) (fun x _ hx => hx.elim Or.inl fun z => Or.inr (Or.inr z))) (by have := hW.1; omega), hs4, ok4, d4.r ⟨hW.1, by show t.2.2.1 + 1 ≤ 3; omega, fun k hk => ?_⟩ i44 i45, hb, hB4⟩
  show g_I μ' (h + 4) k = nI (up t.2.2.2.2.1 t.2.2.1 t.1 k) ∧ up t.2.2.2.2.1 t.2.2.1 t.1 k ≤ 16
  rw [e44, hν]
  by_cases e : k = t.2.2.1
  · rw [e, up_s, gI_s]; exact ⟨rfl, hW.1⟩
  · rw [up_o e, gI_k e, i24]
    exact hW.2.2 k (by have : k < t.2.2.1 + 1 := hk; omega)
theorem X2_giveL {h B np m w : Nat} {kf : Nat → Int32} {im : Nat → Nat → Int32} {iw : Nat → Nat} {ip : Nat → Nat → Nat → Int32} (hb : h + 5 ≤ B) (hw : iw m = w) (hw16 : w ≤ 16) (hm : m < 3) : ∀ (f j fu : Nat) (μ : Mem), HisS μ h → SlOk μ h B → g_I μ h 4 = nI w → g_I μ h 5 = nI m → HisD μ h np kf (j, ip m, m + 1, im, iw, ip) → f + j = w → f < fu →
    ∃ μ' : Mem, mX2_giveBack_40 fu h (nI j) μ = some ((), μ') ∧ Out (fun x => B ≤ x) μ μ' ∧ HisD μ' h np kf (w, ip m, m + 1, im, iw, ip) := by
  intro f
  induction f with
  | zero =>
    intro j fu μ hs ok i4 i5 d hj hf
    obtain ⟨fu, rfl⟩ : ∃ q, fu = q + 1 := ⟨fu - 1, by omega⟩
    rw [mX2_giveBack_40, i4, if_pos (nI_le (by omega) (by omega))]
    have hj : j = w := by omega
    rw [hj] at d
    exact ⟨μ, rfl, Out.rf, d⟩
  | succ f ih =>
    intro j fu μ hs ok i4 i5 d hj hf
    obtain ⟨fu, rfl⟩ : ∃ q, fu = q + 1 := ⟨fu - 1, by omega⟩
    obtain ⟨-, -, -, dd⟩ := d.2 m (Nat.lt_succ_self m)
    obtain ⟨-, q1, q2, q3⟩ := dd j (show j < iw m by omega)
    have q2 : g_R μ (h + 3) (16 * m + j) ≠ 0 := q2
    have q3 : StR μ (g_R μ (h + 3) (16 * m + j)) np kf (ip m j) := q3
    have v1 : Slo h (h + 1) j := Or.inl ⟨rfl, by omega⟩
    have v3 : Slo h (h + 3) (16 * m + j) := Or.inr (Or.inr ⟨rfl, by omega⟩)
    have ts : StS μ (g_R μ (h + 3) (16 * m + j)) := by
      rcases ok.1 _ _ v3 with z | ⟨z1, z2⟩
      · exact absurd z q2
      · exact z2
    have k8 : isK μ (g_R μ (h + 1) j) 8 = true := by
      rcases ok.1 _ _ v1 with z | ⟨z1, z2⟩
      · exact absurd z q1
      · exact z2.1
    obtain ⟨μ2, e2, o2, b2, r2, oth⟩ := X2_cp ok v1 q1 ts q3 (Or.inr ⟨h + 3, 16 * m + j, v3, Or.inl (by omega), rfl⟩)
    rw [mX2_giveBack_40, i4, if_neg (nI_ge (by omega) (by omega)), hs.2.1, if_pos (isK_p hs.2.2.2.2.2.1), X2_slotE hs v1 q1, ob, hs.2.2.2.1, if_pos (isK_p hs.2.2.2.2.2.2.2.1), i5, show (16 : Int32) = nI 16 from rfl, nI_mul, nI_add, Nat.mul_comm m 16, X2_slotE hs v3 q2, ob, if_pos k8, e2, ob, ← nI_succ]
    have o2' : Out (fun x => B ≤ x) μ μ2 := o2.mo fun x hx => by obtain ⟨y1, y2⟩ := hx; exact Nat.le_trans b2 y1
    have eR := sh_gR o2.1
    have ot : Oth h (h + 1) j μ μ2 := fun b i vb hne => ⟨by rw [eR], oth b i vb hne⟩
    obtain ⟨μ', e3, o3, d3⟩ := ih (j + 1) fu μ2 (hs.sh o2.1) (ok.sh o2.1) (by rw [(o2'.2 h (by omega)).1]; exact i4) (by rw [(o2'.2 h (by omega)).1]; exact i5) (d.put (t' := (j + 1, ip m, m + 1, im, iw, ip)) ot (by rw [eR]; exact q1) (by rw [eR]; exact r2) (fun i hi => by
      have hi' : i < j + 1 := hi
      refine ⟨by omega, ?_⟩
      by_cases e : i = j
      · rw [e]; exact Or.inl ⟨rfl, rfl, rfl⟩
      · exact Or.inr ⟨by show i < j; omega, rfl, Or.inr (by omega)⟩) (fun k hk => by
      obtain ⟨d1, d2, d3, d4⟩ := d.2 k hk
      exact ⟨d1, Or.inr ⟨hk, rfl, Or.inl (by omega)⟩, fun i hi => ⟨(d4 i hi).1, Or.inr (d4 i hi).2.1, Or.inr ⟨hk, hi, rfl, Or.inl (by omega)⟩⟩⟩)) (by omega) (by omega)
    exact ⟨μ', e3, o2'.tr o3, d3⟩
theorem X2_giveBack {μ : Mem} {h B np s m : Nat} {kf : Nat → Int32} {t : HisT} (hh : His μ h B np kf t) (hm : t.2.2.1 = m + 1) (ts : StS μ s) (hsB : s + 34 ≤ B) (hsh : s + 34 ≤ h ∨ h + 5 ≤ s) :
    ∃ μ' : Mem, LX2_giveBack h s μ = some ((), μ') ∧ Out (fun x => x = h ∨ B ≤ x ∨ inSt s x) μ μ' ∧ His μ' h B np kf (t.2.2.2.2.1 m, t.2.2.2.2.2 m, m, t.2.2.2) ∧ StR μ' s np kf (t.2.2.2.1 m) := by
  obtain ⟨hs, ok, rr, hb, hB⟩ := hh
  have hW := rr.w
  have d := rr.d
  have hm3 : m < 3 := by have := hW.2.1; omega
  obtain ⟨w1, w2⟩ := hW.2.2 m (by omega)
  obtain ⟨-, q1, q2, q3⟩ := d.2 m (by omega)
  have v : Slo h (h + 2) m := Or.inr (Or.inl ⟨rfl, hm3⟩)
  unfold LX2_giveBack
  have e5 : g_I μ h 5 - 1 = nI m := by rw [rr.2.1, hm]; exact nI_pred _
  rw [if_pos hs.1, if_pos ts.1, hs.2.2.1, if_pos (isK_p hs.2.2.2.2.2.2.1), e5, gI_s]
  obtain ⟨ν, hν⟩ : ∃ ν, ν = p_I μ h 5 (nI m) := ⟨_, rfl⟩
  rw [← hν]
  have o1 : Out (fun x => x = h) μ ν := by rw [hν]; exact (Out.rf (S := fun x => x = h)).pI rfl
  have eR : g_R ν = g_R μ := sh_gR o1.1
  have hs1 := hs.sh o1.1
  have ok1 := ok.sh o1.1
  have d1 : HisD ν h np kf t := d.oI ok (o1.mo fun x hx => by omega)
  obtain ⟨-, p1, p2, p3⟩ := d1.2 m (by omega)
  rw [X2_slotE hs1 v p1, ob]
  obtain ⟨μ2, e2, o2, r2⟩ := X2_get ok1 v p1 (ts.sh o1.1) p2 hsB
  rw [e2, ob]
  have hs2 := hs1.sh o2.1
  have ok2 := ok1.sh o2.1
  have d2 : HisD μ2 h np kf t := d1.oI ok1 (o2.mo fun x hx => by obtain ⟨y1, y2⟩ := hx; omega)
  have x4 : g_I μ2 (h + 4) = g_I μ (h + 4) := by rw [(o2.2 (h + 4) (by intro hx; obtain ⟨y1, y2⟩ := hx; omega)).1, (o1.2 (h + 4) (by omega)).1]
  have x0 : ∀ b, b ≠ 5 → g_I μ2 h b = g_I μ h b := fun b hb => by rw [(o2.2 h (by intro hx; obtain ⟨y1, y2⟩ := hx; omega)).1, hν, gI_k hb]
  have x5 : g_I μ2 h 5 = nI m := by rw [(o2.2 h (by intro hx; obtain ⟨y1, y2⟩ := hx; omega)).1, hν, gI_s]
  rw [hs2.2.2.2.2.1, if_pos (isK_p hs2.2.2.2.2.2.2.2.2.1), x5, if_pos (inA_n hs2.2.2.2.2.2.2.2.2.1 hs2.2.2.2.2.2.2.2.2.2.2.2.2 hm3 (by decide)), nI_clamp (show m < 2147483648 by omega), x4, w1]
  obtain ⟨ν2, hν2⟩ : ∃ ν2, ν2 = p_I μ2 h 4 (nI (t.2.2.2.2.1 m)) := ⟨_, rfl⟩
  rw [← hν2]
  have o3 : Out (fun x => x = h) μ2 ν2 := by rw [hν2]; exact (Out.rf (S := fun x => x = h)).pI rfl
  have d3 : HisD ν2 h np kf t := d2.oI ok2 (o3.mo fun x hx => by omega)
  have d3' : HisD ν2 h np kf (0, t.2.2.2.2.2 m, m + 1, t.2.2.2.1, t.2.2.2.2.1, t.2.2.2.2.2) := ⟨fun i hi => absurd hi (Nat.not_lt_zero _), fun k hk => d3.2 k (by rw [hm]; exact hk)⟩
  obtain ⟨μ', e4, o4, d4⟩ := X2_giveL (h := h) (B := B) (np := np) (m := m) (w := t.2.2.2.2.1 m) (kf := kf) (im := t.2.2.2.1) (iw := t.2.2.2.2.1) (ip := t.2.2.2.2.2) hb rfl w2 hm3 (t.2.2.2.2.1 m) 0 100000 ν2 (hs2.sh o3.1) (ok2.sh o3.1) (by rw [hν2, gI_s]) (by rw [hν2, gI_k (by decide)]; exact x5) d3' rfl (by omega)
  have y4 : g_I μ' (h + 4) = g_I μ (h + 4) := by rw [(o4.2 (h + 4) (by omega)).1, (o3.2 (h + 4) (by omega)).1, x4]
  have y0 : g_I μ' h = g_I ν2 h := (o4.2 h (by omega)).1
  refine ⟨μ', e4, ((o1.mo fun x hx => Or.inl hx).tr (o2.mo fun x hx => Or.inr (Or.inr hx))).tr ((o3.mo fun x hx => Or.inl hx).tr (o4.mo fun x hx => Or.inr (Or.inl hx))), ⟨(hs2.sh o3.1).sh o4.1, (ok2.sh o3.1).sh o4.1, HisD.r ⟨d4.1, fun k hk => d4.2 k (by have : k < m := hk; show k < m + 1; omega)⟩ ⟨w2, by show m ≤ 3; omega, fun k hk => ?_⟩ ?_ ?_, hb, ?_⟩, ?_⟩
  · rw [y4]; exact hW.2.2 k (by have : k < m := hk; omega)
  · rw [y0, hν2, gI_s]
  · rw [y0, hν2, gI_k (by decide)]; exact x5
  · rw [sh_gn o4.1, sh_gn o3.1, sh_gn o2.1, sh_gn o1.1]; exact hB
  · have : StR ν2 s np kf (t.2.2.2.1 m) := r2.fr fun x hx => o3.2 x (by obtain ⟨z1, z2⟩ := hx; omega)
    exact this.fr fun x hx => o4.2 x (by obtain ⟨z1, z2⟩ := hx; omega)
