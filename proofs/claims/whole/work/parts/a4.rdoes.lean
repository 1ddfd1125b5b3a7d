/-! ===== the reference: what a STEP does to a row ===== -/
theorem RwC.r {μ : Mem} {h : Nat} {t : HutT} {ops : OpsT} {ρ : Nat → Int32} (c : RwC μ h t ops ρ) : RoR μ h ρ := c.2.2.2.2.2.1
theorem RwC.k {μ : Mem} {h : Nat} {t : HutT} {ops : OpsT} {ρ : Nat → Int32} (c : RwC μ h t ops ρ) : RowK t.1 t.2.1 ρ := c.2.2.2.2.2.2
theorem RwC.ne {μ : Mem} {h : Nat} {t : HutT} {ops : OpsT} {ρ : Nat → Int32} (c : RwC μ h t ops ρ) : h ≠ 125 ∧ h ≠ 518 ∧ h ≠ 519 ∧ 343 ≤ h := by
  rcases c.2.2.2.2.1 with e | e <;> omega
abbrev dS (h : Nat) : Nat → Prop := fun a => a = 518 ∨ a = 519 ∨ a = h
theorem RwC.d {μ ν : Mem} {h : Nat} {t : HutT} {ops : OpsT} {ρ σ : Nat → Int32} (c : RwC μ h t ops ρ) (o : OF nS (dS h) μ ν) (r : RoR ν h σ) (k : RowK t.1 t.2.1 σ) : RwC ν h t ops σ := c.o o (fun z => z) (fun x hx => by have := c.ne; have hx : x = 518 ∨ x = 519 ∨ x = h := hx; omega) r k
theorem RwC.l {μ ν : Mem} {h : Nat} {t : HutT} {ops : OpsT} {ρ : Nat → Int32} (c : RwC μ h t ops ρ) (o : OF nS lvS μ ν) : RwC ν h t ops ρ := c.o o (fun z => z) (fun x hx => lv_far hx) (c.r.o o c.ne.1 (fun z => by have := c.ne; have z : h = 518 ∨ h = 519 := z; omega)) c.k
theorem pen_tun {kk : Nat} {k : Int32} {ρ : Nat → Int32} {p i : Nat} (h : PenOk k ρ p) (hk : k = nI kk) (hk8 : kk < 8) (hi : i < 24) : ρ (227 + (24 * p + i)) = -1 ∨ ∃ m d : Nat, ρ (227 + (24 * p + i)) = nI (100 * m + d) ∧ m ≤ 99 ∧ d ≤ 99 ∧ (kk ≤ 4 → d ≠ 0) := by
  obtain ⟨kk', m, d, n, e1, e2, e3, e4, e5, e6, e7, e8, e9⟩ := h
  have ek : kk' = kk := (nI_eq (by omega) (by omega)).mp (by rw [← e1, hk])
  rw [ek] at e9
  exact e9 i hi
theorem R_readAt {μ : Mem} {h p i : Nat} {t : HutT} {ops : OpsT} {ρ : Nat → Int32} (c : RwC μ h t ops ρ) (hp : p < t.1) (hi : i < 24) : LX12_readAt 125 h (nI p) (nI i) μ = some (rdF (t.2.1 p) (ρ (35 + (24 * p + i))) (ρ (227 + (24 * p + i))), μ) := by
  obtain ⟨p1, p2, p3, p4, p5, p6, p7⟩ := penM c.1 c.2.1 c.2.2.1 hp
  obtain ⟨b1, b2, b3⟩ := c.at (j := 227 + (24 * p + i)) (by omega)
  obtain ⟨a1, a2, a3⟩ := c.at (j := 35 + (24 * p + i)) (by omega)
  obtain ⟨⟨kk, hk, hk8⟩, -⟩ := c.2.2.1.2.2.1 p hp
  unfold LX12_readAt LX12_placeOf rdF
  rw [if_pos c.1.1, if_pos c.ar.1, ob, n24m, n227p, if_pos b1, b2, b3]
  rcases pen_tun (c.k.2.1 p hp).1 hk hk8 hi with e | ⟨m, d, e, hm, hd, hd0⟩
  · rw [if_pos e, if_pos e]
  · have hn : ¬ nI (100 * m + d) = -1 := nI_nm1 (by omega)
    have e2 : nI (100 * m + d) - nI m * 100 = nI d := by rw [← tun_m hm hd]; exact tun_d hm hd
    rw [e, if_neg hn, if_neg hn, c.1.h14, if_pos q139, if_pos p1, p2, p3, if_pos p4, if_pos p5, ob, n35p, if_pos a1, a2, a3, if_pos (show ¬ (100 : Int32) = 0 by decide), if_pos (show ¬ (100 : Int32) = 0 by decide), c0n, p6, hk, tun_m hm hd, e2, R_outBy hk8 hm (fun z => nI_ne0 (Nat.pos_of_ne_zero (hd0 z)) (by omega)), ob]
theorem R_blankL {h p : Nat} (hp : p < 8) (h125 : h ≠ 125) : ∀ (f i fu : Nat) (μ : Mem) (ρ : Nat → Int32), ArS μ h 419 → RoR μ h ρ → f + i = 24 → f < fu → ∃ μ' : Mem, mX12_blanksFrom_2 fu h (nI p) (nI i) μ = some ((), μ') ∧ OF nS (fun a => a = h) μ μ' ∧ RoR μ' h (rbl ρ p i) := by
  intro f
  induction f with
  | zero =>
    intro i fu μ ρ a r hi hf
    obtain ⟨fu, rfl⟩ : ∃ q, fu = q + 1 := ⟨fu - 1, by omega⟩
    rw [mX12_blanksFrom_2, if_pos (show (24 : Int32) ≤ nI i from nI_le (a := 24) (by omega) (by omega))]
    refine ⟨μ, rfl, OF.rf, fun k hk => ?_⟩
    rw [r k hk]
    unfold rbl
    rw [if_neg (by omega)]
  | succ f ih =>
    intro i fu μ ρ a r hi hf
    obtain ⟨fu, rfl⟩ : ∃ q, fu = q + 1 := ⟨fu - 1, by omega⟩
    have x1 : (nI (35 + (24 * p + i))).toNatClampNeg = 35 + (24 * p + i) := nI_clamp (by omega)
    have x2 : (nI (227 + (24 * p + i))).toNatClampNeg = 227 + (24 * p + i) := nI_clamp (by omega)
    have i2 : inA (p_I μ h (35 + (24 * p + i)) (-1)) h 15 (nI (227 + (24 * p + i))) = true := a.ix (by omega) (by decide)
    rw [mX12_blanksFrom_2, if_neg (show ¬ (24 : Int32) ≤ nI i from nI_ge (b := 24) (by omega) (by decide))]
    unfold LX12_placeOf
    rw [ob, n24m, n35p, if_pos (a.ix (show 35 + (24 * p + i) < 419 by omega) (by decide)), x1, ob, n227p, if_pos i2, x2, ← nI_succ]
    obtain ⟨μ', e1, o1, r1⟩ := ih (i + 1) fu (p_I (p_I μ h (35 + (24 * p + i)) (-1)) h (227 + (24 * p + i)) (-1)) (ru (ru ρ (35 + (24 * p + i)) (-1)) (227 + (24 * p + i)) (-1)) a r.p.p (by omega) (by omega)
    refine ⟨μ', e1, (((OF.rf (F := nS) (S := fun a => a = h)).pS rfl h125).pS rfl h125).tr o1, fun k hk => ?_⟩
    rw [r1 k hk]
    unfold rbl
    by_cases g : (35 + (24 * p + i) ≤ k ∧ k < 35 + (24 * p + 24)) ∨ (227 + (24 * p + i) ≤ k ∧ k < 227 + (24 * p + 24))
    · rw [if_pos g]
      by_cases g2 : (35 + (24 * p + (i + 1)) ≤ k ∧ k < 35 + (24 * p + 24)) ∨ (227 + (24 * p + (i + 1)) ≤ k ∧ k < 227 + (24 * p + 24))
      · rw [if_pos g2]
      · rw [if_neg g2]
        have : k = 35 + (24 * p + i) ∨ k = 227 + (24 * p + i) := by omega
        rcases this with e | e
        · rw [e, ru_o (by omega), ru_s]
        · rw [e, ru_s]
    · rw [if_neg g, if_neg (by omega), ru_o (by omega), ru_o (by omega)]
theorem R_blanksFrom {μ : Mem} {h p i : Nat} {ρ : Nat → Int32} (hp : p < 8) (h125 : h ≠ 125) (a : ArS μ h 419) (r : RoR μ h ρ) (hi : i ≤ 24) : ∃ μ' : Mem, LX12_blanksFrom h (nI p) (nI i) μ = some ((), μ') ∧ OF nS (fun a => a = h) μ μ' ∧ RoR μ' h (rbl ρ p i) := by
  unfold LX12_blanksFrom
  rw [if_pos a.1]
  exact R_blankL hp h125 (24 - i) i 100000 μ ρ a r (by omega) (by omega)
theorem hS_d {h : Nat} : ∀ k, (fun a => a = h) k → dS h k := fun _ z => Or.inr (Or.inr z)
theorem lv_d {h : Nat} : ∀ k, lvS k → dS h k := fun _ z => z.elim Or.inl (fun y => Or.inr (Or.inl y))
theorem R_laysSheet {μ : Mem} {h p : Nat} {ρ : Nat → Int32} {n : Int32} (hp : p < 8) (h125 : h ≠ 125) (a : ArS μ h 419) (r : RoR μ h ρ) : ∃ μ' : Mem, LX12_laysSheet h (nI p) n μ = some (if n < 0 then 0 else 1, μ') ∧ OF nS (fun a => a = h) μ μ' ∧ RoR μ' h (if n < 0 then ρ else sLay ρ p n) := by
  unfold LX12_laysSheet
  rw [if_pos a.1]
  by_cases h0 : n < 0
  · rw [if_neg (Int32.not_le.mpr h0), if_pos h0, if_pos h0]
    exact ⟨μ, rfl, OF.rf, r⟩
  · rw [if_pos (Int32.not_lt.mp h0), if_neg h0, if_neg h0, n16p, if_pos (a.ix (show 16 + p < 419 by omega) (by decide)), n24p, if_pos (a.ix (show 24 + p < 419 by omega) (by decide)), nI_clamp (show 16 + p < 2147483648 by omega), nI_clamp (show 24 + p < 2147483648 by omega)]
    obtain ⟨μ', e1, o1, r1⟩ := R_blanksFrom (i := 0) (ρ := ru (ru ρ (16 + p) n) (24 + p) 0) (μ := p_I (p_I μ h (16 + p) n) h (24 + p) 0) hp h125 a r.p.p (by decide)
    have e1 : LX12_blanksFrom h (nI p) (0 : Int32) (p_I (p_I μ h (16 + p) n) h (24 + p) 0) = some ((), μ') := e1
    rw [e1, ob]
    exact ⟨μ', rfl, (((OF.rf (F := nS) (S := fun a => a = h)).pS rfl h125).pS rfl h125).tr o1, r1⟩
theorem pl_c {k : Int32} {ρ : Nat → Int32} {p : Nat} (h : PenOk k ρ p) : (ρ (16 + p) = -1 ∧ nOf ρ p = 0) ∨ ∃ c : Nat, ρ (16 + p) = nI c ∧ c ≤ 24 ∧ nOf ρ p ≤ c := by
  obtain ⟨kk, m, d, n, e1, e2, e3, e4, e5, e6, e7, e8, e9⟩ := h
  have hn : nOf ρ p = n := by
    unfold nOf
    rw [e7]
    refine nI_clamp ?_
    rcases e8 with ⟨-, z⟩ | ⟨c, -, z1, z2⟩ <;> omega
  rw [hn]
  exact e8
theorem R_canRead {μ : Mem} {h p : Nat} {t : HutT} {ops : OpsT} {ρ : Nat → Int32} (c : RwC μ h t ops ρ) (hp : p < t.1) : LX12_canRead 125 h (nI p) μ = some (canP (t.2.1 p) ρ p, μ) := by
  have h8 := c.2.2.1.1
  obtain ⟨a1, a2, a3⟩ := c.at (j := 16 + p) (by omega)
  obtain ⟨b1, b2, b3⟩ := c.at (j := 24 + p) (by omega)
  have ok := (c.k.2.1 p hp).1
  obtain ⟨n1, n2, -⟩ := ok.n
  unfold LX12_canRead canP canF freeF
  rw [if_pos c.1.1, if_pos c.ar.1, n16p, if_pos a1, a2, a3, n24p, if_pos b1, b2, b3, R_jams c hp, ob]
  rcases pl_c ok with ⟨e, -⟩ | ⟨cc, e, h24, hle⟩
  · rw [if_pos e, if_pos e, if_pos (show (0 : Int32) ≤ 0 by decide)]
    split <;> rfl
  · have hm : ¬ nI cc = -1 := nI_nm1 (by omega)
    rw [e, if_neg hm, if_neg hm, n1, nI_sub hle]
    by_cases hc : cc ≤ nOf ρ p
    · rw [if_pos (nI_le hc (by omega)), if_pos (show nI (cc - nOf ρ p) ≤ 0 by rw [show cc - nOf ρ p = 0 by omega]; decide)]
      split <;> rfl
    · rw [if_neg (nI_ge (by omega) (by omega)), if_neg (nI_nle (by omega) (by omega))]
      split <;> rfl
theorem ru_id {ρ : Nat → Int32} {j : Nat} : ru ρ j (ρ j + 0) = ρ := by
  funext a
  unfold ru
  by_cases e : a = j
  · rw [if_pos e, e]; exact Int32.add_zero _
  · rw [if_neg e]
theorem R_reads33 {μ : Mem} {h p : Nat} {t : HutT} {ops : OpsT} {ρ σ : Nat → Int32} {v k0 : Int32} (c : RwC μ h t ops ρ) (hp : p < t.1) (h24 : nOf ρ p < 24) (hσ : σ = ru ρ 33 (ρ 33 + k0)) : ∃ μ' : Mem, mX12_reads_33 h (nI p) v k0 (ρ 33) (33 : Int32) h μ = some (1, μ') ∧ OF nS (fun a => a = h) μ μ' ∧ RoR μ' h (ru (sWr σ p (nOf ρ p) v) 34 (ρ 34 + 1)) := by
  have h8 := c.2.2.1.1
  have h125 := c.ne.1
  obtain ⟨n1, n2, -⟩ := (c.k.2.1 p hp).1.n
  have ix : ∀ j, j < 419 → inA μ h 15 (nI j) = true := fun j hj => c.ar.ix hj (by decide)
  have cl : ∀ j, j < 419 → (nI j).toNatClampNeg = j := fun j hj => nI_clamp (by omega)
  have s0 : σ p = ρ p := by rw [hσ, ru_o (by omega)]
  have s8 : σ (8 + p) = ρ (8 + p) := by rw [hσ, ru_o (by omega)]
  have s24 : σ (24 + p) = ρ (24 + p) := by rw [hσ, ru_o (by omega)]
  have s34 : σ 34 = ρ 34 := by rw [hσ, ru_o (by decide)]
  have m1 : RoR (p_I μ h 33 (ρ 33 + k0)) h σ := by rw [hσ]; exact c.r.p
  obtain ⟨ν, hν⟩ : ∃ ν, ν = p_I μ h 33 (ρ 33 + k0) := ⟨_, rfl⟩
  rw [← hν] at m1
  have o1 : OF nS (fun a => a = h) μ ν := by rw [hν]; exact OF.rf.pS rfl h125
  have ix' : ∀ j, j < 419 → inA ν h 15 (nI j) = true := fun j hj => by rw [sh_inA o1.1.1]; exact ix j hj
  unfold mX12_reads_33 LX12_placeOf
  rw [if_pos (show inA μ h 15 (33 : Int32) = true from ix 33 (by decide)), n24p, if_pos (ix (24 + p) (by omega)), cl (24 + p) (by omega), show (33 : Int32).toNatClampNeg = 33 from rfl, ← hν, m1 (24 + p) (by omega), s24, n1, ob, n24m, n35p, n227p, n0p, n8p, if_pos (ix' _ (by omega)), if_pos (ix' _ (by omega)), if_pos (ix' _ (by omega)), if_pos (ix' _ (by omega)), if_pos (ix' _ (by omega)), if_pos (show inA ν h 15 (34 : Int32) = true from ix' 34 (by decide)), cl (35 + (24 * p + nOf ρ p)) (by omega), cl (227 + (24 * p + nOf ρ p)) (by omega), cl p (by omega), cl (8 + p) (by omega), show (34 : Int32).toNatClampNeg = 34 from rfl]
  have v0 : g_I (p_I ν h (35 + (24 * p + nOf ρ p)) v) h p = ρ p := by rw [gI_k (by omega), m1 p (by omega), s0]
  have v8 : g_I (p_I ν h (35 + (24 * p + nOf ρ p)) v) h (8 + p) = ρ (8 + p) := by rw [gI_k (by omega), m1 (8 + p) (by omega), s8]
  rw [v0, v8]
  have v24 : ∀ x : Int32, g_I (p_I (p_I ν h (35 + (24 * p + nOf ρ p)) v) h (227 + (24 * p + nOf ρ p)) x) h (24 + p) = ρ (24 + p) := fun x => by rw [gI_k (by omega), gI_k (by omega), m1 (24 + p) (by omega), s24]
  rw [v24]
  have v34 : ∀ x y : Int32, g_I (p_I (p_I (p_I ν h (35 + (24 * p + nOf ρ p)) v) h (227 + (24 * p + nOf ρ p)) x) h (24 + p) y) h 34 = ρ 34 := fun x y => by rw [gI_k (by omega), gI_k (by omega), gI_k (by omega), m1 34 (by decide), s34]
  rw [v34]
  refine ⟨_, rfl, o1.tr (((((OF.rf (F := nS) (S := fun a => a = h)).pS rfl h125).pS rfl h125).pS rfl h125).pS rfl h125), ?_⟩
  unfold sWr
  rw [s0, s8, s24]
  exact m1.p.p.p.p
theorem R_reads {μ : Mem} {h p : Nat} {t : HutT} {ops : OpsT} {ρ : Nat → Int32} {v : Int32} (c : RwC μ h t ops ρ) (hp : p < t.1) : ∃ μ' : Mem, LX12_reads 125 h (nI p) v μ = some (if canP (t.2.1 p) ρ p = 0 then 0 else 1, μ') ∧ OF nS (dS h) μ μ' ∧ RwC μ' h t ops (tryRead ops t.2.1 ρ p v) := by
  unfold LX12_reads tryRead
  rw [if_pos c.1.1, if_pos c.ar.1, R_canRead c hp, ob]
  by_cases h0 : canP (t.2.1 p) ρ p = 0
  · rw [if_pos h0, if_pos h0, if_pos h0]
    exact ⟨μ, rfl, OF.rf, c⟩
  rw [if_neg h0, if_neg h0, if_neg h0]
  obtain ⟨x1, x2, x3⟩ := c.at (j := 33) (by decide)
  obtain ⟨h24, -, -⟩ := (c.k.2.1 p hp).1.n.2.2 h0
  obtain ⟨μ1, e1, o1⟩ := R_levelOf (v := v) c hp
  have c1 := c.l o1
  rw [if_pos (show inA μ h 15 (33 : Int32) = true from x1), e1, ob, show (33 : Int32).toNatClampNeg = 33 from rfl, x3]
  have rk : RowK t.1 t.2.1 (sRead ops (t.2.1 p) ρ p v) := c.k.read hp h0
  have o1' : OF nS (dS h) μ μ1 := o1.mo (fun _ z => z) lv_d
  unfold sRead at rk ⊢
  by_cases hl : levF ops (t.2.1 p) ρ p v < 50
  · rw [if_pos hl] at rk ⊢
    rw [if_pos hl]
    obtain ⟨μ2, e2, o2, r2⟩ := R_reads33 (v := v) (k0 := 0) (σ := ρ) c1 hp h24 ru_id.symm
    rw [e2]
    have o2' := o2.mo (fun _ z => z) hS_d
    exact ⟨μ2, rfl, o1'.tr o2', c1.d o2' r2 rk⟩
  · rw [if_neg hl] at rk ⊢
    rw [if_neg hl]
    obtain ⟨μ2, e2, o2, r2⟩ := R_reads33 (v := v) (k0 := 1) (σ := ru ρ 33 (ρ 33 + 1)) c1 hp h24 rfl
    rw [e2]
    have o2' := o2.mo (fun _ z => z) hS_d
    exact ⟨μ2, rfl, o1'.tr o2', c1.d o2' r2 rk⟩
/-- a WIRE in the reference -/
theorem wirM {μ : Mem} {t : HutT} {w : Nat} (s : RfS μ) (hu : HuM μ t) (ho : HutOk t) (hw : w < t.2.2.2.2.1) : inA μ 165 19 (nI w) = true ∧ (nI w).toNatClampNeg = w ∧ g_R μ 165 w = 166 + w ∧ 0 < 166 + w ∧ inA μ (166 + w) 15 (0 : Int32) = true ∧ inA μ (166 + w) 15 (1 : Int32) = true ∧ g_I μ (166 + w) 0 = nI (t.2.2.2.2.2.1 w) ∧ g_I μ (166 + w) 1 = nI (t.2.2.2.2.2.2.1 w) ∧ t.2.2.2.2.2.1 w < t.1 ∧ t.2.2.2.2.2.2.1 w < t.1 ∧ w < 16 := by
  have h16 := ho.2.1
  obtain ⟨a1, a2, a3, a4⟩ := s.t165.at (i := w) (by omega) (by decide)
  have cp : (nI w).toNatClampNeg = w := nI_clamp (by omega)
  rw [cp] at a2
  obtain ⟨b1, b2⟩ := ho.2.2.2.1 w hw
  exact ⟨a1, cp, a2, a3, a4.ix (i := 0) (by decide) (by decide), a4.ix (i := 1) (by decide) (by decide), (hu.2.2 w hw).1, (hu.2.2 w hw).2, b1, b2, by omega⟩
theorem R_hears {μ : Mem} {h w : Nat} {t : HutT} {ops : OpsT} {ρ : Nat → Int32} (c : RwC μ h t ops ρ) (hw : w < t.2.2.2.2.1) : ∃ μ' : Mem, LX12_hears 125 h (nI w) μ = some (if nOf ρ (t.2.2.2.2.2.1 w) = 0 then 0 else if canP (t.2.1 (t.2.2.2.2.2.2.1 w)) ρ (t.2.2.2.2.2.2.1 w) = 0 then 0 else 1, μ') ∧ OF nS (dS h) μ μ' ∧ RwC μ' h t ops (tryHear ops t.1 t.2.1 ρ (t.2.2.2.2.2.1 w) (t.2.2.2.2.2.2.1 w)) := by
  obtain ⟨w1, w2, w3, w4, w5, w6, w7, w8, w9, w10, w11⟩ := wirM c.1 c.2.1 c.2.2.1 hw
  have h8 := c.2.2.1.1
  obtain ⟨b1, b2, b3⟩ := c.at (j := 24 + t.2.2.2.2.2.1 w) (by omega)
  obtain ⟨n1, n2, -⟩ := (c.k.2.1 _ w9).1.n
  unfold LX12_hears tryHear inRow
  rw [if_pos c.1.1, if_pos c.ar.1, c.1.h16, if_pos q165, if_pos w1, w2, w3, if_pos w4, if_pos w5, c0n, w7, n24p, if_pos b1, b2, b3, n1]
  by_cases h0 : nOf ρ (t.2.2.2.2.2.1 w) = 0
  · rw [if_pos (show nI (nOf ρ (t.2.2.2.2.2.1 w)) ≤ 0 by rw [h0]; decide), if_pos h0, if_pos h0]
    exact ⟨μ, rfl, OF.rf, c⟩
  · have e1 : nI (nOf ρ (t.2.2.2.2.2.1 w)) - 1 = nI (nOf ρ (t.2.2.2.2.2.1 w) - 1) := by rw [show (1 : Int32) = nI 1 from rfl, nI_sub (by omega)]
    rw [if_neg (nI_nle (by omega) (by omega)), if_neg h0, if_neg h0, if_pos w6, e1, R_readAt c w9 (show nOf ρ (t.2.2.2.2.2.1 w) - 1 < 24 by omega), ob, c1n, w8]
    obtain ⟨μ1, e2, o1, c1⟩ := R_reads (v := rdF (t.2.1 (t.2.2.2.2.2.1 w)) (ρ (35 + (24 * t.2.2.2.2.2.1 w + (nOf ρ (t.2.2.2.2.2.1 w) - 1)))) (ρ (227 + (24 * t.2.2.2.2.2.1 w + (nOf ρ (t.2.2.2.2.2.1 w) - 1))))) c w10
    rw [e2, ob]
    refine ⟨μ1, ?_, o1, c1⟩
    by_cases hc : canP (t.2.1 (t.2.2.2.2.2.2.1 w)) ρ (t.2.2.2.2.2.2.1 w) = 0
    · rw [if_pos hc, if_pos rfl]
    · rw [if_neg hc, if_neg (by decide)]
