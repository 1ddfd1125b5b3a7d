/-! ===== the reference is asked: season ===== -/
theorem sar16 {s : Int32} : (s >>> ((16 : Int32) &&& 31)) &&& (32767 : Int32) = nI (bitsN s) := by
  rw [← bits_c]
  apply Int32.toBitVec_inj.mp
  apply BitVec.eq_of_getLsbD_eq
  intro i hi
  rw [Int32.toBitVec_and, Int32.toBitVec_and, BitVec.getLsbD_and, BitVec.getLsbD_and]
  have hm : ∀ i, i < 32 → (32767 : Int32).toBitVec.getLsbD i = decide (i < 15) := by decide
  rw [hm i hi]
  by_cases h : i < 15
  · have e1 : (s >>> ((16 : Int32) &&& 31)).toBitVec.getLsbD i = s.toBitVec.getLsbD (16 + i) := by
      rw [show ((16 : Int32) &&& 31) = nI 16 from rfl, Int32.toBitVec_shiftRight, BitVec.sshiftRight', (sh31 16 (by decide)).2, BitVec.getLsbD_sshiftRight, if_pos (show 16 + i < 32 by omega), decide_eq_false (show ¬ 32 ≤ i by omega)]
      rfl
    have e2 : ((s.toUInt32 >>> ((16 : Int32).toUInt32 &&& Int32.toUInt32 31)).toInt32).toBitVec.getLsbD i = s.toBitVec.getLsbD (16 + i) := by
      show (s.toUInt32 >>> ((16 : Int32).toUInt32 &&& Int32.toUInt32 31)).toBitVec.getLsbD i = _
      rw [UInt32.toBitVec_shiftRight]
      show (s.toBitVec >>> (16#32)).getLsbD i = _
      rw [BitVec.ushiftRight_eq', BitVec.getLsbD_ushiftRight]
      rfl
    rw [e1, e2]
  · rw [decide_eq_false h, Bool.and_false, Bool.and_false]
abbrev wF : Nat → Prop := fun k => k = 46
abbrev wS : Nat → Prop := fun x => x = 518 ∨ x = 519 ∨ x = 604
theorem R_draw {μ : Mem} {n : Nat} {s : Int32} (rs : RfS μ) (hs : g_I μ 125 46 = s) (h0 : 0 < n) (hn : n < 2147483648) : LX12_draw 125 (nI n) μ = some (nI (drN (nxS s) n), p_I μ 125 46 (nxS s)) := by
  unfold LX12_draw
  have hb : bitsN (nxS s) < 2147483648 := by
    unfold bitsN
    have := Nat.mod_lt ((nxS s).toUInt32.toNat / 65536) (show 0 < 32768 by decide)
    omega
  rw [if_pos rs.1, if_pos (nI_ne0 h0 hn), gI_s, hs]
  show some (((nxS s >>> ((16 : Int32) &&& 31)) &&& 32767) - ((nxS s >>> ((16 : Int32) &&& 31)) &&& 32767) / nI n * nI n, _) = _
  rw [sar16, nI_mod hb hn]
  rfl
theorem RwC.w {μ ν : Mem} {t : HutT} {ops : OpsT} {ρ : Nat → Int32} (c : RwC μ 604 t ops ρ) (v : Int32) : RwC (p_I μ 125 46 v) 604 t ops ρ := c.o (F := wF) (S := nS) (OF.rf.p0 rfl) (by decide) (fun x z => z.elim) (c.r.o (F := wF) (S := nS) (OF.rf.p0 rfl) (by decide) (fun z => z)) c.k
/-- a SEASON as far as it went -/
def SeM (μ : Mem) (t : HutT) (ops : OpsT) (x : Int32 × (Nat → Int32)) : Prop := g_I μ 125 46 = x.1 ∧ RwC μ 604 t ops x.2
theorem SeM.nu {μ : Mem} {t : HutT} {ops : OpsT} {x : Int32 × (Nat → Int32)} (h : SeM μ t ops x) : g_R μ 125 12 = 129 ∧ inA μ 129 15 (0 : Int32) = true ∧ g_I μ 129 (0 : Int32).toNatClampNeg = nI t.1 ∧ inA μ 129 15 (1 : Int32) = true ∧ g_I μ 129 (1 : Int32).toNatClampNeg = nI t.2.2.2.2.1 ∧ t.1 ≤ 8 ∧ t.2.2.2.2.1 ≤ 16 := ⟨h.2.1.h12, h.2.1.a129.ix (i := 0) (by decide) (by decide), h.2.2.1.1.1, h.2.1.a129.ix (i := 1) (by decide) (by decide), h.2.2.1.1.2.1, h.2.2.2.1.1, h.2.2.2.1.2.1⟩
theorem d_w {μ ν : Mem} (o : OF nS (dS 604) μ ν) : OF wF wS μ ν := o.mo (fun _ z => z.elim) (fun _ z => z)
theorem R_day102 {t : HutT} {ops : OpsT} {d q j : Int32} {x : Int32 × (Nat → Int32)} {q19 : Nat → Int32 → Int32 → Int32 → Mem → Option (Unit × Mem)} {μ : Mem} (h : SeM μ t ops x) (rk : RowK t.1 t.2.1 (sDay t.1 x.2)) : ∃ ν : Mem, mX12_seasonBy_102 q19 125 d q j μ = q19 125 d q (j + 1) ν ∧ OF wF wS μ ν ∧ SeM ν t ops (x.1, sDay t.1 x.2) := by
  obtain ⟨ν, e1, o1, r1⟩ := R_dayEnds h.2
  unfold mX12_seasonBy_102
  rw [h.2.1.h30, if_pos q604, e1, ob]
  have o1' : OF nS (dS 604) μ ν := o1.mo (fun _ z => z) (fun y z => Or.inr (Or.inr z))
  exact ⟨ν, rfl, d_w o1', by rw [o1.2 46 (fun z => z)]; exact h.1, h.2.d o1' r1 rk⟩
theorem R_day64 {t : HutT} {ops : OpsT} {d q j : Int32} {x : Int32 × (Nat → Int32)} {q19 : Nat → Int32 → Int32 → Int32 → Mem → Option (Unit × Mem)} {μ : Mem} (h : SeM μ t ops x) (rk : RowK t.1 t.2.1 (sDay t.1 (sea2 ops t q x).2)) : ∃ ν : Mem, mX12_seasonBy_64 q19 125 d q j μ = q19 125 d q (j + 1) ν ∧ OF wF wS μ ν ∧ SeM ν t ops ((sea2 ops t q x).1, sDay t.1 (sea2 ops t q x).2) := by
  obtain ⟨n1, n2, n3, n4, n5, n6, n7⟩ := h.nu
  unfold mX12_seasonBy_64
  unfold sea2 at rk ⊢
  rw [n1, if_pos q129, if_pos n4, n5]
  by_cases h0 : t.2.2.2.2.1 = 0
  · rw [if_pos h0] at rk ⊢
    rw [h0, if_pos (show nI 0 ≤ (0 : Int32) by decide)]
    exact R_day102 h rk
  rw [if_neg h0] at rk ⊢
  have hd : LX12_draw 125 16 μ = some (nI (drN (nxS x.1) 16), p_I μ 125 46 (nxS x.1)) := R_draw (n := 16) h.2.1 h.1 (by decide) (by decide)
  rw [if_neg (show ¬ nI t.2.2.2.2.1 ≤ (0 : Int32) from nI_ge (a := 0) (by omega) (by omega)), hd, ob]
  have o1 : OF wF wS μ (p_I μ 125 46 (nxS x.1)) := (OF.rf (F := wF) (S := wS)).p0 rfl
  have h1 : SeM (p_I μ 125 46 (nxS x.1)) t ops (nxS x.1, x.2) := ⟨gI_s, h.2.w (ν := μ) _⟩
  by_cases h2 : q ≤ nI (drN (nxS x.1) 16)
  · rw [if_pos h2] at rk ⊢
    rw [if_pos h2]
    obtain ⟨ν, e2, o2, r2⟩ := R_day102 (d := d) (q := q) (j := j) (q19 := q19) h1 rk
    exact ⟨ν, e2, o1.tr o2, r2⟩
  rw [if_neg h2] at rk ⊢
  rw [if_neg h2, h1.2.1.h30, if_pos q604]
  obtain ⟨n1', n2', n3', n4', n5', n6', n7'⟩ := h1.nu
  have hlt : drN (nxS (nxS x.1)) t.2.2.2.2.1 < t.2.2.2.2.1 := Nat.mod_lt _ (by omega)
  rw [n1', if_pos q129, if_pos n4', n5', R_draw (n := t.2.2.2.2.1) h1.2.1 h1.1 (by omega) (by omega), ob]
  have h3 : SeM (p_I (p_I μ 125 46 (nxS x.1)) 125 46 (nxS (nxS x.1))) t ops (nxS (nxS x.1), x.2) := ⟨gI_s, h1.2.w (ν := μ) _⟩
  obtain ⟨ν, e3, o3, r3⟩ := R_hears h3.2 hlt
  rw [e3, ob]
  have h4 : SeM ν t ops (nxS (nxS x.1), tryHear ops t.1 t.2.1 x.2 (t.2.2.2.2.2.1 (drN (nxS (nxS x.1)) t.2.2.2.2.1)) (t.2.2.2.2.2.2.1 (drN (nxS (nxS x.1)) t.2.2.2.2.1))) := ⟨by rw [o3.2 46 (fun z => z)]; exact gI_s, r3⟩
  obtain ⟨ν2, e4, o4, r4⟩ := R_day102 (d := d) (q := q) (j := j) (q19 := q19) h4 rk
  exact ⟨ν2, e4, ((o1.tr ((OF.rf (F := wF) (S := wS)).p0 rfl)).tr (d_w o3)).tr o4, r4⟩
theorem R_sea19 {t : HutT} {ops : OpsT} {q : Int32} {d : Nat} (hd : d ≤ 1000) : ∀ (n j fu : Nat) (x : Int32 × (Nat → Int32)) (μ : Mem), n + j = d → n < fu → SeM μ t ops x → ∃ ν : Mem, mX12_seasonBy_19 fu 125 (nI d) q (nI j) μ = some ((), ν) ∧ OF wF wS μ ν ∧ SeM ν t ops (seaN ops t q n x) := by
  intro n
  induction n with
  | zero =>
    intro j fu x μ hj hf h
    obtain ⟨fu, rfl⟩ : ∃ q, fu = q + 1 := ⟨fu - 1, by omega⟩
    rw [mX12_seasonBy_19, if_pos (nI_le (by omega) (by omega))]
    exact ⟨μ, rfl, OF.rf, h⟩
  | succ n ih =>
    intro j fu x μ hj hf h
    obtain ⟨fu, rfl⟩ : ∃ q, fu = q + 1 := ⟨fu - 1, by omega⟩
    obtain ⟨n1, n2, n3, n4, n5, n6, n7⟩ := h.nu
    have ho := h.2.2.2.1
    have rkD : RowK t.1 t.2.1 (seaD ops t q x).2 := rk_seaD ho h.2.k
    rw [mX12_seasonBy_19, if_neg (nI_ge (by omega) (by omega)), n1, if_pos q129, if_pos n2, n3]
    show ∃ ν : Mem, _ ∧ _ ∧ SeM ν t ops (seaN ops t q n (seaD ops t q x))
    -- behind the reading
    have go : ∀ ν : Mem, OF wF wS μ ν → SeM ν t ops (sea1 ops t x) → ∃ ν' : Mem, mX12_seasonBy_64 (fun l0 l2 l3 l4 μ => mX12_seasonBy_19 fu l0 l2 l3 l4 μ) 125 (nI d) q (nI j) ν = some ((), ν') ∧ OF wF wS μ ν' ∧ SeM ν' t ops (seaN ops t q n (seaD ops t q x)) := by
      intro ν o hν
      obtain ⟨ν2, e2, o2, r2⟩ := R_day64 (d := nI d) (q := q) (j := nI j) (q19 := fun l0 l2 l3 l4 μ => mX12_seasonBy_19 fu l0 l2 l3 l4 μ) hν rkD
      rw [e2, ← nI_succ]
      obtain ⟨ν3, e3, o3, r3⟩ := ih (j + 1) fu (seaD ops t q x) ν2 (by omega) (by omega) r2
      exact ⟨ν3, e3, (o.tr o2).tr o3, r3⟩
    unfold sea1 at go
    by_cases h0 : t.1 = 0
    · rw [if_pos h0] at go
      rw [h0, if_pos (show nI 0 ≤ (0 : Int32) by decide)]
      exact go μ OF.rf h
    rw [if_neg h0] at go
    have hlt : drN (nxS x.1) t.1 < t.1 := Nat.mod_lt _ (by omega)
    rw [if_neg (show ¬ nI t.1 ≤ (0 : Int32) from nI_ge (a := 0) (by omega) (by omega)), R_draw (n := t.1) h.2.1 h.1 (by omega) (by omega), ob]
    have h1 : SeM (p_I μ 125 46 (nxS x.1)) t ops (nxS x.1, x.2) := ⟨gI_s, h.2.w (ν := μ) _⟩
    have hd2 : LX12_draw 125 10000 (p_I μ 125 46 (nxS x.1)) = some (nI (drN (nxS (nxS x.1)) 10000), p_I (p_I μ 125 46 (nxS x.1)) 125 46 (nxS (nxS x.1))) := R_draw (n := 10000) h1.2.1 h1.1 (by decide) (by decide)
    rw [h1.2.1.h30, if_pos q604, hd2, ob]
    have h3 : SeM (p_I (p_I μ 125 46 (nxS x.1)) 125 46 (nxS (nxS x.1))) t ops (nxS (nxS x.1), x.2) := ⟨gI_s, h1.2.w (ν := μ) _⟩
    obtain ⟨ν, e3, o3, r3⟩ := R_reads (v := nI (drN (nxS (nxS x.1)) 10000)) h3.2 hlt
    rw [e3, ob]
    exact go ν ((((OF.rf (F := wF) (S := wS)).p0 rfl).p0 rfl).tr (d_w o3)) ⟨by rw [o3.2 46 (fun z => z)]; exact gI_s, r3⟩
theorem RqR.wS {μ ν : Mem} {a : ClT} (q : RqR μ a) (o : OF wF wS μ ν) : RqR ν a := q.out o (fun k hk => by have hk : k = 46 := hk; unfold frF; omega) (fun x hx => by have hx : x = 518 ∨ x = 519 ∨ x = 604 := hx; unfold frS; omega)
theorem R_seasonBy {μ : Mem} {a : ClT} {seed q : Int32} {d : Nat} (r : RqR μ a) (hd : d ≤ 1000) : ∃ ν : Mem, LX12_seasonBy 125 seed (nI d) q μ = some ((), ν) ∧ OF wF wS μ ν ∧ RwC ν 604 (hutT a.2.2.2.1) a.2.2.2.2.1 (seaN a.2.2.2.2.1 (hutT a.2.2.2.1) q d (seed, rowOf a)).2 := by
  obtain ⟨m1, e1, o1, c1⟩ := R_row (h0 := 603) (h1 := 604) (by decide) r.s.a603 r.s.a604
  unfold LX12_seasonBy
  rw [if_pos r.s.1, r.s.h29, if_pos q603, r.s.h30, if_pos q604, e1, ob]
  have o1' : OF wF wS μ m1 := ⟨o1.mo fun x hx => Or.inr (Or.inr (Or.inr hx)), fun k hk => by rw [(o1.2 125 (by decide)).1]⟩
  have o2 : OF wF wS m1 (p_I m1 125 46 seed) := (OF.rf (F := wF) (S := wS)).p0 rfl
  have o12 := o1'.tr o2
  have rw0 := r.w
  have h1 : SeM (p_I m1 125 46 seed) (hutT a.2.2.2.1) a.2.2.2.2.1 (seed, rowOf a) := ⟨gI_s, o12.s r.s, rw0.2.1.fr r.ho (fun x hx => o12.r (by omega) (fun z => by have z : x = 518 ∨ x = 519 ∨ x = 604 := z; omega)), r.ho, rw0.2.2.2.1.fr (o12.2 17 (by decide)) (fun x hx => o12.r (by omega) (fun z => by have z : x = 518 ∨ x = 519 ∨ x = 604 := z; omega)), Or.inr rfl, fun j hj => by rw [gI_h (by decide), c1 j hj]; exact (r.at hj).2.2, rw0.k⟩
  obtain ⟨ν, e2, o3, r3⟩ := R_sea19 (q := q) hd d 0 100000 _ _ rfl (by omega) h1
  have e2 : mX12_seasonBy_19 100000 125 (nI d) q (0 : Int32) (p_I m1 125 46 seed) = some ((), ν) := e2
  rw [e2]
  exact ⟨ν, rfl, o12.tr o3, r3.2⟩
