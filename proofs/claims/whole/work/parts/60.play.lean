/-! ===== a SEASON of the class, played ===== -/
theorem X7_playL (fp : FpNn) {w hh lh : Nat} {t : HutT} {ops : List (Int32 × Int32)} {q : Int32} (ho : HutOk t) (d1 : w + 35 ≤ hh ∨ hh + 6 ≤ w) (d2 : w + 35 ≤ lh ∨ lh + 5 ≤ w) (d3 : hh + 6 ≤ lh ∨ lh + 5 ≤ hh) {d : Nat} (hd : d ≤ 1000) :
    ∀ (f j fu : Nat) (μ : Mem) (x : Int32 × (Nat → Int32)), SeaS μ w → HutS μ hh → HutR μ hh t → LawS μ lh → LawR μ lh ops → StR μ (w + 1) t.1 t.2.1 x.2 → RowK t.1 t.2.1 x.2 → g_I μ w 1 = x.1 → f + j = d → f < fu →
    ∃ μ' : Mem, mX7_play_33 fu w hh lh (nI d) q (nI j) μ = some ((), μ') ∧ Out (fun a => (w ≤ a ∧ a < w + 35) ∨ a = lh + 1 ∨ a = lh + 4) μ μ' ∧ StR μ' (w + 1) t.1 t.2.1 (seaN ops t q f x).2 ∧ g_I μ' w 1 = (seaN ops t q f x).1 := by
  intro f
  induction f with
  | zero =>
    intro j fu μ x ss hs hr l lr r rk hx hj hf
    obtain ⟨fu, rfl⟩ : ∃ q, fu = q + 1 := ⟨fu - 1, by omega⟩
    rw [mX7_play_33, if_pos (nI_le (by omega) (by omega))]
    exact ⟨μ, rfl, Out.rf, r, hx⟩
  | succ f ih =>
    intro j fu μ x ss hs hr l lr r rk hx hj hf
    obtain ⟨fu, rfl⟩ : ∃ q, fu = q + 1 := ⟨fu - 1, by omega⟩
    obtain ⟨μ1, e1, o1, r1, x1⟩ := X7_playDay fp (q := q) ss hs hr ho l lr r rk hx d1 d2 d3
    rw [mX7_play_33, if_neg (nI_ge (by omega) (by omega)), e1, ob, ← nI_succ]
    obtain ⟨μ', e2, o2, r2, x2⟩ := ih (j + 1) fu μ1 (seaD ops t q x) (ss.sh o1.1) (hs.sh o1.1) (hr.fr fun a ha => (o1.2 a (by obtain ⟨y1, y2⟩ := ha; omega)).1) (l.sh o1.1) (lr.fr ⟨(o1.2 lh (by omega)).1, (o1.2 (lh + 2) (by omega)).1, (o1.2 (lh + 3) (by omega)).1⟩) r1 (rk_seaD ho rk) x1 (by omega) (by omega)
    exact ⟨μ', e2, o1.tr o2, r2, x2⟩
/-- how a SEASON begins -/
def sea0 (seed : Int32) (ρ : Nat → Int32) : Int32 × (Nat → Int32) := (seed, ru (ru ρ 33 0) 34 0)
theorem StR.zero {μ ν : Mem} {s np : Nat} {kf ρ : Nat → Int32} (r : StR μ s np kf ρ) (hν : ν = p_I (p_I μ s 3 0) s 4 0) : StR ν s np kf (ru (ru ρ 33 0) 34 0) := by
  obtain ⟨a0, a1, a2, a3, a4, a5⟩ := r
  subst hν
  refine ⟨a0, by rw [gI_k (by decide), gI_k (by decide)]; exact a1, by rw [gI_k (by decide), gI_k (by decide), ru_o (by decide), ru_o (by decide)]; exact a2, by rw [gI_k (by decide), gI_s, ru_o (by decide), ru_s], by rw [gI_s, ru_s], fun p hp => ?_⟩
  exact (a5 p hp).fr (fun a h1 h2 => ⟨by rw [gI_rowo (by omega), gI_rowo (by omega)], rfl, rfl⟩) ⟨by rw [ru_o (by omega), ru_o (by omega)], by rw [ru_o (by omega), ru_o (by omega)], by rw [ru_o (by omega), ru_o (by omega)], by rw [ru_o (by omega), ru_o (by omega)], fun i hi => ⟨by rw [ru_o (by omega), ru_o (by omega)], by rw [ru_o (by omega), ru_o (by omega)]⟩⟩
theorem rk_sea0 {np : Nat} {kf ρ : Nat → Int32} {seed : Int32} (h : RowK np kf ρ) : RowK np kf (sea0 seed ρ).2 := (h.same (σ := ru ρ 33 0) fun q hq => ru_same hq (by omega)).same fun q hq => ru_same hq (by omega)
theorem X7_play (fp : FpNn) {μ : Mem} {w s hh lh d : Nat} {t : HutT} {ops : List (Int32 × Int32)} {q seed : Int32} {ρ : Nat → Int32} (ss : SeaS μ w) (tt : StS μ s) (hs : HutS μ hh) (hr : HutR μ hh t) (ho : HutOk t) (l : LawS μ lh) (lr : LawR μ lh ops) (r : StR μ s t.1 t.2.1 ρ) (rk : RowK t.1 t.2.1 ρ) (hd : d ≤ 1000) (d0 : w + 35 ≤ s ∨ s + 34 ≤ w) (d1 : w + 35 ≤ hh ∨ hh + 6 ≤ w) (d2 : w + 35 ≤ lh ∨ lh + 5 ≤ w) (d3 : hh + 6 ≤ lh ∨ lh + 5 ≤ hh) :
    ∃ μ' : Mem, LX7_play w s hh lh seed (nI d) q μ = some ((), μ') ∧ Out (fun a => (w ≤ a ∧ a < w + 35) ∨ a = lh + 1 ∨ a = lh + 4) μ μ' ∧ StR μ' (w + 1) t.1 t.2.1 (seaN ops t q d (sea0 seed ρ)).2 := by
  obtain ⟨s0, s1, s2⟩ := id ss
  unfold LX7_play
  rw [if_pos s0, if_pos tt.1, if_pos hs.1, if_pos l.1, s1, if_pos (isK_p s2.1), if_pos s2.1]
  obtain ⟨μ1, e1, o1, r1⟩ := X8_copyFrom s2 tt r (by omega)
  rw [e1, ob]
  obtain ⟨t0, t1, t2⟩ := ss.sh o1.1
  rw [t1, if_pos (isK_p t2.1), if_pos t2.1]
  obtain ⟨ν, hν⟩ : ∃ ν, ν = p_I (p_I μ1 (w + 1) 3 0) (w + 1) 4 0 := ⟨_, rfl⟩
  rw [← hν]
  have oν : Out (fun a => (w ≤ a ∧ a < w + 35) ∨ a = lh + 1 ∨ a = lh + 4) μ ν := by
    rw [hν]
    exact ((o1.mo fun a ha => Or.inl (by obtain ⟨y1, y2⟩ := ha; omega)).pI (Or.inl (by omega))).pI (Or.inl (by omega))
  have o2 : Out (fun a => (w ≤ a ∧ a < w + 35) ∨ a = lh + 1 ∨ a = lh + 4) μ (p_I ν w 1 seed) := oν.pI (Or.inl (by omega))
  have r2 : StR (p_I ν w 1 seed) (w + 1) t.1 t.2.1 (sea0 seed ρ).2 := (r1.zero hν).fr fun a ha => ⟨gI_rowo (by obtain ⟨y1, y2⟩ := ha; omega), rfl, rfl⟩
  obtain ⟨μ', e3, o3, r3, x3⟩ := X7_playL fp (q := q) ho d1 d2 d3 hd d 0 100000 (p_I ν w 1 seed) (sea0 seed ρ) (ss.sh o2.1) (hs.sh o2.1) (hr.fr fun a ha => (o2.2 a (by obtain ⟨y1, y2⟩ := ha; omega)).1) (l.sh o2.1) (lr.fr ⟨(o2.2 lh (by omega)).1, (o2.2 (lh + 2) (by omega)).1, (o2.2 (lh + 3) (by omega)).1⟩) r2 (rk_sea0 rk) gI_s (by omega) (by omega)
  exact ⟨μ', e3, o2.tr o3, r3⟩
