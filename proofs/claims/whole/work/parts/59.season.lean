/-! ===== a SEASON of the class ===== -/
def nxS (s : Int32) : Int32 := (s * (1103515245 : Int32)) + (12345 : Int32)
def bitsN (s : Int32) : Nat := s.toUInt32.toNat / 65536 % 32768
theorem and_32767 {u : UInt32} : u.toInt32 &&& (32767 : Int32) = nI (u.toNat % 32768) := by
  have h : (u.toInt32 &&& (32767 : Int32)).toBitVec.toNat = u.toNat % 32768 := by
    rw [Int32.toBitVec_and, BitVec.toNat_and]
    show u.toNat &&& 32767 = _
    rw [show (32767 : Nat) = 2 ^ 15 - 1 from rfl, Nat.and_two_pow_sub_one_eq_mod]
  apply Int32.toBitVec_inj.mp
  apply BitVec.eq_of_toNat_eq
  rw [h]
  show _ = (BitVec.ofNat 32 (u.toNat % 32768)).toNat
  rw [BitVec.toNat_ofNat]
  omega
theorem bits_c {s : Int32} : (s.toUInt32 >>> ((16 : Int32).toUInt32 &&& Int32.toUInt32 31)).toInt32 &&& (32767 : Int32) = nI (bitsN s) := by
  rw [and_32767]
  congr 1
  unfold bitsN
  congr 1
  rw [UInt32.toNat_shiftRight, show ((16 : Int32).toUInt32 &&& Int32.toUInt32 31).toNat % 32 = 16 by decide, Nat.shiftRight_eq_div_pow]
/-- what is DRAWN by n -/
def drN (s : Int32) (n : Nat) : Nat := bitsN s % n
theorem nI_mod {a b : Nat} (ha : a < 2147483648) (hb : b < 2147483648) : nI a - nI a / nI b * nI b = nI (a % b) := by
  have h1 : a / b * b ≤ a := Nat.div_mul_le_self a b
  rw [nI_div ha hb, nI_mul, nI_sub h1]
  congr 1
  have := Nat.div_add_mod a b
  rw [Nat.mul_comm] at this
  omega
theorem X7_drawnBy {μ : Mem} {w n : Nat} {s : Int32} (k : isK μ w 7 = true) (hs : g_I μ w 1 = s) (h0 : 0 < n) (hn : n < 2147483648) : LX7_drawnBy w (nI n) μ = some (nI (drN (nxS s) n), p_I μ w 1 (nxS s)) := by
  unfold LX7_drawnBy
  rw [if_pos k, if_neg (nI_nle h0 hn), if_pos (nI_ne0 h0 hn), gI_s, hs]
  have hb : bitsN (nxS s) < 2147483648 := by
    unfold bitsN
    have := Nat.mod_lt ((nxS s).toUInt32.toNat / 65536) (show 0 < 32768 by decide)
    omega
  show some ((((nxS s).toUInt32 >>> ((16 : Int32).toUInt32 &&& Int32.toUInt32 31)).toInt32 &&& (32767 : Int32)) - (((nxS s).toUInt32 >>> ((16 : Int32).toUInt32 &&& Int32.toUInt32 31)).toInt32 &&& (32767 : Int32)) / nI n * nI n, _) = _
  rw [bits_c, nI_mod hb hn]
  rfl
/-- a reading, if it can be done -/
def tryRead (ops : List (Int32 × Int32)) (kf ρ : Nat → Int32) (p : Nat) (v : Int32) : Nat → Int32 := if canP (kf p) ρ p = 0 then ρ else sRead ops (kf p) ρ p v
def tryHear (ops : List (Int32 × Int32)) (np : Nat) (kf ρ : Nat → Int32) (a b : Nat) : Nat → Int32 := if nOf ρ a = 0 then ρ else tryRead ops kf ρ b (inRow np kf ρ a)
/-- a DAY of a SEASON: the SEED and the row -/
def sea1 (ops : List (Int32 × Int32)) (t : HutT) (x : Int32 × (Nat → Int32)) : Int32 × (Nat → Int32) := if t.1 = 0 then x else (nxS (nxS x.1), tryRead ops t.2.1 x.2 (drN (nxS x.1) t.1) (nI (drN (nxS (nxS x.1)) 10000)))
def sea2 (ops : List (Int32 × Int32)) (t : HutT) (q : Int32) (x : Int32 × (Nat → Int32)) : Int32 × (Nat → Int32) := if t.2.2.2.2.1 = 0 then x else if q ≤ nI (drN (nxS x.1) 16) then (nxS x.1, x.2) else (nxS (nxS x.1), tryHear ops t.1 t.2.1 x.2 (t.2.2.2.2.2.1 (drN (nxS (nxS x.1)) t.2.2.2.2.1)) (t.2.2.2.2.2.2.1 (drN (nxS (nxS x.1)) t.2.2.2.2.1)))
def seaD (ops : List (Int32 × Int32)) (t : HutT) (q : Int32) (x : Int32 × (Nat → Int32)) : Int32 × (Nat → Int32) := ((sea2 ops t q (sea1 ops t x)).1, sDay t.1 (sea2 ops t q (sea1 ops t x)).2)
def seaN (ops : List (Int32 × Int32)) (t : HutT) (q : Int32) : Nat → Int32 × (Nat → Int32) → Int32 × (Nat → Int32)
  | 0, x => x
  | n + 1, x => seaN ops t q n (seaD ops t q x)
theorem rk_tryRead {np p : Nat} {kf ρ : Nat → Int32} {ops : List (Int32 × Int32)} {v : Int32} (h : RowK np kf ρ) (hp : p < np) : RowK np kf (tryRead ops kf ρ p v) := by
  show RowK np kf (if canP (kf p) ρ p = 0 then ρ else sRead ops (kf p) ρ p v)
  by_cases e : canP (kf p) ρ p = 0
  · rw [if_pos e]; exact h
  · rw [if_neg e]; exact h.read hp e
theorem rk_tryHear {np a b : Nat} {kf ρ : Nat → Int32} {ops : List (Int32 × Int32)} (h : RowK np kf ρ) (hb : b < np) : RowK np kf (tryHear ops np kf ρ a b) := by
  unfold tryHear
  by_cases e : nOf ρ a = 0
  · rw [if_pos e]; exact h
  · rw [if_neg e]; exact rk_tryRead h hb
theorem hutNp {t : HutT} (h : HutOk t) {s : Int32} (h0 : ¬ t.1 = 0) : drN s t.1 < t.1 := Nat.mod_lt _ (by omega)
theorem hutNw {t : HutT} {s : Int32} (h0 : ¬ t.2.2.2.2.1 = 0) : drN s t.2.2.2.2.1 < t.2.2.2.2.1 := Nat.mod_lt _ (by omega)
theorem rk_sea1 {ops : List (Int32 × Int32)} {t : HutT} {x : Int32 × (Nat → Int32)} (ho : HutOk t) (h : RowK t.1 t.2.1 x.2) : RowK t.1 t.2.1 (sea1 ops t x).2 := by
  unfold sea1
  by_cases e : t.1 = 0
  · rw [if_pos e]; exact h
  · rw [if_neg e]; exact rk_tryRead h (hutNp ho e)
theorem rk_sea2 {ops : List (Int32 × Int32)} {t : HutT} {q : Int32} {x : Int32 × (Nat → Int32)} (ho : HutOk t) (h : RowK t.1 t.2.1 x.2) : RowK t.1 t.2.1 (sea2 ops t q x).2 := by
  unfold sea2
  by_cases e : t.2.2.2.2.1 = 0
  · rw [if_pos e]; exact h
  · rw [if_neg e]
    by_cases e2 : q ≤ nI (drN (nxS x.1) 16)
    · rw [if_pos e2]; exact h
    · rw [if_neg e2]; exact rk_tryHear h (ho.2.2.2.1 _ (hutNw e)).2
theorem rk_seaD {ops : List (Int32 × Int32)} {t : HutT} {q : Int32} {x : Int32 × (Nat → Int32)} (ho : HutOk t) (h : RowK t.1 t.2.1 x.2) : RowK t.1 t.2.1 (seaD ops t q x).2 := (rk_sea2 ho (rk_sea1 ho h)).day
/-- the things of a SEASON at w: its STATE lies behind it -/
def SeaS (μ : Mem) (w : Nat) : Prop := isK μ w 7 = true ∧ g_R μ w 0 = w + 1 ∧ StS μ (w + 1)
theorem SeaS.sh {μ μ' : Mem} {h : Nat} (s : SeaS μ h) (e : Sh μ μ') : SeaS μ' h := ⟨by rw [sh_isK e]; exact s.1, by rw [sh_gR e]; exact s.2.1, s.2.2.sh e⟩
theorem X7_playDay (fp : FpNn) {μ : Mem} {w hh lh : Nat} {t : HutT} {ops : List (Int32 × Int32)} {q : Int32} {x : Int32 × (Nat → Int32)} (ss : SeaS μ w) (hs : HutS μ hh) (hr : HutR μ hh t) (ho : HutOk t) (l : LawS μ lh) (lr : LawR μ lh ops) (r : StR μ (w + 1) t.1 t.2.1 x.2) (rk : RowK t.1 t.2.1 x.2) (hx : g_I μ w 1 = x.1) (d1 : w + 35 ≤ hh ∨ hh + 6 ≤ w) (d2 : w + 35 ≤ lh ∨ lh + 5 ≤ w) (d3 : hh + 6 ≤ lh ∨ lh + 5 ≤ hh) :
    ∃ μ' : Mem, LX7_playDay w hh lh q μ = some ((), μ') ∧ Out (fun a => (w ≤ a ∧ a < w + 35) ∨ a = lh + 1 ∨ a = lh + 4) μ μ' ∧ StR μ' (w + 1) t.1 t.2.1 (seaD ops t q x).2 ∧ g_I μ' w 1 = (seaD ops t q x).1 := by
  -- what is kept by what changes the SEASON alone
  have keep : ∀ ν : Mem, Out (fun a => (w ≤ a ∧ a < w + 35) ∨ a = lh + 1 ∨ a = lh + 4) μ ν → SeaS ν w ∧ HutS ν hh ∧ HutR ν hh t ∧ LawS ν lh ∧ LawR ν lh ops := fun ν o => ⟨ss.sh o.1, hs.sh o.1, hr.fr (fun a ha => (o.2 a (by obtain ⟨x1, x2⟩ := ha; omega)).1), l.sh o.1, lr.fr ⟨(o.2 lh (by omega)).1, (o.2 (lh + 2) (by omega)).1, (o.2 (lh + 3) (by omega)).1⟩⟩
  -- the end
  have last : ∀ (ν : Mem) (y : Int32 × (Nat → Int32)), Out (fun a => (w ≤ a ∧ a < w + 35) ∨ a = lh + 1 ∨ a = lh + 4) μ ν → StR ν (w + 1) t.1 t.2.1 y.2 → RowK t.1 t.2.1 y.2 → g_I ν w 1 = y.1 → ∃ μ' : Mem, mX7_playDay_85 w ν = some ((), μ') ∧ Out (fun a => (w ≤ a ∧ a < w + 35) ∨ a = lh + 1 ∨ a = lh + 4) μ μ' ∧ StR μ' (w + 1) t.1 t.2.1 (sDay t.1 y.2) ∧ g_I μ' w 1 = y.1 := by
    intro ν y o ry rky hy
    obtain ⟨⟨s0, s1, s2⟩, -⟩ := keep ν o
    unfold mX7_playDay_85
    rw [s1, if_pos (isK_p s2.1), if_pos s2.1]
    obtain ⟨μ', e1, o1, r1⟩ := X8_endDay s2 ry rky.2.1 rky.h24
    rw [e1, ob]
    exact ⟨μ', rfl, o.tr (o1.mo fun a ha => Or.inl (by obtain ⟨x1, x2⟩ := ha; omega)), r1, by rw [(o1.2 w (by intro z; obtain ⟨x1, x2⟩ := z; omega)).1]; exact hy⟩
  -- the hearing
  have mid : ∀ (ν : Mem) (y : Int32 × (Nat → Int32)), Out (fun a => (w ≤ a ∧ a < w + 35) ∨ a = lh + 1 ∨ a = lh + 4) μ ν → StR ν (w + 1) t.1 t.2.1 y.2 → RowK t.1 t.2.1 y.2 → g_I ν w 1 = y.1 → ∃ μ' : Mem, mX7_playDay_35 w hh lh q ν = some ((), μ') ∧ Out (fun a => (w ≤ a ∧ a < w + 35) ∨ a = lh + 1 ∨ a = lh + 4) μ μ' ∧ StR μ' (w + 1) t.1 t.2.1 (sDay t.1 (sea2 ops t q y).2) ∧ g_I μ' w 1 = (sea2 ops t q y).1 := by
    intro ν y o ry rky hy
    obtain ⟨⟨s0, s1, s2⟩, hs', hr', l', lr'⟩ := keep ν o
    obtain ⟨z0, z1, z2, z3, z5, z6, k1, k2, k3, k4, k5, n1, n2, n3, n4, n5⟩ := id hs'
    obtain ⟨q0, q4, q7, qp, qw⟩ := id hr'
    have hw16 := ho.2.1
    unfold mX7_playDay_35 sea2
    rw [q4]
    by_cases e : t.2.2.2.2.1 = 0
    · rw [if_pos e, e, if_pos (show nI 0 ≤ 0 by decide)]
      exact last ν y o ry rky hy
    · rw [if_neg e, if_neg (nI_nle (by omega) (by omega)), show (16 : Int32) = nI 16 from rfl, X7_drawnBy s0 hy (by decide) (by decide), ob]
      have o1 : Out (fun a => (w ≤ a ∧ a < w + 35) ∨ a = lh + 1 ∨ a = lh + 4) μ (p_I ν w 1 (nxS y.1)) := o.pI (Or.inl (by omega))
      have r1 : StR (p_I ν w 1 (nxS y.1)) (w + 1) t.1 t.2.1 y.2 := ry.fr fun a ha => ⟨gI_rowo (by obtain ⟨x1, x2⟩ := ha; omega), rfl, rfl⟩
      by_cases e2 : q ≤ nI (drN (nxS y.1) 16)
      · rw [if_pos e2, if_pos e2]
        exact last _ (nxS y.1, y.2) o1 r1 rky gI_s
      · rw [if_neg e2, if_neg e2]
        have g4 : g_I (p_I ν w 1 (nxS y.1)) hh 4 = nI t.2.2.2.2.1 := by rw [gI_h (by omega)]; exact q4
        rw [g4, X7_drawnBy (μ := p_I ν w 1 (nxS y.1)) s0 gI_s (by omega) (by omega), ob]
        obtain ⟨ν2, hν2⟩ : ∃ ν2, ν2 = p_I (p_I ν w 1 (nxS y.1)) w 1 (nxS (nxS y.1)) := ⟨_, rfl⟩
        rw [← hν2]
        have o2 : Out (fun a => (w ≤ a ∧ a < w + 35) ∨ a = lh + 1 ∨ a = lh + 4) μ ν2 := by rw [hν2]; exact o1.pI (Or.inl (by omega))
        have r2 : StR ν2 (w + 1) t.1 t.2.1 y.2 := by rw [hν2]; exact ry.fr fun a ha => ⟨by rw [gI_rowo (by obtain ⟨x1, x2⟩ := ha; omega), gI_rowo (by obtain ⟨x1, x2⟩ := ha; omega)], rfl, rfl⟩
        have hy2 : g_I ν2 w 1 = nxS (nxS y.1) := by rw [hν2]; exact gI_s
        obtain ⟨⟨s0, s1, s2⟩, hs', hr', l', lr'⟩ := keep ν2 o2
        obtain ⟨z0, z1, z2, z3, z5, z6, k1, k2, k3, k4, k5, n1, n2, n3, n4, n5⟩ := id hs'
        obtain ⟨q0, q4, q7, qp, qw⟩ := id hr'
        have hlt := hutNw (s := nxS (nxS y.1)) e
        obtain ⟨f1, f2⟩ := qw _ hlt
        obtain ⟨f3, f4⟩ := ho.2.2.2.1 _ hlt
        rw [s1, z5, z6, if_pos (isK_p s2.1), if_pos (isK_p k4), if_pos (inA_n k4 n4 (by omega) (by decide)), if_pos (isK_p k5), if_pos (inA_n k5 n5 (by omega) (by decide)), if_pos s2.1, nI_clamp (by omega), f1, f2]
        obtain ⟨μ3, e3, o3, r3⟩ := X8_hear fp l' lr' s2 r2 rky.2.1 f3 f4 (by omega)
        rw [e3, ob]
        have oo : Out (fun a => (w ≤ a ∧ a < w + 35) ∨ a = lh + 1 ∨ a = lh + 4) μ μ3 := o2.tr (o3.mo fun a ha => by
          rcases ha with ⟨x1, x2⟩ | ha
          · exact Or.inl (by omega)
          · exact Or.inr ha)
        refine last μ3 (nxS (nxS y.1), tryHear ops t.1 t.2.1 y.2 (t.2.2.2.2.2.1 (drN (nxS (nxS y.1)) t.2.2.2.2.1)) (t.2.2.2.2.2.2.1 (drN (nxS (nxS y.1)) t.2.2.2.2.1))) oo ?_ (rk_tryHear rky f4) ?_
        · unfold tryHear tryRead
          exact r3
        · rw [(o3.2 w (by rintro (⟨x1, x2⟩ | x1 | x1) <;> omega)).1]
          exact hy2
  obtain ⟨s0, s1, s2⟩ := id ss
  obtain ⟨q0, q4, q7, qp, qw⟩ := id hr
  have hp8 := ho.1
  unfold LX7_playDay seaD
  rw [if_pos s0, if_pos hs.1, if_pos l.1, q0]
  have e1 : sea1 ops t x = if t.1 = 0 then x else (nxS (nxS x.1), tryRead ops t.2.1 x.2 (drN (nxS x.1) t.1) (nI (drN (nxS (nxS x.1)) 10000))) := rfl
  rw [e1]
  by_cases e : t.1 = 0
  · rw [if_pos e, e, if_pos (show nI 0 ≤ 0 by decide)]
    have := mid μ x Out.rf r rk hx
    rw [e] at this
    exact this
  · rw [if_neg e, if_neg (nI_nle (by omega) (by omega)), X7_drawnBy s0 hx (by omega) (by omega), ob]
    have o1 : Out (fun a => (w ≤ a ∧ a < w + 35) ∨ a = lh + 1 ∨ a = lh + 4) μ (p_I μ w 1 (nxS x.1)) := Out.rf.pI (Or.inl (by omega))
    have g0 : g_R (p_I μ w 1 (nxS x.1)) w 0 = w + 1 := s1
    rw [g0, if_pos (isK_p s2.1), show (10000 : Int32) = nI 10000 from rfl, X7_drawnBy (μ := p_I μ w 1 (nxS x.1)) s0 gI_s (by decide) (by decide), ob]
    obtain ⟨ν2, hν2⟩ : ∃ ν2, ν2 = p_I (p_I μ w 1 (nxS x.1)) w 1 (nxS (nxS x.1)) := ⟨_, rfl⟩
    rw [← hν2]
    have o2 : Out (fun a => (w ≤ a ∧ a < w + 35) ∨ a = lh + 1 ∨ a = lh + 4) μ ν2 := by rw [hν2]; exact o1.pI (Or.inl (by omega))
    have r2 : StR ν2 (w + 1) t.1 t.2.1 x.2 := by rw [hν2]; exact r.fr fun a ha => ⟨by rw [gI_rowo (by obtain ⟨x1, x2⟩ := ha; omega), gI_rowo (by obtain ⟨x1, x2⟩ := ha; omega)], rfl, rfl⟩
    have hy2 : g_I ν2 w 1 = nxS (nxS x.1) := by rw [hν2]; exact gI_s
    obtain ⟨⟨s0, s1, s2⟩, hs', hr', l', lr'⟩ := keep ν2 o2
    rw [if_pos s2.1]
    have hlt := hutNp ho (s := nxS x.1) e
    obtain ⟨μ3, e3, o3, r3⟩ := X8_write fp (v := nI (drN (nxS (nxS x.1)) 10000)) l' lr' s2 r2 rk.2.1 hlt (by omega)
    rw [e3, ob]
    have oo : Out (fun a => (w ≤ a ∧ a < w + 35) ∨ a = lh + 1 ∨ a = lh + 4) μ μ3 := o2.tr (o3.mo fun a ha => by
      rcases ha with ⟨x1, x2⟩ | ha
      · exact Or.inl (by omega)
      · exact Or.inr ha)
    refine mid μ3 (nxS (nxS x.1), tryRead ops t.2.1 x.2 (drN (nxS x.1) t.1) (nI (drN (nxS (nxS x.1)) 10000))) oo ?_ (rk_tryRead rk hlt) ?_
    · unfold tryRead
      exact r3
    · rw [(o3.2 w (by rintro (⟨x1, x2⟩ | x1 | x1) <;> omega)).1]
      exact hy2
