/-! ===== the reference is fed ===== -/
theorem and_255 {x : Int32} : x &&& (255 : Int32) = nI (x.toInt8.toUInt8.toNat) := by
  have h1 : (x &&& (255 : Int32)).toBitVec.toNat = x.toBitVec.toNat % 256 := by
    rw [Int32.toBitVec_and, BitVec.toNat_and]
    show x.toBitVec.toNat &&& 255 = _
    rw [show (255 : Nat) = 2 ^ 8 - 1 from rfl, Nat.and_two_pow_sub_one_eq_mod]
  have h2 : x.toInt8.toUInt8.toNat = x.toBitVec.toNat % 256 := by
    show (x.toBitVec.signExtend 8).toNat = _
    rw [BitVec.signExtend_eq_setWidth_of_le _ (by decide), BitVec.toNat_setWidth]
  rw [h2]
  apply Int32.toBitVec_inj.mp
  apply BitVec.eq_of_toNat_eq
  rw [h1]
  show _ = (BitVec.ofNat 32 (x.toBitVec.toNat % 256)).toNat
  rw [BitVec.toNat_ofNat]
  omega
/-- the word the i-th byte is out of -/
def wrd5 (v1 v2 v3 v4 v5 : Int32) (i : Nat) : Int32 := if i < 4 then v1 else if i < 8 then v2 else if i < 12 then v3 else if i < 16 then v4 else v5
theorem fed_at {a : ClT} {v1 v2 v3 v4 v5 : Int32} {i : Nat} (hi : i < 20) : fedF a v1 v2 v3 v4 v5 (a.2.1 + i) = byW (wrd5 v1 v2 v3 v4 v5 i) (i % 4) := by
  unfold fedF putF wrd5
  by_cases h1 : i < 4
  · rw [if_neg (by omega), if_neg (by omega), if_neg (by omega), if_neg (by omega), if_pos (by omega), if_pos h1]
    congr 1; omega
  by_cases h2 : i < 8
  · rw [if_neg (by omega), if_neg (by omega), if_neg (by omega), if_pos (by omega), if_neg h1, if_pos h2]
    congr 1; omega
  by_cases h3 : i < 12
  · rw [if_neg (by omega), if_neg (by omega), if_pos (by omega), if_neg h1, if_neg h2, if_pos h3]
    congr 1; omega
  by_cases h4 : i < 16
  · rw [if_neg (by omega), if_pos (by omega), if_neg h1, if_neg h2, if_neg h3, if_pos h4]
    congr 1; omega
  · rw [if_pos (by omega), if_neg h1, if_neg h2, if_neg h3, if_neg h4]
    congr 1; omega
theorem fed_o {a : ClT} {v1 v2 v3 v4 v5 : Int32} {k : Nat} (h : k < a.2.1 ∨ a.2.1 + 20 ≤ k) : fedF a v1 v2 v3 v4 v5 k = a.1 k := by
  unfold fedF putF
  rw [if_neg (by omega), if_neg (by omega), if_neg (by omega), if_neg (by omega), if_neg (by omega)]
def FeM (μ : Mem) (a : ClT) (v1 v2 v3 v4 v5 : Int32) (i : Nat) : Prop := g_I μ 125 1 = nI (a.2.1 + i) ∧ ∀ k, k < 600 → g_I μ 126 k = nI ((if k < a.2.1 + i then fedF a v1 v2 v3 v4 v5 k else a.1 k).toUInt8.toNat)
theorem R_feedL {a : ClT} {v1 v2 v3 v4 v5 : Int32} (hm : a.2.1 ≤ 580) : ∀ (n i fu : Nat) (μ : Mem), RfS μ → n + i = 20 → n < fu → FeM μ a v1 v2 v3 v4 v5 i → ∃ μ' : Mem, mX12_feed_23 fu 125 v1 v2 v3 v4 v5 (nI i) μ = some (nI (a.2.1 + 20), μ') ∧ OF (fun k => k = 1) (fun x => x = 126) μ μ' ∧ FeM μ' a v1 v2 v3 v4 v5 20 := by
  intro n
  induction n with
  | zero =>
    intro i fu μ s hi hf h
    obtain ⟨fu, rfl⟩ : ∃ q, fu = q + 1 := ⟨fu - 1, by omega⟩
    obtain rfl : i = 20 := by omega
    rw [mX12_feed_23, if_pos (show (20 : Int32) ≤ nI 20 by decide), h.1]
    exact ⟨μ, rfl, OF.rf, h⟩
  | succ n ih =>
    intro i fu μ s hi hf h
    obtain ⟨fu, rfl⟩ : ∃ q, fu = q + 1 := ⟨fu - 1, by omega⟩
    have hi20 : i < 20 := by omega
    have go : ∃ μ' : Mem, mX12_feed_76 (fun l0 l1 l2 l3 l4 l5 l6 μ => mX12_feed_23 fu l0 l1 l2 l3 l4 l5 l6 μ) 125 v1 v2 v3 v4 v5 (nI i) (wrd5 v1 v2 v3 v4 v5 i) μ = some (nI (a.2.1 + 20), μ') ∧ OF (fun k => k = 1) (fun x => x = 126) μ μ' ∧ FeM μ' a v1 v2 v3 v4 v5 20 := by
      unfold mX12_feed_76
      have em : nI i - nI i / 4 * 4 = nI (i % 4) := nI_mod (b := 4) (by omega) (by decide)
      have e8 : (24 : Int32) - 8 * nI (i % 4) = nI (24 - 8 * (i % 4)) := by
        rw [show (8 : Int32) = nI 8 from rfl, nI_mul]
        exact nI_sub (a := 24) (by omega)
      have ev : (wrd5 v1 v2 v3 v4 v5 i >>> (nI (24 - 8 * (i % 4)) &&& 31)) &&& (255 : Int32) = nI ((fedF a v1 v2 v3 v4 v5 (a.2.1 + i)).toUInt8.toNat) := by
        rw [and_255, fed_at hi20]
        rfl
      rw [s.h9, if_pos q126, if_pos (show ¬ (4 : Int32) = 0 by decide), h.1, if_pos (s.a126.ix (show a.2.1 + i < 600 by omega) (by decide)), em, e8, ev, nI_clamp (show a.2.1 + i < 2147483648 by omega), gI_h (show (125 : Nat) ≠ 126 by decide), h.1, ← nI_succ, ← nI_succ]
      have o0 : OF (fun k => k = 1) (fun x => x = 126) μ (p_I (p_I μ 126 (a.2.1 + i) (nI ((fedF a v1 v2 v3 v4 v5 (a.2.1 + i)).toUInt8.toNat))) 125 1 (nI (a.2.1 + i + 1))) := ((OF.rf (F := fun k => k = 1) (S := fun x => x = 126)).pS rfl (by decide)).p0 rfl
      obtain ⟨μ', e1, o1, f1⟩ := ih (i + 1) fu _ (o0.s s) (by omega) (by omega) ⟨by rw [gI_s]; rfl, fun k hk => by
        rw [gI_h (by decide)]
        by_cases e : k = a.2.1 + i
        · rw [e, gI_s, if_pos (by omega)]
        · rw [gI_k e, h.2 k hk]
          by_cases g : k < a.2.1 + i
          · rw [if_pos g, if_pos (by omega)]
          · rw [if_neg g, if_neg (by omega)]⟩
      exact ⟨μ', e1, o0.tr o1, f1⟩
    rw [mX12_feed_23, if_neg (show ¬ (20 : Int32) ≤ nI i from nI_ge (b := 20) hi20 (by decide))]
    unfold wrd5 at go
    by_cases h1 : i < 4
    · rw [if_pos h1] at go
      rw [if_neg (show ¬ (4 : Int32) ≤ nI i from nI_ge (b := 4) h1 (by decide))]
      exact go
    rw [if_neg h1] at go
    rw [if_pos (show (4 : Int32) ≤ nI i from nI_le (a := 4) (by omega) (by omega))]
    by_cases h2 : i < 8
    · rw [if_pos h2] at go
      rw [if_neg (show ¬ (8 : Int32) ≤ nI i from nI_ge (b := 8) h2 (by decide))]
      exact go
    rw [if_neg h2] at go
    rw [if_pos (show (8 : Int32) ≤ nI i from nI_le (a := 8) (by omega) (by omega))]
    by_cases h3 : i < 12
    · rw [if_pos h3] at go
      rw [if_neg (show ¬ (12 : Int32) ≤ nI i from nI_ge (b := 12) h3 (by decide))]
      exact go
    rw [if_neg h3] at go
    rw [if_pos (show (12 : Int32) ≤ nI i from nI_le (a := 12) (by omega) (by omega))]
    by_cases h4 : i < 16
    · rw [if_pos h4] at go
      rw [if_neg (show ¬ (16 : Int32) ≤ nI i from nI_ge (b := 16) h4 (by decide))]
      exact go
    rw [if_neg h4] at go
    rw [if_pos (show (16 : Int32) ≤ nI i from nI_le (a := 16) (by omega) (by omega))]
    exact go
theorem M_feed {μ : Mem} {a : ClT} {v1 v2 v3 v4 v5 : Int32} (r : RfR μ a) (k : ClK a) : AskN μ (LX12_feed 125 v1 v2 v3 v4 v5 μ) (sFeed a v1 v2 v3 v4 v5) := by
  obtain ⟨q, m0⟩ := r.q k
  unfold LX12_feed
  rw [if_pos r.1.1]
  refine AskN.tr m0 ?_
  generalize p_I μ 125 0 0 = μ0 at q
  obtain ⟨y0, y1, ⟨y2, y2'⟩, y3, y4, y5, y6, y7, y8, y9, y10, y11⟩ := q.1
  have ho := q.ho
  have e20 : nI a.2.1 + 20 = nI (a.2.1 + 20) := nI_add a.2.1 20
  rw [y2, e20]
  unfold sFeed
  by_cases h : a.2.1 ≤ 580
  case neg =>
    rw [if_neg h, if_neg (show ¬ nI (a.2.1 + 20) ≤ (600 : Int32) from nI_ge (a := 600) (by omega) (by omega))]
    exact q.nsame
  rw [if_pos h, if_pos (show nI (a.2.1 + 20) ≤ (600 : Int32) from nI_le (b := 600) (by omega) (by decide))]
  obtain ⟨ν, e1, o1, f1, f2⟩ := R_feedL (v1 := v1) (v2 := v2) (v3 := v3) (v4 := v4) (v5 := v5) h 20 0 100000 μ0 y0 rfl (by decide) ⟨y2, fun j hj => by
    rw [y1 j hj]
    by_cases g : j < a.2.1 + 0
    · rw [if_pos g, fed_o (by omega)]
    · rw [if_neg g]⟩
  have e1 : mX12_feed_23 100000 125 v1 v2 v3 v4 v5 (0 : Int32) μ0 = some (nI (a.2.1 + 20), ν) := e1
  rw [e1]
  have g : ∀ x, x ≠ 125 → x ≠ 126 → g_I ν x = g_I μ0 x := fun x h1 h2 => o1.r h1 h2
  have f : ∀ j, j ≠ 1 → g_I ν 125 j = g_I μ0 125 j := fun j hj => o1.2 j hj
  refine ⟨ν, rfl, ⟨o1.s y0, fun j hj => ?_, ⟨f1, by show a.2.1 + 20 ≤ 600; omega⟩, by rw [f 3 (by decide)]; exact y3, y4.fr ho (fun x hx => g x (by omega) (by omega)), y5.fr (f 17 (by decide)) (fun x hx => g x (by omega) (by omega)), y6.fr (f 34 (by decide)) (g 520 (by decide) (by decide)), y7.fr (f 33 (by decide)) (fun x hx => g x (by omega) (by omega)), y8.fr (f 35 (by decide)) (f 37 (by decide)) (fun x hx => g x (by omega) (by omega)), fun j hj => by rw [g 603 (by decide) (by decide)]; exact y9 j hj, by rw [f 36 (by decide)]; exact y10, fun j hj => by rw [g 127 (by decide) (by decide)]; exact y11 j hj⟩, o1.mf fun x hx => by omega⟩
  show g_I ν 126 j = nI ((fedF a v1 v2 v3 v4 v5 j).toUInt8.toNat)
  rw [f2 j hj]
  by_cases hj2 : j < a.2.1 + 20
  · rw [if_pos hj2]
  · rw [if_neg hj2, fed_o (by omega)]
