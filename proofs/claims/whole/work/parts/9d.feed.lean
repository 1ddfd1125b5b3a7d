/-! ===== the class: feed ===== -/
theorem nar8 {x : Int32} : vp_nar .byte x.toInt8.toInt32 = x.toInt8.toInt32 := by
  have h : ∀ z : BitVec 8, vp_nar .byte (Int8.ofBitVec z).toInt32 = (Int8.ofBitVec z).toInt32 := by decide +kernel
  exact h x.toInt8.toBitVec
/-- the byte i of a word -/
def byW (v : Int32) (i : Nat) : Int8 := (v >>> (nI (24 - 8 * i) &&& 31)).toInt8
def putF (v : Int32) (m : Nat) (b : Nat → Int8) : Nat → Int8 := fun k => if m ≤ k ∧ k < m + 4 then byW v (k - m) else b k
/-- the TAPE's bytes -/
def TpY (μ : Mem) (m : Nat) (b : Nat → Int8) : Prop := g_I μ 2 1 = nI m ∧ ∀ k, k < 600 → g_I μ 3 k = (b k).toInt32
theorem X9_putL {v : Int32} {m : Nat} {b : Nat → Int8} (hm : m + 4 ≤ 600) : ∀ (n i fu : Nat) (μ : Mem), n + i = 4 → n < fu → TpS μ 2 → g_I μ 2 1 = nI (m + i) → (∀ k, k < 600 → g_I μ 3 k = (if m ≤ k ∧ k < m + i then byW v (k - m) else b k).toInt32) →
    ∃ μ' : Mem, mX9_put_3 fu 2 v (if i = 4 then -8 else nI (24 - 8 * i)) μ = some ((), μ') ∧ Out (fun x => x = 2 ∨ x = 3) μ μ' ∧ TpY μ' (m + 4) (putF v m b) ∧ ∀ k, k ≠ 1 → g_I μ' 2 k = g_I μ 2 k := by
  intro n
  induction n with
  | zero =>
    intro i fu μ hi hf s h1 h3
    obtain ⟨fu, rfl⟩ : ∃ q, fu = q + 1 := ⟨fu - 1, by omega⟩
    have hi : i = 4 := by omega
    subst hi
    rw [if_pos rfl, mX9_put_3, if_pos (by decide)]
    exact ⟨μ, rfl, Out.rf, ⟨h1, h3⟩, fun _ _ => rfl⟩
  | succ n ih =>
    intro i fu μ hi hf s h1 h3
    obtain ⟨fu, rfl⟩ : ∃ q, fu = q + 1 := ⟨fu - 1, by omega⟩
    obtain ⟨s1, s2, s3, s4⟩ := id s
    rw [if_neg (by omega), mX9_put_3, if_neg (nI_pos (by omega)), h1, if_neg (show ¬ (600 : Int32) ≤ nI (m + i) from nI_ge (b := 600) (by omega) (by decide)), s2, if_pos (isK_p s3), if_pos (inA_n s3 s4 (by omega) (by decide)), nI_clamp (show m + i < 2147483648 by omega), nar8]
    have e1 : g_I (p_I μ (2 + 1) (m + i) (v >>> (nI (24 - 8 * i) &&& 31)).toInt8.toInt32) 2 1 = nI (m + i) := by rw [gI_h (by decide)]; exact h1
    rw [e1, ← nI_succ]
    have e2 : nI (24 - 8 * i) + (-8 : Int32) = if i + 1 = 4 then -8 else nI (24 - 8 * (i + 1)) := by
      have hi' : i = 0 ∨ i = 1 ∨ i = 2 ∨ i = 3 := by omega
      rcases hi' with rfl | rfl | rfl | rfl <;> decide
    rw [e2]
    obtain ⟨ν, hν⟩ : ∃ ν, ν = p_I (p_I μ 3 (m + i) (byW v i).toInt32) 2 1 (nI (m + i + 1)) := ⟨_, rfl⟩
    have o1 : Out (fun x => x = 2 ∨ x = 3) μ ν := by rw [hν]; exact ((Out.rf (S := fun x => x = 2 ∨ x = 3)).pI (Or.inr rfl)).pI (Or.inl rfl)
    obtain ⟨μ', e3, o3, y3, f3⟩ := ih (i + 1) fu ν (by omega) (by omega) ⟨by rw [sh_isK o1.1]; exact s1, by rw [sh_gR o1.1]; exact s2, by rw [sh_isK o1.1]; exact s3, by rw [sh_gN o1.1]; exact s4⟩ (by rw [hν, gI_s]; rfl) (fun k hk => by
      rw [hν, gI_h (by decide)]
      by_cases ek : k = m + i
      · rw [ek, gI_s, if_pos (by omega), show m + i - m = i by omega]
      · rw [gI_k ek, h3 k hk]
        by_cases hc : m ≤ k ∧ k < m + i
        · rw [if_pos hc, if_pos (by omega)]
        · rw [if_neg hc, if_neg (by omega)])
    rw [hν] at e3
    exact ⟨μ', e3, o1.tr o3, y3, fun k hk => by rw [f3 k hk, hν, gI_k hk, gI_h (by decide)]⟩
theorem X9_put {μ : Mem} {v : Int32} {m : Nat} {b : Nat → Int8} (hm : m + 4 ≤ 600) (s : TpS μ 2) (y : TpY μ m b) : ∃ μ' : Mem, LX9_put 2 v μ = some ((), μ') ∧ Out (fun x => x = 2 ∨ x = 3) μ μ' ∧ TpY μ' (m + 4) (putF v m b) ∧ ∀ k, k ≠ 1 → g_I μ' 2 k = g_I μ 2 k := by
  unfold LX9_put
  rw [if_pos s.1]
  exact X9_putL hm 4 0 100000 μ rfl (by decide) s y.1 (fun k hk => by rw [if_neg (by omega)]; exact y.2 k hk)
def fedF (a : ClT) (v1 v2 v3 v4 v5 : Int32) : Nat → Int8 := putF v5 (a.2.1 + 16) (putF v4 (a.2.1 + 12) (putF v3 (a.2.1 + 8) (putF v2 (a.2.1 + 4) (putF v1 a.2.1 a.1))))
def sFeed (a : ClT) (v1 v2 v3 v4 v5 : Int32) : Int32 × ClT := if a.2.1 ≤ 580 then (nI (a.2.1 + 20), (fedF a v1 v2 v3 v4 v5, a.2.1 + 20, a.2.2)) else (-1, a)
theorem tpS_out {S : Nat → Prop} {μ ν : Mem} {h : Nat} (s : TpS μ h) (o : Out S μ ν) : TpS ν h := s.gr (n := 0) (SR := fun _ => False) o.gr (fun z => z)
theorem X11_feed {B : Nat} {f : Fl} {μ : Mem} {a : ClT} {v1 v2 v3 v4 v5 : Int32} (c : ClR μ f B a) : AskI B f μ (LX11_feed 1 v1 v2 v3 v4 v5 μ) (sFeed a v1 v2 v3 v4 v5) := by
  obtain ⟨n0, n1, n2⟩ := id c.1
  have s := c.2.1.1
  have y : TpY μ a.2.1 a.1 := ⟨c.2.2.1.2.1.1, c.2.2.1.1⟩
  have hB := c.2.2.2.2
  unfold LX11_feed sFeed
  rw [if_pos n0, n1, if_pos (show (0 : Nat) < 2 by decide), if_pos s.1, y.1]
  by_cases h : a.2.1 ≤ 580
  · rw [if_pos h, if_pos (show nI a.2.1 ≤ (580 : Int32) from nI_le (b := 580) h (by decide))]
    obtain ⟨m1, e1, o1, y1, f1⟩ := X9_put (v := v1) (by omega) s y
    have s1 := tpS_out s o1
    obtain ⟨m2, e2, o2, y2, f2⟩ := X9_put (v := v2) (by omega) s1 y1
    have s2 := tpS_out s1 o2
    obtain ⟨m3, e3, o3, y3, f3⟩ := X9_put (v := v3) (by omega) s2 y2
    have s3 := tpS_out s2 o3
    obtain ⟨m4, e4, o4, y4, f4⟩ := X9_put (v := v4) (by omega) s3 y3
    have s4 := tpS_out s3 o4
    obtain ⟨m5, e5, o5, y5, f5⟩ := X9_put (v := v5) (by omega) s4 y4
    have s5 := tpS_out s4 o5
    have r1 : g_R m1 1 0 = 2 := by rw [sh_gR o1.1]; exact n1
    have r2 : g_R m2 1 0 = 2 := by rw [sh_gR o2.1]; exact r1
    have r3 : g_R m3 1 0 = 2 := by rw [sh_gR o3.1]; exact r2
    have r4 : g_R m4 1 0 = 2 := by rw [sh_gR o4.1]; exact r3
    have r5 : g_R m5 1 0 = 2 := by rw [sh_gR o5.1]; exact r4
    have p2 : (0 : Nat) < 2 := by decide
    rw [e1, ob, r1, if_pos p2, if_pos s1.1, e2, ob, r2, if_pos p2, if_pos s2.1, e3, ob, r3, if_pos p2, if_pos s3.1, e4, ob, r4, if_pos p2, if_pos s4.1, e5, ob, r5, if_pos p2, if_pos s5.1, y5.1]
    have oo : Out (fun x => x = 2 ∨ x = 3) μ m5 := (((o1.tr o2).tr o3).tr o4).tr o5
    refine ⟨m5, rfl, ?_, (oo.gr (SR := fun _ => False)).call (by decide) fun x h1 _ => ⟨fun z => z, by omega⟩⟩
    obtain ⟨c1, c2, ⟨w1, ⟨w2, w2'⟩, w3, w4, w5, ⟨w6, w6'⟩, w7, w8, w9, w10, w11⟩, c4, c5⟩ := id c
    have h2 := hu_or f
    have h3 := la_or f
    have h4 := ch_or f
    have h5 := bk_or f
    have e : ∀ x, x ≠ 2 → x ≠ 3 → g_I m5 x = g_I μ x ∧ g_L m5 x = g_L μ x ∧ g_D m5 x = g_D μ x := fun x hx hy => oo.2 x (by omega)
    have g0 : Grow 0 (fun _ => False) (fun x => x = 2 ∨ x = 3) μ m5 := oo.gr
    exact ⟨c1.gr g0 (fun z => z), c2.gr g0 (fun _ _ _ _ z => z) (c2.2.2.2.2.1.sh oo.1), ⟨y5.2, ⟨y5.1, by show a.2.1 + 20 ≤ 600; omega⟩, by rw [f5 3 (by decide), f4 3 (by decide), f3 3 (by decide), f2 3 (by decide), f1 3 (by decide)]; exact w3, w4.fr (fun x hx => (e x (by obtain ⟨z1, z2⟩ := hx; omega) (by obtain ⟨z1, z2⟩ := hx; omega)).1), w5.fr ⟨(e _ (by omega) (by omega)).1, (e _ (by omega) (by omega)).1, (e _ (by omega) (by omega)).1⟩, ⟨w6.fr ⟨(e _ (by omega) (by omega)).1, (e _ (by omega) (by omega)).1⟩, w6'⟩, w7.fr ⟨(e _ (by omega) (by omega)).1, (e _ (by omega) (by omega)).1, (e _ (by omega) (by omega)).1⟩, w8.fr g0 (fun _ _ z => z) (fun x hx => by omega), w9.fr (fun x hx => e x (by obtain ⟨z1, z2⟩ := hx; omega) (by obtain ⟨z1, z2⟩ := hx; omega)), by rw [(e 1 (by decide) (by decide)).1]; exact w10, fun k hk => by rw [(e 92 (by decide) (by decide)).1]; exact w11 k hk⟩, c4, c5⟩
  · rw [if_neg h, if_neg (show ¬ nI a.2.1 ≤ (580 : Int32) from nI_ge (a := 580) (by omega) (by have := c.2.2.1.2.1.2; omega))]
    exact AskI.same c
