/-! ===== the reference: images of its row and of those before ===== -/
abbrev iF : Nat → Prop := fun k => k = 35 ∨ k = 38
theorem R_put1 {ν : Mem} {h c : Nat} {u fl : Int32} (s : RfS ν) (ah : ArS ν h 7124) (h1 : h ≠ 125) (hc : c < 7124) (h38 : g_I ν 125 38 = nI c) : ∃ ν1 : Mem, LX12_puts 125 h u fl ν = some (if fl = 0 then u else g_I ν h c, ν1) ∧ (∀ x, x ≠ 125 → x ≠ h → g_I ν1 x = g_I ν x) ∧ (∀ k, k ≠ 38 → g_I ν1 125 k = g_I ν 125 k) ∧ g_I ν1 125 38 = nI (c + 1) ∧ g_I ν1 h c = (if fl = 0 then u else g_I ν h c) ∧ (∀ k, k ≠ c → g_I ν1 h k = g_I ν h k) ∧ Out (fun x => x = 125 ∨ x = h) ν ν1 := by
  have ic : inA ν h 15 (nI c) = true := ah.ix hc (by decide)
  have cc : (nI c).toNatClampNeg = c := nI_clamp (by omega)
  have e1 : nI (c + 1) - 1 = nI c := nI_sub (a := c + 1) (b := 1) (by omega)
  unfold LX12_puts mX12_puts_11
  rw [if_pos s.1, if_pos ah.1, h38, if_pos ic, cc]
  by_cases hf : fl = 0
  · rw [if_pos hf, if_pos hf, gI_h (show (125 : Nat) ≠ h from Ne.symm h1), h38, ← nI_succ, gI_s, e1, if_pos (show inA (p_I ν h c u) h 15 (nI c) = true from ic), cc, gI_h h1, gI_s]
    refine ⟨_, rfl, fun x x1 x2 => by rw [gI_rowo x1, gI_rowo x2], fun k hk => by rw [gI_k hk, gI_h (Ne.symm h1)], gI_s, by rw [gI_h h1, gI_s], fun k hk => by rw [gI_h h1, gI_k hk], ((Out.rf (S := fun x => x = 125 ∨ x = h)).pI (Or.inr rfl)).pI (Or.inl rfl)⟩
  · rw [if_neg hf, if_neg hf, ← nI_succ, gI_s, e1, if_pos ic, cc, gI_h h1]
    refine ⟨_, rfl, fun x x1 x2 => by rw [gI_rowo x1], fun k hk => by rw [gI_k hk], gI_s, by rw [gI_h h1], fun k hk => by rw [gI_h h1], (Out.rf (S := fun x => x = 125 ∨ x = h)).pI (Or.inl rfl)⟩
/-- one place: what stands there, or what is kept of it; it stands in both, then -/
def bothV (μ : Mem) (fl : Int32) (S h i c : Nat) : Int32 := if fl = 0 then g_I μ S i else g_I μ h c
/-- what a row S is at, j of its places being done; c0 is where it lies in what is kept -/
def RoP (μ ν : Mem) (fl : Int32) (S h c0 j : Nat) : Prop := (∀ i, i < j → g_I ν S i = bothV μ fl S h i (c0 + i) ∧ g_I ν h (c0 + i) = bothV μ fl S h i (c0 + i)) ∧ (∀ i, j ≤ i → g_I ν S i = g_I μ S i) ∧ (∀ k, (k < c0 ∨ c0 + j ≤ k) → g_I ν h k = g_I μ h k) ∧ (∀ x, x ≠ 125 → x ≠ h → x ≠ S → g_I ν x = g_I μ x) ∧ (∀ k, k ≠ 38 → g_I ν 125 k = g_I μ 125 k) ∧ g_I ν 125 38 = nI (c0 + j) ∧ Out (fun x => x = 125 ∨ x = h ∨ x = S) μ ν
theorem RoP.st {μ ν ν1 : Mem} {fl : Int32} {S h c0 j : Nat} (p : RoP μ ν fl S h c0 j) (hS : S ≠ 125) (hh : h ≠ 125) (hSh : S ≠ h)
    (q1 : ∀ x, x ≠ 125 → x ≠ h → g_I ν1 x = g_I ν x) (q2 : ∀ k, k ≠ 38 → g_I ν1 125 k = g_I ν 125 k) (q3 : g_I ν1 125 38 = nI (c0 + j + 1)) (q4 : g_I ν1 h (c0 + j) = (if fl = 0 then g_I ν S j else g_I ν h (c0 + j))) (q5 : ∀ k, k ≠ c0 + j → g_I ν1 h k = g_I ν h k) (q6 : Out (fun x => x = 125 ∨ x = h) ν ν1) : RoP μ (p_I ν1 S j (if fl = 0 then g_I ν S j else g_I ν h (c0 + j))) fl S h c0 (j + 1) := by
  obtain ⟨p1, p2, p3, p4, p5, p6, p7⟩ := p
  have eV : (if fl = 0 then g_I ν S j else g_I ν h (c0 + j)) = bothV μ fl S h j (c0 + j) := by
    unfold bothV
    rw [p2 j (Nat.le_refl _), p3 (c0 + j) (Or.inr (Nat.le_refl _))]
  rw [eV] at q4 ⊢
  refine ⟨fun i hi => ?_, fun i hi => ?_, fun k hk => ?_, fun x x1 x2 x3 => ?_, fun k hk => ?_, ?_, ?_⟩
  · by_cases e : i = j
    · subst e
      exact ⟨gI_s, by rw [gI_h (Ne.symm hSh)]; exact q4⟩
    · refine ⟨?_, ?_⟩
      · rw [gI_k e, q1 S hS hSh]; exact (p1 i (by omega)).1
      · rw [gI_h (Ne.symm hSh), q5 (c0 + i) (by omega)]; exact (p1 i (by omega)).2
  · rw [gI_k (by omega), q1 S hS hSh]; exact p2 i (by omega)
  · rw [gI_h (Ne.symm hSh), q5 k (by omega)]; exact p3 k (by omega)
  · rw [gI_rowo x3, q1 x x1 x2]; exact p4 x x1 x2 x3
  · rw [gI_h (Ne.symm hS), q2 k hk]; exact p5 k hk
  · rw [gI_h (Ne.symm hS)]; exact q3
  · exact p7.tr ((q6.mo fun x hx => hx.elim Or.inl (fun y => Or.inr (Or.inl y))).pI (Or.inr (Or.inr rfl)))
theorem RoP.z {μ : Mem} {fl : Int32} {S h c0 : Nat} (h38 : g_I μ 125 38 = nI c0) : RoP μ μ fl S h c0 0 := ⟨fun i hi => absurd hi (Nat.not_lt_zero _), fun _ _ => rfl, fun _ _ => rfl, fun _ _ _ _ => rfl, fun _ _ => rfl, h38, Out.rf⟩
theorem R_now21 {μ : Mem} {h : Nat} {fl : Int32} (s : RfS μ) (ah : ArS μ h 7124) (hh : 623 ≤ h ∧ h < 626) : ∀ (f j fu : Nat) (ν : Mem), f + j = 419 → f < fu → RoP μ ν fl 603 h 1 j → ∃ ν1 : Mem, mX12_putsAll_21 fu 125 h fl (nI j) ν = mX12_putsAll_54 100000 125 h fl (0 : Int32) ν1 ∧ RoP μ ν1 fl 603 h 1 419 := by
  intro f
  induction f with
  | zero =>
    intro j fu ν hj hf p
    obtain ⟨fu, rfl⟩ : ∃ q, fu = q + 1 := ⟨fu - 1, by omega⟩
    rw [mX12_putsAll_21, if_pos (show (419 : Int32) ≤ nI j from nI_le (a := 419) (by omega) (by omega))]
    exact ⟨ν, rfl, by rw [show (419 : Nat) = j by omega]; exact p⟩
  | succ f ih =>
    intro j fu ν hj hf p
    obtain ⟨fu, rfl⟩ : ∃ q, fu = q + 1 := ⟨fu - 1, by omega⟩
    have sν : RfS ν := s.sh p.2.2.2.2.2.2.1
    have aν : ArS ν h 7124 := by unfold ArS; rw [sh_isK p.2.2.2.2.2.2.1, sh_gN p.2.2.2.2.2.2.1]; exact ah
    obtain ⟨ν1, e1, q1, q2, q3, q4, q5, q6⟩ := R_put1 (u := g_I ν 603 j) (fl := fl) sν aν (by omega) (show 1 + j < 7124 by omega) p.2.2.2.2.2.1
    have s1 : RfS ν1 := sν.sh q6.1
    rw [mX12_putsAll_21, if_neg (show ¬ (419 : Int32) ≤ nI j from nI_ge (b := 419) (by omega) (by decide)), sν.h29, if_pos q603, if_pos (sν.a603.ix (show j < 419 by omega) (by decide)), nI_clamp (show j < 2147483648 by omega), e1, ob, if_pos (s1.a603.ix (show j < 419 by omega) (by decide)), ← nI_succ]
    exact ih (j + 1) fu _ (by omega) (by omega) (p.st (by decide) (by omega) (by omega) q1 q2 q3 q4 q5 q6)
theorem R_row63 {μ : Mem} {h r : Nat} {fl : Int32} {q54 : Nat → Nat → Int32 → Int32 → Mem → Option (Unit × Mem)} (s : RfS μ) (ah : ArS μ h 7124) (hh : 623 ≤ h ∧ h < 626) (hr : r < 16) : ∀ (f j fu : Nat) (ν : Mem), f + j = 419 → f < fu → RoP μ ν fl (606 + r) h (420 + 419 * r) j → ∃ ν1 : Mem, mX12_putsAll_63 q54 fu 125 h fl (nI r) (nI j) ν = q54 125 h fl (nI (r + 1)) ν1 ∧ RoP μ ν1 fl (606 + r) h (420 + 419 * r) 419 := by
  intro f
  induction f with
  | zero =>
    intro j fu ν hj hf p
    obtain ⟨fu, rfl⟩ : ∃ q, fu = q + 1 := ⟨fu - 1, by omega⟩
    rw [mX12_putsAll_63, if_pos (show (419 : Int32) ≤ nI j from nI_le (a := 419) (by omega) (by omega)), ← nI_succ]
    obtain rfl : j = 419 := by omega
    exact ⟨ν, rfl, p⟩
  | succ f ih =>
    intro j fu ν hj hf p
    obtain ⟨fu, rfl⟩ : ∃ q, fu = q + 1 := ⟨fu - 1, by omega⟩
    have sν : RfS ν := s.sh p.2.2.2.2.2.2.1
    have aν : ArS ν h 7124 := by unfold ArS; rw [sh_isK p.2.2.2.2.2.2.1, sh_gN p.2.2.2.2.2.2.1]; exact ah
    obtain ⟨t1, t2, t3, t4⟩ := sν.t605.at hr (by decide)
    have e606 : 605 + 1 + r = 606 + r := by omega
    rw [e606] at t2 t3 t4
    obtain ⟨ν1, e1, q1, q2, q3, q4, q5, q6⟩ := R_put1 (u := g_I ν (606 + r) j) (fl := fl) sν aν (by omega) (show 420 + 419 * r + j < 7124 by omega) p.2.2.2.2.2.1
    have i1 : inA ν1 (606 + r) 15 (nI j) = true := by
      unfold inA
      rw [sh_isK q6.1, sh_gN q6.1]
      exact t4.ix (show j < 419 by omega) (by decide)
    rw [mX12_putsAll_63, if_neg (show ¬ (419 : Int32) ≤ nI j from nI_ge (b := 419) (by omega) (by decide)), sν.h31, if_pos q605, if_pos t1, t2, if_pos t3, if_pos (t4.ix (show j < 419 by omega) (by decide)), nI_clamp (show j < 2147483648 by omega), e1, ob, if_pos i1, ← nI_succ]
    exact ih (j + 1) fu _ (by omega) (by omega) (p.st (by omega) (by omega) (by omega) q1 q2 q3 q4 q5 q6)
/-- all rows before, r of them done -/
def AlP (μ ν : Mem) (fl : Int32) (h r : Nat) : Prop := (∀ i, i < 419 → g_I ν 603 i = bothV μ fl 603 h i (1 + i) ∧ g_I ν h (1 + i) = bothV μ fl 603 h i (1 + i)) ∧ (∀ r', r' < r → ∀ i, i < 419 → g_I ν (606 + r') i = bothV μ fl (606 + r') h i (420 + 419 * r' + i) ∧ g_I ν h (420 + 419 * r' + i) = bothV μ fl (606 + r') h i (420 + 419 * r' + i)) ∧ (∀ r', r ≤ r' → r' < 16 → g_I ν (606 + r') = g_I μ (606 + r')) ∧ (∀ k, (k < 1 ∨ 420 + 419 * r ≤ k) → g_I ν h k = g_I μ h k) ∧ (∀ x, x ≠ 125 → x ≠ h → x ≠ 603 → (x < 606 ∨ 622 ≤ x) → g_I ν x = g_I μ x) ∧ (∀ k, k ≠ 38 → g_I ν 125 k = g_I μ 125 k) ∧ g_I ν 125 38 = nI (420 + 419 * r) ∧ Out (fun x => x = 125 ∨ x = h ∨ x = 603 ∨ (606 ≤ x ∧ x < 622)) μ ν
theorem RoP.al {μ ν : Mem} {fl : Int32} {h : Nat} (hh : 623 ≤ h ∧ h < 626) (p : RoP μ ν fl 603 h 1 419) : AlP μ ν fl h 0 := by
  obtain ⟨p1, p2, p3, p4, p5, p6, p7⟩ := p
  exact ⟨p1, fun r' hr => absurd hr (Nat.not_lt_zero _), fun r' _ hr => p4 _ (by omega) (by omega) (by omega), fun k hk => p3 k (by omega), fun x x1 x2 x3 _ => p4 x x1 x2 x3, p5, p6, p7.mo fun x hx => by omega⟩
theorem AlP.st {μ ν ν1 : Mem} {fl : Int32} {h r : Nat} (hh : 623 ≤ h ∧ h < 626) (hr : r < 16) (a : AlP μ ν fl h r) (p : RoP ν ν1 fl (606 + r) h (420 + 419 * r) 419) : AlP μ ν1 fl h (r + 1) := by
  obtain ⟨a1, a2, a3, a4, a5, a6, a7, a8⟩ := a
  obtain ⟨p1, p2, p3, p4, p5, p6, p7⟩ := p
  refine ⟨fun i hi => ?_, fun r' hr' i hi => ?_, fun r' h1 h2 => ?_, fun k hk => ?_, fun x x1 x2 x3 x4 => ?_, fun k hk => ?_, ?_, ?_⟩
  · rw [p4 603 (by decide) (by omega) (by omega), p3 (1 + i) (by omega)]
    exact a1 i hi
  · by_cases e : r' = r
    · subst e
      have eV : bothV ν fl (606 + r') h i (420 + 419 * r' + i) = bothV μ fl (606 + r') h i (420 + 419 * r' + i) := by
        unfold bothV
        rw [a3 r' (Nat.le_refl _) hr, a4 (420 + 419 * r' + i) (by omega)]
      rw [← eV]
      exact p1 i hi
    · rw [p4 (606 + r') (by omega) (by omega) (by omega), p3 (420 + 419 * r' + i) (by omega)]
      exact a2 r' (by omega) i hi
  · rw [p4 (606 + r') (by omega) (by omega) (by omega)]
    exact a3 r' (by omega) h2
  · rw [p3 k (by omega)]
    exact a4 k (by omega)
  · rw [p4 x x1 x2 (by omega)]
    exact a5 x x1 x2 x3 x4
  · rw [p5 k hk]; exact a6 k hk
  · rw [p6, show 420 + 419 * r + 419 = 420 + 419 * (r + 1) by omega]
  · exact a8.tr (p7.mo fun x hx => by omega)
theorem R_rows54 {μ : Mem} {h : Nat} {fl : Int32} (s : RfS μ) (ah : ArS μ h 7124) (hh : 623 ≤ h ∧ h < 626) : ∀ (n r fu : Nat) (ν : Mem), n + r = 16 → n < fu → AlP μ ν fl h r → ∃ ν1 : Mem, mX12_putsAll_54 fu 125 h fl (nI r) ν = some ((), ν1) ∧ AlP μ ν1 fl h 16 := by
  intro n
  induction n with
  | zero =>
    intro r fu ν hr hf a
    obtain ⟨fu, rfl⟩ : ∃ q, fu = q + 1 := ⟨fu - 1, by omega⟩
    obtain rfl : r = 16 := by omega
    rw [mX12_putsAll_54, if_pos (show (16 : Int32) ≤ nI 16 by decide)]
    exact ⟨ν, rfl, a⟩
  | succ n ih =>
    intro r fu ν hr hf a
    obtain ⟨fu, rfl⟩ : ∃ q, fu = q + 1 := ⟨fu - 1, by omega⟩
    have oS := a.2.2.2.2.2.2.2.1
    have sν : RfS ν := s.sh oS
    have aν : ArS ν h 7124 := by unfold ArS; rw [sh_isK oS, sh_gN oS]; exact ah
    obtain ⟨ν1, e1, p1⟩ := R_row63 (fl := fl) (q54 := fun l0 l1 l2 l3 μ => mX12_putsAll_54 fu l0 l1 l2 l3 μ) sν aν hh (show r < 16 by omega) 419 0 100000 ν rfl (by decide) (RoP.z a.2.2.2.2.2.2.1)
    have e1 : mX12_putsAll_63 (fun l0 l1 l2 l3 μ => mX12_putsAll_54 fu l0 l1 l2 l3 μ) 100000 125 h fl (nI r) 0 ν = _ := e1
    rw [mX12_putsAll_54, if_neg (show ¬ (16 : Int32) ≤ nI r from nI_ge (b := 16) (by omega) (by decide)), e1]
    exact ih (r + 1) fu ν1 (by omega) (by omega) (a.st hh (by omega) p1)
theorem R_putsAll {μ : Mem} {h : Nat} {fl : Int32} (s : RfS μ) (ah : ArS μ h 7124) (hh : 623 ≤ h ∧ h < 626) : ∃ ν : Mem, LX12_putsAll 125 h fl μ = some ((), ν) ∧ g_I ν 125 35 = bothV μ fl 125 h 35 0 ∧ g_I ν h 0 = bothV μ fl 125 h 35 0 ∧ (∀ i, i < 419 → g_I ν 603 i = bothV μ fl 603 h i (1 + i) ∧ g_I ν h (1 + i) = bothV μ fl 603 h i (1 + i)) ∧ (∀ r, r < 16 → ∀ i, i < 419 → g_I ν (606 + r) i = bothV μ fl (606 + r) h i (420 + 419 * r + i) ∧ g_I ν h (420 + 419 * r + i) = bothV μ fl (606 + r) h i (420 + 419 * r + i)) ∧ (∀ x, x ≠ 125 → x ≠ h → x ≠ 603 → (x < 606 ∨ 622 ≤ x) → g_I ν x = g_I μ x) ∧ (∀ k, k ≠ 38 → k ≠ 35 → g_I ν 125 k = g_I μ 125 k) ∧ Out (fun x => x = 125 ∨ x = h ∨ x = 603 ∨ (606 ≤ x ∧ x < 622)) μ ν := by
  have s0 : RfS (p_I μ 125 38 0) := s
  obtain ⟨ν1, e1, q1, q2, q3, q4, q5, q6⟩ := R_put1 (ν := p_I μ 125 38 0) (h := h) (c := 0) (u := g_I (p_I μ 125 38 0) 125 35) (fl := fl) s0 ah (by omega) (by decide) gI_s
  have eV : (if fl = 0 then g_I (p_I μ 125 38 0) 125 35 else g_I (p_I μ 125 38 0) h 0) = bothV μ fl 125 h 35 0 := by
    unfold bothV
    rw [gI_k (by decide), gI_h (by omega)]
  rw [eV] at e1 q4
  have s1 : RfS ν1 := s0.sh q6.1
  have a1 : ArS ν1 h 7124 := by unfold ArS; rw [sh_isK q6.1, sh_gN q6.1]; exact ah
  obtain ⟨m2, hm2⟩ : ∃ m2, m2 = p_I ν1 125 35 (bothV μ fl 125 h 35 0) := ⟨_, rfl⟩
  have s2 : RfS m2 := by rw [hm2]; exact s1
  have a2 : ArS m2 h 7124 := by rw [hm2]; exact a1
  have h38 : g_I m2 125 38 = nI 1 := by rw [hm2, gI_k (by decide)]; exact q3
  obtain ⟨ν3, e3, p3⟩ := R_now21 (fl := fl) s2 a2 hh 419 0 100000 m2 rfl (by decide) (RoP.z h38)
  have e3 : mX12_putsAll_21 100000 125 h fl (0 : Int32) m2 = mX12_putsAll_54 100000 125 h fl (0 : Int32) ν3 := e3
  obtain ⟨ν4, e4, w1, w2, w3, w4, w5, w6, w7, w8⟩ := R_rows54 (fl := fl) s2 a2 hh 16 0 100000 ν3 rfl (by decide) (p3.al hh)
  have e4 : mX12_putsAll_54 100000 125 h fl (0 : Int32) ν3 = some ((), ν4) := e4
  unfold LX12_putsAll
  rw [if_pos s.1, if_pos ah.1, e1, ob, ← hm2, e3, e4]
  have r2 : ∀ x, x ≠ 125 → x ≠ h → g_I m2 x = g_I μ x := fun x x1 x2 => by rw [hm2, gI_rowo x1, q1 x x1 x2, gI_rowo x1]
  have h2 : ∀ k, k ≠ 0 → g_I m2 h k = g_I μ h k := fun k hk => by rw [hm2, gI_h (by omega), q5 k hk, gI_h (by omega)]
  have bV : ∀ S i c, S ≠ 125 → S ≠ h → c ≠ 0 → bothV m2 fl S h i c = bothV μ fl S h i c := fun S i c x1 x2 x3 => by
    unfold bothV
    rw [r2 S x1 x2, h2 c x3]
  refine ⟨ν4, rfl, by rw [w6 35 (by decide), hm2, gI_s], by rw [w4 0 (by omega), hm2, gI_h (by omega)]; exact q4, fun i hi => by rw [← bV 603 i (1 + i) (by decide) (by omega) (by omega)]; exact w1 i hi, fun r hr i hi => by rw [← bV (606 + r) i (420 + 419 * r + i) (by omega) (by omega) (by omega)]; exact w2 r hr i hi, fun x x1 x2 x3 x4 => by rw [w5 x x1 x2 x3 x4]; exact r2 x x1 x2, fun k k1 k2 => by rw [w6 k k1, hm2, gI_k k2, q2 k k1, gI_k k1], ?_⟩
  have o1 : Out (fun x => x = 125 ∨ x = h ∨ x = 603 ∨ (606 ≤ x ∧ x < 622)) μ (p_I μ 125 38 0) := Out.rf.pI (Or.inl rfl)
  have o2 : Out (fun x => x = 125 ∨ x = h ∨ x = 603 ∨ (606 ≤ x ∧ x < 622)) ν1 m2 := by rw [hm2]; exact Out.rf.pI (Or.inl rfl)
  exact ((o1.tr (q6.mo fun x hx => by omega)).tr o2).tr w8
theorem M_image {μ : Mem} {a : ClT} (r : RfR μ a) (k : ClK a) : AskN μ (LX12_image 125 μ) (sImage a) := by
  obtain ⟨q, m0⟩ := r.q k
  have s := r.1
  have s0 := q.s
  unfold LX12_image
  rw [if_pos s.1]
  refine AskN.tr m0 ?_
  obtain ⟨y0, y1, y2, y3, y4, y5, y6, y7, ⟨⟨y8, y8'⟩, ⟨y9, y9'⟩, y10, y11⟩, y12, y13, y14⟩ := q.1
  have y8 : g_I (p_I μ 125 0 0) 125 35 = nI (hisA a).1 := y8
  have y8' : (hisA a).1 ≤ 16 := y8'
  have y9 : g_I (p_I μ 125 0 0) 125 37 = nI (hisA a).2.2.1 := y9
  have y9' : (hisA a).2.2.1 ≤ 3 := y9'
  have ho := q.ho
  rw [y9]
  unfold sImage
  by_cases h3 : (hisA a).2.2.1 < 3
  case neg =>
    rw [if_neg h3, if_pos (show nI (hisA a).2.2.1 = (3 : Int32) by rw [show (hisA a).2.2.1 = 3 by omega]; rfl)]
    exact ⟨_, rfl, q.1, Out.rf⟩
  have hne : ¬ nI (hisA a).2.2.1 = (3 : Int32) := fun z => by have := (nI_eq (a := (hisA a).2.2.1) (b := 3) (by omega) (by decide)).mp z; omega
  obtain ⟨t1, t2, t3, t4⟩ := s.t622.at h3 (by decide)
  have e623 : 622 + 1 + (hisA a).2.2.1 = 623 + (hisA a).2.2.1 := by omega
  rw [e623] at t2 t3 t4
  obtain ⟨ν, e1, c35, c0, cN, cR, cX, cF, cO⟩ := R_putsAll (μ := p_I μ 125 0 0) (h := 623 + (hisA a).2.2.1) (fl := 0) s0 t4 (by omega)
  rw [if_pos h3, if_neg hne, s.h32, if_pos q622, if_pos t1, t2, if_pos t3, e1, ob, gI_s, show g_I ν 125 37 = nI (hisA a).2.2.1 from by rw [cF 37 (by decide) (by decide)]; exact y9, ← nI_succ]
  have bV : ∀ S i c, bothV (p_I μ 125 0 0) 0 S (623 + (hisA a).2.2.1) i c = g_I (p_I μ 125 0 0) S i := fun S i c => if_pos rfl
  have g : ∀ x, x ≠ 125 → x ≠ 623 + (hisA a).2.2.1 → x ≠ 603 → (x < 606 ∨ 622 ≤ x) → g_I (p_I ν 125 37 (nI ((hisA a).2.2.1 + 1))) x = g_I (p_I μ 125 0 0) x := fun x x1 x2 x3 x4 => by rw [gI_rowo x1]; exact cX x x1 x2 x3 x4
  have f : ∀ j, j ≠ 38 → j ≠ 35 → j ≠ 37 → g_I (p_I ν 125 37 (nI ((hisA a).2.2.1 + 1))) 125 j = g_I (p_I μ 125 0 0) 125 j := fun j j1 j2 j3 => by rw [gI_k j3]; exact cF j j1 j2
  have rN : RoR (p_I ν 125 37 (nI ((hisA a).2.2.1 + 1))) 603 (rowOf a) := fun j hj => by rw [gI_h (by decide), (cN j hj).1, bV]; exact y12 j hj
  refine ⟨_, rfl, ⟨s0.sh cO.1, fun j hj => by rw [g 126 (by decide) (by omega) (by decide) (by decide)]; exact y1 j hj, by rw [f 1 (by decide) (by decide) (by decide)]; exact y2, by rw [f 3 (by decide) (by decide) (by decide)]; exact y3, y4.fr ho (fun x hx => g x (by omega) (by omega) (by omega) (by omega)), y5.fr (f 17 (by decide) (by decide) (by decide)) (fun x hx => g x (by omega) (by omega) (by omega) (by omega)), y6.fr (f 34 (by decide) (by decide) (by decide)) (g 520 (by decide) (by omega) (by decide) (by decide)), y7.fr (f 33 (by decide) (by decide) (by decide)) (fun x hx => g x (by omega) (by omega) (by omega) (by omega)), ⟨⟨?_, y8'⟩, ⟨gI_s, by show (hisA a).2.2.1 + 1 ≤ 3; omega⟩, fun i hi => ?_, fun n hn => ?_⟩, rN, ?_, fun j hj => by rw [g 127 (by decide) (by omega) (by decide) (by decide)]; exact y14 j hj⟩, ?_⟩
  · show g_I (p_I ν 125 37 (nI ((hisA a).2.2.1 + 1))) 125 35 = nI (hisA a).1
    rw [gI_k (by decide), c35, bV]
    exact y8
  · have hi : i < (hisA a).1 := hi
    intro j hj
    rw [gI_h (by omega), (cR i (by omega) j hj).1, bV]
    exact y10 i hi j hj
  · have hn : n < (hisA a).2.2.1 + 1 := hn
    show up (hisA a).2.2.2.2.1 (hisA a).2.2.1 (hisA a).1 n ≤ 16 ∧ g_I (p_I ν 125 37 (nI ((hisA a).2.2.1 + 1))) (623 + n) 0 = nI (up (hisA a).2.2.2.2.1 (hisA a).2.2.1 (hisA a).1 n) ∧ (∀ j, j < 419 → g_I (p_I ν 125 37 (nI ((hisA a).2.2.1 + 1))) (623 + n) (1 + j) = up (hisA a).2.2.2.1 (hisA a).2.2.1 (rowOf a) n j) ∧ ∀ i, i < up (hisA a).2.2.2.2.1 (hisA a).2.2.1 (hisA a).1 n → ∀ j, j < 419 → g_I (p_I ν 125 37 (nI ((hisA a).2.2.1 + 1))) (623 + n) (420 + 419 * i + j) = up (hisA a).2.2.2.2.2 (hisA a).2.2.1 (hisA a).2.1 n i j
    by_cases e : n = (hisA a).2.2.1
    · subst e
      rw [up_s, up_s, up_s, gI_rowo (show 623 + (hisA a).2.2.1 ≠ 125 by omega)]
      refine ⟨y8', by rw [c0, bV]; exact y8, fun j hj => by rw [(cN j hj).2, bV]; exact y12 j hj, fun i hi j hj => by rw [(cR i (by omega) j hj).2, bV]; exact y10 i hi j hj⟩
    · rw [up_o e, up_o e, up_o e, g (623 + n) (by omega) (by omega) (by omega) (by omega)]
      exact y11 n (show n < (hisA a).2.2.1 by omega)
  · rw [f 36 (by decide) (by decide) (by decide)]
    exact y13
  · have m1 : MF (p_I μ 125 0 0) ν := cO.mo fun x hx => by omega
    exact m1.tr (Out.pI Out.rf (by omega))
theorem M_restore {μ : Mem} {a : ClT} (r : RfR μ a) (k : ClK a) : AskN μ (LX12_restore 125 μ) (sRestore a) := by
  obtain ⟨q, m0⟩ := r.q k
  have s := r.1
  have s0 := q.s
  unfold LX12_restore
  rw [if_pos s.1]
  refine AskN.tr m0 ?_
  obtain ⟨y0, y1, y2, y3, y4, y5, y6, y7, ⟨⟨y8, y8'⟩, ⟨y9, y9'⟩, y10, y11⟩, y12, y13, y14⟩ := q.1
  have y9 : g_I (p_I μ 125 0 0) 125 37 = nI (hisA a).2.2.1 := y9
  have y9' : (hisA a).2.2.1 ≤ 3 := y9'
  have ho := q.ho
  rw [y9]
  unfold sRestore
  by_cases h0 : (hisA a).2.2.1 = 0
  · rw [if_pos h0, h0, if_pos (show nI 0 = (0 : Int32) from rfl)]
    exact ⟨_, rfl, q.1, Out.rf⟩
  have hne : ¬ nI (hisA a).2.2.1 = (0 : Int32) := fun z => h0 ((nI_eq (a := (hisA a).2.2.1) (b := 0) (by omega) (by decide)).mp z)
  obtain ⟨n, hn⟩ : ∃ n, n = (hisA a).2.2.1 - 1 := ⟨_, rfl⟩
  obtain ⟨t1, t2, t3, t4⟩ := s.t622.at (show n < 3 by omega) (by decide)
  have e623 : 622 + 1 + n = 623 + n := by omega
  rw [e623] at t2 t3 t4
  obtain ⟨z1, z2, z3, z4⟩ := y11 n (show n < (hisA a).2.2.1 by omega)
  rw [if_neg h0, if_neg hne, s.h32, if_pos q622, gI_s, show nI (hisA a).2.2.1 - 1 = nI n from by rw [hn]; exact nI_sub (b := 1) (by omega), if_pos t1, t2, if_pos t3, ← hn]
  obtain ⟨m1, hm1⟩ : ∃ m1, m1 = p_I (p_I μ 125 0 0) 125 37 (nI n) := ⟨_, rfl⟩
  have s1 : RfS m1 := by rw [hm1]; exact s0
  have t4' : ArS m1 (623 + n) 7124 := by rw [hm1]; exact t4
  obtain ⟨ν, e1, c35, c0, cN, cR, cX, cF, cO⟩ := R_putsAll (μ := m1) (h := 623 + n) (fl := 1) s1 t4' (by omega)
  rw [← hm1, e1, ob]
  have bV : ∀ S i c, bothV m1 1 S (623 + n) i c = g_I (p_I μ 125 0 0) (623 + n) c := fun S i c => by
    unfold bothV
    rw [if_neg (by decide), hm1, gI_h (by omega)]
  have g : ∀ x, x ≠ 125 → x ≠ 623 + n → x ≠ 603 → (x < 606 ∨ 622 ≤ x) → g_I (p_I ν 125 36 0) x = g_I (p_I μ 125 0 0) x := fun x x1 x2 x3 x4 => by rw [gI_rowo x1, cX x x1 x2 x3 x4, hm1, gI_rowo x1]
  have f : ∀ j, j ≠ 38 → j ≠ 35 → j ≠ 37 → j ≠ 36 → g_I (p_I ν 125 36 0) 125 j = g_I (p_I μ 125 0 0) 125 j := fun j j1 j2 j3 j4 => by rw [gI_k j4, cF j j1 j2, hm1, gI_k j3]
  have e37 : g_I (p_I ν 125 36 0) 125 37 = nI n := by rw [gI_k (by decide), cF 37 (by decide) (by decide), hm1, gI_s]
  rw [e37]
  refine ⟨_, rfl, ⟨s1.sh cO.1, fun j hj => by rw [g 126 (by decide) (by omega) (by decide) (by decide)]; exact y1 j hj, by rw [f 1 (by decide) (by decide) (by decide) (by decide)]; exact y2, by rw [f 3 (by decide) (by decide) (by decide) (by decide)]; exact y3, y4.fr ho (fun x hx => g x (by omega) (by omega) (by omega) (by omega)), y5.fr (f 17 (by decide) (by decide) (by decide) (by decide)) (fun x hx => g x (by omega) (by omega) (by omega) (by omega)), y6.fr (f 34 (by decide) (by decide) (by decide) (by decide)) (g 520 (by decide) (by omega) (by decide) (by decide)), y7.fr (f 33 (by decide) (by decide) (by decide) (by decide)) (fun x hx => g x (by omega) (by omega) (by omega) (by omega)), ⟨⟨?_, z1⟩, ⟨e37, by show n ≤ 3; omega⟩, fun i hi => ?_, fun j hj => ?_⟩, fun j hj => ?_, gI_s, fun j hj => by rw [g 127 (by decide) (by omega) (by decide) (by decide)]; exact y14 j hj⟩, ?_⟩
  · show g_I (p_I ν 125 36 0) 125 35 = nI ((hisA a).2.2.2.2.1 n)
    rw [gI_k (by decide), c35, bV]
    exact z2
  · have hi : i < (hisA a).2.2.2.2.1 n := hi
    have hi16 : (hisA a).2.2.2.2.1 n ≤ 16 := z1
    intro j hj
    rw [gI_h (by omega), (cR i (by omega) j hj).1, bV]
    exact z4 i hi j hj
  · have hj : j < n := hj
    rw [g (623 + j) (by omega) (by omega) (by omega) (by omega)]
    exact y11 j (show j < (hisA a).2.2.1 by omega)
  · rw [gI_h (by decide), (cN j hj).1, bV]
    exact z3 j hj
  · have m1' : MF (p_I μ 125 0 0) m1 := by rw [hm1]; exact Out.pI Out.rf (by omega)
    have m2 : MF m1 ν := cO.mo fun x hx => by omega
    exact (m1'.tr m2).tr (Out.pI Out.rf (by omega))
