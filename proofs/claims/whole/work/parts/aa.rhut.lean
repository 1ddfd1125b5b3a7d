/-! ===== the reference is told a HUT ===== -/
theorem R_lays10 {h0 h1 N0 N1 K k : Nat} {m2 : Int32} {q : Nat → Nat → Int32 → Int32 → Mem → Option (Unit × Mem)} (hk0 : k < N0) (hk1 : k < N1) (hN0 : N0 ≤ 160) (hN1 : N1 ≤ 160) (hK : K ≤ 3) (hd : h0 + 1 + N0 ≤ h1 ∨ h1 + 1 + N1 ≤ h0) : ∀ (f j fu : Nat) (μ : Mem), TbS μ h0 N0 K → TbS μ h1 N1 K → f + j = K → f < fu → (∀ i, i < j → g_I μ (h1 + 1 + k) i = g_I μ (h0 + 1 + k) i) → ∃ μ' : Mem, mX12_lays_10 q fu h0 h1 m2 (nI k) (nI j) μ = q h0 h1 m2 (nI (k + 1)) μ' ∧ Out (fun x => x = h1 + 1 + k) μ μ' ∧ ∀ i, i < K → g_I μ' (h1 + 1 + k) i = g_I μ (h0 + 1 + k) i := by
  intro f
  induction f with
  | zero =>
    intro j fu μ t0 t1 hj hf hi
    obtain ⟨fu, rfl⟩ : ∃ q, fu = q + 1 := ⟨fu - 1, by omega⟩
    obtain ⟨a1, a2, a3, a4⟩ := t1.at hk1 (by omega)
    rw [mX12_lays_10, if_pos a1, a2, if_pos a3, if_pos a4.1, a4.2, if_pos (show Int32.ofNat K ≤ nI j from nI_le (a := K) (by omega) (by omega)), ← nI_succ]
    exact ⟨μ, rfl, Out.rf, fun i h => hi i (by omega)⟩
  | succ f ih =>
    intro j fu μ t0 t1 hj hf hi
    obtain ⟨fu, rfl⟩ : ∃ q, fu = q + 1 := ⟨fu - 1, by omega⟩
    obtain ⟨a1, a2, a3, a4⟩ := t1.at hk1 (by omega)
    obtain ⟨b1, b2, b3, b4⟩ := t0.at hk0 (by omega)
    have hne : h0 + 1 + k ≠ h1 + 1 + k := by omega
    rw [mX12_lays_10, if_pos a1, a2, if_pos a3, if_pos a4.1, a4.2, if_neg (show ¬ Int32.ofNat K ≤ nI j from nI_ge (b := K) (by omega) (by omega)), if_pos b1, b2, if_pos b3, if_pos (b4.ix (show j < K by omega) (by omega)), if_pos (a4.ix (show j < K by omega) (by omega)), nI_clamp (show j < 2147483648 by omega), ← nI_succ]
    have o1 : Out (fun x => x = h1 + 1 + k) μ (p_I μ (h1 + 1 + k) j (g_I μ (h0 + 1 + k) j)) := (Out.rf (S := fun x => x = h1 + 1 + k)).pI rfl
    have t0' : TbS (p_I μ (h1 + 1 + k) j (g_I μ (h0 + 1 + k) j)) h0 N0 K := t0
    obtain ⟨μ', e1, o2, r2⟩ := ih (j + 1) fu (p_I μ (h1 + 1 + k) j (g_I μ (h0 + 1 + k) j)) t0' t1 (by omega) (by omega) (fun i h => by
      by_cases e : i = j
      · rw [e, gI_s, gI_h hne]
      · rw [gI_k e, gI_h hne]; exact hi i (by omega))
    exact ⟨μ', e1, o1.tr o2, fun i h => by rw [r2 i h, gI_h hne]⟩
theorem TbS.sh {μ ν : Mem} {h N K : Nat} (t : TbS μ h N K) (e : Sh μ ν) : TbS ν h N K := by
  unfold TbS ArS at *
  rw [sh_isK e, sh_gR e, sh_gN e]
  exact t
theorem R_laysL {h0 h1 N0 N1 K m : Nat} (hm0 : m ≤ N0) (hm1 : m ≤ N1) (hN0 : N0 ≤ 160) (hN1 : N1 ≤ 160) (hK : K ≤ 3) (hd : h0 + 1 + N0 ≤ h1 ∨ h1 + 1 + N1 ≤ h0) : ∀ (f k fu : Nat) (μ : Mem), TbS μ h0 N0 K → TbS μ h1 N1 K → f + k = m → f < fu → ∃ μ' : Mem, mX12_lays_2 fu h0 h1 (nI m) (nI k) μ = some ((), μ') ∧ Out (fun x => h1 + 1 + k ≤ x ∧ x < h1 + 1 + m) μ μ' ∧ ∀ r, k ≤ r → r < m → ∀ i, i < K → g_I μ' (h1 + 1 + r) i = g_I μ (h0 + 1 + r) i := by
  intro f
  induction f with
  | zero =>
    intro k fu μ t0 t1 hk hf
    obtain ⟨fu, rfl⟩ : ∃ q, fu = q + 1 := ⟨fu - 1, by omega⟩
    rw [mX12_lays_2, if_pos (nI_le (by omega) (by omega))]
    exact ⟨μ, rfl, Out.rf, fun r h1 h2 => by omega⟩
  | succ f ih =>
    intro k fu μ t0 t1 hk hf
    obtain ⟨fu, rfl⟩ : ∃ q, fu = q + 1 := ⟨fu - 1, by omega⟩
    obtain ⟨m1, e1, o1, r1⟩ := R_lays10 (k := k) (m2 := nI m) (q := fun l0 l1 l2 l3 μ => mX12_lays_2 fu l0 l1 l2 l3 μ) (by omega) (by omega) hN0 hN1 hK hd K 0 100000 μ t0 t1 rfl (by omega) (fun i h => absurd h (Nat.not_lt_zero _))
    have e1 : mX12_lays_10 (fun l0 l1 l2 l3 μ => mX12_lays_2 fu l0 l1 l2 l3 μ) 100000 h0 h1 (nI m) (nI k) (0 : Int32) μ = mX12_lays_2 fu h0 h1 (nI m) (nI (k + 1)) m1 := e1
    obtain ⟨μ', e2, o2, r2⟩ := ih (k + 1) fu m1 (t0.sh o1.1) (t1.sh o1.1) (by omega) (by omega)
    rw [mX12_lays_2, if_neg (nI_ge (by omega) (by omega)), e1]
    refine ⟨μ', e2, (o1.mo fun x hx => by omega).tr (o2.mo fun x hx => by omega), fun r hr1 hr2 i hi => ?_⟩
    by_cases e : r = k
    · rw [e, (o2.2 (h1 + 1 + k) (by omega)).1]
      exact r1 i hi
    · rw [r2 r (by omega) hr2 i hi, (o1.2 (h0 + 1 + r) (by omega)).1]
theorem R_lays {μ : Mem} {h0 h1 N0 N1 K m : Nat} (t0 : TbS μ h0 N0 K) (t1 : TbS μ h1 N1 K) (hm0 : m ≤ N0) (hm1 : m ≤ N1) (hN0 : N0 ≤ 160) (hN1 : N1 ≤ 160) (hK : K ≤ 3) (hd : h0 + 1 + N0 ≤ h1 ∨ h1 + 1 + N1 ≤ h0) : ∃ μ' : Mem, LX12_lays h0 h1 (nI m) μ = some ((), μ') ∧ Out (fun x => h1 + 1 ≤ x ∧ x < h1 + 1 + m) μ μ' ∧ ∀ r, r < m → ∀ i, i < K → g_I μ' (h1 + 1 + r) i = g_I μ (h0 + 1 + r) i := by
  unfold LX12_lays
  rw [if_pos t0.1, if_pos t1.1]
  obtain ⟨μ', e1, o1, r1⟩ := R_laysL hm0 hm1 hN0 hN1 hK hd m 0 100000 μ t0 t1 rfl (by omega)
  exact ⟨μ', e1, o1, fun r hr i hi => r1 r (Nat.zero_le _) hr i hi⟩
/-- a row that begins, as far as it is told -/
def rowB (t : HutT) (p0 : Nat) : Nat → Int32 := fun k => if k < 8 then (if k < p0 ∧ k < t.1 then t.2.2.1 k else 0) else if k < 16 then (if k - 8 < p0 ∧ k - 8 < t.1 then t.2.2.2.1 (k - 8) else 0) else if k < 24 then (if k - 16 < p0 then (if k - 16 < t.1 then t.2.2.2.2.2.2.2 else -1) else 0) else if k < 35 then 0 else -1
theorem rowB_8 {t : HutT} : rowB t 8 = row0 t := by
  funext k
  unfold rowB row0
  by_cases h1 : k < 8
  · rw [if_pos h1, if_pos h1]
    by_cases h : k < t.1
    · rw [if_pos ⟨h1, h⟩, if_pos h]
    · rw [if_neg (fun z => h z.2), if_neg h]
  rw [if_neg h1, if_neg h1]
  by_cases h2 : k < 16
  · rw [if_pos h2, if_pos h2]
    by_cases h : k - 8 < t.1
    · rw [if_pos ⟨by omega, h⟩, if_pos h]
    · rw [if_neg (fun z => h z.2), if_neg h]
  rw [if_neg h2, if_neg h2]
  by_cases h3 : k < 24
  · rw [if_pos h3, if_pos h3, if_pos (by omega)]
  rw [if_neg h3, if_neg h3]
theorem rowB_s {t : HutT} {p : Nat} (hp : p < 8) : ru (ru (ru (rowB t p) p (if p < t.1 then t.2.2.1 p else 0)) (8 + p) (if p < t.1 then t.2.2.2.1 p else 0)) (16 + p) (if p < t.1 then t.2.2.2.2.2.2.2 else -1) = rowB t (p + 1) := by
  funext k
  by_cases e3 : k = 16 + p
  · rw [e3, ru_s]
    unfold rowB
    rw [if_neg (show ¬ 16 + p < 8 by omega), if_neg (show ¬ 16 + p < 16 by omega), if_pos (show 16 + p < 24 by omega), show 16 + p - 16 = p by omega, if_pos (show p < p + 1 by omega)]
  rw [ru_o e3]
  by_cases e2 : k = 8 + p
  · rw [e2, ru_s]
    unfold rowB
    rw [if_neg (show ¬ 8 + p < 8 by omega), if_pos (show 8 + p < 16 by omega), show 8 + p - 8 = p by omega]
    by_cases h : p < t.1
    · rw [if_pos h, if_pos ⟨by omega, h⟩]
    · rw [if_neg h, if_neg (fun z => h z.2)]
  rw [ru_o e2]
  by_cases e1 : k = p
  · rw [e1, ru_s]
    unfold rowB
    rw [if_pos hp]
    by_cases h : p < t.1
    · rw [if_pos h, if_pos ⟨by omega, h⟩]
    · rw [if_neg h, if_neg (fun z => h z.2)]
  rw [ru_o e1]
  unfold rowB
  by_cases h1 : k < 8
  · rw [if_pos h1, if_pos h1]
    by_cases h : k < p ∧ k < t.1
    · rw [if_pos h, if_pos ⟨by omega, h.2⟩]
    · rw [if_neg h, if_neg (fun z => h ⟨by omega, z.2⟩)]
  rw [if_neg h1, if_neg h1]
  by_cases h2 : k < 16
  · rw [if_pos h2, if_pos h2]
    by_cases h : k - 8 < p ∧ k - 8 < t.1
    · rw [if_pos h, if_pos ⟨by omega, h.2⟩]
    · rw [if_neg h, if_neg (fun z => h ⟨by omega, z.2⟩)]
  rw [if_neg h2, if_neg h2]
  by_cases h3 : k < 24
  · rw [if_pos h3, if_pos h3]
    by_cases h : k - 16 < p
    · rw [if_pos h, if_pos (show k - 16 < p + 1 by omega)]
    · rw [if_neg h, if_neg (show ¬ k - 16 < p + 1 by omega)]
  rw [if_neg h3, if_neg h3]
def bgM (μ : Mem) : Mem := p_I (p_I (p_I (p_I (p_I (p_I μ 125 17 0) 125 33 0) 125 34 0) 125 35 0) 125 36 0) 125 37 0
theorem R_bg159 {μ : Mem} {t : HutT} {p : Nat} {v : Int32} {q : Nat → Int32 → Mem → Option (Unit × Mem)} (s : RfS μ) (hu : HuM μ t) (ho : HutOk t) (hp : p < 8) : mX12_beginsAnew_159 q 125 (nI p) v (nI (8 + p)) 603 μ = q 125 (nI (p + 1)) (p_I (p_I μ 603 (8 + p) v) 603 (16 + p) (if p < t.1 then t.2.2.2.2.2.2.2 else -1)) := by
  have h8 := ho.1
  have i0 : inA μ 129 15 (0 : Int32) = true := s.a129.ix (i := 0) (by decide) (by decide)
  have i2 : inA μ 129 15 (2 : Int32) = true := s.a129.ix (i := 2) (by decide) (by decide)
  unfold mX12_beginsAnew_159
  rw [if_pos (s.a603.ix (show 8 + p < 419 by omega) (by decide)), s.h29, if_pos q603, s.h12, if_pos q129, if_pos i0, c0n, c2n, gI_h (show (129 : Nat) ≠ 603 by decide), hu.1.1, n16p, if_pos (s.a603.ix (show 16 + p < 419 by omega) (by decide)), nI_clamp (show 8 + p < 2147483648 by omega), nI_clamp (show 16 + p < 2147483648 by omega), ← nI_succ]
  by_cases h : p < t.1
  · rw [if_neg (nI_ge h (by omega)), if_pos i2, if_pos (s.a603.ix (show 16 + p < 419 by omega) (by decide)), gI_h (show (129 : Nat) ≠ 603 by decide), hu.1.2.2.resolve_left (by omega), if_pos h]
  · rw [if_pos (nI_le (by omega) (by omega)), if_neg h]
theorem HuM.r {μ : Mem} {t : HutT} {j : Nat} {v : Int32} (h : HuM μ t) (ho : HutOk t) : HuM (p_I μ 603 j v) t := h.fr ho fun x hx => gI_rowo (by omega)
theorem R_bgL {t : HutT} (ho : HutOk t) : ∀ (f p fu : Nat) (μ : Mem), RfS μ → HuM μ t → RoR μ 603 (rowB t p) → f + p = 8 → f < fu → ∃ ν : Mem, mX12_beginsAnew_93 fu 125 (nI p) μ = some ((), bgM ν) ∧ Out (fun x => x = 603) μ ν ∧ RoR ν 603 (row0 t) := by
  have h8 := ho.1
  intro f
  induction f with
  | zero =>
    intro p fu μ s hu r hp hf
    obtain ⟨fu, rfl⟩ : ∃ q, fu = q + 1 := ⟨fu - 1, by omega⟩
    have hp : p = 8 := by omega
    subst hp
    rw [rowB_8] at r
    rw [mX12_beginsAnew_93, if_pos (show (8 : Int32) ≤ nI 8 by decide)]
    exact ⟨μ, rfl, Out.rf, r⟩
  | succ f ih =>
    intro p fu μ s hu r hp hf
    obtain ⟨fu, rfl⟩ : ∃ q, fu = q + 1 := ⟨fu - 1, by omega⟩
    have hp8 : p < 8 := by omega
    have i0 : inA μ 129 15 (0 : Int32) = true := s.a129.ix (i := 0) (by decide) (by decide)
    have o1 : Out (fun x => x = 603) μ (p_I μ 603 p (if p < t.1 then t.2.2.1 p else 0)) := (Out.rf (S := fun x => x = 603)).pI rfl
    have s1 : RfS (p_I μ 603 p (if p < t.1 then t.2.2.1 p else 0)) := s.sh o1.1
    have hu1 := hu.r (j := p) (v := if p < t.1 then t.2.2.1 p else 0) ho
    rw [mX12_beginsAnew_93, if_neg (show ¬ (8 : Int32) ≤ nI p from nI_ge (b := 8) hp8 (by decide)), s.h29, if_pos q603, s.h12, if_pos q129, if_pos i0, c0n, hu.1.1, n0p]
    have key : ∀ m d : Int32, m = (if p < t.1 then t.2.2.1 p else 0) → d = (if p < t.1 then t.2.2.2.1 p else 0) → ∃ ν : Mem, mX12_beginsAnew_159 (fun l0 l1 μ => mX12_beginsAnew_93 fu l0 l1 μ) 125 (nI p) d (nI (8 + p)) 603 (p_I μ 603 p m) = some ((), bgM ν) ∧ Out (fun x => x = 603) μ ν ∧ RoR ν 603 (row0 t) := by
      intro m d hm hd
      rw [hm, R_bg159 s1 hu1 ho hp8, hd]
      obtain ⟨ν, e2, o2, r2⟩ := ih (p + 1) fu (p_I (p_I (p_I μ 603 p (if p < t.1 then t.2.2.1 p else 0)) 603 (8 + p) (if p < t.1 then t.2.2.2.1 p else 0)) 603 (16 + p) (if p < t.1 then t.2.2.2.2.2.2.2 else -1)) s1 ((hu1.r ho).r ho) (by rw [← rowB_s hp8]; exact r.p.p.p) (by omega) (by omega)
      exact ⟨ν, e2, ((o1.pI rfl).pI rfl).tr o2, r2⟩
    by_cases h : p < t.1
    · obtain ⟨p1, p2, p3, p4, p5, p6, p7⟩ := penM s hu ho h
      obtain ⟨a1, a2, a3, a4⟩ := s.t139.at (i := p) (by omega) (by decide)
      have a4 : ArS μ (140 + p) 3 := a4
      rw [if_neg (nI_ge h (by omega)), s.h14, if_pos q139, if_pos p1, p2, p3, if_pos p4, if_pos (show inA μ (140 + p) 15 (1 : Int32) = true from a4.ix (i := 1) (by decide) (by decide)), c1n, (hu.2.1 p h).2.1]
      unfold mX12_beginsAnew_128
      rw [if_pos (s.a603.ix (show p < 419 by omega) (by decide)), p2, s.h29, if_pos q603, s.h12, if_pos q129, if_pos i0, c0n, gI_h (show (129 : Nat) ≠ 603 by decide), hu.1.1, if_neg (nI_ge h (by omega)), s.h14, if_pos q139, if_pos p1, p3, if_pos p4, if_pos (show inA μ (140 + p) 15 (2 : Int32) = true from a4.ix (i := 2) (by decide) (by decide)), c2n, gI_h (show 140 + p ≠ 603 by omega), (hu.2.1 p h).2.2, n8p]
      exact key _ _ (if_pos h).symm (if_pos h).symm
    · rw [if_pos (nI_le (by omega) (by omega))]
      unfold mX12_beginsAnew_128
      rw [if_pos (s.a603.ix (show p < 419 by omega) (by decide)), nI_clamp (show p < 2147483648 by omega), s.h29, if_pos q603, s.h12, if_pos q129, if_pos i0, c0n, gI_h (show (129 : Nat) ≠ 603 by decide), hu.1.1, if_pos (nI_le (by omega) (by omega)), n8p]
      exact key _ _ (if_neg h).symm (if_neg h).symm
theorem R_bg61 {t : HutT} (ho : HutOk t) : ∀ (f k fu : Nat) (μ : Mem), RfS μ → HuM μ t → (∀ j, j < k → g_I μ 603 j = if j < 35 then 0 else -1) → f + k = 419 → f < fu → ∃ ν : Mem, mX12_beginsAnew_61 fu 125 (nI k) μ = some ((), bgM ν) ∧ Out (fun x => x = 603) μ ν ∧ RoR ν 603 (row0 t) := by
  intro f
  induction f with
  | zero =>
    intro k fu μ s hu r hk hf
    obtain ⟨fu, rfl⟩ : ∃ q, fu = q + 1 := ⟨fu - 1, by omega⟩
    rw [mX12_beginsAnew_61, if_pos (show (419 : Int32) ≤ nI k from nI_le (a := 419) (by omega) (by omega))]
    exact R_bgL ho 8 0 100000 μ s hu (fun j hj => by
      rw [r j (by omega)]
      unfold rowB
      by_cases h1 : j < 8
      · rw [if_pos (by omega), if_pos h1, if_neg (by omega)]
      rw [if_neg h1]
      by_cases h2 : j < 16
      · rw [if_pos (show j < 35 by omega), if_pos h2, if_neg (by omega)]
      rw [if_neg h2]
      by_cases h3 : j < 24
      · rw [if_pos (show j < 35 by omega), if_pos h3, if_neg (by omega)]
      rw [if_neg h3]) rfl (by decide)
  | succ f ih =>
    intro k fu μ s hu r hk hf
    obtain ⟨fu, rfl⟩ : ∃ q, fu = q + 1 := ⟨fu - 1, by omega⟩
    have step : ∀ v : Int32, v = (if k < 35 then 0 else -1) → ∃ ν : Mem, mX12_beginsAnew_61 fu 125 (nI k + 1) (p_I μ 603 k v) = some ((), bgM ν) ∧ Out (fun x => x = 603) μ ν ∧ RoR ν 603 (row0 t) := by
      intro v hv
      have o1 : Out (fun x => x = 603) μ (p_I μ 603 k v) := (Out.rf (S := fun x => x = 603)).pI rfl
      rw [← nI_succ]
      obtain ⟨ν, e2, o2, r2⟩ := ih (k + 1) fu (p_I μ 603 k v) (s.sh o1.1) (hu.r ho) (fun j hj => by
        by_cases e : j = k
        · rw [e, gI_s, hv]
        · rw [gI_k e]; exact r j (by omega)) (by omega) (by omega)
      exact ⟨ν, e2, o1.tr o2, r2⟩
    rw [mX12_beginsAnew_61, if_neg (show ¬ (419 : Int32) ≤ nI k from nI_ge (b := 419) (by omega) (by decide)), s.h29, if_pos q603, if_pos (s.a603.ix (show k < 419 by omega) (by decide)), if_pos (s.a603.ix (show k < 419 by omega) (by decide)), nI_clamp (show k < 2147483648 by omega)]
    by_cases h : 35 ≤ k
    · rw [if_pos (show (35 : Int32) ≤ nI k from nI_le (a := 35) h (by omega))]
      exact step (-1) (if_neg (by omega)).symm
    · rw [if_neg (show ¬ (35 : Int32) ≤ nI k from nI_ge (b := 35) (by omega) (by decide))]
      exact step 0 (if_pos (by omega)).symm
abbrev bS : Nat → Prop := fun x => x = 129 ∨ (140 ≤ x ∧ x < 148) ∨ (166 ≤ x ∧ x < 182) ∨ x = 603
theorem R_begins {μ : Mem} {l : HutL} (s : RfS μ) (hr : HrM μ l) (lo : LOk l) : ∃ ν : Mem, LX12_beginsAnew 125 μ = some ((), bgM ν) ∧ Out bS μ ν ∧ HuM ν (hutT l) ∧ RoR ν 603 (row0 (hutT l)) := by
  have l8 : l.1.length ≤ 8 := lo.1
  have l16 : l.2.1.length ≤ 16 := lo.2.1
  obtain ⟨⟨hr1, hr2, hr3⟩, hr4, hr5⟩ := id hr
  unfold LX12_beginsAnew
  rw [if_pos s.1]
  -- what is told
  obtain ⟨m3, h3⟩ : ∃ m3, m3 = p_I (p_I (p_I μ 129 0 (nI l.1.length)) 129 1 (nI l.2.1.length)) 129 2 (nI l.2.2) := ⟨_, rfl⟩
  have o3 : Out (fun x => x = 129) μ m3 := by rw [h3]; exact (((Out.rf (S := fun x => x = 129)).pI rfl).pI rfl).pI rfl
  have ix28 : ∀ j, j < 3 → inA μ 128 15 (nI j) = true := fun j hj => s.a128.ix hj (by decide)
  have ix29 : ∀ j, j < 3 → inA μ 129 15 (nI j) = true := fun j hj => s.a129.ix hj (by decide)
  have e0 : mX12_beginsAnew_2 100000 125 (0 : Int32) μ = mX12_beginsAnew_2 99997 125 (nI 3) m3 := by
    rw [mX12_beginsAnew_2, if_neg (show ¬ (3 : Int32) ≤ 0 by decide), s.h12, if_pos q129, s.h11, if_pos q128, if_pos (show inA μ 128 15 (0 : Int32) = true from ix28 0 (by decide)), if_pos (show inA μ 129 15 (0 : Int32) = true from ix29 0 (by decide)), c0n, hr1, show (0 : Int32) + 1 = nI 1 from rfl]
    rw [mX12_beginsAnew_2, if_neg (show ¬ (3 : Int32) ≤ nI 1 by decide)]
    simp only [gR_pI, inA_pI, s.h12, s.h11, if_pos q129, if_pos q128]
    rw [if_pos (ix28 1 (by decide)), if_pos (ix29 1 (by decide)), show (nI 1).toNatClampNeg = 1 from rfl, gI_h (show (128 : Nat) ≠ 129 by decide), hr2, ← nI_succ]
    rw [mX12_beginsAnew_2, if_neg (show ¬ (3 : Int32) ≤ nI (1 + 1) by decide)]
    simp only [gR_pI, inA_pI, s.h12, s.h11, if_pos q129, if_pos q128]
    rw [if_pos (ix28 2 (by decide)), if_pos (ix29 2 (by decide)), show (nI (1 + 1)).toNatClampNeg = 2 from rfl, gI_h (show (128 : Nat) ≠ 129 by decide), gI_h (show (128 : Nat) ≠ 129 by decide), hr3, ← nI_succ, ← h3]
  have s3 : RfS m3 := s.sh o3.1
  have d0 : g_I m3 129 0 = nI l.1.length := by rw [h3, gI_k (by decide), gI_k (by decide), gI_s]
  have d1 : g_I m3 129 1 = nI l.2.1.length := by rw [h3, gI_k (by decide), gI_s]
  have d2 : g_I m3 129 2 = nI l.2.2 := by rw [h3, gI_s]
  obtain ⟨m7, e7, o7, r7⟩ := R_lays (m := l.1.length) s3.t130 s3.t139 l8 l8 (by decide) (by decide) (by decide) (by decide)
  have s7 : RfS m7 := s3.sh o7.1
  have f1 : g_I m7 129 1 = nI l.2.1.length := by rw [(o7.2 129 (by omega)).1]; exact d1
  obtain ⟨m15, e15, o15, r15⟩ := R_lays (m := l.2.1.length) s7.t148 s7.t165 l16 l16 (by decide) (by decide) (by decide) (by decide)
  have s15 : RfS m15 := s7.sh o15.1
  have hu : HuM m15 (hutT l) := by
    refine ⟨⟨?_, ?_, ?_⟩, fun p hp => ?_, fun w hw => ?_⟩
    · rw [(o15.2 129 (by omega)).1, (o7.2 129 (by omega)).1]; exact d0
    · rw [(o15.2 129 (by omega)).1]; exact f1
    · refine Or.inr ?_
      rw [(o15.2 129 (by omega)).1, (o7.2 129 (by omega)).1]; exact d2
    · have hp : p < l.1.length := hp
      have g : ∀ i, i < 3 → g_I m15 (140 + p) i = g_I μ (131 + p) i := fun i hi => by
        rw [(o15.2 (140 + p) (by omega)).1, r7 p hp i hi, (o3.2 (130 + 1 + p) (by omega)).1]
      rw [g 0 (by decide), g 1 (by decide), g 2 (by decide)]
      exact hr4 p hp
    · have hw : w < l.2.1.length := hw
      have g : ∀ i, i < 2 → g_I m15 (166 + w) i = g_I μ (149 + w) i := fun i hi => by
        rw [r15 w hw i hi, (o7.2 (148 + 1 + w) (by omega)).1, (o3.2 (148 + 1 + w) (by omega)).1]
      rw [g 0 (by decide), g 1 (by decide)]
      exact hr5 w hw
  obtain ⟨ν, e2, o2, r2⟩ := R_bg61 lo.hut 419 0 100000 m15 s15 hu (fun j hj => absurd hj (Nat.not_lt_zero _)) rfl (by decide)
  have e2 : mX12_beginsAnew_61 100000 125 (0 : Int32) m15 = some ((), bgM ν) := e2
  refine ⟨ν, ?_, (((o3.mo fun x hx => Or.inl hx).tr (o7.mo fun x hx => by show x = 129 ∨ (140 ≤ x ∧ x < 148) ∨ (166 ≤ x ∧ x < 182) ∨ x = 603; omega)).tr (o15.mo fun x hx => by show x = 129 ∨ (140 ≤ x ∧ x < 148) ∨ (166 ≤ x ∧ x < 182) ∨ x = 603; omega)).tr (o2.mo fun x hx => Or.inr (Or.inr (Or.inr hx))), hu.fr lo.hut (fun x hx => (o2.2 x (by omega)).1), r2⟩
  rw [e0, mX12_beginsAnew_2, if_pos (show (3 : Int32) ≤ nI 3 by decide), s3.h13, if_pos q130, s3.h14, if_pos q139, s3.h12, if_pos q129, if_pos (show inA m3 129 15 (0 : Int32) = true from s3.a129.ix (i := 0) (by decide) (by decide)), c0n, d0, e7, ob, s7.h15, if_pos q148, s7.h16, if_pos q165, s7.h12, if_pos q129, if_pos (show inA m7 129 15 (1 : Int32) = true from s7.a129.ix (i := 1) (by decide) (by decide)), c1n, f1, e15, ob, e2]
/-- the CLAUSES, one by one -/
theorem clause_60 {x : Txt} {i a b : Nat} {l : HutL} (h : (clauseF x i a l).1 = .inr b) : i < 60 := by
  unfold clauseF at h
  cases hw : wordF x W0 a with
  | inl e => rw [hw] at h; exact nomatch h
  | inr k =>
    rw [hw] at h
    have h : (clK x i a k.1 k.2 l).1 = .inr b := h
    apply Classical.byContradiction
    intro z
    unfold clK at h
    rw [if_pos (Or.inl (by omega))] at h
    exact nomatch h
theorem clauseF_ok {x : Txt} {i a : Nat} {l : HutL} (h : LOk l) : LOk (clauseF x i a l).2 := by
  unfold clauseF
  cases wordF x W0 a with
  | inl e => exact h
  | inr k => exact clK_ok h
theorem R_hutL {x : Txt} : ∀ (f i fu : Nat) (c : Cur) (l : HutL) (μ : Mem), f + i = 61 → f < fu → LOk l → TmR μ x c → (∀ a, c = .inr a → TmA μ x a ∧ i ≤ 60 ∧ g_I μ 125 7 = nI i ∧ HrM μ l) → ∃ ν : Mem, mX12_hut_42 fu 125 μ = mX12_hut_71 125 ν ∧ OF cF cS μ ν ∧ TmR ν x (hutF x f i c l).1 ∧ ∀ b, (hutF x f i c l).1 = .inr b → HrM ν (hutF x f i c l).2 := by
  intro f
  induction f with
  | zero =>
    intro i fu c l μ hi hf lo t h
    obtain ⟨fu, rfl⟩ : ∃ q, fu = q + 1 := ⟨fu - 1, by omega⟩
    cases c with
    | inl e =>
      obtain ⟨q1, q2⟩ := TmB.err t rfl
      rw [mX12_hut_42, q1, if_neg q2]
      exact ⟨μ, rfl, OF.rf, t, fun b hb => nomatch hb⟩
    | inr a =>
      have := (h a rfl).2.1
      omega
  | succ f ih =>
    intro i fu c l μ hi hf lo t h
    obtain ⟨fu, rfl⟩ : ∃ q, fu = q + 1 := ⟨fu - 1, by omega⟩
    cases c with
    | inl e =>
      obtain ⟨q1, q2⟩ := TmB.err t rfl
      rw [mX12_hut_42, q1, if_neg q2]
      exact ⟨μ, rfl, OF.rf, t, fun b hb => nomatch hb⟩
    | inr a =>
      obtain ⟨ta, hi60, h7, hr⟩ := h a rfl
      have hx := t.1.2.2.1
      rw [mX12_hut_42, ta.2.1, if_pos rfl, ta.1.2.1, ta.2.2.2.1]
      by_cases ha : a < x.2
      · have eF : hutF x (f + 1) i (.inr a) l = hutF x f (i + 1) (clauseF x i a l).1 (clauseF x i a l).2 := if_pos ha
        rw [if_neg (nI_ge ha (by omega)), eF]
        obtain ⟨m1, e1, o1, t1, g1⟩ := R_clause t ha lo.1 lo.2.1 hi60 h7 hr
        obtain ⟨m2, e2, o2, t2, g2⟩ := R_blanksC t1
        have lo1 : LOk (clauseF x i a l).2 := clauseF_ok lo
        obtain ⟨ν, e3, o3, t3, g3⟩ := ih (i + 1) fu (clauseF x i a l).1 (clauseF x i a l).2 m2 (by omega) (by omega) lo1 t2 (fun b hb => by
          have h60 := clause_60 hb
          obtain ⟨y1, y2⟩ := g1 b hb
          exact ⟨g2 b hb, by omega, by rw [o2.2 7 (by decide)]; exact y1, y2.t lo1.1 lo1.2.1 o2⟩)
        rw [e1, ob, e2, ob, e3]
        exact ⟨ν, rfl, (o1.tr (t_c o2)).tr o3, t3, g3⟩
      · have eF : hutF x (f + 1) i (.inr a) l = (.inr a, l) := if_neg ha
        rw [if_pos (nI_le (by omega) (by have := ta.2.2.2.2; omega)), eF]
        exact ⟨μ, rfl, OF.rf, t, fun b hb => hr⟩
theorem sF_0 : ¬ sF 0 := by decide
theorem RfR.hu {a : ClT} (k : ClK a) : HutOk (hutT a.2.2.2.1) := k.1.hut
/-- the gate of a text -/
theorem R_gate {μ : Mem} {a : ClT} {v : Int32} (r : RfR μ a) : LX12_in v (0 : Int32) (g_I μ 125 1) μ = some (if v < 0 then 0 else if nI a.2.1 < v then 0 else 1, μ) := by rw [R_in, r.2.2.1.1]
theorem R_hut {μ : Mem} {a : ClT} {v : Int32} (r : RfR μ a) (k : ClK a) : AskM (fun _ => 1) μ (LX12_hut 125 v μ) (if v < 0 ∨ ¬ v ≤ (if nI a.2.1 < 600 then nI a.2.1 else 600) then (.inl 1, rfA a 1) else sHut a v.toNatClampNeg) := by
  have ho := RfR.hu k
  obtain ⟨r0, m0⟩ := r.b ho
  refine AskM.tr m0 ?_
  obtain ⟨μ0, h0⟩ : ∃ μ0, μ0 = p_I μ 125 0 0 := ⟨_, rfl⟩
  rw [← h0] at r0
  have z0 : g_I μ0 125 0 = 0 := by rw [h0, gI_s]
  unfold LX12_hut
  rw [if_pos r.1.1, ← h0, R_gate r0, ob]
  obtain ⟨b0, b1⟩ := R_bad (w := 1) (k := 1) r0.1 (by decide) z0 (by decide)
  have b0 : LX12_bad 125 0 (1 : Int32) (1 : Int32) μ0 = some (0, μ0) := b0
  have b1 : LX12_bad 125 1 (1 : Int32) (1 : Int32) μ0 = some (1, p_I (p_I μ0 125 0 1) 127 1 (g_I μ0 127 1 + 1)) := b1
  have gate := txt_gate (v := v) (most := 600) (m := 600) rfl (by decide) r.2.2.1.2
  have no : (v < 0 ∨ nI a.2.1 < v ∨ ¬ v ≤ 600) → AskM (fun _ => 1) μ0 (mX12_hut_23 125 v 1 125 μ0) (if v < 0 ∨ ¬ v ≤ (if nI a.2.1 < 600 then nI a.2.1 else 600) then (.inl 1, rfA a 1) else sHut a v.toNatClampNeg) := by
    intro z
    rw [if_pos (gate.mpr z)]
    unfold mX12_hut_23
    rw [if_pos r0.1.1, b1, ob, if_neg (by decide)]
    exact AskM.no (ix := fun _ => 1) (k := 1) r0 ho (by decide)
  by_cases h1 : v < 0
  · rw [if_pos h1, if_pos rfl]; exact no (Or.inl h1)
  rw [if_neg h1]
  by_cases h2 : nI a.2.1 < v
  · rw [if_pos h2, if_pos rfl]; exact no (Or.inr (Or.inl h2))
  rw [if_neg h2, if_neg (show ¬ (1 : Int32) = 0 by decide)]
  have h3 : v ≤ 600 := by
    have e1 := Int32.le_iff_toInt_le.mp (Int32.not_lt.mp h2)
    have e2 := r.2.2.1.2
    rw [nI_toInt (by omega)] at e1
    exact Int32.le_iff_toInt_le.mpr (by rw [show (600 : Int32).toInt = 600 from by decide]; omega)
  have ok : ¬ (v < 0 ∨ nI a.2.1 < v ∨ ¬ v ≤ 600) := fun z => z.elim h1 fun y => y.elim h2 fun w => w h3
  rw [if_neg (fun z => ok (gate.mp z))]
  obtain ⟨n, hn, -, rfl⟩ := txt_n (m := 600) (by decide) r.2.2.1.2 ok
  rw [nI_clamp (show n < 2147483648 by omega)]
  unfold mX12_hut_23
  rw [if_pos r0.1.1, b0, ob, if_pos rfl]
  obtain ⟨m13, e1, o1, t1, f1, f7, f8⟩ := R_starts r0.1 r0.2.1 hn
  have s13 := t1.1.1
  have i28 : ∀ j, j < 3 → inA m13 128 15 (nI j) = true := fun j hj => s13.a128.ix hj (by decide)
  obtain ⟨m17, h17⟩ : ∃ m17, m17 = p_I (p_I (p_I m13 128 0 0) 128 1 0) 128 2 8 := ⟨_, rfl⟩
  have e2 : LX12_tellsNothing 125 m13 = some ((), m17) := by
    unfold LX12_tellsNothing
    rw [if_pos s13.1, s13.h11, if_pos q128, if_pos (show inA m13 128 15 (0 : Int32) = true from i28 0 (by decide)), if_pos (show inA m13 128 15 (1 : Int32) = true from i28 1 (by decide)), if_pos (show inA m13 128 15 (2 : Int32) = true from i28 2 (by decide)), h17]
    rfl
  have o2 : OF nS (fun x => x = 128) m13 m17 := by rw [h17]; exact (((OF.rf (F := nS) (S := fun x => x = 128)).pS rfl (by decide)).pS rfl (by decide)).pS rfl (by decide)
  have t2 : TmA m17 (txtO a n) (sk (txtO a n) 0) := t1.o o2 (fun z => z) (by decide) (fun z => z) (fun z => z) (fun z => z)
  have hr0 : HrM m17 hutL0 := ⟨⟨by rw [h17, gI_k (by decide), gI_k (by decide), gI_s]; rfl, by rw [h17, gI_k (by decide), gI_s]; rfl, by rw [h17, gI_s]; rfl⟩, fun p hp => absurd hp (Nat.not_lt_zero _), fun w hw => absurd hw (Nat.not_lt_zero _)⟩
  obtain ⟨ν, e3, o3, t3, g3⟩ := R_hutL 61 0 100000 (.inr (sk (txtO a n) 0)) hutL0 m17 rfl (by decide) hutL0_ok (t2.rs sk_sk) (fun b hb => by
    cases hb
    exact ⟨t2, by decide, by rw [o2.2 7 (fun z => z)]; exact f7, hr0⟩)
  have t3 : TmR ν (txtO a n) (hutRd a n).1 := t3
  have g3 : ∀ b, (hutRd a n).1 = .inr b → HrM ν (hutRd a n).2 := g3
  have f1' : g_I ν 125 1 = nI 0 := by rw [o3.2 1 (by decide), o2.2 1 (fun z => z)]; exact f1
  have f0' : g_I ν 125 0 = 0 := by rw [o3.2 0 (by decide), o2.2 0 (fun z => z), o1.2 0 (by decide)]; exact z0
  have oo : OF (fun k => sF k) cS μ0 ν := ((o1.mo (fun _ z => z) (fun _ z => z.elim)).tr (o2.mo (fun _ z => z.elim) (fun x hx => Or.inl hx))).tr (o3.mo (fun k z => by have z : k = 4 ∨ k = 5 ∨ k = 6 ∨ k = 7 := z; show k = 1 ∨ k = 2 ∨ k = 4 ∨ k = 5 ∨ k = 6 ∨ k = 7 ∨ k = 8; omega) (fun _ z => z))
  rw [e1, ob, e2, ob, e3]
  unfold mX12_hut_71 sHut
  cases hr : (hutRd a n).1 with
  | inl e =>
    rw [hr] at t3
    obtain ⟨q1, q2⟩ := TmB.err t3 rfl
    rw [q1, if_neg q2, R_ends t3, ob]
    have o4 : OF (fun k => sF k ∨ k = 3) cS μ0 (p_I ν 125 3 (nI e.2)) := (oo.mo (fun _ z => Or.inl z) (fun _ z => z)).p0 (Or.inr rfl)
    refine ⟨_, _, rfl, ⟨by rw [gI_k (by decide)]; exact f0', rfl⟩, r0.txt ho o4 (fun k hk => ?_) (fun x hx => ?_) (by rw [gI_k (by decide)]; exact f1') (Nat.zero_le _) gI_s, o4.mf fun x hx => ?_⟩
    · have hk : (k = 1 ∨ k = 2 ∨ k = 4 ∨ k = 5 ∨ k = 6 ∨ k = 7 ∨ k = 8) ∨ k = 3 := hk
      unfold frF; omega
    · have hx : x = 128 ∨ (131 ≤ x ∧ x < 139) ∨ (149 ≤ x ∧ x < 165) := hx
      unfold frS; omega
    · have hx : x = 128 ∨ (131 ≤ x ∧ x < 139) ∨ (149 ≤ x ∧ x < 165) := hx
      omega
  | inr b =>
    rw [hr] at t3
    have hrM := g3 b hr
    have lok : LOk (hutRd a n).2 := hutF_ok 61 0 _ _ hutL0_ok
    obtain ⟨b0', tb, -⟩ := t3.2
    rw [tb.2.1, if_pos rfl]
    generalize (hutRd a n).2 = l at hrM lok ⊢
    have hrM' : HrM (p_I ν 125 3 (-1)) l := hrM.fr lok.1 lok.2.1 fun x hx => gI_rowo (by have hx : x = 128 ∨ (131 ≤ x ∧ x < 139) ∨ (149 ≤ x ∧ x < 165) := hx; omega)
    have s3' : RfS (p_I ν 125 3 (-1)) := t3.1.1
    obtain ⟨ρ, e5, o5, hu5, r5⟩ := R_begins s3' hrM' lok
    have sρ : RfS (bgM ρ) := s3'.sh o5.1
    have gt : g_I (bgM ρ) 129 0 = nI l.1.length := by
      have : g_I (bgM ρ) 129 = g_I ρ 129 := by unfold bgM; rw [gI_rowo (by decide), gI_rowo (by decide), gI_rowo (by decide), gI_rowo (by decide), gI_rowo (by decide), gI_rowo (by decide)]
      rw [this]; exact hu5.1.1
    rw [e5, ob, sρ.h12, if_pos q129, if_pos (show inA (bgM ρ) 129 15 (0 : Int32) = true from sρ.a129.ix (i := 0) (by decide) (by decide)), c0n, gt]
    have gv : ∀ x, x ≠ 125 → g_I (bgM ρ) x = g_I ρ x := fun x hx => by unfold bgM; rw [gI_rowo hx, gI_rowo hx, gI_rowo hx, gI_rowo hx, gI_rowo hx, gI_rowo hx]
    have g5 : ∀ k, g_I (bgM ρ) 125 k = if k = 37 then 0 else if k = 36 then 0 else if k = 35 then 0 else if k = 34 then 0 else if k = 33 then 0 else if k = 17 then 0 else g_I ρ 125 k := fun k => by
      unfold bgM
      simp only [gI_pI, if_pos]
    have gρ : ∀ k, g_I ρ 125 k = if k = 3 then -1 else g_I ν 125 k := fun k => by
      rw [(o5.2 125 (by decide)).1, gI_pI, if_pos rfl]
    have v0 : ∀ x, x ≠ 125 → ¬ cS x → ¬ bS x → g_I (bgM ρ) x = g_I μ0 x := fun x h1 h2 h3 => by
      rw [gv x h1, (o5.2 x h3).1, gI_rowo h1, oo.r h1 h2]
    obtain ⟨y0, y1, y2, y3, y4, y5, y6, y7, y8, y9, y10, y11⟩ := r0
    refine ⟨_, _, rfl, ⟨?_, rfl⟩, ⟨sρ, fun k hk => ?_, ⟨?_, Nat.zero_le _⟩, ?_, ?_, Or.inl ⟨?_, rfl⟩, ⟨?_, Nat.zero_le _, fun i hi => absurd hi (Nat.not_lt_zero _)⟩, ⟨?_, Nat.zero_le _, fun i hi => absurd hi (Nat.not_lt_zero _)⟩, ⟨⟨?_, Nat.zero_le _⟩, ⟨?_, Nat.zero_le _⟩, fun i hi => absurd hi (Nat.not_lt_zero _), fun k hk => absurd hk (Nat.not_lt_zero _)⟩, fun k hk => ?_, ?_, fun k hk => ?_⟩, ?_⟩
    · rw [g5, gρ]; exact f0'
    · rw [v0 126 (by decide) (by decide) (by decide)]; exact y1 k hk
    · rw [g5, gρ]; exact f1'
    · rw [g5, gρ]; rfl
    · exact hu5.fr lok.hut fun x hx => gv x (by omega)
    · rw [g5]; rfl
    · rw [g5]; rfl
    · rw [g5]; rfl
    · rw [g5]; rfl
    · rw [g5]; rfl
    · rw [gv 603 (by decide)]; exact r5 k hk
    · rw [g5]; rfl
    · rw [v0 127 (by decide) (by decide) (by decide)]; exact y11 k hk
    · have m1 : MF μ0 (p_I ν 125 3 (-1)) := (oo.mf fun x hx => by have hx : x = 128 ∨ (131 ≤ x ∧ x < 139) ∨ (149 ≤ x ∧ x < 165) := hx; omega).tr (Out.pI Out.rf (by omega))
      have m2 : MF (p_I ν 125 3 (-1)) ρ := o5.mo fun x hx => by have hx : x = 129 ∨ (140 ≤ x ∧ x < 148) ∨ (166 ≤ x ∧ x < 182) ∨ x = 603 := hx; omega
      have m3 : MF ρ (bgM ρ) := by
        unfold bgM
        exact (((((Out.pI Out.rf (by omega)).pI (by omega)).pI (by omega)).pI (by omega)).pI (by omega)).pI (by omega)
      exact (m1.tr m2).tr m3
