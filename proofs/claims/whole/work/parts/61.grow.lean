/-! ===== a run that makes new things: what lay there stays, but for S (values) and SR (things named) ===== -/
def Grow (n : Nat) (SR S : Nat → Prop) (μ μ' : Mem) : Prop := g_n μ ≤ g_n μ' ∧ g_c μ' ≤ g_c μ + 34 * n ∧ g_w μ' ≤ g_w μ + 653 * n ∧ ∀ a, a ≤ g_n μ → g_K μ' a = g_K μ a ∧ g_N μ' a = g_N μ a ∧ (¬ SR a → g_R μ' a = g_R μ a) ∧ (¬ S a → g_I μ' a = g_I μ a ∧ g_L μ' a = g_L μ a ∧ g_D μ' a = g_D μ a)
theorem Grow.rf {n : Nat} {SR S : Nat → Prop} {μ : Mem} : Grow n SR S μ μ := ⟨Nat.le_refl _, Nat.le_add_right _ _, Nat.le_add_right _ _, fun _ _ => ⟨rfl, rfl, fun _ => rfl, fun _ => ⟨rfl, rfl, rfl⟩⟩⟩
theorem Grow.tr {n m k : Nat} {SR S : Nat → Prop} {μ ν ρ : Mem} (h1 : Grow n SR S μ ν) (h2 : Grow m SR S ν ρ) (hk : n + m ≤ k) : Grow k SR S μ ρ := by
  obtain ⟨a1, a2, a3, a4⟩ := h1
  obtain ⟨b1, b2, b3, b4⟩ := h2
  refine ⟨by omega, by omega, by omega, fun a ha => ?_⟩
  obtain ⟨c1, c2, c3, c4⟩ := a4 a ha
  obtain ⟨d1, d2, d3, d4⟩ := b4 a (by omega)
  exact ⟨d1.trans c1, d2.trans c2, fun h => (d3 h).trans (c3 h), fun h => ⟨(d4 h).1.trans (c4 h).1, (d4 h).2.1.trans (c4 h).2.1, (d4 h).2.2.trans (c4 h).2.2⟩⟩
theorem Grow.mo {n m : Nat} {SR S SR' S' : Nat → Prop} {μ ν : Mem} (h : Grow n SR S μ ν) (hn : n ≤ m) (hR : ∀ a, a ≤ g_n μ → SR a → SR' a) (hS : ∀ a, a ≤ g_n μ → S a → S' a) : Grow m SR' S' μ ν := by
  obtain ⟨a1, a2, a3, a4⟩ := h
  refine ⟨a1, by omega, by omega, fun a ha => ?_⟩
  obtain ⟨c1, c2, c3, c4⟩ := a4 a ha
  exact ⟨c1, c2, fun h => c3 fun z => h (hR a ha z), fun h => c4 fun z => h (hS a ha z)⟩
theorem Out.gr {SR S : Nat → Prop} {μ ν : Mem} (h : Out S μ ν) : Grow 0 SR S μ ν := ⟨by rw [sh_gn h.1]; exact Nat.le_refl _, by rw [sh_gc h.1]; omega, by rw [sh_gw h.1]; omega, fun a _ => ⟨by rw [sh_gK h.1], by rw [sh_gN h.1], fun _ => by rw [sh_gR h.1], fun ha => h.2 a ha⟩⟩
theorem isK_le {μ : Mem} {a c : Nat} (h : isK μ a c = true) : a ≤ g_n μ := (isK_iff.mp h).2.1
theorem Grow.k {n : Nat} {SR S : Nat → Prop} {μ ν : Mem} (h : Grow n SR S μ ν) {a c : Nat} (hk : isK μ a c = true) : isK ν a c = true := by
  obtain ⟨h1, h2, h3⟩ := isK_iff.mp hk
  exact isK_iff.mpr ⟨h1, Nat.le_trans h2 h.1, by rw [(h.2.2.2 a h2).1]; exact h3⟩
theorem Grow.N {n : Nat} {SR S : Nat → Prop} {μ ν : Mem} (h : Grow n SR S μ ν) {a c : Nat} (hk : isK μ a c = true) : g_N ν a = g_N μ a := (h.2.2.2 a (isK_le hk)).2.1
theorem Grow.R {n : Nat} {SR S : Nat → Prop} {μ ν : Mem} (h : Grow n SR S μ ν) {a c : Nat} (hk : isK μ a c = true) (hs : ¬ SR a) : g_R ν a = g_R μ a := (h.2.2.2 a (isK_le hk)).2.2.1 hs
theorem Grow.V {n : Nat} {SR S : Nat → Prop} {μ ν : Mem} (h : Grow n SR S μ ν) {a c : Nat} (hk : isK μ a c = true) (hs : ¬ S a) : g_I ν a = g_I μ a ∧ g_L ν a = g_L μ a ∧ g_D ν a = g_D μ a := (h.2.2.2 a (isK_le hk)).2.2.2 hs
theorem PenS.gr {n : Nat} {SR S : Nat → Prop} {μ ν : Mem} {h : Nat} (s : PenS μ h) (g : Grow n SR S μ ν) (hs : ¬ SR h) : PenS ν h := by
  obtain ⟨s0, s1, s2, s3, s4, s5, s6, n1, n2, n3⟩ := s
  exact ⟨g.k s0, by rw [g.R s0 hs]; exact s1, by rw [g.R s0 hs]; exact s2, by rw [g.R s0 hs]; exact s3, g.k s4, g.k s5, g.k s6, by rw [g.N s4]; exact n1, by rw [g.N s5]; exact n2, by rw [g.N s6]; exact n3⟩
theorem StS.gr {n : Nat} {SR S : Nat → Prop} {μ ν : Mem} {s : Nat} (t : StS μ s) (g : Grow n SR S μ ν) (hs : ∀ a, inSt s a → ¬ SR a) : StS ν s := by
  obtain ⟨a0, a1, a2, a3, a5⟩ := t
  refine ⟨g.k a0, by rw [g.R a0 (hs s ⟨by omega, by omega⟩)]; exact a1, g.k a2, by rw [g.N a2]; exact a3, fun p hp => ⟨by rw [g.R a2 (hs (s + 1) ⟨by omega, by omega⟩)]; exact (a5 p hp).1, (a5 p hp).2.gr g (hs _ ⟨by omega, by omega⟩)⟩⟩
theorem StS.le {μ : Mem} {s : Nat} (t : StS μ s) : ∀ a, inSt s a → a ≤ g_n μ := by
  intro a ha
  obtain ⟨b1, b2⟩ := ha
  have := isK_le (t.2.2.2.2 7 (by decide)).2.2.2.2.2.2.2.1
  omega
theorem StR.gr {n : Nat} {SR S : Nat → Prop} {μ ν : Mem} {s np : Nat} {kf ρ : Nat → Int32} (r : StR μ s np kf ρ) (t : StS μ s) (g : Grow n SR S μ ν) (hs : ∀ a, inSt s a → ¬ S a) : StR ν s np kf ρ := r.fr fun a ha => (g.2.2.2 a (t.le a ha)).2.2.2 (hs a ha)
-- a fresh thing
theorem nw_n {μ : Mem} {c l w : Nat} : g_n (p_new μ c l w) = g_n μ + 1 := rfl
theorem nw_K {μ : Mem} {c l w a : Nat} : g_K (p_new μ c l w) a = if a = g_n μ + 1 then c else g_K μ a := rfl
theorem nw_N {μ : Mem} {c l w a : Nat} : g_N (p_new μ c l w) a = if a = g_n μ + 1 then l else g_N μ a := rfl
theorem nw_Ns {μ : Mem} {c l w : Nat} : g_N (p_new μ c l w) (g_n μ + 1) = l := if_pos rfl
/-- all that lay there stays -/
def Keep (b : Nat) (μ μ' : Mem) : Prop := g_n μ ≤ g_n μ' ∧ ∀ a, a ≤ b → g_K μ' a = g_K μ a ∧ g_N μ' a = g_N μ a ∧ g_R μ' a = g_R μ a ∧ g_I μ' a = g_I μ a ∧ g_L μ' a = g_L μ a ∧ g_D μ' a = g_D μ a
theorem Keep.rf {b : Nat} {μ : Mem} : Keep b μ μ := ⟨Nat.le_refl _, fun _ _ => ⟨rfl, rfl, rfl, rfl, rfl, rfl⟩⟩
theorem Keep.tr {b : Nat} {μ ν ρ : Mem} (h1 : Keep b μ ν) (h2 : Keep b ν ρ) : Keep b μ ρ := ⟨Nat.le_trans h1.1 h2.1, fun a ha => by
  obtain ⟨c1, c2, c3, c4, c5, c6⟩ := h1.2 a ha
  obtain ⟨d1, d2, d3, d4, d5, d6⟩ := h2.2 a ha
  exact ⟨d1.trans c1, d2.trans c2, d3.trans c3, d4.trans c4, d5.trans c5, d6.trans c6⟩⟩
theorem Keep.le {b b' : Nat} {μ ν : Mem} (h : Keep b μ ν) (hb : b' ≤ b) : Keep b' μ ν := ⟨h.1, fun a ha => h.2 a (by omega)⟩
theorem Keep.nw {b c l w : Nat} {μ : Mem} (h : b ≤ g_n μ) : Keep b μ (p_new μ c l w) := ⟨Nat.le_succ _, fun a ha => ⟨if_neg (show ¬ a = g_n μ + 1 by omega), if_neg (show ¬ a = g_n μ + 1 by omega), rfl, rfl, rfl, rfl⟩⟩
theorem Keep.pI {b h k : Nat} {v : Int32} {μ : Mem} (hb : b < h) : Keep b μ (p_I μ h k v) := ⟨Nat.le_refl _, fun a ha => ⟨rfl, rfl, rfl, gI_rowo (by omega), rfl, rfl⟩⟩
theorem Keep.pR {b h k : Nat} {v : Nat} {μ : Mem} (hb : b < h) : Keep b μ (p_R μ h k v) := ⟨Nat.le_refl _, fun a ha => ⟨rfl, rfl, funext fun _ => if_neg (show ¬ a = h by omega), rfl, rfl, rfl⟩⟩
theorem Keep.k {b : Nat} {μ ν : Mem} (h : Keep b μ ν) {a c : Nat} (hk : isK μ a c = true) (ha : a ≤ b) : isK ν a c = true := by
  obtain ⟨h1, h2, h3⟩ := isK_iff.mp hk
  exact isK_iff.mpr ⟨h1, Nat.le_trans h2 h.1, by rw [(h.2 a ha).1]; exact h3⟩
theorem PenS.kp {b : Nat} {μ ν : Mem} {h : Nat} (s : PenS μ h) (g : Keep b μ ν) (hs : h + 3 ≤ b) : PenS ν h := by
  obtain ⟨s0, s1, s2, s3, s4, s5, s6, n1, n2, n3⟩ := s
  have e := (g.2 h (by omega)).2.2.1
  exact ⟨g.k s0 (by omega), by rw [e]; exact s1, by rw [e]; exact s2, by rw [e]; exact s3, g.k s4 (by omega), g.k s5 (by omega), g.k s6 hs, by rw [(g.2 (h + 1) (by omega)).2.1]; exact n1, by rw [(g.2 (h + 2) (by omega)).2.1]; exact n2, by rw [(g.2 (h + 3) hs).2.1]; exact n3⟩
theorem gR_s {μ : Mem} {h k v : Nat} : g_R (p_R μ h k v) h k = v := by rw [gR_pR, if_pos rfl, if_pos rfl]
theorem gR_k {μ : Mem} {h k b v : Nat} (hb : b ≠ k) : g_R (p_R μ h k v) h b = g_R μ h b := by rw [gR_pR, if_pos rfl, if_neg hb]
theorem gR_h {μ : Mem} {h k a b v : Nat} (ha : a ≠ h) : g_R (p_R μ h k v) a b = g_R μ a b := by rw [gR_pR, if_neg ha]
theorem nw_k {μ : Mem} {c l w a q : Nat} (h : isK μ a q = true) : isK (p_new μ c l w) a q = true := (Keep.nw (Nat.le_refl _)).k h (isK_le h)
theorem nw_R {μ : Mem} {c l w : Nat} : g_R (p_new μ c l w) = g_R μ := rfl
theorem nw_No {μ : Mem} {c l w a : Nat} (h : a ≤ g_n μ) : g_N (p_new μ c l w) a = g_N μ a := if_neg (show ¬ a = g_n μ + 1 by omega)
theorem X5_init {μ : Mem} {a : Nat} (ha : g_n μ = a) (hk : isK μ a 5 = true) : ∃ μ' : Mem, LX5_init a μ = some ((), μ') ∧ PenS μ' a ∧ g_n μ' = a + 3 ∧ g_c μ' = g_c μ + 3 ∧ g_w μ' = g_w μ + 72 ∧ Keep (a - 1) μ μ' := by
  have h0 := isK_p hk
  unfold LX5_init mk
  rw [if_pos hk, ob, ob, ob]
  obtain ⟨m0, e0⟩ : ∃ m0, m0 = p_I μ a 3 (-1) := ⟨_, rfl⟩
  obtain ⟨m1, e1⟩ : ∃ m1, m1 = p_R (p_new m0 16 24 24) a 5 (g_n m0 + 1) := ⟨_, rfl⟩
  obtain ⟨m2, e2⟩ : ∃ m2, m2 = p_R (p_new m1 14 24 24) a 6 (g_n m1 + 1) := ⟨_, rfl⟩
  obtain ⟨m3, e3⟩ : ∃ m3, m3 = p_R (p_new m2 13 24 24) a 7 (g_n m2 + 1) := ⟨_, rfl⟩
  rw [← e0, ← e1, ← e2, ← e3]
  have n0 : g_n m0 = a := by rw [e0]; exact ha
  have n1 : g_n m1 = a + 1 := by rw [e1]; show g_n m0 + 1 = _; rw [n0]
  have n2 : g_n m2 = a + 2 := by rw [e2]; show g_n m1 + 1 = _; rw [n1]
  have n3 : g_n m3 = a + 3 := by rw [e3]; show g_n m2 + 1 = _; rw [n2]
  rw [n0] at e1
  rw [n1] at e2
  rw [n2] at e3
  have k0 : isK m0 a 5 = true := by rw [e0]; exact hk
  have k1 : isK m1 a 5 = true ∧ isK m1 (a + 1) 16 = true ∧ g_N m1 (a + 1) = 24 := by
    rw [e1]
    refine ⟨nw_k k0, ?_, ?_⟩
    · rw [isK_pR, ← n0]; exact isK_new
    · rw [gN_pR, ← n0]; exact nw_Ns
  have k2 : isK m2 a 5 = true ∧ isK m2 (a + 1) 16 = true ∧ g_N m2 (a + 1) = 24 ∧ isK m2 (a + 2) 14 = true ∧ g_N m2 (a + 2) = 24 := by
    rw [e2]
    refine ⟨nw_k k1.1, nw_k k1.2.1, ?_, ?_, ?_⟩
    · rw [gN_pR, nw_No (by omega)]; exact k1.2.2
    · rw [isK_pR, show a + 2 = g_n m1 + 1 by omega]; exact isK_new
    · rw [gN_pR, show a + 2 = g_n m1 + 1 by omega]; exact nw_Ns
  have k3 : isK m3 a 5 = true ∧ isK m3 (a + 1) 16 = true ∧ g_N m3 (a + 1) = 24 ∧ isK m3 (a + 2) 14 = true ∧ g_N m3 (a + 2) = 24 ∧ isK m3 (a + 3) 13 = true ∧ g_N m3 (a + 3) = 24 := by
    rw [e3]
    refine ⟨nw_k k2.1, nw_k k2.2.1, ?_, nw_k k2.2.2.2.1, ?_, ?_, ?_⟩
    · rw [gN_pR, nw_No (by omega)]; exact k2.2.2.1
    · rw [gN_pR, nw_No (by omega)]; exact k2.2.2.2.2
    · rw [isK_pR, show a + 3 = g_n m2 + 1 by omega]; exact isK_new
    · rw [gN_pR, show a + 3 = g_n m2 + 1 by omega]; exact nw_Ns
  refine ⟨m3, rfl, ⟨k3.1, ?_, ?_, ?_, k3.2.1, k3.2.2.2.1, k3.2.2.2.2.2.1, k3.2.2.1, k3.2.2.2.2.1, k3.2.2.2.2.2.2⟩, n3, ?_, ?_, ?_⟩
  · rw [e3, gR_k (by decide), nw_R, e2, gR_k (by decide), nw_R, e1, gR_s]
  · rw [e3, gR_k (by decide), nw_R, e2, gR_s]
  · rw [e3, gR_s]
  · rw [e3, e2, e1, e0]; rfl
  · rw [e3, e2, e1, e0]; rfl
  · refine (show Keep (a - 1) μ m0 from ?_).tr ((show Keep (a - 1) m0 m1 from ?_).tr ((show Keep (a - 1) m1 m2 from ?_).tr (show Keep (a - 1) m2 m3 from ?_)))
    · rw [e0]; exact Keep.pI (by omega)
    · rw [e1]; exact (Keep.nw (by omega)).tr (Keep.pR (by omega))
    · rw [e2]; exact (Keep.nw (by omega)).tr (Keep.pR (by omega))
    · rw [e3]; exact (Keep.nw (by omega)).tr (Keep.pR (by omega))
theorem X8_initL : ∀ (f j fu : Nat) (s : Nat) (μ : Mem), isK μ s 8 = true → g_R μ s 0 = s + 1 → isK μ (s + 1) 17 = true → g_N μ (s + 1) = 8 → (∀ p, p < j → g_R μ (s + 1) p = s + 2 + 4 * p ∧ PenS μ (s + 2 + 4 * p)) → g_n μ = s + 1 + 4 * j → f + j = 8 → f < fu →
    ∃ μ' : Mem, mX8_init_15 fu s (nI j) μ = some ((), μ') ∧ StS μ' s ∧ g_n μ' = s + 33 ∧ g_c μ' = g_c μ + 4 * f ∧ g_w μ' = g_w μ + 80 * f ∧ Keep s μ μ' := by
  intro f
  induction f with
  | zero =>
    intro j fu s μ h0 h1 h2 h3 h4 hn hj hf
    obtain ⟨fu, rfl⟩ : ∃ q, fu = q + 1 := ⟨fu - 1, by omega⟩
    have hj : j = 8 := by omega
    subst hj
    rw [mX8_init_15, if_pos (show (8 : Int32) ≤ nI 8 from by decide)]
    exact ⟨μ, rfl, ⟨h0, h1, h2, h3, h4⟩, hn, rfl, rfl, Keep.rf⟩
  | succ f ih =>
    intro j fu s μ h0 h1 h2 h3 h4 hn hj hf
    obtain ⟨fu, rfl⟩ : ∃ q, fu = q + 1 := ⟨fu - 1, by omega⟩
    have hp := isK_p h0
    rw [mX8_init_15, if_neg (show ¬ (8 : Int32) ≤ nI j from nI_ge (b := 8) (by omega) (by decide)), h1, if_pos (Nat.succ_pos s)]
    unfold mk
    rw [ob]
    have en : g_n μ + 1 = s + 2 + 4 * j := by omega
    obtain ⟨m1, e1⟩ : ∃ m1, m1 = p_new μ 5 0 8 := ⟨_, rfl⟩
    have kp1 : Keep (s + 1 + 4 * j) μ m1 := by rw [e1]; exact Keep.nw (by omega)
    have k1 : isK m1 (s + 2 + 4 * j) 5 = true := by rw [e1, ← en]; exact isK_new
    have n1 : g_n m1 = s + 2 + 4 * j := by rw [e1, ← en]; rfl
    rw [← e1, en]
    obtain ⟨m2, e2, pe, n2, c2, w2, kp2⟩ := X5_init n1 k1
    have kp2 : Keep (s + 1 + 4 * j) m1 m2 := kp2.le (by omega)
    have kk := kp1.tr kp2
    have h2' : isK m2 (s + 1) 17 = true := kk.k h2 (by omega)
    have h3' : g_N m2 (s + 1) = 8 := by rw [(kk.2 (s + 1) (by omega)).2.1]; exact h3
    rw [e2, ob, if_pos (inA_n h2' h3' (by omega) (by decide)), nI_clamp (n := j) (by omega), ← nI_succ]
    obtain ⟨μ', e3, st, n3, c3, w3, kp3⟩ := ih (j + 1) fu s (p_R m2 (s + 1) j (s + 2 + 4 * j)) (kk.k h0 (by omega)) (by rw [gR_h (by omega), (kk.2 s (by omega)).2.2.1]; exact h1) h2' h3' (fun p hp => by
      by_cases e : p = j
      · rw [e, gR_s]
        refine ⟨rfl, ?_⟩
        obtain ⟨s0, s1, s2, s3, s4, s5, s6, n1, n2, n3⟩ := pe
        exact ⟨s0, by rw [gR_h (by omega)]; exact s1, by rw [gR_h (by omega)]; exact s2, by rw [gR_h (by omega)]; exact s3, s4, s5, s6, n1, n2, n3⟩
      · obtain ⟨q1, q2⟩ := h4 p (by omega)
        have q3 := q2.kp kk (by omega)
        refine ⟨by rw [gR_k e, (kk.2 (s + 1) (by omega)).2.2.1]; exact q1, ?_⟩
        obtain ⟨s0, s1, s2, s3, s4, s5, s6, n1, n2, n3⟩ := q3
        exact ⟨s0, by rw [gR_h (by omega)]; exact s1, by rw [gR_h (by omega)]; exact s2, by rw [gR_h (by omega)]; exact s3, s4, s5, s6, n1, n2, n3⟩) (by show g_n m2 = _; omega) (by omega) (by omega)
    refine ⟨μ', e3, st, n3, ?_, ?_, (kk.le (by omega)).tr ((Keep.pR (by omega)).tr kp3)⟩
    · have a1 : g_c m1 = g_c μ + 1 := by rw [e1]; rfl
      have a2 : g_c (p_R m2 (s + 1) j (s + 2 + 4 * j)) = g_c m2 := rfl
      omega
    · have a1 : g_w m1 = g_w μ + 8 := by rw [e1]; rfl
      have a2 : g_w (p_R m2 (s + 1) j (s + 2 + 4 * j)) = g_w m2 := rfl
      omega
theorem X8_init {μ : Mem} {s : Nat} (hn : g_n μ = s) (hk : isK μ s 8 = true) : ∃ μ' : Mem, LX8_init s μ = some ((), μ') ∧ StS μ' s ∧ g_n μ' = s + 33 ∧ g_c μ' = g_c μ + 33 ∧ g_w μ' = g_w μ + 648 ∧ Keep (s - 1) μ μ' := by
  have hp := isK_p hk
  unfold LX8_init mk
  rw [if_pos hk, ob, hn]
  obtain ⟨m1, e1⟩ : ∃ m1, m1 = p_R (p_new μ 17 8 8) s 0 (s + 1) := ⟨_, rfl⟩
  rw [← e1]
  obtain ⟨μ', e2, st, n2, c2, w2, kp⟩ := X8_initL 8 0 100000 s m1 (by rw [e1]; exact nw_k hk) (by rw [e1, gR_s]) (by rw [e1, isK_pR, ← hn]; exact isK_new) (by rw [e1, gN_pR, ← hn]; exact nw_Ns) (fun p hp => absurd hp (Nat.not_lt_zero _)) (by rw [e1]; show g_n μ + 1 = _; omega) rfl (by decide)
  have a1 : g_c m1 = g_c μ + 1 := by rw [e1]; rfl
  have a2 : g_w m1 = g_w μ + 8 := by rw [e1]; rfl
  refine ⟨μ', e2, st, n2, by omega, by omega, ?_⟩
  refine (show Keep (s - 1) μ m1 from ?_).tr (kp.le (by omega))
  rw [e1]
  exact (Keep.nw (by omega)).tr (Keep.pR (by omega))
