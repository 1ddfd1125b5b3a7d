/-! ===== the reference is asked: tuning, ring ===== -/
theorem tun_lo {s : Nat} (h1 : 2 ≤ s) (h2 : s ≤ 198) {μ : Mem} : LX12_more (1 : Int32) (nI s - 99) μ = some (nI (max 1 (s - 99)), μ) := by
  rw [R_more]
  by_cases h : 99 ≤ s
  · rw [show nI s - 99 = nI (s - 99) from nI_sub (b := 99) h]
    by_cases g : 1 < s - 99
    · rw [if_pos (show (1 : Int32) < nI (s - 99) from nI_lt (a := 1) g (by omega)), show max 1 (s - 99) = s - 99 by omega]
    · rw [if_neg (show ¬ (1 : Int32) < nI (s - 99) from nI_nlt (a := 1) (by omega) (by omega)), show max 1 (s - 99) = 1 by omega]; rfl
  · rw [if_neg ?_, show max 1 (s - 99) = 1 by omega]
    · rfl
    · intro z
      have := Int32.lt_iff_toInt_lt.mp z
      rw [Int32.toInt_sub, nI_toInt (by omega), show (99 : Int32).toInt = 99 from rfl, show (1 : Int32).toInt = 1 from rfl, Int.bmod_def] at this
      split at this <;> omega
theorem tun_hi {s : Nat} (h1 : 2 ≤ s) (h2 : s ≤ 198) {μ : Mem} : LX12_less (99 : Int32) (nI s - 1) μ = some (nI (min (s - 1) 99), μ) := by
  rw [R_less, show nI s - 1 = nI (s - 1) from nI_sub (b := 1) (by omega)]
  by_cases g : s - 1 < 99
  · rw [if_pos (show nI (s - 1) < (99 : Int32) from nI_lt (b := 99) g (by decide)), show min (s - 1) 99 = s - 1 by omega]
  · rw [if_neg (show ¬ nI (s - 1) < (99 : Int32) from nI_nlt (b := 99) (by omega) (by omega)), show min (s - 1) 99 = 99 by omega]; rfl
theorem R_tun51 {μ : Mem} {a : ClT} {p s : Nat} {v w : Int32} {q32 : Nat → Int32 → Int32 → Int32 → Int32 → Mem → Option (Int32 × Mem)} (q : RqR μ a) (hp : p < penN a) (h1 : 2 ≤ s) (h2 : s ≤ 198) : ∀ (g m fu : Nat), g + m = min (s - 1) 99 + 1 → max 1 (s - 99) ≤ m → g < fu → mX12_tuning_51 q32 fu 125 (nI p) v w (nI s) (nI m) μ = match tunI (kindOf a p) v w s g m with
    | some r => some (r, μ)
    | none => q32 125 (nI p) v w (nI (s + 1)) μ := by
  obtain ⟨u1, u2, u3, u4, u5, u6, u7⟩ := q.pen hp
  obtain ⟨⟨kk, hk, hk8⟩, -⟩ := q.ho.2.2.1 p hp
  have hk : kindOf a p = nI kk := hk
  intro g
  induction g with
  | zero =>
    intro m fu hg hm hf
    obtain ⟨fu, rfl⟩ : ∃ q, fu = q + 1 := ⟨fu - 1, by omega⟩
    rw [mX12_tuning_51, tun_hi h1 h2, ob, if_pos (nI_lt (by omega) (by omega)), ← nI_succ]
    rfl
  | succ g ih =>
    intro m fu hg hm hf
    obtain ⟨fu, rfl⟩ : ∃ q, fu = q + 1 := ⟨fu - 1, by omega⟩
    rw [mX12_tuning_51, tun_hi h1 h2, ob, if_neg (nI_nlt (by omega) (by omega)), q.s.h14, if_pos q139, if_pos u1, u2, u3, if_pos u4, if_pos u5, c0n, u6, show nI s - nI m = nI (s - m) from nI_sub (by omega), hk, R_outBy hk8 (show m ≤ 99 by omega) (fun _ => nI_ne0 (show 0 < s - m by omega) (by omega)), ob, ← hk]
    have e : tunI (kindOf a p) v w s (g + 1) m = if outF (kindOf a p) v (nI m) (nI (s - m)) = w then some (nI (100 * m + (s - m))) else tunI (kindOf a p) v w s g (m + 1) := rfl
    rw [e]
    by_cases h : outF (kindOf a p) v (nI m) (nI (s - m)) = w
    · rw [if_pos h, if_pos h]
      have e2 : ((100 : Int32) * nI m + nI s) - nI m = nI (100 * m + (s - m)) := by
        rw [show (100 : Int32) = nI 100 from rfl, nI_mul, nI_add, nI_sub (by omega)]
        congr 1
        omega
      rw [e2]
    · rw [if_neg h, if_neg h, ← nI_succ]
      exact ih (m + 1) fu (by omega) (by omega) (by omega)
theorem R_tun32 {μ : Mem} {a : ClT} {p : Nat} {v w : Int32} (q : RqR μ a) (hp : p < penN a) : ∀ (g s fu : Nat), g + s = 199 → 2 ≤ s → g < fu → mX12_tuning_32 fu 125 (nI p) v w (nI s) μ = some (tunS (kindOf a p) v w g s, μ) := by
  intro g
  induction g with
  | zero =>
    intro s fu hg hs hf
    obtain ⟨fu, rfl⟩ : ∃ q, fu = q + 1 := ⟨fu - 1, by omega⟩
    rw [mX12_tuning_32, if_pos (show (198 : Int32) < nI s from nI_lt (a := 198) (by omega) (by omega))]
    rfl
  | succ g ih =>
    intro s fu hg hs hf
    obtain ⟨fu, rfl⟩ : ∃ q, fu = q + 1 := ⟨fu - 1, by omega⟩
    rw [mX12_tuning_32, if_neg (show ¬ (198 : Int32) < nI s from nI_nlt (a := 198) (by omega) (by decide)), tun_lo hs (by omega), ob, R_tun51 q hp hs (by omega) (min (s - 1) 99 + 1 - max 1 (s - 99)) (max 1 (s - 99)) 100000 (by omega) (Nat.le_refl _) (by omega)]
    have e : tunS (kindOf a p) v w (g + 1) s = tunO (tunI (kindOf a p) v w s (min (s - 1) 99 + 1 - max 1 (s - 99)) (max 1 (s - 99))) (tunS (kindOf a p) v w g (s + 1)) := rfl
    rw [e]
    cases tunI (kindOf a p) v w s (min (s - 1) 99 + 1 - max 1 (s - 99)) (max 1 (s - 99)) with
    | some r => rfl
    | none => exact ih (s + 1) fu (by omega) (by omega) (by omega)
theorem M_tuning {μ : Mem} {a : ClT} {pn v w : Int32} (r : RfR μ a) (k : ClK a) : AskM (fun _ => 1) μ (LX12_tuning 125 pn v w μ) (if noPen a pn then (.inl 0, rfA a 0) else (.inr (tunS (kindOf a pn.toNatClampNeg) v w 197 2), a)) := by
  unfold LX12_tuning mX12_tuning_19
  refine A_pen (S := fun p => (.inr (tunS (kindOf a p) v w 197 2), a)) r k (by decide) rfl fun p hp hv μ0 q => ?_
  subst hv
  rw [show mX12_tuning_32 100000 125 (nI p) v w 2 μ0 = _ from R_tun32 q hp 197 2 100000 rfl (by decide) (by decide)]
  exact q.same
/-! the readings come again -/
def DisX (x : Nat → Int32) (n : Nat) : Prop := ∀ i j, i < j → j < n → x i ≠ x j
theorem rinB_at {x : Nat → Int32} {i0 : Nat} (h0 : x i0 = x 1000) (h : ∀ i, i0 < i → i < 1000 → x i ≠ x 1000) : ∀ t, i0 < t → t ≤ 1000 → rinB x t = some (1000 - i0) := by
  intro t
  induction t with
  | zero => intro h1; omega
  | succ t ih =>
    intro h1 h2
    have e : rinB x (t + 1) = if x t = x 1000 then some (1000 - t) else rinB x t := rfl
    rw [e]
    by_cases ht : t = i0
    · rw [ht, if_pos h0]
    · rw [if_neg (h t (by omega) (by omega))]
      exact ih (by omega) (by omega)
theorem rinB_no {x : Nat → Int32} (h : ∀ i, i < 1000 → x i ≠ x 1000) : ∀ t, t ≤ 1000 → rinB x t = none := by
  intro t
  induction t with
  | zero => intro _; rfl
  | succ t ih =>
    intro h2
    have e : rinB x (t + 1) = if x t = x 1000 then some (1000 - t) else rinB x t := rfl
    rw [e, if_neg (h t (by omega))]
    exact ih (by omega)
theorem rinS_at {x : Nat → Int32} {k L : Nat} (hk : x k = x (k + L)) (hn : k + L ≤ 1000) (h : ∀ i, i < k → x i ≠ x (i + L)) : ∀ g i, i ≤ k → k - i < g → rinS x L g i = k := by
  intro g
  induction g with
  | zero => intro i _ h2; omega
  | succ g ih =>
    intro i h1 h2
    have e : rinS x L (g + 1) i = if 1000 ≤ i + L then 1000 - L else if x i = x (i + L) then i else rinS x L g (i + 1) := rfl
    rw [e]
    by_cases hi : i = k
    · rw [hi]
      by_cases g1 : 1000 ≤ k + L
      · rw [if_pos g1]; omega
      · rw [if_neg g1, if_pos hk]
    · rw [if_neg (by omega), if_neg (h i (by omega))]
      exact ih (i + 1) (by omega) (by omega)
theorem ring_per {x : Nat → Int32} {F : Int32 → Int32} {k L : Nat} (hF : ∀ m, x (m + 1) = F (x m)) (hk : x k = x (k + L)) : ∀ d, x (k + d + L) = x (k + d) := by
  intro d
  induction d with
  | zero => exact hk.symm
  | succ d ih =>
    rw [show k + (d + 1) + L = (k + d + L) + 1 by omega, hF, ih, show k + (d + 1) = (k + d) + 1 by omega, hF]
theorem ring_mod {x : Nat → Int32} {F : Int32 → Int32} {k L : Nat} (hF : ∀ m, x (m + 1) = F (x m)) (hk : x k = x (k + L)) (hL : 0 < L) : ∀ N d, d ≤ N → x (k + d) = x (k + d % L) := by
  intro N
  induction N with
  | zero => intro d hd; rw [show d = 0 by omega, Nat.zero_mod]
  | succ N ih =>
    intro d hd
    by_cases h : d < L
    · rw [Nat.mod_eq_of_lt h]
    · have e1 := ring_per hF hk (d - L)
      rw [show k + (d - L) + L = k + d by omega] at e1
      rw [e1, ih (d - L) (by omega)]
      congr 2
      rw [← Nat.mod_eq_sub_mod (by omega)]
theorem ring_math {x : Nat → Int32} {F : Int32 → Int32} {k n : Nat} {w : Int32} (hF : ∀ m, x (m + 1) = F (x m)) (hD : DisX x n) (hkn : k < n) (hk : x k = x n) (hn : n ≤ 1000) : rinV x w = if w = 1 then nI (n - k) else nI n := by
  obtain ⟨L, hL⟩ : ∃ L, L = n - k := ⟨_, rfl⟩
  have hL0 : 0 < L := by omega
  have hk' : x k = x (k + L) := by rw [hk]; congr 1; omega
  have hmod := fun d => ring_mod hF hk' hL0 d d (Nat.le_refl d)
  have e0 : x (1000 - L) = x 1000 := by
    have := ring_per hF hk' (1000 - L - k)
    rw [show k + (1000 - L - k) + L = 1000 by omega, show k + (1000 - L - k) = 1000 - L by omega] at this
    exact this.symm
  have hB : rinB x 1000 = some L := by
    have := rinB_at e0 (fun i h1 h2 hx => ?_) 1000 (by omega) (Nat.le_refl _)
    · rw [this]; congr 1; omega
    · have a1 := hmod (i - k)
      have a2 := hmod (1000 - k)
      rw [show k + (i - k) = i by omega] at a1
      rw [show k + (1000 - k) = 1000 by omega] at a2
      rw [a1, a2] at hx
      have b1 := Nat.mod_lt (i - k) hL0
      have b2 := Nat.mod_lt (1000 - k) hL0
      have hmm : (i - k) % L = (1000 - k) % L := Classical.byContradiction fun hne => by
        rcases Nat.lt_or_ge ((i - k) % L) ((1000 - k) % L) with hlt | hge
        · exact hD _ _ (show k + (i - k) % L < k + (1000 - k) % L by omega) (by omega) hx
        · exact hD _ _ (show k + (1000 - k) % L < k + (i - k) % L by omega) (by omega) hx.symm
      have hz := Nat.sub_mod_eq_zero_of_mod_eq hmm.symm
      rw [show 1000 - k - (i - k) = 1000 - i by omega, Nat.mod_eq_of_lt (by omega)] at hz
      omega
  have hS : rinS x L 1000 0 = k := rinS_at hk' (by omega) (fun i hi hx => hD i (i + L) (by omega) (by omega) hx) 1000 0 (Nat.zero_le _) (by omega)
  unfold rinV
  rw [hB]
  show (if w = 1 then nI L else nI (rinS x L 1000 0 + L)) = _
  rw [hS, hL, show k + (n - k) = n by omega]
abbrev zS : Nat → Prop := fun x => x = 628
theorem RqR.z {μ ν : Mem} {a : ClT} (q : RqR μ a) (o : OF nS zS μ ν) : RqR ν a := q.out o (fun k hk => hk.elim) (fun x hx => by have hx : x = 628 := hx; unfold frS; omega)
theorem R_ring110 {μ : Mem} {x : Nat → Int32} {p w : Int32} {n : Nat} {q62 : Nat → Int32 → Int32 → Int32 → Mem → Option (Int32 × Mem)} (s : RfS μ) (hn : n ≤ 1000) (hx : ∀ i, i ≤ n → g_I μ 628 i = x i) : ∀ (g k fu : Nat), g + k = n → g < fu → (∀ i, i < k → x i ≠ x n) → (∃ k', k' < n ∧ x k' = x n ∧ mX12_ring_110 q62 fu 125 p w (nI n) (nI k) μ = some (if w = 0 then nI n else nI (n - k'), μ)) ∨ ((∀ i, i < n → x i ≠ x n) ∧ mX12_ring_110 q62 fu 125 p w (nI n) (nI k) μ = q62 125 p w (nI (n + 1)) μ) := by
  intro g
  induction g with
  | zero =>
    intro k fu hk hf h
    obtain ⟨fu, rfl⟩ : ∃ q, fu = q + 1 := ⟨fu - 1, by omega⟩
    refine Or.inr ⟨fun i hi => h i (by omega), ?_⟩
    rw [mX12_ring_110, if_pos (nI_le (by omega) (by omega)), ← nI_succ]
  | succ g ih =>
    intro k fu hk hf h
    obtain ⟨fu, rfl⟩ : ∃ q, fu = q + 1 := ⟨fu - 1, by omega⟩
    rw [mX12_ring_110, if_neg (nI_ge (by omega) (by omega)), s.h45, if_pos q628, if_pos (s.a628.ix (show k < 1001 by omega) (by decide)), if_pos (s.a628.ix (show n < 1001 by omega) (by decide)), nI_clamp (show k < 2147483648 by omega), nI_clamp (show n < 2147483648 by omega), hx k (by omega), hx n (Nat.le_refl _)]
    by_cases e : x k = x n
    · refine Or.inl ⟨k, by omega, e, ?_⟩
      rw [if_pos e, show nI n - nI k = nI (n - k) from nI_sub (by omega)]
      split <;> rfl
    · rw [if_neg e, ← nI_succ]
      exact ih (k + 1) fu (by omega) (by omega) (fun i hi => by
        by_cases hi2 : i = k
        · rw [hi2]; exact e
        · exact h i (by omega))
theorem R_ring62 {a : ClT} {p : Nat} {v w : Int32} (hp : p < penN a) (hw : w = 0 ∨ w = 1) (hJ : jamA a p = 0) : ∀ (g n fu : Nat) (μ : Mem), RqR μ a → g + n = 1001 → 1 ≤ n → g < fu → DisX (rinX (kindOf a p) (rowOf a p) (rowOf a (8 + p)) v) n → (∀ i, i < n → g_I μ 628 i = rinX (kindOf a p) (rowOf a p) (rowOf a (8 + p)) v i) → ∃ μ' : Mem, mX12_ring_62 fu 125 (nI p) w (nI n) μ = some (rinV (rinX (kindOf a p) (rowOf a p) (rowOf a (8 + p)) v) w, μ') ∧ OF nS zS μ μ' := by
  intro g
  induction g with
  | zero =>
    intro n fu μ q hg h1 hf hD hx
    obtain ⟨fu, rfl⟩ : ∃ q, fu = q + 1 := ⟨fu - 1, by omega⟩
    rw [mX12_ring_62, if_pos (show (1000 : Int32) < nI n from nI_lt (a := 1000) (by omega) (by omega))]
    have hB := rinB_no (fun i hi => hD i 1000 hi (by omega)) 1000 (Nat.le_refl _)
    unfold rinV
    rw [hB]
    exact ⟨μ, rfl, OF.rf⟩
  | succ g ih =>
    intro n fu μ q hg h1 hf hD hx
    obtain ⟨fu, rfl⟩ : ∃ q, fu = q + 1 := ⟨fu - 1, by omega⟩
    have e1 : nI n - 1 = nI (n - 1) := nI_sub (b := 1) h1
    rw [mX12_ring_62, if_neg (show ¬ (1000 : Int32) < nI n from nI_nlt (a := 1000) (by omega) (by decide)), q.s.h29, if_pos q603, R_jamA q hp, ob, if_pos hJ, q.s.h45, if_pos q628, q.s.h29, if_pos q603, e1, if_pos (q.s.a628.ix (show n - 1 < 1001 by omega) (by decide)), nI_clamp (show n - 1 < 2147483648 by omega), hx (n - 1) (by omega)]
    obtain ⟨x, hX⟩ : ∃ x, x = rinX (kindOf a p) (rowOf a p) (rowOf a (8 + p)) v := ⟨_, rfl⟩
    have hF : ∀ m, x (m + 1) = outA a p (x m) := fun m => by rw [hX]; rfl
    rw [← hX] at hD hx ⊢
    rw [show LX12_outOf 125 603 (nI p) (x (n - 1)) μ = some (outA a p (x (n - 1)), μ) from R_outOf q.w hp hJ, ob, ← hF, show n - 1 + 1 = n by omega, if_pos (q.s.a628.ix (show n < 1001 by omega) (by decide)), nI_clamp (show n < 2147483648 by omega)]
    have o0 : OF nS zS μ (p_I μ 628 n (x n)) := (OF.rf (F := nS) (S := zS)).pS rfl (by decide)
    have q0 := q.z o0
    have hx0 : ∀ i, i ≤ n → g_I (p_I μ 628 n (x n)) 628 i = x i := fun i hi => by
      by_cases e : i = n
      · rw [e, gI_s]
      · rw [gI_k e]; exact hx i (by omega)
    rcases R_ring110 (p := nI p) (w := w) (q62 := fun l0 l1 l3 l4 μ => mX12_ring_62 fu l0 l1 l3 l4 μ) q0.s (show n ≤ 1000 by omega) hx0 n 0 100000 rfl (by omega) (fun i hi => by omega) with ⟨k', k1, k2, k3⟩ | ⟨k1, k2⟩
    · refine ⟨_, ?_, o0⟩
      rw [show mX12_ring_110 (fun l0 l1 l3 l4 μ => mX12_ring_62 fu l0 l1 l3 l4 μ) 100000 125 (nI p) w (nI n) 0 (p_I μ 628 n (x n)) = _ from k3, ring_math hF hD k1 k2 (by omega)]
      rcases hw with rfl | rfl
      · rw [if_pos rfl, if_neg (by decide)]
      · rw [if_neg (by decide), if_pos rfl]
    · rw [show mX12_ring_110 (fun l0 l1 l3 l4 μ => mX12_ring_62 fu l0 l1 l3 l4 μ) 100000 125 (nI p) w (nI n) 0 (p_I μ 628 n (x n)) = _ from k2]
      have hr := ih (n + 1) fu _ q0 (by omega) (by omega) (by omega)
      rw [← hX] at hr
      obtain ⟨μ', e2, o2⟩ := hr (fun i j h1 h2 => by
        by_cases e : j = n
        · rw [e]; exact k1 i (by omega)
        · exact hD i j h1 (by omega)) (fun i hi => hx0 i (by omega))
      exact ⟨μ', e2, o0.tr o2⟩
theorem M_ring {μ : Mem} {a : ClT} {pn v w : Int32} (r : RfR μ a) (k : ClK a) : AskM ixPV μ (LX12_ring 125 pn v w μ) (if noPen a pn then (.inl 0, rfA a 0) else if offB w 0 1 then (.inl 1, rfA a 1) else (.inr (sRing a v w pn.toNatClampNeg), a)) := by
  unfold LX12_ring mX12_ring_19
  refine A_pen (S := fun p => if offB w 0 1 then (.inl 1, rfA a 1) else (.inr (sRing a v w p), a)) r k (by decide) rfl fun p hp hv μ0 q => ?_
  subst hv
  unfold mX12_ring_42
  refine A_in (k := 1) q rfl (by decide) (by decide) rfl fun h => ?_
  have hw : w = 0 ∨ w = 1 := by
    obtain ⟨j, hj, rfl⟩ := in_ofN (n := 1) h (by decide)
    have : j = 0 ∨ j = 1 := by omega
    rcases this with rfl | rfl
    · exact Or.inl rfl
    · exact Or.inr rfl
  have i0 : inA μ0 628 15 (0 : Int32) = true := q.s.a628.ix (i := 0) (by decide) (by decide)
  rw [q.s.h45, if_pos q628, if_pos i0, c0n]
  have o0 : OF nS zS μ0 (p_I μ0 628 0 v) := (OF.rf (F := nS) (S := zS)).pS rfl (by decide)
  have q0 := q.z o0
  have fin : ∀ {z : Int32} {ν : Mem}, OF nS zS μ0 ν → AskM ixPV μ0 (some (z, ν)) (.inr z, a) := fun o => AskM.out q.1 q.ho o (fun k hk => hk.elim) (fun x hx => by have hx : x = 628 := hx; unfold frS; omega) q.2.2
  unfold sRing
  by_cases hJ : jamA a p = 0
  · obtain ⟨μ', e1, o1⟩ := R_ring62 (v := v) hp hw hJ 1000 1 100000 (p_I μ0 628 0 v) q0 rfl (Nat.le_refl _) (by decide) (fun i j h1 h2 => by omega) (fun i hi => by rw [show i = 0 by omega, gI_s]; rfl)
    rw [show mX12_ring_62 100000 125 (nI p) w 1 (p_I μ0 628 0 v) = _ from e1, if_pos hJ]
    exact fin (o0.tr o1)
  · rw [mX12_ring_62, if_neg (by decide), q0.s.h29, if_pos q603, R_jamA q0 hp, ob, if_neg hJ, if_neg hJ]
    exact fin o0
