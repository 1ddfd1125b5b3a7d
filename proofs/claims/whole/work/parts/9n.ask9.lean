/-! ===== the class is asked: tuning, span, look ===== -/
def tunI (k v w : Int32) (s : Nat) : Nat → Nat → Option Int32
  | 0, _ => none
  | g + 1, m => if outF k v (nI m) (nI (s - m)) = w then some (nI (100 * m + (s - m))) else tunI k v w s g (m + 1)
def tunO (o : Option Int32) (d : Int32) : Int32 := match o with
  | some r => r
  | none => d
def tunS (k v w : Int32) : Nat → Nat → Int32
  | 0, _ => -1
  | g + 1, s => tunO (tunI k v w s (min (s - 1) 99 + 1 - max 1 (s - 99)) (max 1 (s - 99))) (tunS k v w g (s + 1))
def tunK (o : Option Int32) (ν : Mem) (x : Option ((Nat ⊕ Int32) × Mem)) : Option ((Nat ⊕ Int32) × Mem) := match o with
  | some r => some (.inr r, ν)
  | none => x
theorem tun_first : ∀ s, s < 199 → (if (1 : Int32) < nI s - 99 then nI s - 99 else 1) = nI (max 1 (s - 99)) ∧ (s = 0 ∨ (if (99 : Int32) < nI s - 1 then (99 : Int32) else nI s - 1) = nI (min (s - 1) 99)) := by decide +kernel
theorem X11_tunL {k v w : Int32} {s last : Nat} {q : Nat → Int32 → Int32 → Int32 → Mem → Option ((Nat ⊕ Int32) × Mem)} (hl : last < s) (hl9 : last ≤ 99) (hs : s ≤ 198) : ∀ (g m fu : Nat) (μ : Mem), g + m = last + 1 → g < fu → 1 ≤ m → s - m ≤ 99 → g_R μ 1 6 = 87 → isK μ 87 5 = true → g_I μ 87 0 = k → ∃ ν : Mem, Out (fun x => x = 87) μ ν ∧ g_I ν 87 0 = k ∧ mX11_tuning_57 q fu 1 v w (nI s) (nI last) (nI m) μ = tunK (tunI k v w s g m) ν (q 1 v w (nI (s + 1)) ν) := by
  intro g
  induction g with
  | zero =>
    intro m fu μ hg hf h1 h99 h6 hk h0
    obtain ⟨fu, rfl⟩ : ∃ q, fu = q + 1 := ⟨fu - 1, by omega⟩
    refine ⟨μ, Out.rf, h0, ?_⟩
    rw [mX11_tuning_57, if_pos (nI_lt (by omega) (by omega)), ← nI_succ]
    rfl
  | succ g ih =>
    intro m fu μ hg hf h1 h99 h6 hk h0
    obtain ⟨fu, rfl⟩ : ∃ q, fu = q + 1 := ⟨fu - 1, by omega⟩
    obtain ⟨ν, hν⟩ : ∃ ν, ν = p_I (p_I μ 87 1 (nI m)) 87 2 (nI (s - m)) := ⟨_, rfl⟩
    have o1 : Out (fun x => x = 87) μ ν := by rw [hν]; exact ((Out.rf (S := fun x => x = 87)).pI rfl).pI rfl
    have k1 : isK ν 87 5 = true := by rw [hν]; exact hk
    have v0 : g_I ν 87 0 = k := by rw [hν, gI_k (by decide), gI_k (by decide)]; exact h0
    have v1 : g_I ν 87 1 = nI m := by rw [hν, gI_k (by decide), gI_s]
    have v2 : g_I ν 87 2 = nI (s - m) := by rw [hν, gI_s]
    have e1 : LX5_outOf 87 v ν = some (outF k v (nI m) (nI (s - m)), ν) := by
      have := X5_outOf (μ := ν) (h := 87) (v := v) k1 (by rw [v0, v1, v2]; exact fpNn k v m (s - m) (by omega) h99)
      rw [v0, v1, v2] at this
      exact this
    rw [mX11_tuning_57, if_neg (nI_nlt (by omega) (by omega)), h6, if_pos (show (0 : Nat) < 87 by decide), if_pos hk, nI_sub (show m ≤ s by omega), ← hν, e1, ob]
    have er : ((100 : Int32) * nI m + nI s) - nI m = nI (100 * m + (s - m)) := by
      rw [show (100 : Int32) = nI 100 from rfl, nI_mul, nI_add, nI_sub (by omega)]
      congr 1
      omega
    rw [er, ← nI_succ]
    have eF : tunI k v w s (g + 1) m = if outF k v (nI m) (nI (s - m)) = w then some (nI (100 * m + (s - m))) else tunI k v w s g (m + 1) := rfl
    rw [eF]
    by_cases hw : outF k v (nI m) (nI (s - m)) = w
    · rw [if_pos hw, if_pos hw]
      exact ⟨ν, o1, v0, rfl⟩
    · rw [if_neg hw, if_neg hw]
      obtain ⟨ν2, o2, z0, e2⟩ := ih (m + 1) fu ν (by omega) (by omega) (by omega) (by omega) (by rw [sh_gR o1.1]; exact h6) k1 v0
      exact ⟨ν2, o1.tr o2, z0, e2⟩
theorem X11_tunM {k v w : Int32} : ∀ (g s fu : Nat) (μ : Mem), g + s = 199 → g < fu → 2 ≤ s → g_R μ 1 6 = 87 → isK μ 87 5 = true → g_I μ 87 0 = k → ∃ ν : Mem, Out (fun x => x = 87) μ ν ∧ mX11_tuning_27 fu 1 v w (nI s) μ = some (.inr (tunS k v w g s), ν) := by
  intro g
  induction g with
  | zero =>
    intro s fu μ hg hf h2 h6 hk h0
    obtain ⟨fu, rfl⟩ : ∃ q, fu = q + 1 := ⟨fu - 1, by omega⟩
    refine ⟨μ, Out.rf, ?_⟩
    rw [mX11_tuning_27, if_pos (show (198 : Int32) < nI s from nI_lt (a := 198) (by omega) (by omega))]
    rfl
  | succ g ih =>
    intro s fu μ hg hf h2 h6 hk h0
    obtain ⟨fu, rfl⟩ : ∃ q, fu = q + 1 := ⟨fu - 1, by omega⟩
    obtain ⟨f1, f2⟩ := tun_first s (by omega)
    have f2 := f2.resolve_left (by omega)
    rw [mX11_tuning_27, if_neg (show ¬ (198 : Int32) < nI s from nI_nlt (a := 198) (b := s) (by omega) (by decide)), f1, f2]
    obtain ⟨ν, o1, v0, e1⟩ := X11_tunL (k := k) (v := v) (w := w) (s := s) (last := min (s - 1) 99) (q := fun l0 l2 l3 l4 μ => mX11_tuning_27 fu l0 l2 l3 l4 μ) (by omega) (by omega) (by omega) (min (s - 1) 99 + 1 - max 1 (s - 99)) (max 1 (s - 99)) 100000 μ (by omega) (by omega) (by omega) (by omega) h6 hk h0
    rw [e1]
    have eF : tunS k v w (g + 1) s = tunO (tunI k v w s (min (s - 1) 99 + 1 - max 1 (s - 99)) (max 1 (s - 99))) (tunS k v w g (s + 1)) := rfl
    rw [eF]
    cases tunI k v w s (min (s - 1) 99 + 1 - max 1 (s - 99)) (max 1 (s - 99)) with
    | some r => exact ⟨ν, o1, rfl⟩
    | none =>
      obtain ⟨ν2, o2, e2⟩ := ih (s + 1) fu ν (by omega) (by omega) (by omega) (by rw [sh_gR o1.1]; exact h6) (by rw [sh_isK o1.1]; exact hk) v0
      exact ⟨ν2, o1.tr o2, e2⟩
theorem X11_tuning {B : Nat} {f : Fl} {μ : Mem} {a : ClT} {pn v w : Int32} (c : ClR μ f B a) : AskX B f μ (LX11_tuning 1 pn v w μ) (if noPen a pn then (.inl 0, rfA a 0) else (.inr (tunS (kindOf a pn.toNatClampNeg) v w 197 2), a)) := by
  unfold LX11_tuning
  rw [if_pos c.1.1]
  refine ask_pen (s := fun p => (.inr (tunS (kindOf a p) v w 197 2), a)) c fun p hp hv => ?_
  subst hv
  obtain ⟨q1, q2, q3, q4, q5, q6, q7, q8, q9, q10, q11⟩ := pen_at c hp
  obtain ⟨n0, n1, n2, n3, n4, n5, n6, n7, n8⟩ := id c.1
  have k87 : isK μ 87 5 = true := c.2.1.2.2.2.2.2.1.1
  rw [n7, if_pos (show (0 : Nat) < 87 by decide), q1, if_pos p15, if_pos q2, q3, if_pos p16, if_pos q4, q5, q6, if_pos q7, if_pos q8.1, if_pos k87, q9.1]
  have o1 : Out (fun x => x = 87) μ (p_I μ 87 0 (kindOf a p)) := (Out.rf (S := fun x => x = 87)).pI rfl
  obtain ⟨ν, o2, e2⟩ := X11_tunM (k := kindOf a p) (v := v) (w := w) 197 2 100000 (p_I μ 87 0 (kindOf a p)) rfl (by decide) (by decide) n7 k87 gI_s
  have e2 : mX11_tuning_27 100000 1 v w (2 : Int32) (p_I μ 87 0 (kindOf a p)) = some (.inr (tunS (kindOf a p) v w 197 2), ν) := e2
  rw [e2]
  have hu := hu_or f
  have hl := la_or f
  have hc := ch_or f
  have hb := bk_or f
  have hB := c.2.2.2.2
  exact AskX.out c (o1.tr o2) (fun x hx z => by unfold usd at hx; omega) (fun x h1 h2 z => by omega)
/-- SPAN: fewest, most ALARMS, by how many SEEDS a PEN has records -/
def spaF (a : ClT) (seed q : Int32) (d p : Nat) : Nat → Nat → Int32 × Int32 × Int32 → Int32 × Int32 × Int32
  | 0, _, z => z
  | n + 1, j, z => spaF a seed q d p n (j + 1) (if seaA a (seed + nI j) d q 33 < z.1 then seaA a (seed + nI j) d q 33 else z.1, if z.2.1 < seaA a (seed + nI j) d q 33 then seaA a (seed + nI j) d q 33 else z.2.1, if seaA a (seed + nI j) d q (24 + p) ≤ 0 then z.2.2 + 0 else z.2.2 + 1)
def pick3 (w : Int32) (z : Int32 × Int32 × Int32) : Int32 := if w = 0 then z.1 else if w = 1 then z.2.1 else z.2.2
theorem X11_spanL {B : Nat} {f : Fl} {a : ClT} {seed q w : Int32} {d p many : Nat} (hd : d ≤ 1000) (hp : p < a.2.2.2.1.1.length) (hm : many ≤ 1000) : ∀ (n j fu : Nat) (z : Int32 × Int32 × Int32) (μ : Mem), ClR μ f B a → n + j = many → n < fu → ∃ ν : Mem, mX11_span_63 fu 1 seed (nI many) (nI d) q w (nI p) z.1 z.2.1 z.2.2 (nI j) μ = some (.inr (pick3 w (spaF a seed q d p n j z)), ν) ∧ ClR ν f B a ∧ Out (fun x => (49 ≤ x ∧ x < 84) ∨ x = laA f + 1 ∨ x = laA f + 4) μ ν := by
  intro n
  induction n with
  | zero =>
    intro j fu z μ c hj hf
    obtain ⟨fu, rfl⟩ : ∃ q, fu = q + 1 := ⟨fu - 1, by omega⟩
    refine ⟨μ, ?_, c, Out.rf⟩
    rw [mX11_span_63, if_pos (nI_le (by omega) (by omega))]
    show _ = some ((Sum.inr (pick3 w z) : Nat ⊕ Int32), μ)
    unfold pick3
    repeat' split
    all_goals rfl
  | succ n ih =>
    intro j fu z μ c hj hf
    obtain ⟨fu, rfl⟩ : ∃ q, fu = q + 1 := ⟨fu - 1, by omega⟩
    obtain ⟨n0, n1, n2, n3, n4, n5, n6, n7⟩ := id c.1
    obtain ⟨h1, h2, h3, h4⟩ := hut_at c
    obtain ⟨l1, l2, l3⟩ := law_at c
    obtain ⟨ν, e1, ss, r1, c2, o1⟩ := play_at (seed := seed + nI j) (q := q) c hd
    have n5' : g_R ν 1 4 = 49 := c2.1.2.2.2.2.2.1
    obtain ⟨t0, t1, t2⟩ := id ss
    have t1 : g_R ν 49 0 = 50 := t1
    have t2 : StS ν 50 := t2
    obtain ⟨x0, x1, x2, x3, x5⟩ := id t2
    have h8 : a.2.2.2.1.1.length ≤ 8 := c.2.2.2.1.1.1
    obtain ⟨x6, x7⟩ := x5 p (by omega)
    have pr := r1.2.2.2.2.2 p hp
    rw [mX11_span_63, if_neg (nI_ge (by omega) (by omega)), n5, if_pos (show (0 : Nat) < 49 by decide), n4, if_pos p15, h1, if_pos (isK_p h2.1), l1, if_pos (isK_p l2.1), if_pos c.2.1.2.2.2.1.1, e1, ob, n5', if_pos (show (0 : Nat) < 49 by decide), if_pos t0, t1, if_pos (show (0 : Nat) < 50 by decide), if_pos x0, x1, if_pos (show (0 : Nat) < 50 + 1 by decide), if_pos (inA_n x2 x3 (show p < 8 by omega) (by decide)), nI_clamp (show p < 2147483648 by omega), x6, if_pos (show 0 < 50 + 2 + 4 * p by omega), if_pos x7.1, pr.2.2.2.2.1, r1.2.2.2.1, ← nI_succ]
    obtain ⟨ν2, e2, c3, o2⟩ := ih (j + 1) fu (if seaA a (seed + nI j) d q 33 < z.1 then seaA a (seed + nI j) d q 33 else z.1, if z.2.1 < seaA a (seed + nI j) d q 33 then seaA a (seed + nI j) d q 33 else z.2.1, if seaA a (seed + nI j) d q (24 + p) ≤ 0 then z.2.2 + 0 else z.2.2 + 1) ν c2 (by omega) (by omega)
    refine ⟨ν2, ?_, c3, o1.tr o2⟩
    show _ = some ((Sum.inr (pick3 w (spaF a seed q d p n (j + 1) (if seaA a (seed + nI j) d q 33 < z.1 then seaA a (seed + nI j) d q 33 else z.1, if z.2.1 < seaA a (seed + nI j) d q 33 then seaA a (seed + nI j) d q 33 else z.2.1, if seaA a (seed + nI j) d q (24 + p) ≤ 0 then z.2.2 + 0 else z.2.2 + 1))) : Nat ⊕ Int32), ν2)
    rw [← e2]
    by_cases hz : seaA a (seed + nI j) d q (24 + p) ≤ 0
    · rw [if_pos hz, if_pos hz]
    · rw [if_neg hz, if_neg hz]
theorem X11_span {B : Nat} {f : Fl} {μ : Mem} {a : ClT} {seed many d q w pn : Int32} (c : ClR μ f B a) : AskX B f μ (LX11_span 1 seed many d q w pn μ) (if offB many 1 20 then (.inl 1, rfA a 1) else if offB d 1 96 then (.inl 1, rfA a 1) else if offB q 0 16 then (.inl 1, rfA a 1) else if offB w 0 2 then (.inl 1, rfA a 1) else if offB pn 0 (nI (penN a) - 1) then (.inl 1, rfA a 1) else (.inr (pick3 w (spaF a seed q d.toNatClampNeg pn.toNatClampNeg many.toNatClampNeg 0 (2147483647, 0, 0))), a)) := by
  unfold LX11_span
  rw [if_pos c.1.1]
  refine ask_in c fun hm => ?_
  refine ask_in c fun hd => ?_
  refine ask_in c fun hq => ?_
  refine ask_in c fun hw => ?_
  obtain ⟨h1, h2, h3, h4⟩ := hut_at c
  rw [h1, if_pos (isK_p h2.1), if_pos h2.1, show g_I μ (huA f) 0 = nI (penN a) from h3.1]
  refine ask_in c fun hp => ?_
  obtain ⟨n, hn, rfl⟩ := in_of (v := d) (n := 96) (fun z => hd (z.elim (fun y => Or.inl (Int32.lt_of_lt_of_le y (by decide))) Or.inr)) (by decide)
  obtain ⟨m, hm2, rfl⟩ := in_of (v := many) (n := 20) (fun z => hm (z.elim (fun y => Or.inl (Int32.lt_of_lt_of_le y (by decide))) Or.inr)) (by decide)
  have h8 : penN a ≤ 8 := c.2.2.2.1.1.1
  have hpn : ¬ penN a = 0 := fun e => by
    rw [e] at hp
    have e2 : nI 0 - 1 = (-1 : Int32) := by decide
    rw [e2] at hp
    by_cases z : pn < 0
    · exact hp (Or.inl z)
    · exact hp (Or.inr fun y => z (Int32.lt_of_le_of_lt y (by decide)))
  rw [show (1 : Int32) = nI 1 from rfl, nI_sub (by omega)] at hp
  obtain ⟨p, hp2, rfl⟩ := in_of (v := pn) (n := penN a - 1) hp (by omega)
  rw [nI_clamp (show n < 2147483648 by omega), nI_clamp (show m < 2147483648 by omega), nI_clamp (show p < 2147483648 by omega)]
  obtain ⟨ν, e1, c2, o1⟩ := X11_spanL (seed := seed) (q := q) (w := w) (d := n) (p := p) (many := m) (by omega) (show p < penN a by omega) (by omega) m 0 100000 (2147483647, 0, 0) μ c rfl (by omega)
  have e1 : mX11_span_63 100000 1 seed (nI m) (nI n) q w (nI p) (2147483647 : Int32) (0 : Int32) (0 : Int32) (0 : Int32) μ = some (.inr (pick3 w (spaF a seed q n p m 0 (2147483647, 0, 0))), ν) := e1
  rw [e1]
  exact ⟨ν, rfl, c2, play_call o1⟩
