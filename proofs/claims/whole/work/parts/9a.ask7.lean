/-! ===== the class is asked: hop, liar, season ===== -/
def sHop (a : ClT) (v k : Int32) (p q : Nat) : (Nat ⊕ Int32) × ClT := if 0 ≤ k then (match bestA a p q v with
  | none => (.inr (-1), a)
  | some r => if nI r.1.length ≤ k then (.inr (-1), a) else (.inr (nI (r.1.getD (r.1.length - 1 - k.toNatClampNeg) 0)), a)) else (.inl 1, rfA a 1)
theorem X11_hop {B : Nat} {f : Fl} {μ : Mem} {a : ClT} {pn qn v k : Int32} (c : ClR μ f B a) : AskX B f μ (LX11_hop 1 pn qn v k μ) (if noPen a pn then (.inl 0, rfA a 0) else if noPen a qn then (.inl 0, rfA a 0) else sHop a v k pn.toNatClampNeg qn.toNatClampNeg) := by
  unfold LX11_hop
  rw [if_pos c.1.1]
  refine ask_pen (s := fun p => if noPen a qn then (.inl 0, rfA a 0) else sHop a v k p qn.toNatClampNeg) c fun p hp hv => ?_
  refine ask_pen (s := fun q => sHop a v k p q) c fun q hq hv2 => ?_
  subst hv
  subst hv2
  unfold sHop
  by_cases h0 : 0 ≤ k
  · rw [if_pos h0, if_pos h0]
    unfold mX11_hop_19
    obtain ⟨n0, n1, n2, n3, n4, n5, n6, n7⟩ := id c.1
    obtain ⟨h1, h2, h3, h4⟩ := hut_at c
    obtain ⟨ν, e1, r1, b1, c2, c3⟩ := row_search (v := v) c hp hq
    have n6' : g_R ν 1 5 = 84 := c2.1.2.2.2.2.2.2.1
    rw [n6, if_pos (by decide), n4, if_pos p15, h1, if_pos (isK_p h2.1), if_pos c.2.1.2.2.2.2.1.1, e1, ob, n6', if_pos (by decide), if_pos r1.1, r1.2.1]
    cases hb : bestA a p q v with
    | none =>
      rw [hb] at b1
      have b1 : g_I ν 84 1 = 0 := b1
      rw [b1, if_pos h0]
      exact ⟨ν, rfl, c2, c3⟩
    | some r =>
      rw [hb] at b1
      obtain ⟨b2, b3, b4, b5, b6⟩ := b1
      rw [b2]
      show AskX B f μ _ (if nI r.1.length ≤ k then (.inr (-1), a) else (.inr (nI (r.1.getD (r.1.length - 1 - k.toNatClampNeg) 0)), a))
      by_cases hk : nI r.1.length ≤ k
      · rw [if_pos hk, if_pos hk]; exact ⟨ν, rfl, c2, c3⟩
      · rw [if_neg hk, if_neg hk, if_pos (by decide)]
        have h0' := Int32.le_iff_toInt_le.mp h0
        rw [show (0 : Int32).toInt = 0 from rfl] at h0'
        have hk' := Int32.lt_iff_toInt_lt.mp (Int32.not_le.mp hk)
        rw [nI_toInt (by omega)] at hk'
        obtain ⟨j, hj, rfl⟩ : ∃ j : Nat, j < r.1.length ∧ k = nI j := ⟨k.toInt.toNat, by omega, Int32.toInt_inj.mp (by rw [nI_toInt (by omega)]; omega)⟩
        rw [if_pos (inA_n r1.2.2.2.1 r1.2.2.2.2.2.1 (show j < 8 by omega) (by decide)), nI_clamp (show j < 2147483648 by omega), b6 j hj]
        exact ⟨ν, rfl, c2, c3⟩
  · rw [if_neg h0, if_neg h0, (X11_refuse c.1 c.2.1).1, obX_l]
    exact AskX.no c (by decide) (by decide)
def liaF (a : ClT) (v : Int32) : Nat → Nat → Int32 × Int32 → Int32 × Int32
  | 0, _, z => z
  | f + 1, j, z => liaF a v f (j + 1) (if (if jamA a j = 0 then distF v (outA a j v) else -1) ≤ z.2 then z else (nI j, if jamA a j = 0 then distF v (outA a j v) else -1))
theorem X11_liarL {B : Nat} {f : Fl} {μ : Mem} {a : ClT} {v w : Int32} (c : ClR μ f B a) : ∀ (n j fu : Nat) (z : Int32 × Int32), n + j = penN a → n < fu → mX11_liar_15 fu 1 v w z.1 z.2 (nI j) μ = some (.inr (if w = 0 then (liaF a v n j z).1 else (liaF a v n j z).2), μ) := by
  obtain ⟨h1, h2, h3, h4⟩ := hut_at c
  have h8 : penN a ≤ 8 := c.2.2.2.1.1.1
  intro n
  induction n with
  | zero =>
    intro j fu z hj hf
    obtain ⟨fu, rfl⟩ : ∃ q, fu = q + 1 := ⟨fu - 1, by omega⟩
    rw [mX11_liar_15, h1, if_pos (isK_p h2.1), if_pos h2.1, show g_I μ (huA f) 0 = nI (penN a) from h3.1, if_pos (nI_le (by omega) (by omega))]
    by_cases h : w = 0
    · rw [if_pos h, if_pos h]; rfl
    · rw [if_neg h, if_neg h]; rfl
  | succ n ih =>
    intro j fu z hj hf
    obtain ⟨fu, rfl⟩ : ∃ q, fu = q + 1 := ⟨fu - 1, by omega⟩
    obtain ⟨q1, q2, q3, q4, q5, q6, q7, q8, q9, q10, q11⟩ := pen_at c (show j < a.2.2.2.1.1.length by have : n + 1 + j = a.2.2.2.1.1.length := hj; omega)
    have hnn : NnOk (g_I μ (17 + 4 * j) 0) v (g_I μ (17 + 4 * j) 1) (g_I μ (17 + 4 * j) 2) := by rw [q9.1, q9.2.1, q9.2.2.1]; exact q10.nn fpNn
    have key : ∀ x : Int32, mX11_liar_61 (fun l0 l1 l2 l3 l4 l5 μ => mX11_liar_15 fu l0 l1 l2 l3 l4 l5 μ) 1 v w z.1 z.2 (nI j) x μ = some (.inr (if w = 0 then (liaF a v n (j + 1) (if x ≤ z.2 then z else (nI j, x))).1 else (liaF a v n (j + 1) (if x ≤ z.2 then z else (nI j, x))).2), μ) := by
      intro x
      unfold mX11_liar_61
      rw [← nI_succ]
      by_cases e : x ≤ z.2
      · rw [if_pos e, if_pos e]; exact ih (j + 1) fu z (by omega) (by omega)
      · rw [if_neg e, if_neg e]; exact ih (j + 1) fu (nI j, x) (by omega) (by omega)
    rw [mX11_liar_15, h1, if_pos (isK_p h2.1), if_pos h2.1, show g_I μ (huA f) 0 = nI (penN a) from h3.1, if_neg (nI_ge (by omega) (by omega)), q1, if_pos p15, if_pos q2, q3, if_pos p16, if_pos q4, q5, q6, if_pos q7, if_pos q8.1, X5_jams q8.1, ob, X5_outOf q8.1 hnn, ob, X11_distance, ob, q9.1, q9.2.1, q9.2.2.1, key, key]
    show (if jamA a j = 0 then _ else _) = some ((Sum.inr (if w = 0 then (liaF a v n (j + 1) (if (if jamA a j = 0 then distF v (outA a j v) else -1) ≤ z.2 then z else (nI j, if jamA a j = 0 then distF v (outA a j v) else -1))).1 else (liaF a v n (j + 1) (if (if jamA a j = 0 then distF v (outA a j v) else -1) ≤ z.2 then z else (nI j, if jamA a j = 0 then distF v (outA a j v) else -1))).2) : Nat ⊕ Int32), μ)
    by_cases e : jamA a j = 0
    · rw [if_pos e, if_pos e]; rfl
    · rw [if_neg e, if_neg e]
theorem X11_liar {B : Nat} {f : Fl} {μ : Mem} {a : ClT} {v w : Int32} (c : ClR μ f B a) : AskX B f μ (LX11_liar 1 v w μ) (if offB w 0 1 then (.inl 1, rfA a 1) else (.inr (if w = 0 then (liaF a v (penN a) 0 (-1, -1)).1 else (liaF a v (penN a) 0 (-1, -1)).2), a)) := by
  unfold LX11_liar
  rw [if_pos c.1.1]
  refine ask_in c fun hw => ?_
  have e : mX11_liar_15 100000 1 v w (-1 : Int32) (-1 : Int32) (0 : Int32) μ = _ := X11_liarL c (penN a) 0 100000 (-1, -1) rfl (by have : penN a ≤ 8 := c.2.2.2.1.1.1; omega)
  rw [e]
  exact AskX.same c
/-- the row a SEASON ends with -/
def seaA (a : ClT) (seed : Int32) (d : Nat) (q : Int32) : Nat → Int32 := (seaN a.2.2.2.2.1 (hutT a.2.2.2.1) q d (sea0 seed (rowOf a))).2
theorem play_at {B : Nat} {f : Fl} {μ : Mem} {a : ClT} {seed q : Int32} {d : Nat} (c : ClR μ f B a) (hd : d ≤ 1000) : ∃ ν : Mem, LX7_play 49 15 (huA f) (laA f) seed (nI d) q μ = some ((), ν) ∧ SeaS ν 49 ∧ StR ν 50 (hutT a.2.2.2.1).1 (hutT a.2.2.2.1).2.1 (seaA a seed d q) ∧ ClR ν f B a ∧ Out (fun x => (49 ≤ x ∧ x < 84) ∨ x = laA f + 1 ∨ x = laA f + 4) μ ν := by
  obtain ⟨h1, h2, h3, h4⟩ := hut_at c
  obtain ⟨l1, l2, l3⟩ := law_at c
  have hu := hu_or f
  have hl := la_or f
  have hc := ch_or f
  have hb := bk_or f
  have hB := c.2.2.2.2
  obtain ⟨ν, e1, o1, r1⟩ := X7_play fpNn (w := 49) (s := 15) (hh := huA f) (lh := laA f) (q := q) (seed := seed) c.2.1.2.2.2.1 c.2.1.2.2.1 h2 h3 h4 l2 l3 c.2.2.1.2.2.2.2.2.2.2.2.1 c.2.2.2.1.2.1 hd (by omega) (by omega) (by omega) (by omega)
  exact ⟨ν, e1, c.2.1.2.2.2.1.sh o1.1, r1, c.out o1 (fun x hx z => by unfold usd at hx; omega), o1⟩
theorem play_call {B : Nat} {f : Fl} {μ ν : Mem} (o : Out (fun x => (49 ≤ x ∧ x < 84) ∨ x = laA f + 1 ∨ x = laA f + 4) μ ν) : CallO B μ ν := by
  have hl := la_or f
  exact (o.gr (SR := fun _ => False)).call (by decide) fun x h1 h2 => ⟨fun z => z, by omega⟩
def sSea (a : ClT) (seed q w : Int32) (d : Nat) : Int32 := if w = 0 then seaA a seed d q 34 else if w = 1 then seaA a seed d q 33 else sumR (seaA a seed d q) (hutT a.2.2.2.1).1
theorem X11_season {B : Nat} {f : Fl} {μ : Mem} {a : ClT} {seed d q w : Int32} (c : ClR μ f B a) : AskX B f μ (LX11_season 1 seed d q w μ) (if offB d 1 96 then (.inl 1, rfA a 1) else if offB q 0 16 then (.inl 1, rfA a 1) else if offB w 0 2 then (.inl 1, rfA a 1) else (.inr (sSea a seed q w d.toNatClampNeg), a)) := by
  unfold LX11_season
  rw [if_pos c.1.1]
  refine ask_in c fun hd => ?_
  refine ask_in c fun hq => ?_
  refine ask_in c fun hw => ?_
  obtain ⟨n, hn, rfl⟩ := in_of (v := d) (n := 96) (fun z => hd (z.elim (fun y => Or.inl (Int32.lt_of_lt_of_le y (by decide))) Or.inr)) (by decide)
  obtain ⟨n0, n1, n2, n3, n4, n5, n6, n7⟩ := id c.1
  obtain ⟨h1, h2, h3, h4⟩ := hut_at c
  obtain ⟨l1, l2, l3⟩ := law_at c
  obtain ⟨ν, e1, ss, r1, c2, o1⟩ := play_at (seed := seed) (q := q) c (show n ≤ 1000 by omega)
  have n5' : g_R ν 1 4 = 49 := c2.1.2.2.2.2.2.1
  obtain ⟨t0, t1, t2⟩ := id ss
  have t1 : g_R ν 49 0 = 50 := t1
  have t2 : StS ν 50 := t2
  rw [n5, if_pos (by decide), n4, if_pos p15, h1, if_pos (isK_p h2.1), l1, if_pos (isK_p l2.1), if_pos c.2.1.2.2.2.1.1, e1, ob, n5', if_pos (show (0 : Nat) < 49 by decide), if_pos t0, t1, if_pos (show (0 : Nat) < 50 by decide), if_pos t2.1, if_pos (show (0 : Nat) < 49 by decide), if_pos t0, if_pos (show (0 : Nat) < 50 by decide), if_pos t2.1, if_pos (show (0 : Nat) < 49 by decide), if_pos t0, if_pos (show (0 : Nat) < 50 by decide), if_pos t2.1, X8_records t2 r1, ob, nI_clamp (show n < 2147483648 by omega), r1.2.2.2.1, r1.2.2.2.2.1]
  unfold sSea
  by_cases w0 : w = 0
  · rw [if_pos w0, if_pos w0]; exact ⟨ν, rfl, c2, play_call o1⟩
  rw [if_neg w0, if_neg w0]
  by_cases w1 : w = 1
  · rw [if_pos w1, if_pos w1]; exact ⟨ν, rfl, c2, play_call o1⟩
  rw [if_neg w1, if_neg w1]; exact ⟨ν, rfl, c2, play_call o1⟩
