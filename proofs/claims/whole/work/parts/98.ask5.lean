/-! ===== the class is asked: the CHAIN ===== -/
def chaL (a : ClT) : List Nat := a.2.2.2.2.2.1
def chJF (a : ClT) : Nat → Nat → Int32
  | 0, _ => 0
  | f + 1, j => if jamA a ((chaL a).getD j 0) = 0 then chJF a f (j + 1) else 1
def chOF (a : ClT) : Nat → Nat → Int32 → Int32
  | 0, _, x => x
  | f + 1, j, x => chOF a f (j + 1) (outA a ((chaL a).getD j 0) x)
def chNF (a : ClT) (k : Int32) : Nat → Nat → Int32 → Int32
  | 0, _, n => n
  | f + 1, j, n => chNF a k f (j + 1) (if kindOf a ((chaL a).getD j 0) = k then n + 1 else n)
theorem link_at {B : Nat} {f : Fl} {μ : Mem} {a : ClT} (c : ClR μ f B a) {j : Nat} (hj : j < (chaL a).length) : (chaL a).length ≤ 12 ∧ g_R μ 1 13 = chA f ∧ isK μ (chA f) 1 = true ∧ g_I μ (chA f) 1 = nI (chaL a).length ∧ g_R μ (chA f) 0 = chA f + 1 ∧ inA μ (chA f + 1) 15 (nI j) = true ∧ (nI j).toNatClampNeg = j ∧ g_I μ (chA f + 1) j = nI ((chaL a).getD j 0) ∧ (chaL a).getD j 0 < penN a := by
  obtain ⟨d1, ⟨k0, k1, k2, k3⟩, d3, d4, d5⟩ := ch_at c
  have d4 : (chaL a).length ≤ 12 := d4
  exact ⟨d4, d1, k0, d3, k1, inA_n k2 k3 (by omega) (by decide), nI_clamp (by omega), d5 j hj, c.2.2.1.2.2.2.2.2.1.2 _ (getD_mem hj)⟩
theorem link_end {B : Nat} {f : Fl} {μ : Mem} {a : ClT} (c : ClR μ f B a) : (chaL a).length ≤ 12 ∧ g_R μ 1 13 = chA f ∧ isK μ (chA f) 1 = true ∧ g_I μ (chA f) 1 = nI (chaL a).length := by
  obtain ⟨d1, ⟨k0, k1, k2, k3⟩, d3, d4, d5⟩ := ch_at c
  exact ⟨d4, d1, k0, d3⟩
theorem X11_chainJamsL {B : Nat} {f : Fl} {μ : Mem} {a : ClT} (c : ClR μ f B a) : ∀ (n j fu : Nat), n + j = (chaL a).length → n < fu → mX11_chainJams_2 fu 1 (nI j) μ = some (chJF a n j, μ) := by
  obtain ⟨e1, e2, e3, e4⟩ := link_end c
  intro n
  induction n with
  | zero =>
    intro j fu hj hf
    obtain ⟨fu, rfl⟩ : ∃ q, fu = q + 1 := ⟨fu - 1, by omega⟩
    rw [mX11_chainJams_2, e2, if_pos (isK_p e3), if_pos e3, e4, if_pos (nI_le (by omega) (by omega))]
    rfl
  | succ n ih =>
    intro j fu hj hf
    obtain ⟨fu, rfl⟩ : ∃ q, fu = q + 1 := ⟨fu - 1, by omega⟩
    obtain ⟨-, -, -, -, l1, l2, l3, l4, l5⟩ := link_at c (show j < (chaL a).length by omega)
    obtain ⟨q1, q2, q3, q4, q5, q6, q7, q8, q9, q10, q11⟩ := pen_at c l5
    rw [mX11_chainJams_2, e2, if_pos (isK_p e3), if_pos e3, e4, if_neg (nI_ge (by omega) (by omega)), q1, if_pos p15, if_pos q2, q3, if_pos p16, l1, if_pos (Nat.succ_pos _), if_pos l2, l3, l4, if_pos q4, q5, q6, if_pos q7, if_pos q8.1, X5_jams q8.1, ob, q9.1, q9.2.2.1, ← nI_succ]
    show (if jamA a ((chaL a).getD j 0) = 0 then _ else _) = some (if jamA a ((chaL a).getD j 0) = 0 then chJF a n (j + 1) else 1, μ)
    by_cases e : jamA a ((chaL a).getD j 0) = 0
    · rw [if_pos e, if_pos e]; exact ih (j + 1) fu (by omega) (by omega)
    · rw [if_neg e, if_neg e]
def chJ (a : ClT) : Int32 := chJF a (chaL a).length 0
def chO (a : ClT) (v : Int32) : Int32 := chOF a (chaL a).length 0 v
theorem X11_chainJams {B : Nat} {f : Fl} {μ : Mem} {a : ClT} (c : ClR μ f B a) : LX11_chainJams 1 μ = some (chJ a, μ) := by
  unfold LX11_chainJams
  rw [if_pos c.1.1]
  exact X11_chainJamsL c (chaL a).length 0 100000 rfl (by have := (link_end c).1; omega)
theorem X11_chainOutL {B : Nat} {f : Fl} {μ : Mem} {a : ClT} (c : ClR μ f B a) : ∀ (n j fu : Nat) (x : Int32), n + j = (chaL a).length → n < fu → mX11_chainOut_4 fu 1 x (nI j) μ = some (chOF a n j x, μ) := by
  obtain ⟨e1, e2, e3, e4⟩ := link_end c
  intro n
  induction n with
  | zero =>
    intro j fu x hj hf
    obtain ⟨fu, rfl⟩ : ∃ q, fu = q + 1 := ⟨fu - 1, by omega⟩
    rw [mX11_chainOut_4, e2, if_pos (isK_p e3), if_pos e3, e4, if_pos (nI_le (by omega) (by omega))]
    rfl
  | succ n ih =>
    intro j fu x hj hf
    obtain ⟨fu, rfl⟩ : ∃ q, fu = q + 1 := ⟨fu - 1, by omega⟩
    obtain ⟨-, -, -, -, l1, l2, l3, l4, l5⟩ := link_at c (show j < (chaL a).length by omega)
    obtain ⟨q1, q2, q3, q4, q5, q6, q7, q8, q9, q10, q11⟩ := pen_at c l5
    have hnn : NnOk (g_I μ (17 + 4 * (chaL a).getD j 0) 0) x (g_I μ (17 + 4 * (chaL a).getD j 0) 1) (g_I μ (17 + 4 * (chaL a).getD j 0) 2) := by rw [q9.1, q9.2.1, q9.2.2.1]; exact q10.nn fpNn
    rw [mX11_chainOut_4, e2, if_pos (isK_p e3), if_pos e3, e4, if_neg (nI_ge (by omega) (by omega)), q1, if_pos p15, if_pos q2, q3, if_pos p16, l1, if_pos (Nat.succ_pos _), if_pos l2, l3, l4, if_pos q4, q5, q6, if_pos q7, if_pos q8.1, X5_outOf q8.1 hnn, ob, q9.1, q9.2.1, q9.2.2.1, ← nI_succ]
    exact ih (j + 1) fu _ (by omega) (by omega)
theorem X11_chainOut {B : Nat} {f : Fl} {μ : Mem} {a : ClT} {v : Int32} (c : ClR μ f B a) : LX11_chainOut 1 v μ = some (chO a v, μ) := by
  unfold LX11_chainOut
  rw [if_pos c.1.1]
  exact X11_chainOutL c (chaL a).length 0 100000 v rfl (by have := (link_end c).1; omega)
theorem X11_through {B : Nat} {f : Fl} {μ : Mem} {a : ClT} {v : Int32} (c : ClR μ f B a) : AskX B f μ (LX11_through 1 v μ) (if chJ a = 0 then (.inr (chO a v), a) else (.inl 4, rfA a 4)) := by
  unfold LX11_through mX11_through_11
  rw [if_pos c.1.1, X11_chainJams c, ob, X11_chainOut c, ob, (ar_refuse c.1 c.2.1).1, obX_l]
  by_cases h : chJ a = 0
  · rw [if_pos h, if_pos h]; exact AskX.same c
  · rw [if_neg h, if_neg h]; exact AskX.no c (by decide) (by decide)
theorem in_of {v : Int32} {n : Nat} (h : ¬ offB v 0 (nI n)) (hn : n < 2147483648) : ∃ m : Nat, m ≤ n ∧ v = nI m := by
  have h1 : ¬ v < 0 := fun z => h (Or.inl z)
  have h2 : v ≤ nI n := Classical.byContradiction fun z => h (Or.inr z)
  have h1' : 0 ≤ v.toInt := by
    have := Int32.le_iff_toInt_le.mp (Int32.not_lt.mp h1)
    rw [show (0 : Int32).toInt = 0 from rfl] at this
    exact this
  have h2' := Int32.le_iff_toInt_le.mp h2
  rw [nI_toInt hn] at h2'
  exact ⟨v.toInt.toNat, by omega, Int32.toInt_inj.mp (by rw [nI_toInt (by omega)]; omega)⟩
def keptF (a : ClT) (from_ : Int32) : Nat → Nat → Int32 → Int32
  | 0, _, n => n
  | f + 1, j, n => keptF a from_ f (j + 1) (if chO a (from_ + nI j) = from_ + nI j then n + 1 else n)
theorem X11_keptL {B : Nat} {f : Fl} {μ : Mem} {a : ClT} {from_ : Int32} {m : Nat} (c : ClR μ f B a) (hm : m ≤ 1000) : ∀ (n j fu : Nat) (acc : Int32), n + j = m → n < fu → mX11_kept_23 fu 1 from_ (nI m) acc (nI j) μ = some (.inr (keptF a from_ n j acc), μ) := by
  intro n
  induction n with
  | zero =>
    intro j fu acc hj hf
    obtain ⟨fu, rfl⟩ : ∃ q, fu = q + 1 := ⟨fu - 1, by omega⟩
    rw [mX11_kept_23, if_pos (nI_le (by omega) (by omega))]
    rfl
  | succ n ih =>
    intro j fu acc hj hf
    obtain ⟨fu, rfl⟩ : ∃ q, fu = q + 1 := ⟨fu - 1, by omega⟩
    rw [mX11_kept_23, if_neg (nI_ge (by omega) (by omega)), X11_chainOut c, ob, ← nI_succ]
    show _ = some ((Sum.inr (keptF a from_ n (j + 1) (if chO a (from_ + nI j) = from_ + nI j then acc + 1 else acc)) : Nat ⊕ Int32), μ)
    by_cases e : chO a (from_ + nI j) = from_ + nI j
    · rw [if_pos e, if_pos e]; exact ih (j + 1) fu _ (by omega) (by omega)
    · rw [if_neg e, if_neg e]; exact ih (j + 1) fu _ (by omega) (by omega)
theorem X11_kept {B : Nat} {f : Fl} {μ : Mem} {a : ClT} {from_ m : Int32} (c : ClR μ f B a) : AskX B f μ (LX11_kept 1 from_ m μ) (if offB m 0 1000 then (.inl 1, rfA a 1) else (.inr (if chJ a = 0 then keptF a from_ m.toNatClampNeg 0 0 else 0), a)) := by
  unfold LX11_kept
  rw [if_pos c.1.1]
  refine ask_in c fun hw => ?_
  obtain ⟨n, hn, rfl⟩ := in_of (n := 1000) hw (by decide)
  rw [X11_chainJams c, ob, nI_clamp (show n < 2147483648 by omega)]
  by_cases h : chJ a = 0
  · rw [if_pos h, if_pos h, show (0 : Int32) = nI 0 from rfl, X11_keptL c hn n 0 100000 (nI 0) rfl (by omega)]; exact AskX.same c
  · rw [if_neg h, if_neg h]; exact AskX.same c
def givF (a : ClT) (w from_ : Int32) : Nat → Nat → Int32
  | 0, _ => -1
  | f + 1, j => if chO a (from_ + nI j) = w then nI j else givF a w from_ f (j + 1)
theorem X11_givesL {B : Nat} {f : Fl} {μ : Mem} {a : ClT} {w from_ : Int32} {m : Nat} (c : ClR μ f B a) (hm : m ≤ 1000) : ∀ (n j fu : Nat), n + j = m → n < fu → mX11_gives_21 fu 1 w from_ (nI m) (nI j) μ = some (.inr (givF a w from_ n j), μ) := by
  intro n
  induction n with
  | zero =>
    intro j fu hj hf
    obtain ⟨fu, rfl⟩ : ∃ q, fu = q + 1 := ⟨fu - 1, by omega⟩
    rw [mX11_gives_21, if_pos (nI_le (by omega) (by omega))]
    rfl
  | succ n ih =>
    intro j fu hj hf
    obtain ⟨fu, rfl⟩ : ∃ q, fu = q + 1 := ⟨fu - 1, by omega⟩
    rw [mX11_gives_21, if_neg (nI_ge (by omega) (by omega)), X11_chainOut c, ob, ← nI_succ]
    show _ = some ((Sum.inr (if chO a (from_ + nI j) = w then nI j else givF a w from_ n (j + 1)) : Nat ⊕ Int32), μ)
    by_cases e : chO a (from_ + nI j) = w
    · rw [if_pos e, if_pos e]
    · rw [if_neg e, if_neg e]; exact ih (j + 1) fu (by omega) (by omega)
theorem X11_gives {B : Nat} {f : Fl} {μ : Mem} {a : ClT} {w from_ m : Int32} (c : ClR μ f B a) : AskX B f μ (LX11_gives 1 w from_ m μ) (if offB m 0 1000 then (.inl 1, rfA a 1) else (.inr (if chJ a = 0 then givF a w from_ m.toNatClampNeg 0 else -1), a)) := by
  unfold LX11_gives
  rw [if_pos c.1.1]
  refine ask_in c fun hw => ?_
  obtain ⟨n, hn, rfl⟩ := in_of (n := 1000) hw (by decide)
  rw [X11_chainJams c, ob, nI_clamp (show n < 2147483648 by omega)]
  by_cases h : chJ a = 0
  · rw [if_pos h, if_pos h, show (0 : Int32) = nI 0 from rfl, X11_givesL c hn n 0 100000 rfl (by omega)]; exact AskX.same c
  · rw [if_neg h, if_neg h]; exact AskX.same c
def wstF (a : ClT) (from_ : Int32) : Nat → Nat → Int32 × Int32 → Int32 × Int32
  | 0, _, z => z
  | f + 1, j, z => wstF a from_ f (j + 1) (if distF (from_ + nI j) (chO a (from_ + nI j)) ≤ z.2 then z else (nI j, distF (from_ + nI j) (chO a (from_ + nI j))))
theorem X11_worstL {B : Nat} {f : Fl} {μ : Mem} {a : ClT} {from_ q : Int32} {m : Nat} (c : ClR μ f B a) (hm : m ≤ 1000) : ∀ (n j fu : Nat) (z : Int32 × Int32), n + j = m → n < fu → mX11_worst_34 fu 1 from_ (nI m) q z.1 z.2 (nI j) μ = some (.inr (if q = 0 then (wstF a from_ n j z).1 else (wstF a from_ n j z).2), μ) := by
  intro n
  induction n with
  | zero =>
    intro j fu z hj hf
    obtain ⟨fu, rfl⟩ : ∃ q, fu = q + 1 := ⟨fu - 1, by omega⟩
    rw [mX11_worst_34, if_pos (nI_le (by omega) (by omega))]
    by_cases h : q = 0
    · rw [if_pos h, if_pos h]; rfl
    · rw [if_neg h, if_neg h]; rfl
  | succ n ih =>
    intro j fu z hj hf
    obtain ⟨fu, rfl⟩ : ∃ q, fu = q + 1 := ⟨fu - 1, by omega⟩
    rw [mX11_worst_34, if_neg (nI_ge (by omega) (by omega)), X11_chainOut c, ob, X11_distance, ob, ← nI_succ]
    have eW : wstF a from_ (n + 1) j z = wstF a from_ n (j + 1) (if distF (from_ + nI j) (chO a (from_ + nI j)) ≤ z.2 then z else (nI j, distF (from_ + nI j) (chO a (from_ + nI j)))) := rfl
    rw [eW]
    by_cases e : distF (from_ + nI j) (chO a (from_ + nI j)) ≤ z.2
    · rw [if_pos e, if_pos e]; exact ih (j + 1) fu z (by omega) (by omega)
    · rw [if_neg e, if_neg e]; exact ih (j + 1) fu (nI j, distF (from_ + nI j) (chO a (from_ + nI j))) (by omega) (by omega)
theorem X11_worst {B : Nat} {f : Fl} {μ : Mem} {a : ClT} {from_ m q : Int32} (c : ClR μ f B a) : AskX B f μ (LX11_worst 1 from_ m q μ) (if offB m 0 1000 then (.inl 1, rfA a 1) else if offB q 0 1 then (.inl 1, rfA a 1) else (.inr (if chJ a = 0 then (if q = 0 then (wstF a from_ m.toNatClampNeg 0 (-1, -1)).1 else (wstF a from_ m.toNatClampNeg 0 (-1, -1)).2) else -1), a)) := by
  unfold LX11_worst
  rw [if_pos c.1.1]
  refine ask_in c fun hw => ?_
  refine ask_in c fun hq => ?_
  obtain ⟨n, hn, rfl⟩ := in_of (n := 1000) hw (by decide)
  rw [X11_chainJams c, ob, nI_clamp (show n < 2147483648 by omega)]
  by_cases h : chJ a = 0
  · rw [if_pos h, if_pos h]
    have e : mX11_worst_34 100000 1 from_ (nI n) q (-1 : Int32) (-1 : Int32) (0 : Int32) μ = _ := X11_worstL c hn n 0 100000 (-1, -1) rfl (by omega)
    rw [e]
    exact AskX.same c
  · rw [if_neg h, if_neg h]; exact AskX.same c
theorem X11_chainedL {B : Nat} {f : Fl} {μ : Mem} {a : ClT} {k : Int32} (c : ClR μ f B a) : ∀ (n j fu : Nat) (acc : Int32), n + j = (chaL a).length → n < fu → mX11_chained_12 fu 1 k acc (nI j) μ = some (.inr (chNF a k n j acc), μ) := by
  obtain ⟨e1, e2, e3, e4⟩ := link_end c
  intro n
  induction n with
  | zero =>
    intro j fu x hj hf
    obtain ⟨fu, rfl⟩ : ∃ q, fu = q + 1 := ⟨fu - 1, by omega⟩
    rw [mX11_chained_12, e2, if_pos (isK_p e3), if_pos e3, e4, if_pos (nI_le (by omega) (by omega))]
    rfl
  | succ n ih =>
    intro j fu x hj hf
    obtain ⟨fu, rfl⟩ : ∃ q, fu = q + 1 := ⟨fu - 1, by omega⟩
    obtain ⟨-, -, -, -, l1, l2, l3, l4, l5⟩ := link_at c (show j < (chaL a).length by omega)
    obtain ⟨q1, q2, q3, q4, q5, q6, q7, q8, q9, q10, q11⟩ := pen_at c l5
    rw [mX11_chained_12, e2, if_pos (isK_p e3), if_pos e3, e4, if_neg (nI_ge (by omega) (by omega)), q1, if_pos p15, if_pos q2, q3, if_pos p16, l1, if_pos (Nat.succ_pos _), if_pos l2, l3, l4, if_pos q4, q5, q6, if_pos q7, if_pos q8.1, q9.1, ← nI_succ]
    show _ = some ((Sum.inr (chNF a k n (j + 1) (if kindOf a ((chaL a).getD j 0) = k then x + 1 else x)) : Nat ⊕ Int32), μ)
    by_cases e : kindOf a ((chaL a).getD j 0) = k
    · rw [if_pos e, if_pos e]; exact ih (j + 1) fu _ (by omega) (by omega)
    · rw [if_neg e, if_neg e]; exact ih (j + 1) fu _ (by omega) (by omega)
theorem X11_chained {B : Nat} {f : Fl} {μ : Mem} {a : ClT} {k : Int32} (c : ClR μ f B a) : AskX B f μ (LX11_chained 1 k μ) (if offB k 0 7 then (.inl 1, rfA a 1) else (.inr (chNF a k (chaL a).length 0 0), a)) := by
  unfold LX11_chained
  rw [if_pos c.1.1]
  refine ask_in c fun hw => ?_
  rw [show (0 : Int32) = nI 0 from rfl, X11_chainedL c (chaL a).length 0 100000 (nI 0) rfl (by have := (link_end c).1; omega)]
  exact AskX.same c
