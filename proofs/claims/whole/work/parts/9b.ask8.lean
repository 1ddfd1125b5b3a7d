/-! ===== the class is asked: reach, fits; undo, image, restore ===== -/
def reaW (a : ClT) : Nat → Nat → Int32 → Int32
  | 0, _, b => b
  | f + 1, j, b => reaW a f (j + 1) (if hasI b ((hutT a.2.2.2.1).2.2.2.2.2.1 j) then b ||| bitI ((hutT a.2.2.2.1).2.2.2.2.2.2.1 j) else b)
def wirN (a : ClT) : Nat := a.2.2.2.1.2.1.length
def reaF (a : ClT) : Nat → Int32 → Int32
  | 0, b => b
  | n + 1, b => reaF a n (reaW a (wirN a) 0 b)
theorem X11_reachL {B : Nat} {f : Fl} {μ : Mem} {a : ClT} (c : ClR μ f B a) {q : Nat → Int32 → Int32 → Mem → Option ((Nat ⊕ Int32) × Mem)} {r : Int32} : ∀ (n j fu : Nat) (b : Int32), n + j = wirN a → n < fu → mX11_reach_20 q fu 1 b r (nI j) μ = q 1 (reaW a n j b) (r + 1) μ := by
  obtain ⟨h1, h2, h3, h4⟩ := hut_at c
  have h16 : wirN a ≤ 16 := c.2.2.2.1.1.2.1
  obtain ⟨z0, z1, z2, z3, z5, z6, k1, k2, k3, k4, k5, n1, n2, n3, n4, n5⟩ := id h2
  have e4 : g_I μ (huA f) 4 = nI (wirN a) := h3.2.1
  intro n
  induction n with
  | zero =>
    intro j fu b hj hf
    obtain ⟨fu, rfl⟩ : ∃ q, fu = q + 1 := ⟨fu - 1, by omega⟩
    rw [mX11_reach_20, h1, if_pos (isK_p z0), if_pos z0, e4, if_pos (nI_le (by omega) (by omega))]
    rfl
  | succ n ih =>
    intro j fu b hj hf
    obtain ⟨fu, rfl⟩ : ∃ q, fu = q + 1 := ⟨fu - 1, by omega⟩
    obtain ⟨w1, w2⟩ := h3.2.2.2.2 j (show j < wirN a by omega)
    rw [mX11_reach_20, h1, if_pos (isK_p z0), if_pos z0, e4, if_neg (nI_ge (by omega) (by omega)), z5, if_pos (isK_p k4), if_pos (inA_n k4 n4 (by omega) (by decide)), nI_clamp (n := j) (by omega), w1, z6, if_pos (isK_p k5), if_pos (inA_n k5 n5 (by omega) (by decide)), w2, ← nI_succ]
    show _ = q 1 (reaW a n (j + 1) (if hasI b ((hutT a.2.2.2.1).2.2.2.2.2.1 j) then b ||| bitI ((hutT a.2.2.2.1).2.2.2.2.2.2.1 j) else b)) (r + 1) μ
    by_cases e : hasI b ((hutT a.2.2.2.1).2.2.2.2.2.1 j)
    · rw [if_neg e, if_pos e]; exact ih (j + 1) fu _ (by omega) (by omega)
    · rw [if_pos (Classical.not_not.mp e), if_neg e]; exact ih (j + 1) fu _ (by omega) (by omega)
theorem X11_reachM {B : Nat} {f : Fl} {μ : Mem} {a : ClT} (c : ClR μ f B a) : ∀ (n r fu : Nat) (b : Int32), n + r = 8 → n < fu → mX11_reach_11 fu 1 b (nI r) μ = some (.inr (reaF a n b), μ) := by
  intro n
  induction n with
  | zero =>
    intro r fu b hr hf
    obtain ⟨fu, rfl⟩ : ∃ q, fu = q + 1 := ⟨fu - 1, by omega⟩
    rw [mX11_reach_11, if_pos (show (8 : Int32) ≤ nI r from nI_le (a := 8) (by omega) (by omega))]
    rfl
  | succ n ih =>
    intro r fu b hr hf
    obtain ⟨fu, rfl⟩ : ∃ q, fu = q + 1 := ⟨fu - 1, by omega⟩
    rw [mX11_reach_11, if_neg (show ¬ (8 : Int32) ≤ nI r from nI_ge (b := 8) (by omega) (by decide)), show (0 : Int32) = nI 0 from rfl, X11_reachL c (wirN a) 0 100000 b rfl (by have : wirN a ≤ 16 := c.2.2.2.1.1.2.1; omega), ← nI_succ]
    exact ih (r + 1) fu _ (by omega) (by omega)
theorem X11_reach {B : Nat} {f : Fl} {μ : Mem} {a : ClT} {pn : Int32} (c : ClR μ f B a) : AskX B f μ (LX11_reach 1 pn μ) (if noPen a pn then (.inl 0, rfA a 0) else (.inr (reaF a 8 (bitI pn.toNatClampNeg)), a)) := by
  unfold LX11_reach
  rw [if_pos c.1.1]
  refine ask_pen (s := fun p => (.inr (reaF a 8 (bitI p)), a)) c fun p hp hv => ?_
  subst hv
  have e : mX11_reach_11 100000 1 ((1 : Int32) <<< (nI p &&& 31)) (0 : Int32) μ = _ := X11_reachM c 8 0 100000 (bitI p) rfl (by decide)
  rw [e]
  exact AskX.same c
def booL (a : ClT) : List (Nat × Nat) := a.2.2.2.2.2.2.1
def fitF (a : ClT) (p : Nat) : Nat → Nat → Int32
  | 0, _ => 1
  | f + 1, j => if outA a p (nI ((booL a).getD j (0, 0)).1) = nI ((booL a).getD j (0, 0)).2 then fitF a p f (j + 1) else 0
def fitA (a : ClT) (p : Nat) : Int32 := if (booL a).length = 0 then 1 else if jamA a p = 0 then fitF a p (booL a).length 0 else 0
theorem X11_fitsBookL {B : Nat} {f : Fl} {μ : Mem} {a : ClT} {p : Nat} (c : ClR μ f B a) (hp : p < a.2.2.2.1.1.length) : ∀ (n j fu : Nat), n + j = (booL a).length → n < fu → mX11_fitsBook_21 fu 1 (17 + 4 * p) (nI j) μ = some (fitF a p n j, μ) := by
  obtain ⟨q1, q2, q3, q4, q5, q6, q7, q8, q9, q10, q11⟩ := pen_at c hp
  obtain ⟨d1, ⟨k0, k1, k2, k3, k4, k5, k6⟩, d3, d4, d5⟩ := bk_at c
  have d4 : (booL a).length ≤ 6 := d4
  have d3 : g_I μ (bkA f) 2 = nI (booL a).length := d3
  intro n
  induction n with
  | zero =>
    intro j fu hj hf
    obtain ⟨fu, rfl⟩ : ∃ q, fu = q + 1 := ⟨fu - 1, by omega⟩
    rw [mX11_fitsBook_21, d1, if_pos (isK_p k0), if_pos k0, d3, if_pos (nI_le (by omega) (by omega))]
    rfl
  | succ n ih =>
    intro j fu hj hf
    obtain ⟨fu, rfl⟩ : ∃ q, fu = q + 1 := ⟨fu - 1, by omega⟩
    obtain ⟨w1, w2⟩ := d5 j (show j < (booL a).length by omega)
    have hnn : NnOk (g_I μ (17 + 4 * p) 0) (nI ((booL a).getD j (0, 0)).1) (g_I μ (17 + 4 * p) 1) (g_I μ (17 + 4 * p) 2) := by rw [q9.1, q9.2.1, q9.2.2.1]; exact q10.nn fpNn
    rw [mX11_fitsBook_21, d1, if_pos (isK_p k0), if_pos k0, d3, if_neg (nI_ge (by omega) (by omega)), k1, if_pos (isK_p k3), if_pos (inA_n k3 k5 (by omega) (by decide)), nI_clamp (n := j) (by omega), w1]
    have e1 : LX5_outOf (17 + 4 * p) (nI ((booL a).getD j (0, 0)).1) μ = some (outA a p (nI ((booL a).getD j (0, 0)).1), μ) := by
      rw [X5_outOf q8.1 hnn, q9.1, q9.2.1, q9.2.2.1]
      rfl
    have e1' : LX5_outOf (17 + 4 * p) (nI (a.2.2.2.2.2.2.1.getD j (0, 0)).1) μ = some (outA a p (nI ((booL a).getD j (0, 0)).1), μ) := e1
    rw [e1', ob, d1, if_pos (isK_p k0), if_pos k0, k2, if_pos (isK_p k4), if_pos (inA_n k4 k6 (by omega) (by decide)), w2, ← nI_succ]
    show (if outA a p (nI ((booL a).getD j (0, 0)).1) = nI ((booL a).getD j (0, 0)).2 then _ else _) = some (if outA a p (nI ((booL a).getD j (0, 0)).1) = nI ((booL a).getD j (0, 0)).2 then fitF a p n (j + 1) else 0, μ)
    by_cases e : outA a p (nI ((booL a).getD j (0, 0)).1) = nI ((booL a).getD j (0, 0)).2
    · rw [if_pos e, if_pos e]; exact ih (j + 1) fu (by omega) (by omega)
    · rw [if_neg e, if_neg e]
theorem X11_fitsBook {B : Nat} {f : Fl} {μ : Mem} {a : ClT} {p : Nat} (c : ClR μ f B a) (hp : p < a.2.2.2.1.1.length) : LX11_fitsBook 1 (17 + 4 * p) μ = some (fitA a p, μ) := by
  obtain ⟨q1, q2, q3, q4, q5, q6, q7, q8, q9, q10, q11⟩ := pen_at c hp
  obtain ⟨d1, ⟨k0, k1, k2, k3, k4, k5, k6⟩, d3, d4, d5⟩ := bk_at c
  have d4 : (booL a).length ≤ 6 := d4
  have d3 : g_I μ (bkA f) 2 = nI (booL a).length := d3
  unfold LX11_fitsBook fitA
  have go : mX11_fitsBook_21 100000 1 (17 + 4 * p) (0 : Int32) μ = some (fitF a p (booL a).length 0, μ) := X11_fitsBookL c hp (booL a).length 0 100000 rfl (by omega)
  rw [if_pos c.1.1, if_pos q8.1, d1, if_pos (isK_p k0), if_pos k0, d3, go]
  by_cases h0 : (booL a).length = 0
  · rw [if_pos h0, h0, if_pos (show nI 0 ≤ 0 by decide)]
    rfl
  · rw [if_neg h0, if_neg (nI_nle (by omega) (by omega)), X5_jams q8.1, ob, q9.1, q9.2.2.1]
    show (if jamA a p = 0 then _ else _) = _
    by_cases e : jamA a p = 0
    · rw [if_pos e, if_pos e]; exact go
    · rw [if_neg e, if_neg e]
theorem X11_fitsL {B : Nat} {f : Fl} {μ : Mem} {a : ClT} (c : ClR μ f B a) : ∀ (n j fu : Nat) (acc : Int32), n + j = penN a → n < fu → mX11_fits_4 fu 1 acc (nI j) μ = some (bitF (fitA a) n j acc, μ) := by
  obtain ⟨h1, h2, h3, h4⟩ := hut_at c
  have h8 : penN a ≤ 8 := c.2.2.2.1.1.1
  intro n
  induction n with
  | zero =>
    intro j fu acc hj hf
    obtain ⟨fu, rfl⟩ : ∃ q, fu = q + 1 := ⟨fu - 1, by omega⟩
    rw [mX11_fits_4, h1, if_pos (isK_p h2.1), if_pos h2.1, show g_I μ (huA f) 0 = nI (penN a) from h3.1, if_pos (nI_le (by omega) (by omega))]
    rfl
  | succ n ih =>
    intro j fu acc hj hf
    obtain ⟨fu, rfl⟩ : ∃ q, fu = q + 1 := ⟨fu - 1, by omega⟩
    have hj' : j < a.2.2.2.1.1.length := by have : n + 1 + j = a.2.2.2.1.1.length := hj; omega
    obtain ⟨q1, q2, q3, q4, q5, q6, q7, q8, q9, q10, q11⟩ := pen_at c hj'
    rw [mX11_fits_4, h1, if_pos (isK_p h2.1), if_pos h2.1, show g_I μ (huA f) 0 = nI (penN a) from h3.1, if_neg (nI_ge (by omega) (by omega)), q1, if_pos p15, if_pos q2, q3, if_pos p16, if_pos q4, q5, q6, if_pos q7, X11_fitsBook c hj', ob, ← nI_succ]
    show (if fitA a j = 0 then _ else _) = some (bitF (fitA a) n (j + 1) (if fitA a j = 0 then acc else acc ||| bitI j), μ)
    by_cases e : fitA a j = 0
    · rw [if_pos e, if_pos e]; exact ih (j + 1) fu acc (by omega) (by omega)
    · rw [if_neg e, if_neg e]; exact ih (j + 1) fu _ (by omega) (by omega)
def fitB (a : ClT) : Int32 := bitF (fitA a) (penN a) 0 0
theorem X11_fits {B : Nat} {f : Fl} {μ : Mem} {a : ClT} (c : ClR μ f B a) : LX11_fits 1 μ = some (fitB a, μ) := by
  unfold LX11_fits
  rw [if_pos c.1.1]
  exact X11_fitsL c (penN a) 0 100000 0 rfl (by have : penN a ≤ 8 := c.2.2.2.1.1.1; omega)
