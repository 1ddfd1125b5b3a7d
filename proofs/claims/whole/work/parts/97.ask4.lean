/-! ===== the class is asked: bits of PENS, room, told ===== -/
def bitF (t : Nat → Int32) : Nat → Nat → Int32 → Int32
  | 0, _, acc => acc
  | f + 1, j, acc => bitF t f (j + 1) (if t j = 0 then acc else acc ||| bitI j)
def penN (a : ClT) : Nat := a.2.2.2.1.1.length
def sheetA (a : ClT) (p : Nat) : Int32 := if rowOf a (16 + p) = -1 then 0 else 1
def canA (a : ClT) (p : Nat) : Int32 := canP (kindOf a p) (rowOf a) p
theorem X11_jamBitsL {B : Nat} {f : Fl} {μ : Mem} {a : ClT} (c : ClR μ f B a) : ∀ (n j fu : Nat) (acc : Int32), n + j = penN a → n < fu → mX11_jamBits_4 fu 1 acc (nI j) μ = some (bitF (jamA a) n j acc, μ) := by
  obtain ⟨h1, h2, h3, h4⟩ := hut_at c
  have h8 : penN a ≤ 8 := c.2.2.2.1.1.1
  intro n
  induction n with
  | zero =>
    intro j fu acc hj hf
    obtain ⟨fu, rfl⟩ : ∃ q, fu = q + 1 := ⟨fu - 1, by omega⟩
    rw [mX11_jamBits_4, h1, if_pos (isK_p h2.1), if_pos h2.1, show g_I μ (huA f) 0 = nI (penN a) from h3.1, if_pos (nI_le (by omega) (by omega))]
    rfl
  | succ n ih =>
    intro j fu acc hj hf
    obtain ⟨fu, rfl⟩ : ∃ q, fu = q + 1 := ⟨fu - 1, by omega⟩
    obtain ⟨q1, q2, q3, q4, q5, q6, q7, q8, q9, q10, q11⟩ := pen_at c (show j < a.2.2.2.1.1.length by have : n + 1 + j = a.2.2.2.1.1.length := hj; omega)
    rw [mX11_jamBits_4, h1, if_pos (isK_p h2.1), if_pos h2.1, show g_I μ (huA f) 0 = nI (penN a) from h3.1, if_neg (nI_ge (by omega) (by omega)), q1, if_pos p15, if_pos q2, q3, if_pos p16, if_pos q4, q5, q6, if_pos q7, if_pos q8.1, X5_jams q8.1, ob, q9.1, q9.2.2.1, ← nI_succ]
    show (if jamA a j = 0 then _ else _) = some (bitF (jamA a) n (j + 1) (if jamA a j = 0 then acc else acc ||| bitI j), μ)
    by_cases e : jamA a j = 0
    · rw [if_pos e, if_pos e]
      exact ih (j + 1) fu acc (by omega) (by omega)
    · rw [if_neg e, if_neg e]
      exact ih (j + 1) fu _ (by omega) (by omega)
theorem X11_jamBits {B : Nat} {f : Fl} {μ : Mem} {a : ClT} (c : ClR μ f B a) : LX11_jamBits 1 μ = some (bitF (jamA a) (penN a) 0 0, μ) := by
  unfold LX11_jamBits
  rw [if_pos c.1.1]
  exact X11_jamBitsL c (penN a) 0 100000 0 rfl (by have : penN a ≤ 8 := c.2.2.2.1.1.1; omega)
theorem X11_sheetBitsL {B : Nat} {f : Fl} {μ : Mem} {a : ClT} (c : ClR μ f B a) : ∀ (n j fu : Nat) (acc : Int32), n + j = penN a → n < fu → mX11_sheetBits_4 fu 1 acc (nI j) μ = some (bitF (sheetA a) n j acc, μ) := by
  obtain ⟨h1, h2, h3, h4⟩ := hut_at c
  have h8 : penN a ≤ 8 := c.2.2.2.1.1.1
  intro n
  induction n with
  | zero =>
    intro j fu acc hj hf
    obtain ⟨fu, rfl⟩ : ∃ q, fu = q + 1 := ⟨fu - 1, by omega⟩
    rw [mX11_sheetBits_4, h1, if_pos (isK_p h2.1), if_pos h2.1, show g_I μ (huA f) 0 = nI (penN a) from h3.1, if_pos (nI_le (by omega) (by omega))]
    rfl
  | succ n ih =>
    intro j fu acc hj hf
    obtain ⟨fu, rfl⟩ : ∃ q, fu = q + 1 := ⟨fu - 1, by omega⟩
    obtain ⟨q1, q2, q3, q4, q5, q6, q7, q8, q9, q10, q11⟩ := pen_at c (show j < a.2.2.2.1.1.length by have : n + 1 + j = a.2.2.2.1.1.length := hj; omega)
    rw [mX11_sheetBits_4, h1, if_pos (isK_p h2.1), if_pos h2.1, show g_I μ (huA f) 0 = nI (penN a) from h3.1, if_neg (nI_ge (by omega) (by omega)), q1, if_pos p15, if_pos q2, q3, if_pos p16, if_pos q4, q5, q6, if_pos q7, if_pos q8.1, q9.2.2.2.1, ← nI_succ]
    show (if rowOf a (16 + j) = -1 then _ else _) = some (bitF (sheetA a) n (j + 1) (if sheetA a j = 0 then acc else acc ||| bitI j), μ)
    by_cases e : rowOf a (16 + j) = -1
    · rw [if_pos e, if_pos (show sheetA a j = 0 from if_pos e)]
      exact ih (j + 1) fu acc (by omega) (by omega)
    · rw [if_neg e, if_neg (show ¬ sheetA a j = 0 from fun z => absurd ((if_neg e).symm.trans z) (by decide))]
      exact ih (j + 1) fu _ (by omega) (by omega)
theorem X11_sheetBits {B : Nat} {f : Fl} {μ : Mem} {a : ClT} (c : ClR μ f B a) : LX11_sheetBits 1 μ = some (bitF (sheetA a) (penN a) 0 0, μ) := by
  unfold LX11_sheetBits
  rw [if_pos c.1.1]
  exact X11_sheetBitsL c (penN a) 0 100000 0 rfl (by have : penN a ≤ 8 := c.2.2.2.1.1.1; omega)
theorem X11_readyL {B : Nat} {f : Fl} {μ : Mem} {a : ClT} (c : ClR μ f B a) : ∀ (n j fu : Nat) (acc : Int32), n + j = penN a → n < fu → mX11_ready_4 fu 1 acc (nI j) μ = some (bitF (canA a) n j acc, μ) := by
  obtain ⟨h1, h2, h3, h4⟩ := hut_at c
  have h8 : penN a ≤ 8 := c.2.2.2.1.1.1
  intro n
  induction n with
  | zero =>
    intro j fu acc hj hf
    obtain ⟨fu, rfl⟩ : ∃ q, fu = q + 1 := ⟨fu - 1, by omega⟩
    rw [mX11_ready_4, h1, if_pos (isK_p h2.1), if_pos h2.1, show g_I μ (huA f) 0 = nI (penN a) from h3.1, if_pos (nI_le (by omega) (by omega))]
    rfl
  | succ n ih =>
    intro j fu acc hj hf
    obtain ⟨fu, rfl⟩ : ∃ q, fu = q + 1 := ⟨fu - 1, by omega⟩
    obtain ⟨q1, q2, q3, q4, q5, q6, q7, q8, q9, q10, q11⟩ := pen_at c (show j < a.2.2.2.1.1.length by have : n + 1 + j = a.2.2.2.1.1.length := hj; omega)
    rw [mX11_ready_4, h1, if_pos (isK_p h2.1), if_pos h2.1, show g_I μ (huA f) 0 = nI (penN a) from h3.1, if_neg (nI_ge (by omega) (by omega)), q1, if_pos p15, if_pos q2, q3, if_pos p16, if_pos q4, q5, q6, if_pos q7, if_pos q8.1, X5_canWrite q8.1, ob, q9.1, q9.2.2.1, q9.2.2.2.1, q9.2.2.2.2.1, ← nI_succ]
    show (if canA a j = 0 then _ else _) = some (bitF (canA a) n (j + 1) (if canA a j = 0 then acc else acc ||| bitI j), μ)
    by_cases e : canA a j = 0
    · rw [if_pos e, if_pos e]
      exact ih (j + 1) fu acc (by omega) (by omega)
    · rw [if_neg e, if_neg e]
      exact ih (j + 1) fu _ (by omega) (by omega)
theorem X11_ready {B : Nat} {f : Fl} {μ : Mem} {a : ClT} (c : ClR μ f B a) (v : Int32) : LX11_ready 1 v μ = some (bitF (canA a) (penN a) 0 0, μ) := by
  unfold LX11_ready
  rw [if_pos c.1.1]
  exact X11_readyL c (penN a) 0 100000 0 rfl (by have : penN a ≤ 8 := c.2.2.2.1.1.1; omega)
def roomF (a : ClT) : Nat → Nat → Int32 → Int32
  | 0, _, acc => acc
  | f + 1, j, acc => roomF a f (j + 1) (acc + freeF (rowOf a (16 + j)) (rowOf a (24 + j)))
theorem X11_roomL {B : Nat} {f : Fl} {μ : Mem} {a : ClT} (c : ClR μ f B a) : ∀ (n j fu : Nat) (acc : Int32), n + j = penN a → n < fu → mX11_room_4 fu 1 acc (nI j) μ = some (roomF a n j acc, μ) := by
  obtain ⟨h1, h2, h3, h4⟩ := hut_at c
  have h8 : penN a ≤ 8 := c.2.2.2.1.1.1
  intro n
  induction n with
  | zero =>
    intro j fu acc hj hf
    obtain ⟨fu, rfl⟩ : ∃ q, fu = q + 1 := ⟨fu - 1, by omega⟩
    rw [mX11_room_4, h1, if_pos (isK_p h2.1), if_pos h2.1, show g_I μ (huA f) 0 = nI (penN a) from h3.1, if_pos (nI_le (by omega) (by omega))]
    rfl
  | succ n ih =>
    intro j fu acc hj hf
    obtain ⟨fu, rfl⟩ : ∃ q, fu = q + 1 := ⟨fu - 1, by omega⟩
    obtain ⟨q1, q2, q3, q4, q5, q6, q7, q8, q9, q10, q11⟩ := pen_at c (show j < a.2.2.2.1.1.length by have : n + 1 + j = a.2.2.2.1.1.length := hj; omega)
    rw [mX11_room_4, h1, if_pos (isK_p h2.1), if_pos h2.1, show g_I μ (huA f) 0 = nI (penN a) from h3.1, if_neg (nI_ge (by omega) (by omega)), q1, if_pos p15, if_pos q2, q3, if_pos p16, if_pos q4, q5, q6, if_pos q7, if_pos q8.1, X5_freePlaces q8.1, ob, q9.2.2.2.1, q9.2.2.2.2.1, ← nI_succ]
    exact ih (j + 1) fu _ (by omega) (by omega)
theorem X11_room {B : Nat} {f : Fl} {μ : Mem} {a : ClT} (c : ClR μ f B a) : LX11_room 1 μ = some (roomF a (penN a) 0 0, μ) := by
  unfold LX11_room
  rw [if_pos c.1.1]
  exact X11_roomL c (penN a) 0 100000 0 rfl (by have : penN a ≤ 8 := c.2.2.2.1.1.1; omega)
theorem ch_at {B : Nat} {f : Fl} {μ : Mem} {a : ClT} (c : ClR μ f B a) : g_R μ 1 13 = chA f ∧ ChS μ (chA f) ∧ ChR μ (chA f) a.2.2.2.2.2.1 := by
  obtain ⟨n0, n1, n2, n3, n4, n5, n6, n7, n8, n9, n10, n11, n12, n13, n14, n15⟩ := id c.1
  refine ⟨n14, ?_, c.2.2.1.2.2.2.2.2.1.1⟩
  rcases ch_or f with ⟨h, -⟩ | ⟨h, -⟩ <;> rw [h]
  · exact c.2.1.2.2.2.2.2.2.2.2.2.2.1.1
  · exact c.2.1.2.2.2.2.2.2.2.2.2.2.1.2
theorem bk_at {B : Nat} {f : Fl} {μ : Mem} {a : ClT} (c : ClR μ f B a) : g_R μ 1 15 = bkA f ∧ BkS μ (bkA f) ∧ BkR μ (bkA f) a.2.2.2.2.2.2.1 := by
  obtain ⟨n0, n1, n2, n3, n4, n5, n6, n7, n8, n9, n10, n11, n12, n13, n14, n15, n16, n17⟩ := id c.1
  refine ⟨n16, ?_, c.2.2.1.2.2.2.2.2.2.1⟩
  rcases bk_or f with ⟨h, -⟩ | ⟨h, -⟩ <;> rw [h]
  · exact c.2.1.2.2.2.2.2.2.2.2.2.2.2.1
  · exact c.2.1.2.2.2.2.2.2.2.2.2.2.2.2
def sTold (a : ClT) (w : Int32) : Int32 := if w = 0 then nI (penN a) else if w = 1 then nI a.2.2.2.1.2.1.length else if w = 2 then rowOf a 32 else if w = 3 then bitF (sheetA a) (penN a) 0 0 else if w = 4 then sumR (rowOf a) (penN a) else if w = 5 then rowOf a 33 else if w = 6 then rowOf a 34 else if w = 7 then nI a.2.2.2.2.2.1.length else if w = 8 then nI a.2.2.2.2.2.2.1.length else if w = 9 then a.2.2.2.2.2.2.2.2.2.1 else bitF (jamA a) (penN a) 0 0
theorem X11_told {B : Nat} {f : Fl} {μ : Mem} {a : ClT} {w : Int32} (c : ClR μ f B a) : AskX B f μ (LX11_told 1 w μ) (if offB w 0 10 then (.inl 1, rfA a 1) else (.inr (sTold a w), a)) := by
  obtain ⟨h1, h2, h3, h4⟩ := hut_at c
  obtain ⟨d1, d2, d3⟩ := ch_at c
  obtain ⟨b1, b2, b3⟩ := bk_at c
  obtain ⟨n0, n1, n2, n3, n4, n5⟩ := id c.1
  have ts := c.2.1.2.2.1
  have sr := c.2.2.1.2.2.2.2.2.2.2.2.1
  unfold LX11_told
  rw [if_pos c.1.1]
  refine ask_in c fun hw => ?_
  rw [h1, if_pos (isK_p h2.1), if_pos h2.1, if_pos (isK_p h2.1), if_pos h2.1, n4, if_pos p15, if_pos ts.1, X11_sheetBits c, ob, if_pos p15, if_pos ts.1, X8_records ts sr, ob, if_pos p15, if_pos ts.1, if_pos p15, if_pos ts.1, d1, if_pos (isK_p d2.1), if_pos d2.1, b1, if_pos (isK_p b2.1), if_pos b2.1, X11_jamBits c, ob, show g_I μ (huA f) 0 = nI (penN a) from h3.1, show g_I μ (huA f) 4 = nI a.2.2.2.1.2.1.length from h3.2.1, sr.2.2.1, sr.2.2.2.1, sr.2.2.2.2.1, d3.1, b3.1, c.2.2.1.2.2.2.2.2.2.2.2.2.1]
  have e : (if w = (0 : Int32) then some ((Sum.inr (nI (penN a)) : Nat ⊕ Int32), μ) else if w = (1 : Int32) then some (Sum.inr (nI a.2.2.2.1.2.1.length), μ) else if w = (2 : Int32) then some (Sum.inr (rowOf a 32), μ) else if w = (3 : Int32) then some (Sum.inr (bitF (sheetA a) (penN a) 0 0), μ) else if w = (4 : Int32) then some (Sum.inr (sumR (rowOf a) (penN a)), μ) else if w = (5 : Int32) then some (Sum.inr (rowOf a 33), μ) else if w = (6 : Int32) then some (Sum.inr (rowOf a 34), μ) else if w = (7 : Int32) then some (Sum.inr (nI a.2.2.2.2.2.1.length), μ) else if w = (8 : Int32) then some (Sum.inr (nI a.2.2.2.2.2.2.1.length), μ) else if w = (9 : Int32) then some (Sum.inr a.2.2.2.2.2.2.2.2.2.1, μ) else some (Sum.inr (bitF (jamA a) (penN a) 0 0), μ)) = some (Sum.inr (sTold a w), μ) := by
    unfold sTold
    repeat' split
    all_goals rfl
  refine Eq.subst (motive := fun z => AskX B f μ z _) e.symm ?_
  exact AskX.same c
