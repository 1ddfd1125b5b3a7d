/-! ===== the class is asked: look, ring ===== -/
def comA (a : ClT) (p q : Nat) (v : Int32) : Int32 := if jamA a p = 0 then (if jamA a q = 0 then (if outA a p v = outA a q v then 1 else 0) else 0) else (if jamA a q = 0 then 0 else 1)
abbrev bothI (b : Int32) (i j : Nat) : Prop := ¬ ((b >>> (nI i &&& 31)) &&& (b >>> (nI j &&& 31))) &&& (1 : Int32) = 0
def grpF (a : ClT) (b v : Int32) (i : Nat) : Nat → Nat → Nat → Nat
  | 0, _, g => g
  | n + 1, j, g => grpF a b v i n (j + 1) (if bothI b i j then (if comA a i j v = 0 then g else g + 1) else g)
def mosF (a : ClT) (b v : Int32) : Nat → Nat → Nat → Nat
  | 0, _, m => m
  | n + 1, i, m => mosF a b v n (i + 1) (if m < grpF a b v i (penN a) 0 0 then grpF a b v i (penN a) 0 0 else m)
theorem X11_comes {B : Nat} {f : Fl} {μ : Mem} {a : ClT} {p q : Nat} {v : Int32} (c : ClR μ f B a) (hp : p < a.2.2.2.1.1.length) (hq : q < a.2.2.2.1.1.length) : LX11_comesOutAlike (17 + 4 * p) (17 + 4 * q) v μ = some (comA a p q v, μ) := by
  obtain ⟨-, -, -, -, -, -, -, a8, a9, a10, -⟩ := pen_at c hp
  obtain ⟨-, -, -, -, -, -, -, b8, b9, b10, -⟩ := pen_at c hq
  have an : NnOk (g_I μ (17 + 4 * p) 0) v (g_I μ (17 + 4 * p) 1) (g_I μ (17 + 4 * p) 2) := by rw [a9.1, a9.2.1, a9.2.2.1]; exact a10.nn fpNn
  have bn : NnOk (g_I μ (17 + 4 * q) 0) v (g_I μ (17 + 4 * q) 1) (g_I μ (17 + 4 * q) 2) := by rw [b9.1, b9.2.1, b9.2.2.1]; exact b10.nn fpNn
  have ja : LX5_jams (17 + 4 * p) μ = some (jamA a p, μ) := by rw [X5_jams a8.1, a9.1, a9.2.2.1]; rfl
  have jb : LX5_jams (17 + 4 * q) μ = some (jamA a q, μ) := by rw [X5_jams b8.1, b9.1, b9.2.2.1]; rfl
  have oa : LX5_outOf (17 + 4 * p) v μ = some (outA a p v, μ) := by rw [X5_outOf a8.1 an, a9.1, a9.2.1, a9.2.2.1]; rfl
  have ob' : LX5_outOf (17 + 4 * q) v μ = some (outA a q v, μ) := by rw [X5_outOf b8.1 bn, b9.1, b9.2.1, b9.2.2.1]; rfl
  unfold LX11_comesOutAlike mX11_comesOutAlike_14 comA
  rw [if_pos a8.1, if_pos b8.1, ja, ob, jb, ob, oa, ob, ob', ob]
  by_cases h1 : jamA a p = 0
  · rw [if_pos h1, if_pos h1]
    by_cases h2 : jamA a q = 0
    · rw [if_pos h2, if_pos h2]
      split <;> rfl
    · rw [if_neg h2, if_neg h2, ja, ob, if_pos h1]
  · rw [if_neg h1, if_neg h1, ja, ob, if_neg h1, jb, ob]
    split <;> rfl
theorem X11_grpL {B : Nat} {f : Fl} {μ : Mem} {a : ClT} {b v most : Int32} {i : Nat} {q5 : Nat → Int32 → Int32 → Int32 → Int32 → Mem → Option (Int32 × Mem)} (c : ClR μ f B a) (hi : i < a.2.2.2.1.1.length) : ∀ (n j fu g : Nat), n + j = penN a → n < fu → mX11_mostAlike_23 q5 fu 1 b v most (nI i) (nI g) (nI j) μ = q5 1 b v (if most < nI (grpF a b v i n j g) then nI (grpF a b v i n j g) else most) (nI (i + 1)) μ := by
  obtain ⟨h1, h2, h3, h4⟩ := hut_at c
  have h8 : penN a ≤ 8 := c.2.2.2.1.1.1
  intro n
  induction n with
  | zero =>
    intro j fu g hj hf
    obtain ⟨fu, rfl⟩ : ∃ q, fu = q + 1 := ⟨fu - 1, by omega⟩
    rw [mX11_mostAlike_23, h1, if_pos (isK_p h2.1), if_pos h2.1, show g_I μ (huA f) 0 = nI (penN a) from h3.1, if_pos (nI_le (by omega) (by omega)), ← nI_succ]
    rfl
  | succ n ih =>
    intro j fu g hj hf
    obtain ⟨fu, rfl⟩ : ∃ q, fu = q + 1 := ⟨fu - 1, by omega⟩
    have hj' : j < a.2.2.2.1.1.length := by have : n + 1 + j = a.2.2.2.1.1.length := hj; omega
    obtain ⟨q1, q2, q3, q4, q5', q6, q7, q8, q9, q10, q11⟩ := pen_at c hj'
    obtain ⟨r1, r2, r3, r4, r5', r6, r7, r8, r9, r10, r11⟩ := pen_at c hi
    rw [mX11_mostAlike_23, h1, if_pos (isK_p h2.1), if_pos h2.1, show g_I μ (huA f) 0 = nI (penN a) from h3.1, if_neg (nI_ge (by omega) (by omega))]
    have eF : grpF a b v i (n + 1) j g = grpF a b v i n (j + 1) (if bothI b i j then (if comA a i j v = 0 then g else g + 1) else g) := rfl
    rw [eF]
    by_cases hb : ((b >>> (nI i &&& 31)) &&& (b >>> (nI j &&& 31))) &&& (1 : Int32) = 0
    · rw [if_pos hb, if_neg (show ¬ bothI b i j from fun z => z hb)]
      unfold mX11_mostAlike_54
      rw [if_pos rfl, ← nI_succ]
      exact ih (j + 1) fu g (by omega) (by omega)
    · rw [if_neg hb, if_pos (show bothI b i j from hb)]
      unfold mX11_mostAlike_54
      rw [if_neg (show ¬ (1 : Int32) = 0 by decide), r1, if_pos p15, if_pos r2, r3, if_pos p16, if_pos r4, r5', r6, if_pos r7, if_pos q4, q5', q6, if_pos q7, X11_comes c hi hj', ob, ← nI_succ, ← nI_succ]
      by_cases hc : comA a i j v = 0
      · rw [if_pos hc, if_pos hc]
        exact ih (j + 1) fu g (by omega) (by omega)
      · rw [if_neg hc, if_neg hc]
        exact ih (j + 1) fu (g + 1) (by omega) (by omega)
theorem grpF_le {a : ClT} {b v : Int32} {i : Nat} : ∀ (n j g : Nat), grpF a b v i n j g ≤ g + n := by
  intro n
  induction n with
  | zero => intro j g; exact Nat.le_refl _
  | succ n ih =>
    intro j g
    have eF : grpF a b v i (n + 1) j g = grpF a b v i n (j + 1) (if bothI b i j then (if comA a i j v = 0 then g else g + 1) else g) := rfl
    rw [eF]
    refine Nat.le_trans (ih _ _) ?_
    by_cases h1 : bothI b i j
    · rw [if_pos h1]
      by_cases h2 : comA a i j v = 0
      · rw [if_pos h2]; omega
      · rw [if_neg h2]; omega
    · rw [if_neg h1]; omega
theorem X11_mosL {B : Nat} {f : Fl} {μ : Mem} {a : ClT} {b v : Int32} (c : ClR μ f B a) : ∀ (n i fu m : Nat), n + i = penN a → n < fu → m ≤ 8 → mX11_mostAlike_5 fu 1 b v (nI m) (nI i) μ = some (nI (mosF a b v n i m), μ) := by
  obtain ⟨h1, h2, h3, h4⟩ := hut_at c
  have h8 : penN a ≤ 8 := c.2.2.2.1.1.1
  intro n
  induction n with
  | zero =>
    intro i fu m hj hf hm
    obtain ⟨fu, rfl⟩ : ∃ q, fu = q + 1 := ⟨fu - 1, by omega⟩
    rw [mX11_mostAlike_5, h1, if_pos (isK_p h2.1), if_pos h2.1, show g_I μ (huA f) 0 = nI (penN a) from h3.1, if_pos (nI_le (by omega) (by omega))]
    rfl
  | succ n ih =>
    intro i fu m hj hf hm
    obtain ⟨fu, rfl⟩ : ∃ q, fu = q + 1 := ⟨fu - 1, by omega⟩
    have hi' : i < a.2.2.2.1.1.length := by have : n + 1 + i = a.2.2.2.1.1.length := hj; omega
    have gl : grpF a b v i (penN a) 0 0 ≤ 8 := by have := grpF_le (a := a) (b := b) (v := v) (i := i) (penN a) 0 0; omega
    have g0 : mX11_mostAlike_23 (fun l0 l1 l2 l3 l4 μ => mX11_mostAlike_5 fu l0 l1 l2 l3 l4 μ) 100000 1 b v (nI m) (nI i) (0 : Int32) (0 : Int32) μ = _ := X11_grpL (most := nI m) c hi' (penN a) 0 100000 0 rfl (by omega)
    rw [mX11_mostAlike_5, h1, if_pos (isK_p h2.1), if_pos h2.1, show g_I μ (huA f) 0 = nI (penN a) from h3.1, if_neg (nI_ge (by omega) (by omega)), g0]
    have eF : mosF a b v (n + 1) i m = mosF a b v n (i + 1) (if m < grpF a b v i (penN a) 0 0 then grpF a b v i (penN a) 0 0 else m) := rfl
    rw [eF]
    by_cases e : m < grpF a b v i (penN a) 0 0
    · rw [if_pos (nI_lt e (by omega)), if_pos e]
      exact ih (i + 1) fu _ (by omega) (by omega) gl
    · rw [if_neg (nI_nlt (by omega) (by omega)), if_neg e]
      exact ih (i + 1) fu _ (by omega) (by omega) hm
def mosA (a : ClT) (b v : Int32) : Nat := mosF a b v (penN a) 0 0
theorem X11_mostAlike {B : Nat} {f : Fl} {μ : Mem} {a : ClT} {b v : Int32} (c : ClR μ f B a) : LX11_mostAlike 1 b v μ = some (nI (mosA a b v), μ) := by
  unfold LX11_mostAlike
  rw [if_pos c.1.1]
  exact X11_mosL c (penN a) 0 100000 0 rfl (by have : penN a ≤ 8 := c.2.2.2.1.1.1; omega) (by decide)
def looF (a : ClT) (b : Int32) : Nat → Nat → Int32 × Int32 → Int32 × Int32
  | 0, _, z => z
  | n + 1, v, z => looF a b n (v + 1) (if z.2 ≤ nI (mosA a b (nI v)) then z else (nI v, nI (mosA a b (nI v))))
theorem X11_lookL {B : Nat} {f : Fl} {μ : Mem} {a : ClT} {b w : Int32} (c : ClR μ f B a) : ∀ (n v fu : Nat) (z : Int32 × Int32), n + v = 100 → n < fu → mX11_look_27 fu 1 w b z.1 z.2 (nI v) μ = some (.inr (if w = 0 then (looF a b n v z).1 else (looF a b n v z).2), μ) := by
  intro n
  induction n with
  | zero =>
    intro v fu z hj hf
    obtain ⟨fu, rfl⟩ : ∃ q, fu = q + 1 := ⟨fu - 1, by omega⟩
    rw [mX11_look_27, if_pos (show (100 : Int32) ≤ nI v from nI_le (a := 100) (by omega) (by omega))]
    by_cases h : w = 0
    · rw [if_pos h, if_pos h]; rfl
    · rw [if_neg h, if_neg h]; rfl
  | succ n ih =>
    intro v fu z hj hf
    obtain ⟨fu, rfl⟩ : ∃ q, fu = q + 1 := ⟨fu - 1, by omega⟩
    rw [mX11_look_27, if_neg (show ¬ (100 : Int32) ≤ nI v from nI_ge (b := 100) (by omega) (by decide)), X11_mostAlike c, ob, ← nI_succ]
    have eF : looF a b (n + 1) v z = looF a b n (v + 1) (if z.2 ≤ nI (mosA a b (nI v)) then z else (nI v, nI (mosA a b (nI v)))) := rfl
    rw [eF]
    by_cases e : z.2 ≤ nI (mosA a b (nI v))
    · rw [if_pos e, if_pos e]; exact ih (v + 1) fu z (by omega) (by omega)
    · rw [if_neg e, if_neg e]; exact ih (v + 1) fu (nI v, nI (mosA a b (nI v))) (by omega) (by omega)
def sLook (a : ClT) (w : Int32) : Int32 := if fitB a = 0 then -1 else if w = 0 then (looF a (fitB a) 100 0 (-1, 9)).1 else (looF a (fitB a) 100 0 (-1, 9)).2
theorem X11_look {B : Nat} {f : Fl} {μ : Mem} {a : ClT} {w : Int32} (c : ClR μ f B a) : AskX B f μ (LX11_look 1 w μ) (if offB w 0 1 then (.inl 1, rfA a 1) else (.inr (sLook a w), a)) := by
  unfold LX11_look
  rw [if_pos c.1.1]
  refine ask_in c fun hw => ?_
  rw [X11_fits c, ob]
  unfold sLook
  by_cases h0 : fitB a = 0
  · rw [if_pos h0, if_pos h0]; exact AskX.same c
  · rw [if_neg h0, if_neg h0]
    have e : mX11_look_27 100000 1 w (fitB a) (-1 : Int32) (9 : Int32) (0 : Int32) μ = _ := X11_lookL c 100 0 100000 (-1, 9) rfl (by decide)
    rw [e]
    exact AskX.same c
/-- RING: the readings one behind another -/
def rinX (k m d v : Int32) : Nat → Int32
  | 0 => v
  | n + 1 => outF k (rinX k m d v n) m d
/-- how far back the last one stood, looked for from i on down -/
def rinB (x : Nat → Int32) : Nat → Option Nat
  | 0 => none
  | i + 1 => if x i = x 1000 then some (1000 - i) else rinB x i
/-- the first that comes again b on -/
def rinS (x : Nat → Int32) (b : Nat) : Nat → Nat → Nat
  | 0, _ => 1000 - b
  | g + 1, i => if 1000 ≤ i + b then 1000 - b else if x i = x (i + b) then i else rinS x b g (i + 1)
def rinI (o : Option Nat) : Int32 := match o with
  | none => -1
  | some b => nI b
def rinV (x : Nat → Int32) (w : Int32) : Int32 := match rinB x 1000 with
  | none => -1
  | some b => if w = 1 then nI b else nI (rinS x b 1000 0 + b)
theorem rinB_le {x : Nat → Int32} : ∀ (i b : Nat), i ≤ 1000 → rinB x i = some b → 1 ≤ b ∧ b ≤ 1000 := by
  intro i
  induction i with
  | zero => intro b _ h; exact nomatch h
  | succ i ih =>
    intro b hi h
    have eF : rinB x (i + 1) = if x i = x 1000 then some (1000 - i) else rinB x i := rfl
    rw [eF] at h
    by_cases e : x i = x 1000
    · rw [if_pos e] at h
      have := Option.some.inj h
      omega
    · rw [if_neg e] at h
      exact ih b (by omega) h
theorem rinS_le {x : Nat → Int32} {b : Nat} : ∀ (g i : Nat), i + b ≤ 1000 → rinS x b g i + b ≤ 1000 := by
  intro g
  induction g with
  | zero => intro i h; show 1000 - b + b ≤ 1000; omega
  | succ g ih =>
    intro i h
    have eF : rinS x b (g + 1) i = if 1000 ≤ i + b then 1000 - b else if x i = x (i + b) then i else rinS x b g (i + 1) := rfl
    rw [eF]
    by_cases h1 : 1000 ≤ i + b
    · rw [if_pos h1]; omega
    · rw [if_neg h1]
      by_cases h2 : x i = x (i + b)
      · rw [if_pos h2]; exact h
      · rw [if_neg h2]; exact ih (i + 1) (by omega)
/-- the row of readings lies in the class -/
def RingR (μ : Mem) (x : Nat → Int32) : Prop := isK μ 1 11 = true ∧ g_R μ 1 7 = 91 ∧ isK μ 91 15 = true ∧ g_N μ 91 = 1001 ∧ ∀ i, i ≤ 1000 → g_I μ 91 i = x i
theorem X11_fillL {k m d v : Int32} {h : Nat} (hh : h ≠ 91) (hnn : ∀ v, NnOk k v m d) : ∀ (n i fu : Nat) (μ : Mem), n + i = 1001 → n < fu → 1 ≤ i → g_R μ 1 7 = 91 → isK μ 91 15 = true → g_N μ 91 = 1001 → isK μ h 5 = true → g_I μ h 0 = k → g_I μ h 1 = m → g_I μ h 2 = d → (∀ j, j < i → g_I μ 91 j = rinX k m d v j) → ∃ ν : Mem, mX11_fillRing_9 fu 1 h (nI i) μ = some ((), ν) ∧ Out (fun x => x = 91) μ ν ∧ ∀ j, j ≤ 1000 → g_I ν 91 j = rinX k m d v j := by
  intro n
  induction n with
  | zero =>
    intro i fu μ hi hf h1 a1 a2 a3 a4 a5 a6 a7 a8
    obtain ⟨fu, rfl⟩ : ∃ q, fu = q + 1 := ⟨fu - 1, by omega⟩
    refine ⟨μ, ?_, Out.rf, fun j hj => a8 j (by omega)⟩
    rw [mX11_fillRing_9, if_pos (show (1000 : Int32) < nI i from nI_lt (a := 1000) (by omega) (by omega))]
  | succ n ih =>
    intro i fu μ hi hf h1 a1 a2 a3 a4 a5 a6 a7 a8
    obtain ⟨fu, rfl⟩ : ∃ q, fu = q + 1 := ⟨fu - 1, by omega⟩
    have e1 : nI i - 1 = nI (i - 1) := by rw [show (1 : Int32) = nI 1 from rfl, nI_sub h1]
    have e2 : LX5_outOf h (rinX k m d v (i - 1)) μ = some (rinX k m d v i, μ) := by
      rw [X5_outOf a4 (by rw [a5, a6, a7]; exact hnn _), a5, a6, a7]
      obtain ⟨j, rfl⟩ : ∃ j, i = j + 1 := ⟨i - 1, by omega⟩
      rfl
    rw [mX11_fillRing_9, if_neg (show ¬ (1000 : Int32) < nI i from nI_nlt (a := 1000) (b := i) (by omega) (by decide)), a1, if_pos (show (0 : Nat) < 91 by decide), e1, if_pos (inA_n a2 a3 (show i - 1 < 1001 by omega) (by decide)), nI_clamp (show i - 1 < 2147483648 by omega), a8 (i - 1) (by omega), e2, ob, if_pos (inA_n a2 a3 (show i < 1001 by omega) (by decide)), nI_clamp (show i < 2147483648 by omega), ← nI_succ]
    have o1 : Out (fun x => x = 91) μ (p_I μ 91 i (rinX k m d v i)) := (Out.rf (S := fun x => x = 91)).pI rfl
    obtain ⟨ν, e3, o2, r2⟩ := ih (i + 1) fu (p_I μ 91 i (rinX k m d v i)) (by omega) (by omega) (by omega) a1 a2 a3 a4 (by rw [gI_h hh]; exact a5) (by rw [gI_h hh]; exact a6) (by rw [gI_h hh]; exact a7) (fun j hj => by
      by_cases e : j = i
      · rw [e, gI_s]
      · rw [gI_k e]; exact a8 j (by omega))
    exact ⟨ν, e3, o1.tr o2, r2⟩
theorem X11_lenL {μ : Mem} {x : Nat → Int32} (r : RingR μ x) : ∀ (i fu : Nat), i ≤ 1000 → i < fu → mX11_ringLength_4 fu 1 (nI i - 1) μ = some (rinI (rinB x i), μ) := by
  obtain ⟨a0, a1, a2, a3, a4⟩ := r
  intro i
  induction i with
  | zero =>
    intro fu hi hf
    obtain ⟨fu, rfl⟩ : ∃ q, fu = q + 1 := ⟨fu - 1, by omega⟩
    rw [mX11_ringLength_4, if_pos (show nI 0 - 1 < (0 : Int32) by decide)]
    rfl
  | succ i ih =>
    intro fu hi hf
    obtain ⟨fu, rfl⟩ : ∃ q, fu = q + 1 := ⟨fu - 1, by omega⟩
    have e1 : nI (i + 1) - 1 = nI i := by rw [show (1 : Int32) = nI 1 from rfl, nI_sub (by omega)]; rfl
    have e2 : nI i + (-1 : Int32) = nI i - 1 := by rw [Int32.sub_eq_add_neg]
    have e3 : (1000 : Int32) - nI i = nI (1000 - i) := by rw [show (1000 : Int32) = nI 1000 from rfl, nI_sub (by omega)]
    rw [mX11_ringLength_4, e1, if_neg (show ¬ nI i < (0 : Int32) from nI_nlt (a := i) (b := 0) (by omega) (by omega)), a1, if_pos (show (0 : Nat) < 91 by decide), if_pos (inA_n a2 a3 (show i < 1001 by omega) (by decide)), if_pos (show inA μ 91 15 (1000 : Int32) = true from inA_n (n := 1000) a2 a3 (by decide) (by decide)), nI_clamp (show i < 2147483648 by omega), show (1000 : Int32).toNatClampNeg = 1000 from nI_clamp (n := 1000) (by decide), a4 i (by omega), a4 1000 (Nat.le_refl _), e2, e3]
    have eF : rinB x (i + 1) = if x i = x 1000 then some (1000 - i) else rinB x i := rfl
    rw [eF]
    by_cases e : x i = x 1000
    · rw [if_pos e, if_pos e]; rfl
    · rw [if_neg e, if_neg e]
      exact ih fu (by omega) (by omega)
theorem X11_startL {μ : Mem} {x : Nat → Int32} {b : Nat} (r : RingR μ x) (hb : b ≤ 1000) : ∀ (g i fu : Nat), i + b ≤ 1000 → 1000 ≤ g + i + b → g < fu → mX11_ringStart_2 fu 1 (nI b) (nI i) μ = some (nI (rinS x b g i), μ) := by
  obtain ⟨a0, a1, a2, a3, a4⟩ := r
  have e3 : (1000 : Int32) - nI b = nI (1000 - b) := by rw [show (1000 : Int32) = nI 1000 from rfl, nI_sub hb]
  intro g
  induction g with
  | zero =>
    intro i fu h1 h2 hf
    obtain ⟨fu, rfl⟩ : ∃ q, fu = q + 1 := ⟨fu - 1, by omega⟩
    rw [mX11_ringStart_2, nI_add, if_pos (show (1000 : Int32) ≤ nI (i + b) from nI_le (a := 1000) (by omega) (by omega)), e3]
    rfl
  | succ g ih =>
    intro i fu h1 h2 hf
    obtain ⟨fu, rfl⟩ : ∃ q, fu = q + 1 := ⟨fu - 1, by omega⟩
    have eF : rinS x b (g + 1) i = if 1000 ≤ i + b then 1000 - b else if x i = x (i + b) then i else rinS x b g (i + 1) := rfl
    rw [mX11_ringStart_2, nI_add, eF]
    by_cases h3 : 1000 ≤ i + b
    · rw [if_pos (show (1000 : Int32) ≤ nI (i + b) from nI_le (a := 1000) (by omega) (by omega)), if_pos h3, e3]
    · rw [if_neg (show ¬ (1000 : Int32) ≤ nI (i + b) from nI_ge (a := i + b) (b := 1000) (by omega) (by decide)), if_neg h3, a1, if_pos (show (0 : Nat) < 91 by decide), if_pos (inA_n a2 a3 (show i < 1001 by omega) (by decide)), if_pos (inA_n a2 a3 (show i + b < 1001 by omega) (by decide)), nI_clamp (show i < 2147483648 by omega), nI_clamp (show i + b < 2147483648 by omega), a4 i (by omega), a4 (i + b) (by omega), ← nI_succ]
      by_cases e : x i = x (i + b)
      · rw [if_pos e, if_pos e]
      · rw [if_neg e, if_neg e]
        exact ih (i + 1) fu (by omega) (by omega) (by omega)
def sRing (a : ClT) (v w : Int32) (p : Nat) : Int32 := if jamA a p = 0 then rinV (rinX (kindOf a p) (rowOf a p) (rowOf a (8 + p)) v) w else -1
theorem X11_ring {B : Nat} {f : Fl} {μ : Mem} {a : ClT} {pn v w : Int32} (c : ClR μ f B a) : AskX B f μ (LX11_ring 1 pn v w μ) (if noPen a pn then (.inl 0, rfA a 0) else if offB w 0 1 then (.inl 1, rfA a 1) else (.inr (sRing a v w pn.toNatClampNeg), a)) := by
  unfold LX11_ring
  rw [if_pos c.1.1]
  refine ask_pen (s := fun p => if offB w 0 1 then (.inl 1, rfA a 1) else (.inr (sRing a v w p), a)) c fun p hp hv => ?_
  refine ask_in c fun hw => ?_
  subst hv
  obtain ⟨q1, q2, q3, q4, q5, q6, q7, q8, q9, q10, q11⟩ := pen_at c hp
  obtain ⟨n0, n1, n2, n3, n4, n5, n6, n7, n8, n9⟩ := id c.1
  obtain ⟨k91, l91⟩ := c.2.1.2.2.2.2.2.2.1
  rw [q1, if_pos p15, if_pos q2, q3, if_pos p16, if_pos q4, q5, q6, if_pos q7, if_pos q8.1, X5_jams q8.1, ob, q9.1, q9.2.2.1]
  unfold sRing
  show AskX B f μ (if jamA a p = 0 then _ else _) _
  by_cases hj : jamA a p = 0
  · rw [if_pos hj, if_pos hj, q1, if_pos p15, if_pos q2, q3, if_pos p16, if_pos q4, q6, if_pos q7]
    have hnn : ∀ v, NnOk (kindOf a p) v (rowOf a p) (rowOf a (8 + p)) := fun v => q10.nn fpNn
    have h91 : (17 + 4 * p) ≠ 91 := by omega
    obtain ⟨ν, e1, o1, r1⟩ := X11_fillL (v := v) (h := 17 + 4 * p) h91 hnn 1000 1 100000 (p_I μ 91 0 v) rfl (by decide) (by decide) n8 k91 l91 q8.1 (by rw [gI_h h91]; exact q9.1) (by rw [gI_h h91]; exact q9.2.1) (by rw [gI_h h91]; exact q9.2.2.1) (fun j hj => by
      have : j = 0 := by omega
      subst this
      exact gI_s)
    have e0 : LX11_fillRing 1 (17 + 4 * p) v μ = some ((), ν) := by
      unfold LX11_fillRing
      rw [if_pos n0, if_pos q8.1, n8, if_pos (show (0 : Nat) < 91 by decide), if_pos (show inA μ 91 15 (0 : Int32) = true from inA_n (n := 0) k91 l91 (by decide) (by decide))]
      exact e1
    have oo : Out (fun x => x = 91) μ ν := ((Out.rf (S := fun x => x = 91)).pI rfl).tr o1
    have rr : RingR ν (rinX (kindOf a p) (rowOf a p) (rowOf a (8 + p)) v) := ⟨by rw [sh_isK oo.1]; exact n0, by rw [sh_gR oo.1]; exact n8, by rw [sh_isK oo.1]; exact k91, by rw [sh_gN oo.1]; exact l91, r1⟩
    have e2 : LX11_ringLength 1 ν = some (rinI (rinB (rinX (kindOf a p) (rowOf a p) (rowOf a (8 + p)) v) 1000), ν) := by
      unfold LX11_ringLength
      rw [if_pos rr.1]
      exact X11_lenL rr 1000 100000 (Nat.le_refl _) (by decide)
    have hu := hu_or f
    have hl := la_or f
    have hc := ch_or f
    have hb := bk_or f
    have hB := c.2.2.2.2
    have fin : ∀ r, AskX B f μ (some (.inr r, ν)) (.inr r, a) := fun r => AskX.out c oo (fun x hx z => by unfold usd at hx; omega) (fun x h1 h2 z => by omega)
    rw [e0, ob, e2, ob]
    unfold rinV
    cases hr : rinB (rinX (kindOf a p) (rowOf a p) (rowOf a (8 + p)) v) 1000 with
    | none => exact fin (-1)
    | some b =>
      obtain ⟨b1, b2⟩ := rinB_le 1000 b (Nat.le_refl _) hr
      rw [show rinI (some b) = nI b from rfl]
      show AskX B f μ (if nI b = (-1 : Int32) then _ else _) (.inr (if w = 1 then nI b else nI (rinS _ b 1000 0 + b)), a)
      rw [if_neg (nI_nm1 (by omega))]
      by_cases hw1 : w = 1
      · rw [if_pos hw1, if_pos hw1]; exact fin _
      · rw [if_neg hw1, if_neg hw1]
        have e3 : LX11_ringStart 1 (nI b) ν = some (nI (rinS (rinX (kindOf a p) (rowOf a p) (rowOf a (8 + p)) v) b 1000 0), ν) := by
          unfold LX11_ringStart
          rw [if_pos rr.1]
          exact X11_startL rr b2 1000 0 100000 (by omega) (by omega) (by decide)
        rw [e3, ob, nI_add]
        exact fin _
  · rw [if_neg hj, if_neg hj]; exact AskX.same c
