/-! ===== the class is asked: total, latest, alike, best, hop ===== -/
def recA (a : ClT) (p j : Nat) : Int32 := rdF (kindOf a p) (rowOf a (35 + (24 * p + j))) (rowOf a (227 + (24 * p + j)))
def totF (a : ClT) (p : Nat) : Nat → Nat → Int64 → Option Int32
  | 0, _, s => some s.toInt32
  | f + 1, j, s => if lg_cmp (s + (recA a p j).toInt64) (((s + (recA a p j).toInt64).toInt32).toInt64) = 0 then totF a p f (j + 1) (s + (recA a p j).toInt64) else none
def sTot (a : ClT) (p : Nat) : (Nat ⊕ Int32) × ClT := match totF a p (nOf (rowOf a) p) 0 0 with
  | none => (.inl 4, rfA a 4)
  | some v => (.inr v, a)
def optA (a : ClT) (o : Option Int32) : (Nat ⊕ Int32) × ClT := match o with
  | none => (.inl 4, rfA a 4)
  | some v => (.inr v, a)
theorem X11_totalL {B : Nat} {f : Fl} {μ : Mem} {a : ClT} {p : Nat} (c : ClR μ f B a) (hp : p < a.2.2.2.1.1.length) : ∀ (n j fu : Nat) (s : Int64), n + j = nOf (rowOf a) p → n < fu → AskX B f μ (mX11_total_20 fu 1 (17 + 4 * p) s (nI j) μ) (optA a (totF a p n j s)) := by
  obtain ⟨q1, q2, q3, q4, q5, q6, q7, q8, q9, q10, q11⟩ := pen_at c hp
  obtain ⟨m1, m2⟩ := many_of c hp
  intro n
  induction n with
  | zero =>
    intro j fu s hj hf
    obtain ⟨fu, rfl⟩ : ∃ q, fu = q + 1 := ⟨fu - 1, by omega⟩
    rw [mX11_total_20, q9.2.2.2.2.1, m1, if_pos (nI_le (by omega) (by omega))]
    exact AskX.same c
  | succ n ih =>
    intro j fu s hj hf
    obtain ⟨fu, rfl⟩ : ∃ q, fu = q + 1 := ⟨fu - 1, by omega⟩
    rw [mX11_total_20, q9.2.2.2.2.1, m1, if_neg (nI_ge (by omega) (by omega)), X5_readAt q8 q9 (show j < 24 by omega), ob, (ar_refuse c.1 c.2.1).1, obX_l, ← nI_succ]
    show AskX B f μ (if lg_cmp (s + (recA a p j).toInt64) (((s + (recA a p j).toInt64).toInt32).toInt64) = 0 then _ else _) (optA a (if lg_cmp (s + (recA a p j).toInt64) (((s + (recA a p j).toInt64).toInt32).toInt64) = 0 then totF a p n (j + 1) (s + (recA a p j).toInt64) else none))
    by_cases e : lg_cmp (s + (recA a p j).toInt64) (((s + (recA a p j).toInt64).toInt32).toInt64) = 0
    · rw [if_pos e, if_pos e]; exact ih (j + 1) fu _ (by omega) (by omega)
    · rw [if_neg e, if_neg e]; exact AskX.no c (by decide) (by decide)
theorem X11_total {B : Nat} {f : Fl} {μ : Mem} {a : ClT} {pn : Int32} (c : ClR μ f B a) : AskX B f μ (LX11_total 1 pn μ) (if noPen a pn then (.inl 0, rfA a 0) else optA a (totF a pn.toNatClampNeg (nOf (rowOf a) pn.toNatClampNeg) 0 0)) := by
  unfold LX11_total
  rw [if_pos c.1.1]
  refine ask_pen (s := fun p => optA a (totF a p (nOf (rowOf a) p) 0 0)) c fun p hp hv => ?_
  obtain ⟨q1, q2, q3, q4, q5, q6, q7, q8, q9, q10, q11⟩ := pen_at c hp
  obtain ⟨m1, m2⟩ := many_of c hp
  subst hv
  rw [q1, if_pos p15, if_pos q2, q3, if_pos p16, if_pos q4, q5, q6, if_pos q7, if_pos q8.1]
  exact X11_totalL c hp (nOf (rowOf a) p) 0 100000 0 rfl (by omega)
def sLat (a : ClT) (p : Nat) : (Nat ⊕ Int32) × ClT := if rowOf a (16 + p) = -1 then (.inl 2, rfA a 2) else if nOf (rowOf a) p = 0 then (.inl 3, rfA a 3) else (.inr (recA a p (nOf (rowOf a) p - 1)), a)
theorem X11_latest {B : Nat} {f : Fl} {μ : Mem} {a : ClT} {pn : Int32} (c : ClR μ f B a) : AskX B f μ (LX11_latest 1 pn μ) (if noPen a pn then (.inl 0, rfA a 0) else sLat a pn.toNatClampNeg) := by
  unfold LX11_latest
  rw [if_pos c.1.1]
  refine ask_pen c fun p hp hv => ?_
  obtain ⟨q1, q2, q3, q4, q5, q6, q7, q8, q9, q10, q11⟩ := pen_at c hp
  obtain ⟨m1, m2⟩ := many_of c hp
  obtain ⟨n0, -, -, -, -, -, -, -, -, n8, -⟩ := id c.1
  obtain ⟨k8, l8⟩ := c.2.1.2.2.2.2.2.2.2.1
  subst hv
  have m1' : g_I μ (17 + 4 * p) 4 = nI (nOf (rowOf a) p) := by rw [q9.2.2.2.2.1]; exact m1
  rw [q1, if_pos p15, if_pos q2, q3, if_pos p16, if_pos q4, q5, q6, if_pos q7, if_pos q8.1, q9.2.2.2.1, n8]
  unfold sLat
  by_cases h1 : rowOf a (16 + p) = -1
  · rw [if_pos h1, if_pos h1, if_pos (by decide), if_pos (show inA μ 92 15 (2 : Int32) = true from inA_n (n := 2) k8 l8 (by decide) (by decide))]
    exact AskX.no (k := 2) (w := 8) c (by decide) (by decide)
  · rw [if_neg h1, if_neg h1, m1', needRec c hp]
    by_cases h2 : nOf (rowOf a) p = 0
    · rw [if_pos h2, h2, if_pos (show nI 0 - 1 < 0 ∨ ¬ nI 0 - 1 < rowOf a (24 + p) from Or.inl (by decide)), obX_l]
      exact AskX.no c (by decide) (by decide)
    · rw [if_neg h2]
      have e1 : nI (nOf (rowOf a) p) - 1 = nI (nOf (rowOf a) p - 1) := by
        have : nOf (rowOf a) p = (nOf (rowOf a) p - 1) + 1 := by omega
        rw [this, Nat.add_sub_cancel]
        exact nI_pred _
      rw [e1, if_neg (show ¬ (nI (nOf (rowOf a) p - 1) < 0 ∨ ¬ nI (nOf (rowOf a) p - 1) < rowOf a (24 + p)) from fun z => z.elim (nI_pos (by omega)) (fun y => y (by rw [m1]; exact nI_lt (by omega) (by omega)))), obX_r, m1', e1, X5_readAt q8 q9 (show nOf (rowOf a) p - 1 < 24 by omega), ob]
      exact AskX.same c
theorem likeF_01 {k kb : Int32} {ρ : Nat → Int32} {a b : Nat} : ∀ n i, likeF k kb ρ a b n i = 0 ∨ likeF k kb ρ a b n i = 1 := by
  intro n
  induction n with
  | zero => intro i; exact Or.inr rfl
  | succ n ih =>
    intro i
    unfold likeF
    split
    · exact ih (i + 1)
    · exact Or.inl rfl
theorem alikeF_01 {k kb : Int32} {ρ : Nat → Int32} {a b n : Nat} : alikeF k kb ρ a b n = 0 ∨ alikeF k kb ρ a b n = 1 := by
  unfold alikeF
  repeat' split
  all_goals first | exact Or.inl rfl | exact likeF_01 _ _
def alkA (a : ClT) (p q : Nat) : Int32 := alikeF (kindOf a p) (kindOf a q) (rowOf a) p q (nOf (rowOf a) p)
theorem X11_alike {B : Nat} {f : Fl} {μ : Mem} {a : ClT} {pn qn : Int32} (c : ClR μ f B a) : AskX B f μ (LX11_alike 1 pn qn μ) (if noPen a pn then (.inl 0, rfA a 0) else if noPen a qn then (.inl 0, rfA a 0) else (.inr (alkA a pn.toNatClampNeg qn.toNatClampNeg), a)) := by
  unfold LX11_alike
  rw [if_pos c.1.1]
  refine ask_pen (s := fun p => if noPen a qn then (.inl 0, rfA a 0) else (.inr (alkA a p qn.toNatClampNeg), a)) c fun p hp hv => ?_
  refine ask_pen (s := fun q => (.inr (alkA a p q), a)) c fun q hq hv2 => ?_
  obtain ⟨q1, q2, q3, q4, q5, q6, q7, q8, q9, q10, q11⟩ := pen_at c hp
  obtain ⟨-, -, -, r4, r5, r6, r7, r8, r9, r10, r11⟩ := pen_at c hq
  obtain ⟨m1, m2⟩ := many_of c hp
  subst hv
  subst hv2
  rw [q1, if_pos p15, if_pos q2, q3, if_pos p16, if_pos q4, q5, q6, if_pos q7, if_pos r4, r5, r6, if_pos r7, if_pos q8.1, X5_isLike q8 q9 r8 r9 m1 m2, ob, if_pos alikeF_01]
  exact AskX.same c
def bestA (a : ClT) (p q : Nat) (v : Int32) : Bst := dfs (hutT a.2.2.2.1) (rowOf a) q v 8 [] p 0 v none
theorem rows_call {B : Nat} {f : Fl} {μ ν : Mem} {a : ClT} (c : ClR μ f B a) (g : Grow 0 (fun x => x = 84) (inRows 84) μ ν) (rs : RowsS ν 84) : ClR ν f B a ∧ CallO B μ ν := by
  have h2 := hu_or f
  have h3 := la_or f
  have h4 := ch_or f
  have h5 := bk_or f
  have hB := c.2.2.2.2
  refine ⟨c.gr g (fun x hx z => hx z) rs (fun x hx z => ?_), g.call (by decide) fun x h1 _ => ⟨by omega, fun z => ?_⟩⟩
  · unfold usd at hx
    rcases z with z | z | z <;> omega
  · rcases z with z | z | z <;> omega
theorem row_search {B : Nat} {f : Fl} {μ : Mem} {a : ClT} {p q : Nat} {v : Int32} (c : ClR μ f B a) (hp : p < a.2.2.2.1.1.length) (hq : q < a.2.2.2.1.1.length) : ∃ ν : Mem, LX6_search 84 15 (huA f) (nI p) (nI q) v μ = some ((), ν) ∧ RowsS ν 84 ∧ BstR ν 84 (bestA a p q v) ∧ ClR ν f B a ∧ CallO B μ ν := by
  obtain ⟨h1, h2, h3, h4⟩ := hut_at c
  have hu := hu_or f
  obtain ⟨ν, e1, g1, r1, b1⟩ := X6_search fpNn (h := 84) (s := 15) (hh := huA f) (goal := q) (p := p) (t := hutT a.2.2.2.1) (ρ := rowOf a) (v := v) h4 c.2.2.2.1.2.1 hq hp (by omega) (by omega) c.2.1.2.2.2.2.1 c.2.1.2.2.1 c.2.2.1.2.2.2.2.2.2.2.2.1 h2 h3
  obtain ⟨c2, c3⟩ := rows_call c g1 r1
  exact ⟨ν, e1, r1, b1, c2, c3⟩
def sBest (a : ClT) (v w : Int32) (p q : Nat) : Int32 := match bestA a p q v with
  | none => -1
  | some r => if w = 0 then r.2 else nI r.1.length
theorem X11_best {B : Nat} {f : Fl} {μ : Mem} {a : ClT} {pn qn v w : Int32} (c : ClR μ f B a) : AskX B f μ (LX11_best 1 pn qn v w μ) (if noPen a pn then (.inl 0, rfA a 0) else if noPen a qn then (.inl 0, rfA a 0) else if offB w 0 1 then (.inl 1, rfA a 1) else (.inr (sBest a v w pn.toNatClampNeg qn.toNatClampNeg), a)) := by
  unfold LX11_best
  rw [if_pos c.1.1]
  refine ask_pen (s := fun p => if noPen a qn then (.inl 0, rfA a 0) else if offB w 0 1 then (.inl 1, rfA a 1) else (.inr (sBest a v w p qn.toNatClampNeg), a)) c fun p hp hv => ?_
  refine ask_pen (s := fun q => if offB w 0 1 then (.inl 1, rfA a 1) else (.inr (sBest a v w p q), a)) c fun q hq hv2 => ?_
  refine ask_in c fun hw => ?_
  subst hv
  subst hv2
  obtain ⟨n0, n1, n2, n3, n4, n5, n6, n7⟩ := id c.1
  obtain ⟨h1, h2, h3, h4⟩ := hut_at c
  obtain ⟨ν, e1, r1, b1, c2, c3⟩ := row_search (v := v) c hp hq
  have n6' : g_R ν 1 5 = 84 := c2.1.2.2.2.2.2.2.1
  rw [n6, if_pos (by decide), n4, if_pos p15, h1, if_pos (isK_p h2.1), if_pos c.2.1.2.2.2.2.1.1, e1, ob, n6', if_pos (by decide), if_pos r1.1]
  unfold sBest
  cases hb : bestA a p q v with
  | none =>
    rw [hb] at b1
    have b1 : g_I ν 84 1 = 0 := b1
    rw [if_pos b1]
    exact ⟨ν, rfl, c2, c3⟩
  | some r =>
    rw [hb] at b1
    obtain ⟨b2, b3, b4, b5, b6⟩ := b1
    rw [b2, if_neg (nI_ne0 (by omega) (by omega)), b5]
    show AskX B f μ (if w = 0 then some (Sum.inr r.2, ν) else some (Sum.inr (nI r.1.length), ν)) (.inr (if w = 0 then r.2 else nI r.1.length), a)
    by_cases hw0 : w = 0
    · rw [if_pos hw0, if_pos hw0]; exact ⟨ν, rfl, c2, c3⟩
    · rw [if_neg hw0, if_neg hw0]; exact ⟨ν, rfl, c2, c3⟩
