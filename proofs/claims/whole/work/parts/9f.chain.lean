/-! ===== the class is told a CHAIN ===== -/
def AskT (B : Nat) (μ : Mem) (o : Option ((Nat ⊕ Int32) × Mem)) (s : (Nat ⊕ Int32) × ClT) : Prop := ∃ (μ' : Mem) (f' : Fl), o = some (s.1, μ') ∧ ClR μ' f' B s.2 ∧ CallO B μ μ'
theorem chainF_lt {x : Txt} {np : Nat} (hn : np < 2147483648) : ∀ (f : Nat) (c : Cur) (l : List Nat), (∀ p, p ∈ l → p < np) → ∀ p, p ∈ (chainF x (nI np - 1) f c l).2 → p < np := by
  intro f
  induction f with
  | zero => intro c l h; exact h
  | succ f ih =>
    intro c l h
    cases c with
    | inl e => exact h
    | inr a =>
      have eF : chainF x (nI np - 1) (f + 1) (.inr a) l = if a < x.2 then (match numF x (nI np - 1) a with
        | .inl e => (.inl e, l)
        | .inr v => if l.length < 12 then chainF x (nI np - 1) f (needF x 59 (.inr v.2)) (l ++ [v.1]) else (.inl (3, a), l)) else (.inr a, l) := rfl
      rw [eF]
      by_cases ha : a < x.2
      · rw [if_pos ha]
        cases hv : numF x (nI np - 1) a with
        | inl e => exact h
        | inr v =>
          show ∀ p, p ∈ (if l.length < 12 then chainF x (nI np - 1) f (needF x 59 (.inr v.2)) (l ++ [v.1]) else (.inl (3, a), l)).2 → p < np
          by_cases hl : l.length < 12
          · rw [if_pos hl]
            refine ih _ _ fun p hp => ?_
            rcases List.mem_append.mp hp with hp | hp
            · exact h p hp
            · rw [List.mem_singleton.mp hp]; exact numF_pen (v := v.1) (b := v.2) hv hn
          · rw [if_neg hl]; exact h
      · rw [if_neg ha]; exact h
def txtO (a : ClT) (n : Nat) : Txt := (a.1, n)
def chaR (a : ClT) (n : Nat) : Cur × List Nat := chainF (txtO a n) (nI (penN a) - 1) 13 (.inr (sk (txtO a n) 0)) []
def setCh (a : ClT) (l : List Nat) : ClT := (a.1, a.2.1, a.2.2.1, a.2.2.2.1, a.2.2.2.2.1, l, a.2.2.2.2.2.2)
def sChain (a : ClT) (n : Nat) : (Nat ⊕ Int32) × ClT := match (chaR a n).1 with
  | .inl e => (.inr (nI e.1 - 10), txtA a (nI e.2))
  | .inr _ => (.inr (nI (chaR a n).2.length), setCh (txtA a (-1)) (chaR a n).2)
theorem ClR.swapCh {μ : Mem} {f : Fl} {B : Nat} {a : ClT} {l : List Nat} (c : ClR μ f B a) (h : ChR μ (chB f) l) (hl : ∀ p, p ∈ l → p < penN a) : ClR (p_R (p_R μ 1 13 (chB f)) 1 14 (chA f)) (f.1, f.2.1, !f.2.2.1, f.2.2.2) B (setCh a l) ∧ chA (f.1, f.2.1, !f.2.2.1, f.2.2.2) = chB f := by
  have e1 : chA (f.1, f.2.1, !f.2.2.1, f.2.2.2) = chB f := by unfold chA chB; cases f.2.2.1 <;> rfl
  have e2 : chB (f.1, f.2.1, !f.2.2.1, f.2.2.2) = chA f := by unfold chA chB; cases f.2.2.1 <;> rfl
  refine ⟨?_, e1⟩
  have g : Grow 0 (fun x => x = 1) (fun _ => False) μ (p_R (p_R μ 1 13 (chB f)) 1 14 (chA f)) := (Grow.pR (n := 0)).tr (Grow.pR (n := 0)) (Nat.le_refl 0)
  obtain ⟨c1, c2, ⟨w1, w2, w3, w4, w5, w6, w7, w8, w9, w10, w11⟩, c4, c5⟩ := id c
  obtain ⟨n0, n1, n2, n3, n4, n5, n6, n7, n8, n9, n10, n11, n12, n13, n14, n15, n16, n17⟩ := id c1
  have r : ∀ k, k ≠ 13 → k ≠ 14 → g_R (p_R (p_R μ 1 13 (chB f)) 1 14 (chA f)) 1 k = g_R μ 1 k := fun k h1 h2 => by rw [gR_k h2, gR_k h1]
  refine ⟨⟨g.k n0, by rw [r 0 (by decide) (by decide)]; exact n1, by rw [r 1 (by decide) (by decide)]; exact n2, by rw [r 2 (by decide) (by decide)]; exact n3, by rw [r 3 (by decide) (by decide)]; exact n4, by rw [r 4 (by decide) (by decide)]; exact n5, by rw [r 5 (by decide) (by decide)]; exact n6, by rw [r 6 (by decide) (by decide)]; exact n7, by rw [r 7 (by decide) (by decide)]; exact n8, by rw [r 8 (by decide) (by decide)]; exact n9, by rw [r 9 (by decide) (by decide)]; exact n10, by rw [r 10 (by decide) (by decide)]; exact n11, by rw [r 11 (by decide) (by decide)]; exact n12, by rw [r 12 (by decide) (by decide)]; exact n13, by rw [e1, gR_k (by decide), gR_s], by rw [e2, gR_s], by rw [r 15 (by decide) (by decide)]; exact n16, by rw [r 16 (by decide) (by decide)]; exact n17⟩, ?_, ⟨w1, w2, w3, w4, w5, ⟨by rw [e1]; exact h, hl⟩, w7, w8.fr g (fun x hx z => by omega) (fun _ _ z => z), w9.pR.pR, w10, w11⟩, c4, c5⟩
  -- its things: no name of theirs is 1's
  obtain ⟨s1, s2, s3, s4, s5, s6, ⟨s7, s7'⟩, ⟨s8, s8'⟩, ⟨s9, s9'⟩, ⟨s10, s10'⟩, ⟨s11, s11'⟩, s12, s12'⟩ := c2
  exact ⟨s1.gr g (by decide), s2.gr g (by decide), s3.gr g (fun x hx z => by obtain ⟨z1, z2⟩ := hx; omega), s4.gr g (fun x h1 h2 z => by omega), s5.gr g (by decide), s6.gr g (by decide), ⟨g.k s7, by rw [g.N s7]; exact s7'⟩, ⟨g.k s8, by rw [g.N s8]; exact s8'⟩, ⟨s9.gr g (by decide), s9'.gr g (by decide)⟩, ⟨s10.gr g (by decide), s10'.gr g (by decide)⟩, ⟨s11.gr g (by decide), s11'.gr g (by decide)⟩, s12.gr g (by decide), s12'.gr g (by decide)⟩
theorem X11_chain {B : Nat} {f : Fl} {μ : Mem} {a : ClT} {v : Int32} (c : ClR μ f B a) : AskT B μ (LX11_chain 1 v μ) (if v < 0 ∨ ¬ v ≤ (if nI a.2.1 < 60 then nI a.2.1 else 60) then (.inl 1, rfA a 1) else sChain a v.toNatClampNeg) := by
  unfold LX11_chain
  rw [if_pos c.1.1, X11_needText c]
  by_cases h : v < 0 ∨ ¬ v ≤ (if nI a.2.1 < 60 then nI a.2.1 else 60)
  · rw [if_pos h, if_pos h, obX_l]
    obtain ⟨ν, e1, c1, c2⟩ := AskX.no (k := 1) (w := 6) c (by decide) (by decide)
    exact ⟨ν, f, e1, c1, c2⟩
  rw [if_neg h, if_neg h, obX_r]
  obtain ⟨n, hn, hn2, rfl⟩ := text_len (m := 60) c rfl (by decide) h
  obtain ⟨n0, n1, n2, n3, n4, n5, n6, n7, n8, n9, n10, n11, n12, n13, n14, n15, n16, n17⟩ := id c.1
  have p2 : (0 : Nat) < 2 := by decide
  have hc := ch_or f
  obtain ⟨h1, h2, h3, h4⟩ := hut_at c
  rw [n1, if_pos p2, if_pos c.2.1.1.1, nI_clamp (show n < 2147483648 by omega)]
  obtain ⟨ν, e1, o1, t1, m1⟩ := X9_open (a := a) c.2.1.1 c.2.2.1.1 (show n ≤ 600 by omega)
  have gR1 : g_R ν = g_R μ := sh_gR o1.1
  have kB : ChS ν (chB f) := by
    rcases hc with ⟨-, h⟩ | ⟨-, h⟩ <;> rw [h]
    · exact c.2.1.2.2.2.2.2.2.2.2.2.2.1.2.sh o1.1
    · exact c.2.1.2.2.2.2.2.2.2.2.2.2.1.1.sh o1.1
  have hu := hu_or f
  have eh : g_I ν (huA f) 0 = nI (penN a) := by rw [(o1.2 (huA f) (by omega)).1]; exact h3.1
  rw [e1, ob, gR1, n15, if_pos (isK_p kB.1), n1, if_pos p2, h1, if_pos (isK_p h2.1), if_pos (show isK ν (huA f) 3 = true by rw [sh_isK o1.1]; exact h2.1), if_pos kB.1, eh]
  obtain ⟨m20, e2, o2, t2, g2⟩ := X1_parse (np := penN a) (show 2 + 2 ≤ chB f ∨ chB f + 2 ≤ 2 by omega) kB t1
  have oo : Out (fun x => x = 2 ∨ x = chB f ∨ x = chB f + 1) μ m20 := (o1.mo fun x hx => Or.inl hx).tr o2
  have gR2 : g_R m20 = g_R μ := sh_gR oo.1
  have h11 : g_I m20 2 1 = nI 0 := t2.2.1.2.2.2
  have t2 : TpR m20 2 (txtO a n) (chaR a n).1 := t2
  have g2 : ∀ b, (chaR a n).1 = .inr b → ChR m20 (chB f) (chaR a n).2 := g2
  have hbk := bk_or f
  have hla := la_or f
  have hB := c.2.2.2.2
  have cl : ClR m20 f B (txtA a (plC (chaR a n).1)) := c.txt oo (fun x hx hx2 z => by unfold usd at hx; omega) h11 t2.pl
  have co : CallO B μ m20 := (oo.gr (SR := fun _ => False)).call (by decide) fun x h1 h2 => ⟨fun z => z, by omega⟩
  rw [e2, ob, gR2, n1, if_pos p2, if_pos t2.1.1, X9_failedE t2, ob]
  unfold sChain
  cases hr : (chaR a n).1 with
  | inl e =>
    rw [hr] at t2 cl
    rw [show errI (.inl e) = 1 from rfl, if_neg (by decide), gR2, n1, if_pos p2, if_pos t2.1.1, show g_I m20 2 2 = nI e.1 from t2.2.2.1]
    exact ⟨m20, f, rfl, cl, co⟩
  | inr b =>
    rw [hr] at t2 cl
    have kA : isK m20 (chA f) 1 = true := by
      rw [sh_isK oo.1]
      rcases hc with ⟨h, -⟩ | ⟨h, -⟩ <;> rw [h]
      · exact c.2.1.2.2.2.2.2.2.2.2.2.2.1.1.1
      · exact c.2.1.2.2.2.2.2.2.2.2.2.2.1.2.1
    have kB2 : isK m20 (chB f) 1 = true := by rw [sh_isK o2.1]; exact kB.1
    have r13 : g_R (p_R (p_R m20 1 13 (chB f)) 1 14 (chA f)) 1 13 = chB f := by rw [gR_k (by decide), gR_s]
    rw [show errI (.inr b) = 0 from rfl, if_pos rfl, gR2, n14, if_pos (isK_p kA), if_pos kA, n15, if_pos (isK_p kB.1), r13, if_pos (isK_p kB.1), if_pos kB2, show g_I m20 (chB f) 1 = nI (chaR a n).2.length from (g2 b hr).1]
    obtain ⟨cs, -⟩ := cl.swapCh (g2 b hr) (chainF_lt (by have : penN a ≤ 8 := c.2.2.2.1.1.1; omega) 13 _ [] (fun p hp => absurd hp List.not_mem_nil))
    have cg : Grow 0 (fun x => x = 1) (fun _ => False) m20 (p_R (p_R m20 1 13 (chB f)) 1 14 (chA f)) := (Grow.pR (n := 0)).tr (Grow.pR (n := 0)) (Nat.le_refl 0)
    have c0 : Grow 0 (fun x => x = 1) (fun x => x = 2 ∨ x = chB f ∨ x = chB f + 1) μ (p_R (p_R m20 1 13 (chB f)) 1 14 (chA f)) := (oo.gr).tr (cg.mo (Nat.le_refl 0) (fun _ _ z => z) (fun _ _ z => z.elim)) (Nat.le_refl 0)
    exact ⟨_, _, rfl, cs, c0.call (by decide) fun x h1 h2 => ⟨by omega, by omega⟩⟩
