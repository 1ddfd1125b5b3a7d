/-! ===== the class is told a BOOK ===== -/
def booR (a : ClT) (n : Nat) : Cur × List (Nat × Nat) := bookF (txtO a n) 7 (.inr (sk (txtO a n) 0)) []
def setBk (a : ClT) (l : List (Nat × Nat)) : ClT := (a.1, a.2.1, a.2.2.1, a.2.2.2.1, a.2.2.2.2.1, a.2.2.2.2.2.1, l, a.2.2.2.2.2.2.2)
def sBook (a : ClT) (n : Nat) : (Nat ⊕ Int32) × ClT := match (booR a n).1 with
  | .inl e => (.inr (nI e.1 - 10), txtA a (nI e.2))
  | .inr _ => (.inr (nI (booR a n).2.length), setBk (txtA a (-1)) (booR a n).2)
theorem ClR.swapBk {μ : Mem} {f : Fl} {B : Nat} {a : ClT} {l : List (Nat × Nat)} (c : ClR μ f B a) (h : BkR μ (bkB f) l) : ClR (p_R (p_R μ 1 15 (bkB f)) 1 16 (bkA f)) (f.1, f.2.1, f.2.2.1, !f.2.2.2) B (setBk a l) := by
  have e1 : bkA (f.1, f.2.1, f.2.2.1, !f.2.2.2) = bkB f := by unfold bkA bkB; cases f.2.2.2 <;> rfl
  have e2 : bkB (f.1, f.2.1, f.2.2.1, !f.2.2.2) = bkA f := by unfold bkA bkB; cases f.2.2.2 <;> rfl
  have g : Grow 0 (fun x => x = 1) (fun _ => False) μ (p_R (p_R μ 1 15 (bkB f)) 1 16 (bkA f)) := (Grow.pR (n := 0)).tr (Grow.pR (n := 0)) (Nat.le_refl 0)
  obtain ⟨c1, c2, ⟨w1, w2, w3, w4, w5, w6, w7, w8, w9, w10, w11⟩, c4, c5⟩ := id c
  obtain ⟨n0, n1, n2, n3, n4, n5, n6, n7, n8, n9, n10, n11, n12, n13, n14, n15, n16, n17⟩ := id c1
  have r : ∀ k, k ≠ 15 → k ≠ 16 → g_R (p_R (p_R μ 1 15 (bkB f)) 1 16 (bkA f)) 1 k = g_R μ 1 k := fun k h1 h2 => by rw [gR_k h2, gR_k h1]
  refine ⟨⟨g.k n0, by rw [r 0 (by decide) (by decide)]; exact n1, by rw [r 1 (by decide) (by decide)]; exact n2, by rw [r 2 (by decide) (by decide)]; exact n3, by rw [r 3 (by decide) (by decide)]; exact n4, by rw [r 4 (by decide) (by decide)]; exact n5, by rw [r 5 (by decide) (by decide)]; exact n6, by rw [r 6 (by decide) (by decide)]; exact n7, by rw [r 7 (by decide) (by decide)]; exact n8, by rw [r 8 (by decide) (by decide)]; exact n9, by rw [r 9 (by decide) (by decide)]; exact n10, by rw [r 10 (by decide) (by decide)]; exact n11, by rw [r 11 (by decide) (by decide)]; exact n12, by rw [r 12 (by decide) (by decide)]; exact n13, by rw [r 13 (by decide) (by decide)]; exact n14, by rw [r 14 (by decide) (by decide)]; exact n15, by rw [e1, gR_k (by decide), gR_s], by rw [e2, gR_s]⟩, ?_, ⟨w1, w2, w3, w4, w5, w6, by rw [e1]; exact h, w8.fr g (fun x hx z => by omega) (fun _ _ z => z), w9.pR.pR, w10, w11⟩, c4, c5⟩
  obtain ⟨s1, s2, s3, s4, s5, s6, ⟨s7, s7'⟩, ⟨s8, s8'⟩, ⟨s9, s9'⟩, ⟨s10, s10'⟩, ⟨s11, s11'⟩, s12, s12'⟩ := c2
  exact ⟨s1.gr g (by decide), s2.gr g (by decide), s3.gr g (fun x hx z => by obtain ⟨z1, z2⟩ := hx; omega), s4.gr g (fun x h1 h2 z => by omega), s5.gr g (by decide), s6.gr g (by decide), ⟨g.k s7, by rw [g.N s7]; exact s7'⟩, ⟨g.k s8, by rw [g.N s8]; exact s8'⟩, ⟨s9.gr g (by decide), s9'.gr g (by decide)⟩, ⟨s10.gr g (by decide), s10'.gr g (by decide)⟩, ⟨s11.gr g (by decide), s11'.gr g (by decide)⟩, s12.gr g (by decide), s12'.gr g (by decide)⟩
theorem X11_book {B : Nat} {f : Fl} {μ : Mem} {a : ClT} {v : Int32} (c : ClR μ f B a) : AskT B μ (LX11_book 1 v μ) (if v < 0 ∨ ¬ v ≤ (if nI a.2.1 < 60 then nI a.2.1 else 60) then (.inl 1, rfA a 1) else sBook a v.toNatClampNeg) := by
  unfold LX11_book
  rw [if_pos c.1.1, X11_needText c]
  by_cases h : v < 0 ∨ ¬ v ≤ (if nI a.2.1 < 60 then nI a.2.1 else 60)
  · rw [if_pos h, if_pos h, obX_l]
    obtain ⟨ν, e1, c1, c2⟩ := AskX.no (k := 1) (w := 6) c (by decide) (by decide)
    exact ⟨ν, f, e1, c1, c2⟩
  rw [if_neg h, if_neg h, obX_r]
  obtain ⟨n, hn, hn2, rfl⟩ := text_len (m := 60) c rfl (by decide) h
  obtain ⟨n0, n1, n2, n3, n4, n5, n6, n7, n8, n9, n10, n11, n12, n13, n14, n15, n16, n17⟩ := id c.1
  have p2 : (0 : Nat) < 2 := by decide
  have hc := ch_or f
  have hbk := bk_or f
  have hla := la_or f
  have hu := hu_or f
  have hB := c.2.2.2.2
  rw [n1, if_pos p2, if_pos c.2.1.1.1, nI_clamp (show n < 2147483648 by omega)]
  obtain ⟨ν, e1, o1, t1, m1⟩ := X9_open (a := a) c.2.1.1 c.2.2.1.1 (show n ≤ 600 by omega)
  have gR1 : g_R ν = g_R μ := sh_gR o1.1
  have kB : BkS ν (bkB f) := by
    rcases hbk with ⟨-, h⟩ | ⟨-, h⟩ <;> rw [h]
    · exact c.2.1.2.2.2.2.2.2.2.2.2.2.2.2.sh o1.1
    · exact c.2.1.2.2.2.2.2.2.2.2.2.2.2.1.sh o1.1
  rw [e1, ob, gR1, n17, if_pos (isK_p kB.1), n1, if_pos p2, if_pos kB.1]
  obtain ⟨m20, e2, o2, t2, g2⟩ := X0_parse (show 2 + 2 ≤ bkB f ∨ bkB f + 3 ≤ 2 by omega) kB t1
  have oo : Out (inBk 2 (bkB f)) μ m20 := (o1.mo fun x hx => Or.inl hx).tr o2
  have gR2 : g_R m20 = g_R μ := sh_gR oo.1
  have h11 : g_I m20 2 1 = nI 0 := t2.2.1.2.2.2
  have t2 : TpR m20 2 (txtO a n) (booR a n).1 := t2
  have g2 : ∀ b, (booR a n).1 = .inr b → BkR m20 (bkB f) (booR a n).2 := g2
  have cl : ClR m20 f B (txtA a (plC (booR a n).1)) := c.txt oo (fun x hx hx2 z => by unfold usd at hx; unfold inBk at z; omega) h11 t2.pl
  have co : CallO B μ m20 := (oo.gr (SR := fun _ => False)).call (by decide) fun x h1 h2 => ⟨fun z => z, by unfold inBk; omega⟩
  rw [e2, ob, gR2, n1, if_pos p2, if_pos t2.1.1, X9_failedE t2, ob]
  unfold sBook
  cases hr : (booR a n).1 with
  | inl e =>
    rw [hr] at t2 cl
    rw [show errI (.inl e) = 1 from rfl, if_neg (by decide), gR2, n1, if_pos p2, if_pos t2.1.1, show g_I m20 2 2 = nI e.1 from t2.2.2.1]
    exact ⟨m20, f, rfl, cl, co⟩
  | inr b =>
    rw [hr] at t2 cl
    have kA : isK m20 (bkA f) 0 = true := by
      rw [sh_isK oo.1]
      rcases hbk with ⟨h, -⟩ | ⟨h, -⟩ <;> rw [h]
      · exact c.2.1.2.2.2.2.2.2.2.2.2.2.2.1.1
      · exact c.2.1.2.2.2.2.2.2.2.2.2.2.2.2.1
    have kB2 : isK m20 (bkB f) 0 = true := by rw [sh_isK o2.1]; exact kB.1
    have r13 : g_R (p_R (p_R m20 1 15 (bkB f)) 1 16 (bkA f)) 1 15 = bkB f := by rw [gR_k (by decide), gR_s]
    rw [show errI (.inr b) = 0 from rfl, if_pos rfl, gR2, n16, if_pos (isK_p kA), if_pos kA, n17, if_pos (isK_p kB.1), r13, if_pos (isK_p kB.1), if_pos kB2, show g_I m20 (bkB f) 2 = nI (booR a n).2.length from (g2 b hr).1]
    have cs := cl.swapBk (g2 b hr)
    have cg : Grow 0 (fun x => x = 1) (fun _ => False) m20 (p_R (p_R m20 1 15 (bkB f)) 1 16 (bkA f)) := (Grow.pR (n := 0)).tr (Grow.pR (n := 0)) (Nat.le_refl 0)
    have c0 : Grow 0 (fun x => x = 1) (inBk 2 (bkB f)) μ (p_R (p_R m20 1 15 (bkB f)) 1 16 (bkA f)) := (oo.gr).tr (cg.mo (Nat.le_refl 0) (fun _ _ z => z) (fun _ _ z => z.elim)) (Nat.le_refl 0)
    exact ⟨_, _, rfl, cs, c0.call (by decide) fun x h1 h2 => ⟨by omega, by unfold inBk; omega⟩⟩
