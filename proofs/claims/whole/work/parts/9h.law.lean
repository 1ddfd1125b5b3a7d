/-! ===== the class is told a LAW ===== -/
def lawR (a : ClT) (n : Nat) : LwT := lawF (txtO a n) (.inr (sk (txtO a n) 0))
def setLa (a : ClT) (l : OpsT) : ClT := (a.1, a.2.1, a.2.2.1, a.2.2.2.1, l, a.2.2.2.2.2)
def sLaw (a : ClT) (n : Nat) : (Nat ⊕ Int32) × ClT := match (lawR a n).1 with
  | .inl e => (.inr (nI e.1 - 10), txtA a (nI e.2))
  | .inr _ => (.inr 1, setLa (txtA a (-1)) (lawR a n).2)
theorem ClR.swapLa {μ : Mem} {f : Fl} {B : Nat} {a : ClT} {l : OpsT} (c : ClR μ f B a) (h : LawR μ (laB f) l) : ClR (p_R (p_R μ 1 11 (laB f)) 1 12 (laA f)) (f.1, !f.2.1, f.2.2) B (setLa a l) := by
  have e1 : laA (f.1, !f.2.1, f.2.2) = laB f := by unfold laA laB; cases f.2.1 <;> rfl
  have e2 : laB (f.1, !f.2.1, f.2.2) = laA f := by unfold laA laB; cases f.2.1 <;> rfl
  have g : Grow 0 (fun x => x = 1) (fun _ => False) μ (p_R (p_R μ 1 11 (laB f)) 1 12 (laA f)) := (Grow.pR (n := 0)).tr (Grow.pR (n := 0)) (Nat.le_refl 0)
  obtain ⟨c1, c2, ⟨w1, w2, w3, w4, w5, w6, w7, w8, w9, w10, w11⟩, c4, c5⟩ := id c
  obtain ⟨n0, n1, n2, n3, n4, n5, n6, n7, n8, n9, n10, n11, n12, n13, n14, n15, n16, n17⟩ := id c1
  have r : ∀ k, k ≠ 11 → k ≠ 12 → g_R (p_R (p_R μ 1 11 (laB f)) 1 12 (laA f)) 1 k = g_R μ 1 k := fun k h1 h2 => by rw [gR_k h2, gR_k h1]
  refine ⟨⟨g.k n0, by rw [r 0 (by decide) (by decide)]; exact n1, by rw [r 1 (by decide) (by decide)]; exact n2, by rw [r 2 (by decide) (by decide)]; exact n3, by rw [r 3 (by decide) (by decide)]; exact n4, by rw [r 4 (by decide) (by decide)]; exact n5, by rw [r 5 (by decide) (by decide)]; exact n6, by rw [r 6 (by decide) (by decide)]; exact n7, by rw [r 7 (by decide) (by decide)]; exact n8, by rw [r 8 (by decide) (by decide)]; exact n9, by rw [r 9 (by decide) (by decide)]; exact n10, by rw [r 10 (by decide) (by decide)]; exact n11, by rw [e1, gR_k (by decide), gR_s], by rw [e2, gR_s], by rw [r 13 (by decide) (by decide)]; exact n14, by rw [r 14 (by decide) (by decide)]; exact n15, by rw [r 15 (by decide) (by decide)]; exact n16, by rw [r 16 (by decide) (by decide)]; exact n17⟩, ?_, ⟨w1, w2, w3, w4, by rw [e1]; exact h, w6, w7, w8.fr g (fun x hx z => by omega) (fun _ _ z => z), w9.pR.pR, w10, w11⟩, c4, c5⟩
  obtain ⟨s1, s2, s3, s4, s5, s6, ⟨s7, s7'⟩, ⟨s8, s8'⟩, ⟨s9, s9'⟩, ⟨s10, s10'⟩, ⟨s11, s11'⟩, s12, s12'⟩ := c2
  exact ⟨s1.gr g (by decide), s2.gr g (by decide), s3.gr g (fun x hx z => by obtain ⟨z1, z2⟩ := hx; omega), s4.gr g (fun x h1 h2 z => by omega), s5.gr g (by decide), s6.gr g (by decide), ⟨g.k s7, by rw [g.N s7]; exact s7'⟩, ⟨g.k s8, by rw [g.N s8]; exact s8'⟩, ⟨s9.gr g (by decide), s9'.gr g (by decide)⟩, ⟨s10.gr g (by decide), s10'.gr g (by decide)⟩, ⟨s11.gr g (by decide), s11'.gr g (by decide)⟩, s12.gr g (by decide), s12'.gr g (by decide)⟩
theorem X11_law {B : Nat} {f : Fl} {μ : Mem} {a : ClT} {v : Int32} (c : ClR μ f B a) : AskT B μ (LX11_law 1 v μ) (if v < 0 ∨ ¬ v ≤ (if nI a.2.1 < 150 then nI a.2.1 else 150) then (.inl 1, rfA a 1) else sLaw a v.toNatClampNeg) := by
  unfold LX11_law
  rw [if_pos c.1.1, X11_needText c]
  by_cases h : v < 0 ∨ ¬ v ≤ (if nI a.2.1 < 150 then nI a.2.1 else 150)
  · rw [if_pos h, if_pos h, obX_l]
    obtain ⟨ν, e1, c1, c2⟩ := AskX.no (k := 1) (w := 6) c (by decide) (by decide)
    exact ⟨ν, f, e1, c1, c2⟩
  rw [if_neg h, if_neg h, obX_r]
  obtain ⟨n, hn, hn2, rfl⟩ := text_len (m := 150) c rfl (by decide) h
  obtain ⟨n0, n1, n2, n3, n4, n5, n6, n7, n8, n9, n10, n11, n12, n13, n14, n15, n16, n17⟩ := id c.1
  have p2 : (0 : Nat) < 2 := by decide
  have hc := ch_or f
  have hbk := bk_or f
  have hla := la_or f
  have hu := hu_or f
  have hB := c.2.2.2.2
  rw [n1, if_pos p2, if_pos c.2.1.1.1, nI_clamp (show n < 2147483648 by omega)]
  obtain ⟨ν, e1, o1, t1, m1⟩ := X9_open (a := a) c.2.1.1 c.2.2.1.1 (show n ≤ 600 by omega)
  have gR1 : g_R ν = g_R μ := sh_gR o1.1
  have kB : LawS ν (laB f) := by
    rcases hla with ⟨-, h⟩ | ⟨-, h⟩ <;> rw [h]
    · exact c.2.1.2.2.2.2.2.2.2.2.2.1.2.sh o1.1
    · exact c.2.1.2.2.2.2.2.2.2.2.2.1.1.sh o1.1
  rw [e1, ob, gR1, n13, if_pos (isK_p kB.1), n1, if_pos p2, if_pos kB.1]
  obtain ⟨m20, e2, o2, t2, g2⟩ := X4_parse (show 2 + 2 ≤ laB f ∨ laB f + 5 ≤ 2 by omega) (show n ≤ 150 by omega) kB t1
  have oo : Out (inLw 2 (laB f)) μ m20 := (o1.mo fun x hx => Or.inl hx).tr o2
  have gR2 : g_R m20 = g_R μ := sh_gR oo.1
  have h11 : g_I m20 2 1 = nI 0 := t2.2.1.2.2.2
  have t2 : TpR m20 2 (txtO a n) (lawR a n).1 := t2
  have g2 : ∀ b, (lawR a n).1 = .inr b → LawP m20 (laB f) (lawR a n).2 := g2
  have cl : ClR m20 f B (txtA a (plC (lawR a n).1)) := c.txt oo (fun x hx hx2 z => by unfold usd at hx; unfold inLw at z; omega) h11 t2.pl
  have co : CallO B μ m20 := (oo.gr (SR := fun _ => False)).call (by decide) fun x h1 h2 => ⟨fun z => z, by unfold inLw; omega⟩
  rw [e2, ob, gR2, n1, if_pos p2, if_pos t2.1.1, X9_failedE t2, ob]
  unfold sLaw
  cases hr : (lawR a n).1 with
  | inl e =>
    rw [hr] at t2 cl
    rw [show errI (.inl e) = 1 from rfl, if_neg (by decide), gR2, n1, if_pos p2, if_pos t2.1.1, show g_I m20 2 2 = nI e.1 from t2.2.2.1]
    exact ⟨m20, f, rfl, cl, co⟩
  | inr b =>
    rw [hr] at t2 cl
    have kA : isK m20 (laA f) 4 = true := by
      rw [sh_isK oo.1]
      rcases hla with ⟨h, -⟩ | ⟨h, -⟩ <;> rw [h]
      · exact c.2.1.2.2.2.2.2.2.2.2.2.1.1.1
      · exact c.2.1.2.2.2.2.2.2.2.2.2.1.2.1
    rw [show errI (.inr b) = 0 from rfl, if_pos rfl, gR2, n12, if_pos (isK_p kA), if_pos kA, n13, if_pos (isK_p kB.1)]
    have cs := cl.swapLa ((g2 b hr).r (lawF_w hr))
    have cg : Grow 0 (fun x => x = 1) (fun _ => False) m20 (p_R (p_R m20 1 11 (laB f)) 1 12 (laA f)) := (Grow.pR (n := 0)).tr (Grow.pR (n := 0)) (Nat.le_refl 0)
    have c0 : Grow 0 (fun x => x = 1) (inLw 2 (laB f)) μ (p_R (p_R m20 1 11 (laB f)) 1 12 (laA f)) := (oo.gr).tr (cg.mo (Nat.le_refl 0) (fun _ _ z => z) (fun _ _ z => z.elim)) (Nat.le_refl 0)
    exact ⟨_, _, rfl, cs, c0.call (by decide) fun x h1 h2 => ⟨by omega, by unfold inLw; omega⟩⟩
