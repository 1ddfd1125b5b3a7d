/-! ===== the class is told a HUT ===== -/
def hutRd (a : ClT) (n : Nat) : Cur × HutL := hutF (txtO a n) 61 0 (.inr (sk (txtO a n) 0)) hutL0
def newA (a : ClT) (l : HutL) : ClT := (a.1, a.2.1, a.2.2.1, l, law0, [], [], (0, (hisA a).2.1, 0, (hisA a).2.2.2), row0 (hutT l), 0, a.2.2.2.2.2.2.2.2.2.2)
def sHut (a : ClT) (n : Nat) : (Nat ⊕ Int32) × ClT := match (hutRd a n).1 with
  | .inl e => (.inr (nI e.1 - 10), txtA a (nI e.2))
  | .inr _ => (.inr (nI (hutRd a n).2.1.length), newA (txtA a (-1)) (hutRd a n).2)
def inHu (f : Fl) : Nat → Prop := fun x => x = 1 ∨ x = 2 ∨ inHut (huB f) x ∨ inSt 15 x ∨ x = laA f ∨ x = laA f + 2 ∨ x = laA f + 3 ∨ x = chA f ∨ x = bkA f ∨ x = 10
theorem X11_hut {B : Nat} {f : Fl} {μ : Mem} {a : ClT} {v : Int32} (c : ClR μ f B a) : AskT B μ (LX11_hut 1 v μ) (if v < 0 ∨ ¬ v ≤ (if nI a.2.1 < 600 then nI a.2.1 else 600) then (.inl 1, rfA a 1) else sHut a v.toNatClampNeg) := by
  unfold LX11_hut
  rw [if_pos c.1.1, X11_needText c]
  by_cases h : v < 0 ∨ ¬ v ≤ (if nI a.2.1 < 600 then nI a.2.1 else 600)
  · rw [if_pos h, if_pos h, obX_l]
    obtain ⟨ν, e1, c1, c2⟩ := AskX.no (k := 1) (w := 6) c (by decide) (by decide)
    exact ⟨ν, f, e1, c1, c2⟩
  rw [if_neg h, if_neg h, obX_r]
  obtain ⟨n, hn, hn2, rfl⟩ := text_len (m := 600) c rfl (by decide) h
  obtain ⟨n0, n1, n2, n3, n4, n5, n6, n7, n8, n9, n10, n11, n12, n13, n14, n15, n16, n17⟩ := id c.1
  have p2 : (0 : Nat) < 2 := by decide
  have p10 : (0 : Nat) < 10 := by decide
  have hc := ch_or f
  have hbk := bk_or f
  have hla := la_or f
  have hu := hu_or f
  have hB := c.2.2.2.2
  rw [n1, if_pos p2, if_pos c.2.1.1.1, nI_clamp (show n < 2147483648 by omega)]
  obtain ⟨ν, e1, o1, t1, m1⟩ := X9_open (a := a) c.2.1.1 c.2.2.1.1 hn
  have gR1 : g_R ν = g_R μ := sh_gR o1.1
  have kB0 : HutS μ (huB f) := by
    rcases hu with ⟨-, h⟩ | ⟨-, h⟩ <;> rw [h]
    · exact c.2.1.2.2.2.2.2.2.2.2.1.2
    · exact c.2.1.2.2.2.2.2.2.2.2.1.1
  have kB : HutS ν (huB f) := kB0.sh o1.1
  rw [e1, ob, gR1, n11, if_pos (isK_p kB.1), n1, if_pos p2, if_pos kB.1]
  obtain ⟨m20, e2, o2, t2, g2⟩ := X3_parse (show 2 + 2 ≤ huB f ∨ huB f + 6 ≤ 2 by omega) kB t1
  have oo : Out (inHt 2 (huB f)) μ m20 := (o1.mo fun x hx => Or.inl hx).tr o2
  have gR2 : g_R m20 = g_R μ := sh_gR oo.1
  have h11 : g_I m20 2 1 = nI 0 := t2.2.1.2.2.2
  have t2 : TpR m20 2 (txtO a n) (hutRd a n).1 := t2
  have g2 : ∀ b, (hutRd a n).1 = .inr b → HutH m20 (huB f) (hutRd a n).2 := g2
  rw [e2, ob, gR2, n1, if_pos p2, if_pos t2.1.1, X9_failedE t2, ob]
  unfold sHut
  cases hr : (hutRd a n).1 with
  | inl e =>
    have cl : ClR m20 f B (txtA a (plC (hutRd a n).1)) := c.txt oo (fun x hx hx2 z => by unfold usd at hx; unfold inHt inHut at z; omega) h11 t2.pl
    have co : CallO B μ m20 := (oo.gr (SR := fun _ => False)).call (by decide) fun x h1 h2 => ⟨fun z => z, by unfold inHt inHut; omega⟩
    rw [hr] at t2 cl
    rw [show errI (.inl e) = 1 from rfl, if_neg (by decide), gR2, n1, if_pos p2, if_pos t2.1.1, show g_I m20 2 2 = nI e.1 from t2.2.2.1]
    exact ⟨m20, f, rfl, cl, co⟩
  | inr b =>
    have hl := g2 b hr
    have lok : LOk (hutRd a n).2 := hutF_ok 61 0 _ _ hutL0_ok
    rw [hr] at t2
    generalize (hutRd a n).2 = l at hl lok ⊢
    have pl : g_I m20 2 3 = -1 := t2.pl
    have kA : isK m20 (huA f) 3 = true := by
      rw [sh_isK oo.1]
      rcases hu with ⟨h, -⟩ | ⟨h, -⟩ <;> rw [h]
      · exact c.2.1.2.2.2.2.2.2.2.2.1.1.1
      · exact c.2.1.2.2.2.2.2.2.2.2.1.2.1
    have k15 : isK m20 15 8 = true := by rw [sh_isK oo.1]; exact c.2.1.2.2.1.1
    rw [show errI (.inr b) = 0 from rfl, if_pos rfl, gR2, n10, if_pos (isK_p kA), if_pos kA, n11, if_pos (isK_p kB.1)]
    obtain ⟨ν2, hν⟩ : ∃ ν2, ν2 = p_R (p_R m20 1 9 (huB f)) 1 10 (huA f) := ⟨_, rfl⟩
    rw [← hν]
    have r : ∀ k, k ≠ 9 → k ≠ 10 → g_R ν2 1 k = g_R μ 1 k := fun k h1 h2 => by rw [hν, gR_k h2, gR_k h1, gR2]
    have r9 : g_R ν2 1 9 = huB f := by rw [hν, gR_k (by decide), gR_s]
    have r10 : g_R ν2 1 10 = huA f := by rw [hν, gR_s]
    have cg : Grow 0 (fun x => x = 1) (fun _ => False) m20 ν2 := by rw [hν]; exact (Grow.pR (n := 0)).tr (Grow.pR (n := 0)) (Nat.le_refl 0)
    have c0 : Grow 0 (fun x => x = 1) (inHt 2 (huB f)) μ ν2 := (oo.gr).tr (cg.mo (Nat.le_refl 0) (fun _ _ z => z) (fun _ _ z => z.elim)) (Nat.le_refl 0)
    have gv : ∀ x, g_I ν2 x = g_I m20 x := fun x => by rw [hν]; rfl
    -- a new STATE
    have s15 : StS ν2 15 := c.2.1.2.2.1.gr c0 (fun x hx z => by obtain ⟨z1, z2⟩ := hx; omega)
    have sB : HutS ν2 (huB f) := kB0.gr c0 (by omega)
    rw [r 3 (by decide) (by decide), n4, if_pos p15, r9, if_pos (isK_p kB.1), if_pos k15]
    obtain ⟨m3, e3, o3, q3⟩ := X8_begin s15 sB (hl.2.2.fr (fun x _ => gv x)) hl.1 (show 15 + 34 ≤ huB f ∨ huB f + 6 ≤ 15 by omega)
    obtain ⟨l1, l2, l3⟩ := law_at c
    have sL : LawS m3 (laA f) := (l2.gr c0 (by omega)).sh o3.1
    rw [e3, ob, sh_gR o3.1, r 11 (by decide) (by decide), n12, if_pos (isK_p sL.1), if_pos sL.1]
    obtain ⟨m4, e4, o4, q4⟩ := X4_clear sL
    have sC0 : ChS μ (chA f) := by
      rcases hc with ⟨h, -⟩ | ⟨h, -⟩ <;> rw [h]
      · exact c.2.1.2.2.2.2.2.2.2.2.2.2.1.1
      · exact c.2.1.2.2.2.2.2.2.2.2.2.2.1.2
    have sC : ChS m4 (chA f) := ((sC0.gr c0 (by omega)).sh o3.1).sh o4.1
    rw [e4, ob, sh_gR o4.1, sh_gR o3.1, r 13 (by decide) (by decide), n14, if_pos (isK_p sC.1), if_pos sC.1]
    obtain ⟨m5, e5, o5, q5⟩ := X1_clear sC
    have sK0 : BkS μ (bkA f) := by
      rcases hbk with ⟨h, -⟩ | ⟨h, -⟩ <;> rw [h]
      · exact c.2.1.2.2.2.2.2.2.2.2.2.2.2.1
      · exact c.2.1.2.2.2.2.2.2.2.2.2.2.2.2
    have sK : BkS m5 (bkA f) := (((sK0.gr c0 (by omega)).sh o3.1).sh o4.1).sh o5.1
    rw [e5, ob, sh_gR o5.1, sh_gR o4.1, sh_gR o3.1, r 15 (by decide) (by decide), n16, if_pos (isK_p sK.1), if_pos sK.1]
    obtain ⟨m6, e6, o6, q6⟩ := X0_clear sK
    have c1 : Out (fun x => inSt 15 x ∨ x = laA f ∨ x = laA f + 2 ∨ x = laA f + 3 ∨ x = chA f ∨ x = bkA f) ν2 m6 := (((o3.mo fun x hx => Or.inl hx).tr (o4.mo fun x hx => by omega)).tr (o5.mo fun x hx => by omega)).tr (o6.mo fun x hx => by omega)
    have g6 : Grow 0 (fun x => x = 1) (fun x => inHt 2 (huB f) x ∨ inSt 15 x ∨ x = laA f ∨ x = laA f + 2 ∨ x = laA f + 3 ∨ x = chA f ∨ x = bkA f) μ m6 := (c0.mo (Nat.le_refl 0) (fun _ _ z => z) (fun _ _ z => Or.inl z)).tr ((c1.gr).mo (Nat.le_refl 0) (fun _ _ z => z) (fun _ _ z => Or.inr z)) (Nat.le_refl 0)
    have hh6 := c.2.2.1.2.2.2.2.2.2.2.1.fr g6 (fun x hx z => by omega) (fun x hx z => by
      have hn := c.n
      have hx : (10 ≤ x ∧ x < 10 + 5) ∨ B ≤ x := hx
      unfold inHt inHut inSt at z
      omega)
    rw [e6, ob, sh_gR o6.1, sh_gR o5.1, sh_gR o4.1, sh_gR o3.1, r 2 (by decide) (by decide), n3, if_pos p10, if_pos hh6.1.1]
    obtain ⟨m7, e7, o7, q7⟩ := X2_clear (np' := (hutT l).1) (kf' := (hutT l).2.1) hh6
    have kB7 : isK m7 (huB f) 3 = true := by rw [sh_isK o7.1]; exact g6.k kB0.1
    have r7 : g_R m7 = g_R ν2 := by rw [sh_gR o7.1, sh_gR o6.1, sh_gR o5.1, sh_gR o4.1, sh_gR o3.1]
    rw [e7, ob, r7, r9, if_pos (isK_p kB7), if_pos kB7]
    obtain ⟨m8, h8⟩ : ∃ m8, m8 = p_I m7 1 17 0 := ⟨_, rfl⟩
    rw [← h8]
    have o8 : Out (fun x => x = 1) m7 m8 := by rw [h8]; exact (Out.rf (S := fun x => x = 1)).pI rfl
    have o78 : Out (fun x => x = 10 ∨ x = 1) m6 m8 := (o7.mo fun x hx => Or.inl hx).tr (o8.mo fun x hx => Or.inr hx)
    have G : Grow 0 (fun x => x = 1) (inHu f) μ m8 := (g6.mo (Nat.le_refl 0) (fun _ _ z => z) (fun x _ z => by
      have z : (x = 2 ∨ (huB f ≤ x ∧ x < huB f + 6)) ∨ (15 ≤ x ∧ x < 15 + 34) ∨ x = laA f ∨ x = laA f + 2 ∨ x = laA f + 3 ∨ x = chA f ∨ x = bkA f := z
      show x = 1 ∨ x = 2 ∨ (huB f ≤ x ∧ x < huB f + 6) ∨ (15 ≤ x ∧ x < 15 + 34) ∨ x = laA f ∨ x = laA f + 2 ∨ x = laA f + 3 ∨ x = chA f ∨ x = bkA f ∨ x = 10
      omega)).tr ((o78.gr).mo (Nat.le_refl 0) (fun _ _ z => z) (fun x _ z => by unfold inHu; omega)) (Nat.le_refl 0)
    have r8 : g_R m8 = g_R ν2 := by rw [sh_gR o8.1, r7]
    have hnn := c.n
    -- from ν2 to the end
    have o28 : Out (fun x => inSt 15 x ∨ x = laA f ∨ x = laA f + 2 ∨ x = laA f + 3 ∨ x = chA f ∨ x = bkA f ∨ x = 10 ∨ x = 1) ν2 m8 := (c1.mo fun x hx => by
      have hx : (15 ≤ x ∧ x < 15 + 34) ∨ x = laA f ∨ x = laA f + 2 ∨ x = laA f + 3 ∨ x = chA f ∨ x = bkA f := hx
      show (15 ≤ x ∧ x < 15 + 34) ∨ x = laA f ∨ x = laA f + 2 ∨ x = laA f + 3 ∨ x = chA f ∨ x = bkA f ∨ x = 10 ∨ x = 1
      omega).tr (o78.mo fun x hx => by omega)
    have v2 : ∀ x, ¬ inSt 15 x → x ≠ laA f → x ≠ laA f + 2 → x ≠ laA f + 3 → x ≠ chA f → x ≠ bkA f → x ≠ 10 → x ≠ 1 → g_I m8 x = g_I m20 x := fun x a1 a2 a3 a4 a5 a6 a7 a8 => by
      rw [(o28.2 x (fun z => by
        have z : inSt 15 x ∨ x = laA f ∨ x = laA f + 2 ∨ x = laA f + 3 ∨ x = chA f ∨ x = bkA f ∨ x = 10 ∨ x = 1 := z
        rcases z with z | z
        · exact a1 z
        · omega)).1, gv]
    have st : ∀ x, x = 2 ∨ x = 3 ∨ inHut (huB f) x ∨ x = 92 → g_I m8 x = g_I m20 x := fun x hx => by
      unfold inHut at hx
      exact v2 x (by unfold inSt; omega) (by omega) (by omega) (by omega) (by omega) (by omega) (by omega) (by omega)
    have s3 : ∀ x, x = 3 ∨ x = 92 → g_I m8 x = g_I μ x := fun x hx => by
      rw [st x (by omega), (oo.2 x (by unfold inHt inHut; omega)).1]
    have l0 : (hutT l).1 = l.1.length := rfl
    have fin : g_I m8 (huB f) 0 = nI l.1.length := by rw [st (huB f) (Or.inr (Or.inr (Or.inl ⟨Nat.le_refl _, by omega⟩)))]; exact hl.2.2.1
    rw [fin]
    have e1' : huA (!f.1, f.2) = huB f := by unfold huA huB; cases f.1 <;> rfl
    have e2' : huB (!f.1, f.2) = huA f := by unfold huA huB; cases f.1 <;> rfl
    obtain ⟨d1, d2, ⟨w1, w2, w3, w4, w5, w6, w7, w8, w9, w10, w11⟩, d4, d5⟩ := id c
    refine ⟨m8, (!f.1, f.2), rfl, ⟨⟨G.k n0, ?_, ?_, ?_, ?_, ?_, ?_, ?_, ?_, ?_, ?_, ?_, ?_, ?_, ?_, ?_, ?_, ?_⟩, ?_, ⟨fun k hk => ?_, ⟨?_, Nat.zero_le _⟩, ?_, ?_, ?_, ⟨?_, fun p hp => absurd hp List.not_mem_nil⟩, ?_, ?_, ?_, ?_, fun k hk => ?_⟩, ⟨lok, RowK.row0 lok.hut, fun i hi => absurd hi (Nat.not_lt_zero _), fun k hk => absurd hk (Nat.not_lt_zero _)⟩, d5⟩, G.call (by decide) fun x h1 h2 => ⟨by omega, by unfold inHu inHut inSt; omega⟩⟩
    · rw [r8, r 0 (by decide) (by decide)]; exact n1
    · rw [r8, r 1 (by decide) (by decide)]; exact n2
    · rw [r8, r 2 (by decide) (by decide)]; exact n3
    · rw [r8, r 3 (by decide) (by decide)]; exact n4
    · rw [r8, r 4 (by decide) (by decide)]; exact n5
    · rw [r8, r 5 (by decide) (by decide)]; exact n6
    · rw [r8, r 6 (by decide) (by decide)]; exact n7
    · rw [r8, r 7 (by decide) (by decide)]; exact n8
    · rw [r8, r 8 (by decide) (by decide)]; exact n9
    · rw [r8, r9, e1']
    · rw [r8, r10, e2']
    · rw [r8, r 11 (by decide) (by decide)]; exact n12
    · rw [r8, r 12 (by decide) (by decide)]; exact n13
    · rw [r8, r 13 (by decide) (by decide)]; exact n14
    · rw [r8, r 14 (by decide) (by decide)]; exact n15
    · rw [r8, r 15 (by decide) (by decide)]; exact n16
    · rw [r8, r 16 (by decide) (by decide)]; exact n17
    · obtain ⟨s1, s2, s3, s4, s5, s6, ⟨s7, s7'⟩, ⟨s8, s8'⟩, ⟨s9, s9'⟩, ⟨s10, s10'⟩, ⟨s11, s11'⟩, s12, s12'⟩ := d2
      exact ⟨s1.gr G (by decide), s2.gr G (by decide), s3.gr G (fun x hx z => by obtain ⟨z1, z2⟩ := hx; omega), s4.gr G (fun x h1 h2 z => by omega), s5.gr G (by decide), s6.gr G (by decide), ⟨G.k s7, by rw [G.N s7]; exact s7'⟩, ⟨G.k s8, by rw [G.N s8]; exact s8'⟩, ⟨s9.gr G (by decide), s9'.gr G (by decide)⟩, ⟨s10.gr G (by decide), s10'.gr G (by decide)⟩, ⟨s11.gr G (by decide), s11'.gr G (by decide)⟩, s12.gr G (by decide), s12'.gr G (by decide)⟩
    · rw [s3 3 (Or.inl rfl)]; exact w1 k hk
    · rw [st 2 (Or.inl rfl)]; exact h11
    · rw [st 2 (Or.inl rfl)]; exact pl
    · rw [e1']
      exact hl.2.2.fr fun x hx => st x (Or.inr (Or.inr (Or.inl hx)))
    · have o48 : Out (fun x => x = chA f ∨ x = bkA f ∨ x = 10 ∨ x = 1) m4 m8 := ((o5.mo fun x hx => by omega).tr (o6.mo fun x hx => by omega)).tr (o78.mo fun x hx => by omega)
      exact q4.fr ⟨(o48.2 _ (by show ¬ (laA f = chA f ∨ laA f = bkA f ∨ laA f = 10 ∨ laA f = 1); omega)).1, (o48.2 _ (by show ¬ (laA f + 2 = chA f ∨ laA f + 2 = bkA f ∨ laA f + 2 = 10 ∨ laA f + 2 = 1); omega)).1, (o48.2 _ (by show ¬ (laA f + 3 = chA f ∨ laA f + 3 = bkA f ∨ laA f + 3 = 10 ∨ laA f + 3 = 1); omega)).1⟩
    · have o58 : Out (fun x => x = bkA f ∨ x = 10 ∨ x = 1) m5 m8 := (o6.mo fun x hx => by omega).tr (o78.mo fun x hx => by omega)
      exact q5.fr ⟨(o58.2 _ (by show ¬ (chA f = bkA f ∨ chA f = 10 ∨ chA f = 1); omega)).1, (o58.2 _ (by show ¬ (chA f + 1 = bkA f ∨ chA f + 1 = 10 ∨ chA f + 1 = 1); omega)).1⟩
    · exact q6.fr ⟨(o78.2 _ (by show ¬ (bkA f = 10 ∨ bkA f = 1); omega)).1, (o78.2 _ (by show ¬ (bkA f + 1 = 10 ∨ bkA f + 1 = 1); omega)).1, (o78.2 _ (by show ¬ (bkA f + 2 = 10 ∨ bkA f + 2 = 1); omega)).1⟩
    · exact q7.fr (n := 0) (SR := fun _ => False) o8.gr (fun _ _ z => z) (fun x hx z => by omega)
    · have o38 : Out (fun x => x = laA f ∨ x = laA f + 2 ∨ x = laA f + 3 ∨ x = chA f ∨ x = bkA f ∨ x = 10 ∨ x = 1) m3 m8 := ((((o4.mo fun x hx => by omega).tr (o5.mo fun x hx => by omega)).tr (o6.mo fun x hx => by omega))).tr (o78.mo fun x hx => by omega)
      exact q3.fr fun x hx => o38.2 x (by obtain ⟨y1, y2⟩ := hx; omega)
    · rw [h8]; exact gI_s
    · rw [s3 92 (Or.inr rfl)]; exact w11 k hk
