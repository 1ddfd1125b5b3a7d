/-! ===== the class is told WORK ===== -/
def stpR (a : ClT) (n : Nat) : StpT := stepsF (txtO a n) (hutT a.2.2.2.1) 6 (.inr (sk (txtO a n) 0)) 0 (fun _ => (0, 0, 0, 0, 0))
def wkR (a : ClT) (n : Nat) : WkT := runW (hutT a.2.2.2.1) a.2.2.2.2.1 (stpR a n).2.2 6 0 (stpR a n).2.1 (0, 0, 0, rowOf a)
def sWork (a : ClT) (n : Nat) : (Nat ⊕ Int32) × ClT := if (hisA a).1 < 16 then (match (stpR a n).1 with
  | .inl e => (.inr (nI e.1 - 10), txtA a (nI e.2))
  | .inr _ => (.inr (nI (wkR a n).2.1), setA (txtA a (-1)) ((hisA a).1 + 1, up (hisA a).2.1 (hisA a).1 (rowOf a), (hisA a).2.2) (wkR a n).2.2.2 (nI (wkR a n).2.2.1))) else (.inr (-20), txtA a (-1))
theorem ClR.set2 {n : Nat} {SR S : Nat → Prop} {μ ν : Mem} {f : Fl} {B : Nat} {a : ClT} {t : HisT} {ρ : Nat → Int32} {rs : Int32} (c : ClR μ f B a) (g : Grow n SR S μ ν) (hR : ∀ x, SR x → 10 < x ∧ x < 14) (hS : ∀ x, x ≤ 124 → S x → x = 1 ∨ (10 ≤ x ∧ x < 49) ∨ x = 4 ∨ x = laA f + 1 ∨ x = laA f + 4) (h : His ν 10 B (hutT a.2.2.2.1).1 (hutT a.2.2.2.1).2.1 t) (r : StR ν 15 (hutT a.2.2.2.1).1 (hutT a.2.2.2.1).2.1 ρ) (h17 : g_I ν 1 17 = rs) (rk : RowK (hutT a.2.2.2.1).1 (hutT a.2.2.2.1).2.1 ρ) (hk : HisK a t) : ClR ν f B (setA a t ρ rs) := by
  obtain ⟨c1, c2, ⟨v1, ⟨v2, v2'⟩, v3, v4, v5, ⟨v6, v6'⟩, v7, v8, v9, v10, v11⟩, ⟨k1, k2, k3, k4⟩, c5⟩ := id c
  have hn := c.n
  have h2 := hu_or f
  have h3 := la_or f
  have h4 := ch_or f
  have h5 := bk_or f
  have e : ∀ x, x ≤ 124 → x ≠ 1 → (x < 10 ∨ 49 ≤ x) → x ≠ 4 → x ≠ laA f + 1 → x ≠ laA f + 4 → g_I ν x = g_I μ x := fun x hx h1 h2 h3 h4 h5 => ((g.2.2.2 x (by omega)).2.2.2 (fun z => by have := hS x hx z; omega)).1
  refine ⟨c1.gr g (fun z => by have := hR 1 z; omega), c2.gr g (fun x hx h84 hx2 z => by have := hR x z; omega) (c2.2.2.2.2.1.gr g fun z => by have := hR 84 z; omega), ⟨fun k hk => by rw [e 3 (by decide) (by decide) (by decide) (by decide) (by omega) (by omega)]; exact v1 k hk, ⟨by rw [e 2 (by decide) (by decide) (by decide) (by decide) (by omega) (by omega)]; exact v2, v2'⟩, by rw [e 2 (by decide) (by decide) (by decide) (by decide) (by omega) (by omega)]; exact v3, v4.fr (fun x hx => e x (by obtain ⟨y1, y2⟩ := hx; omega) (by obtain ⟨y1, y2⟩ := hx; omega) (by obtain ⟨y1, y2⟩ := hx; omega) (by obtain ⟨y1, y2⟩ := hx; omega) (by obtain ⟨y1, y2⟩ := hx; omega) (by obtain ⟨y1, y2⟩ := hx; omega)), v5.fr ⟨e _ (by omega) (by omega) (by omega) (by omega) (by omega) (by omega), e _ (by omega) (by omega) (by omega) (by omega) (by omega) (by omega), e _ (by omega) (by omega) (by omega) (by omega) (by omega) (by omega)⟩, ⟨v6.fr ⟨e _ (by omega) (by omega) (by omega) (by omega) (by omega) (by omega), e _ (by omega) (by omega) (by omega) (by omega) (by omega) (by omega)⟩, v6'⟩, v7.fr ⟨e _ (by omega) (by omega) (by omega) (by omega) (by omega) (by omega), e _ (by omega) (by omega) (by omega) (by omega) (by omega) (by omega), e _ (by omega) (by omega) (by omega) (by omega) (by omega) (by omega)⟩, h, r, h17, fun k hk => by rw [e 92 (by decide) (by decide) (by decide) (by decide) (by omega) (by omega)]; exact v11 k hk⟩, ⟨k1, rk, hk.1, hk.2⟩, c5⟩
theorem X11_work {B : Nat} {f : Fl} {μ : Mem} {a : ClT} {v : Int32} (c : ClR μ f B a) : AskT B μ (LX11_work 1 v μ) (if v < 0 ∨ ¬ v ≤ (if nI a.2.1 < 150 then nI a.2.1 else 150) then (.inl 1, rfA a 1) else sWork a v.toNatClampNeg) := by
  unfold LX11_work
  rw [if_pos c.1.1, X11_needText c]
  by_cases h : v < 0 ∨ ¬ v ≤ (if nI a.2.1 < 150 then nI a.2.1 else 150)
  · rw [if_pos h, if_pos h, obX_l]
    obtain ⟨ν, e1, c1, c2⟩ := AskX.no (k := 1) (w := 6) c (by decide) (by decide)
    exact ⟨ν, f, e1, c1, c2⟩
  rw [if_neg h, if_neg h, obX_r]
  obtain ⟨n, hn, hn2, rfl⟩ := text_len (m := 150) c rfl (by decide) h
  obtain ⟨n0, n1, n2, n3, n4, n5, n6, n7, n8, n9, n10, n11, n12, n13, n14, n15, n16, n17⟩ := id c.1
  have p2 : (0 : Nat) < 2 := by decide
  have p4 : (0 : Nat) < 4 := by decide
  have p10 : (0 : Nat) < 10 := by decide
  have hc := ch_or f
  have hbk := bk_or f
  have hla := la_or f
  have hu := hu_or f
  have hB := c.2.2.2.2
  have hh : His μ 10 B (hutT a.2.2.2.1).1 (hutT a.2.2.2.1).2.1 (hisA a) := c.2.2.1.2.2.2.2.2.2.2.1
  have k2 : isK μ 10 2 = true := hh.1.1
  have h16 : (hisA a).1 ≤ 16 := hh.2.2.1.2.2.1
  have hk := ClK.his c
  obtain ⟨hu1, hu2, hu3, hu4⟩ := hut_at c
  obtain ⟨l1, l2, l3⟩ := law_at c
  rw [n3, if_pos p10, if_pos k2, show g_I μ 10 4 = nI (hisA a).1 from hh.2.2.1.1, n1, if_pos p2, if_pos c.2.1.1.1, nI_clamp (show n < 2147483648 by omega)]
  unfold sWork
  by_cases h0 : (hisA a).1 < 16
  case neg =>
    rw [if_neg h0, if_neg (show ¬ nI (hisA a).1 < (16 : Int32) from nI_nlt (b := 16) (by omega) (by omega)), if_pos p2, if_pos c.2.1.1.1]
    obtain ⟨ν, e1, o1, t1, m1⟩ := X9_open (a := a) (n := 0) c.2.1.1 c.2.2.1.1 (Nat.zero_le _)
    have e1 : LX9_open 2 (0 : Int32) μ = some ((), ν) := e1
    rw [e1, ob]
    exact ⟨ν, f, rfl, c.txt o1 (fun x hx hx2 z => hx2 z) m1 t1.pl, (o1.gr (SR := fun _ => False)).call (by decide) fun x h1 h2 => ⟨fun z => z, by omega⟩⟩
  rw [if_pos h0, if_pos (show nI (hisA a).1 < (16 : Int32) from nI_lt h0 (by decide))]
  obtain ⟨ν, e1, o1, t1, m1⟩ := X9_open (a := a) c.2.1.1 c.2.2.1.1 (show n ≤ 600 by omega)
  have gR1 : g_R ν = g_R μ := sh_gR o1.1
  have pc : PsC ν 4 (huA f) (hutT a.2.2.2.1) := ⟨c.2.1.2.1.sh o1.1, hu2.sh o1.1, hu3.fr fun x hx => (o1.2 x (by obtain ⟨y1, y2⟩ := hx; omega)).1⟩
  rw [e1, ob, gR1, n2, if_pos p4, n1, if_pos p2, hu1, if_pos (isK_p hu2.1), if_pos pc.1.1]
  obtain ⟨m20, e2, o2, t2, g2⟩ := X10_parse (fun _ => (0, 0, 0, 0, 0)) (show ApP 2 4 (huA f) from ⟨by omega, by omega, by omega⟩) (show (txtO a n).2 ≤ 150 from hn) pc t1
  have oo : Out (inPs 2 4) μ m20 := (o1.mo fun x hx => Or.inl hx).tr o2
  have gR2 : g_R m20 = g_R μ := sh_gR oo.1
  have h11 : g_I m20 2 1 = nI 0 := t2.2.1.2.2.2
  have t2 : TpR m20 2 (txtO a n) (stpR a n).1 := t2
  have g2 : ∀ b, (stpR a n).1 = .inr b → WorkR m20 4 (stpR a n).2.1 (stpR a n).2.2 := g2
  have cl : ClR m20 f B (txtA a (plC (stpR a n).1)) := c.txt oo (fun x hx hx2 z => by unfold usd at hx; unfold inPs at z; omega) h11 t2.pl
  rw [e2, ob, gR2, n1, if_pos p2, if_pos t2.1.1, X9_failedE t2, ob]
  cases hr : (stpR a n).1 with
  | inl e =>
    have co : CallO B μ m20 := (oo.gr (SR := fun _ => False)).call (by decide) fun x h1 h2 => ⟨fun z => z, by unfold inPs; omega⟩
    rw [hr] at t2 cl
    rw [show errI (.inl e) = 1 from rfl, if_neg (by decide), gR2, n1, if_pos p2, if_pos t2.1.1, show g_I m20 2 2 = nI e.1 from t2.2.2.1]
    exact ⟨m20, f, rfl, cl, co⟩
  | inr b =>
    have wr := g2 b hr
    have h8 : (hutT a.2.2.2.1).1 ≤ 8 := c.2.2.2.1.1.1
    have hw16 : (hutT a.2.2.2.1).2.2.2.2.1 ≤ 16 := c.2.2.2.1.1.2.1
    obtain ⟨-, -, sok, -⟩ := stepsF_w (x := txtO a n) h8 hw16 6 (.inr (sk (txtO a n) 0)) 0 (fun _ => (0, 0, 0, 0, 0)) b hr
    have sok : ∀ i, 0 ≤ i → i < (stpR a n).2.1 → StepOk (hutT a.2.2.2.1) ((stpR a n).2.2 i) ∧ ((stpR a n).2.2 i).2.2.2.2 ≤ (stpR a n).2.1 := sok
    rw [hr] at cl
    have cl : ClR m20 f B (txtA a (-1)) := cl
    have hh2 : His m20 10 B (hutT a.2.2.2.1).1 (hutT a.2.2.2.1).2.1 (hisA a) := cl.2.2.1.2.2.2.2.2.2.2.1
    have sr2 : StR m20 15 (hutT a.2.2.2.1).1 (hutT a.2.2.2.1).2.1 (rowOf a) := cl.2.2.1.2.2.2.2.2.2.2.2.1
    rw [show errI (.inr b) = 0 from rfl, if_pos rfl, gR2, n3, if_pos p10, n4, if_pos p15, if_pos hh2.1.1]
    obtain ⟨m40, e4, g4, h4⟩ := X2_keep hh2 h0 cl.2.1.2.2.1 sr2 (by omega) (by omega)
    have nk1 := cl.1.1
    have r4 : g_R m40 1 = g_R μ 1 := by rw [g4.R nk1 (fun z => by obtain ⟨z1, z2⟩ := z; omega), gR2]
    have s4 : WorkS m40 4 := cl.2.1.2.1.gr g4 (fun z => by obtain ⟨z1, z2⟩ := z; omega)
    rw [e4, ob, r4, n2, if_pos p4, if_pos s4.1]
    obtain ⟨m48, h48⟩ : ∃ m48, m48 = p_I (p_I (p_I m40 4 6 0) 4 7 0) 4 8 0 := ⟨_, rfl⟩
    have e48 : LX10_begin 4 m40 = some ((), m48) := by unfold LX10_begin; rw [if_pos s4.1, h48]
    have o48 : Out (fun x => x = 4) m40 m48 := by rw [h48]; exact (((Out.rf (S := fun x => x = 4)).pI rfl).pI rfl).pI rfl
    have r48 : g_R m48 1 = g_R μ 1 := by rw [sh_gR o48.1]; exact r4
    have hla2 : LawS m48 (laA f) := ((law_at cl).2.1.gr g4 (fun z => by obtain ⟨z1, z2⟩ := z; omega)).sh o48.1
    have hus2 : HutS m48 (huA f) := ((hut_at cl).2.1.gr g4 (fun z => by obtain ⟨z1, z2⟩ := z; omega)).sh o48.1
    have ss2 : StS m48 15 := (cl.2.1.2.2.1.gr g4 (fun x hx z => by obtain ⟨z1, z2⟩ := z; obtain ⟨y1, y2⟩ := hx; omega)).sh o48.1
    have hnn := cl.n
    have v4 : ∀ x, x ≤ 124 → x ≠ 10 → x ≠ 14 → g_I m40 x = g_I m20 x ∧ g_L m40 x = g_L m20 x ∧ g_D m40 x = g_D m20 x := fun x hx h1 h2 => (g4.2.2.2 x (by omega)).2.2.2 fun z => by unfold Sh4 at z; omega
    have v48 : ∀ x, x ≤ 124 → x ≠ 10 → x ≠ 14 → x ≠ 4 → g_I m48 x = g_I m20 x ∧ g_L m48 x = g_L m20 x ∧ g_D m48 x = g_D m20 x := fun x hx h1 h2 h3 => by
      obtain ⟨q1, q2, q3⟩ := o48.2 x h3
      rw [q1, q2, q3]
      exact v4 x hx h1 h2
    obtain ⟨w5, w37, wst⟩ := wr
    have g5 : g_I m48 4 5 = nI (stpR a n).2.1 := by rw [h48, gI_k (by decide), gI_k (by decide), gI_k (by decide), (v4 4 (by decide) (by decide) (by decide)).1]; exact w5
    have wc : WkC m48 4 15 (huA f) (laA f) (stpR a n).2.1 (hutT a.2.2.2.1) a.2.2.2.2.1 (stpR a n).2.2 := ⟨s4.sh o48.1, fun i hi => by
      rw [(v48 (4 + 1) (by decide) (by decide) (by decide) (by decide)).1, (v48 (4 + 2) (by decide) (by decide) (by decide) (by decide)).1, (v48 (4 + 3) (by decide) (by decide) (by decide) (by decide)).1, (v48 (4 + 4) (by decide) (by decide) (by decide) (by decide)).1, (v48 (4 + 5) (by decide) (by decide) (by decide) (by decide)).1]
      exact wst i hi, ss2, hus2, (hut_at cl).2.2.1.fr fun x hx => (v48 x (by obtain ⟨y1, y2⟩ := hx; omega) (by obtain ⟨y1, y2⟩ := hx; omega) (by obtain ⟨y1, y2⟩ := hx; omega) (by obtain ⟨y1, y2⟩ := hx; omega)).1, hla2, (law_at cl).2.2.fr ⟨(v48 _ (by omega) (by omega) (by omega) (by omega)).1, (v48 _ (by omega) (by omega) (by omega) (by omega)).1, (v48 _ (by omega) (by omega) (by omega) (by omega)).1⟩⟩
    have wk0 : WkR m48 4 15 (stpR a n).2.1 (hutT a.2.2.2.1) (0, 0, 0, rowOf a) := ⟨g5, by rw [h48, gI_k (by decide), gI_k (by decide), gI_s]; rfl, by rw [h48, gI_k (by decide), gI_s]; rfl, by rw [h48, gI_s]; rfl, Nat.zero_le _, sr2.fr fun x hx => v48 x (by obtain ⟨y1, y2⟩ := hx; omega) (by obtain ⟨y1, y2⟩ := hx; omega) (by obtain ⟨y1, y2⟩ := hx; omega) (by obtain ⟨y1, y2⟩ := hx; omega), c.2.2.2.1.2.1⟩
    rw [e48, ob, r48, n2, if_pos p4, n4, if_pos p15, hu1, if_pos (isK_p hu2.1), l1, if_pos (isK_p l2.1), if_pos wc.1.1, g5]
    obtain ⟨m60, e6, o6, r6⟩ := X10_run fpNn w37 hu4 (show ApW 4 15 (huA f) (laA f) from ⟨by omega, by omega, by omega, by omega, by omega, by omega⟩) (fun i hi => sok i (Nat.zero_le _) hi) 6 11 0 0 (stpR a n).2.1 (0, 0, 0, rowOf a) m48 rfl (by decide) (Nat.le_refl _) (by decide) wc wk0
    have e6 : LX10_run 12 4 15 (huA f) (laA f) (0 : Int32) (nI (stpR a n).2.1) (0 : Int32) m48 = some ((), m60) := e6
    have r6 : WkR m60 4 15 (stpR a n).2.1 (hutT a.2.2.2.1) (wkR a n) := r6
    obtain ⟨w1, w2, w3, w4, w5', w6, w7⟩ := r6
    have k60 : isK m60 4 10 = true := by rw [sh_isK o6.1]; exact wc.1.1
    have r60 : g_R m60 1 = g_R μ 1 := by rw [sh_gR o6.1]; exact r48
    rw [e6, ob, r60, n2, if_pos p4, if_pos k60, w4]
    have hw7 : g_I (p_I m60 1 17 (nI (wkR a n).2.2.1)) 4 7 = nI (wkR a n).2.1 := by rw [gI_h (by decide)]; exact w3
    rw [hw7]
    have o7 : Out (fun x => x = 1) m60 (p_I m60 1 17 (nI (wkR a n).2.2.1)) := (Out.rf (S := fun x => x = 1)).pI rfl
    have o467 : Out (fun x => x = 4 ∨ inRun 4 15 (laA f) x ∨ x = 1) m40 (p_I m60 1 17 (nI (wkR a n).2.2.1)) := ((o48.mo fun x hx => Or.inl hx).tr (o6.mo fun x hx => Or.inr (Or.inl hx))).tr (o7.mo fun x hx => Or.inr (Or.inr hx))
    have G : Grow 1 (SRh 10) (fun x => Sh4 10 B x ∨ x = 4 ∨ inRun 4 15 (laA f) x ∨ x = 1) m20 (p_I m60 1 17 (nI (wkR a n).2.2.1)) := (g4.mo (Nat.le_refl _) (fun _ _ z => z) (fun _ _ z => Or.inl z)).tr ((o467.gr).mo (Nat.le_refl 0) (fun _ _ z => z) (fun _ _ z => Or.inr z)) (Nat.le_refl _)
    have hF : His (p_I m60 1 17 (nI (wkR a n).2.2.1)) 10 B (hutT a.2.2.2.1).1 (hutT a.2.2.2.1).2.1 ((hisA a).1 + 1, up (hisA a).2.1 (hisA a).1 (rowOf a), (hisA a).2.2) := h4.fr (n := 0) (SR := fun _ => False) o467.gr (fun _ _ z => z) (fun x hx z => by
      have hx : (10 ≤ x ∧ x < 10 + 5) ∨ B ≤ x := hx
      have z : x = 4 ∨ (((15 ≤ x ∧ x < 15 + 34) ∨ x = laA f + 1 ∨ x = laA f + 4) ∨ x = 4) ∨ x = 1 := z
      omega)
    have ca := cl.set2 (t := ((hisA a).1 + 1, up (hisA a).2.1 (hisA a).1 (rowOf a), (hisA a).2.2)) (ρ := (wkR a n).2.2.2) (rs := nI (wkR a n).2.2.1) G (fun x z => z) (fun x hx z => by
      have z : (x = 10 ∨ x = 10 + 4 ∨ B ≤ x) ∨ x = 4 ∨ (((15 ≤ x ∧ x < 15 + 34) ∨ x = laA f + 1 ∨ x = laA f + 4) ∨ x = 4) ∨ x = 1 := z
      omega) hF (w6.o o7 (by decide)) gI_s w7 ⟨fun i hi => ?_, hk.2⟩
    · have c0 : Grow 1 (SRh 10) (fun x => inPs 2 4 x ∨ Sh4 10 B x ∨ x = 4 ∨ inRun 4 15 (laA f) x ∨ x = 1) μ (p_I m60 1 17 (nI (wkR a n).2.2.1)) := ((oo.gr (SR := SRh 10)).mo (Nat.le_refl 0) (fun _ _ z => z) (fun _ _ z => Or.inl z)).tr (G.mo (Nat.le_refl _) (fun _ _ z => z) (fun _ _ z => Or.inr z)) (Nat.le_refl _)
      exact ⟨_, f, rfl, ca, c0.call (by decide) fun x h1 h2 => ⟨fun z => by obtain ⟨z1, z2⟩ := z; omega, fun z => by
        have z : (x = 2 ∨ (4 ≤ x ∧ x < 4 + 6)) ∨ (x = 10 ∨ x = 10 + 4 ∨ B ≤ x) ∨ x = 4 ∨ (((15 ≤ x ∧ x < 15 + 34) ∨ x = laA f + 1 ∨ x = laA f + 4) ∨ x = 4) ∨ x = 1 := z
        omega⟩⟩
    · show RowK _ _ (up (hisA a).2.1 (hisA a).1 (rowOf a) i)
      have hi : i < (hisA a).1 + 1 := hi
      by_cases e : i = (hisA a).1
      · rw [e, up_s]; exact c.2.2.2.1.2.1
      · rw [up_o e]; exact hk.1 i (by omega)
