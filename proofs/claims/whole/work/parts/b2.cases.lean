/-! ===== the law, case by case ===== -/
theorem pairB {c0 w0 : Nat} {μ : Mem} {f : Fl} {a : ClT} {n : Nat} {hc : Nat → Option Int32} {ix : Nat → Nat} {clo : Option ((Nat ⊕ Int32) × Mem)} {S : (Nat ⊕ Int32) × ClT} {rf : Mem → Option (Int32 × Mem)} {K : Mem → Option (Unit × Mem)} {Q : Mem → Prop} (w : Wst c0 w0 μ f a n) (hC : AskT 630 μ clo S) (hR : ∀ ν, RfR ν a → ClK a → AskM ix ν (rf ν) S) (hk : ∀ j, S.1 = .inl j → hc j = some (nI (ix j)) ∧ ¬ nI (ix j) = 0) (hK : ∀ ν f' b, Wst c0 w0 ν f' b (n + 1) → ∃ μ' : Mem, K ν = some ((), μ') ∧ Q μ') :
    ∃ μ' : Mem, (obind (if isK μ 1 11 = true then (if isK μ 629 16 = true then (obindH hc clo (fun (r1 : Int32) (m2 : Mem) => if r1 = 0 then (if inA m2 629 16 (0 : Int32) = true then (some ((0 : Int32), (p_L m2 629 (0 : Int32).toNatClampNeg (0 : Int64)))) else none) else (if inA m2 629 16 (0 : Int32) = true then (some ((0 : Int32), (p_L m2 629 (0 : Int32).toNatClampNeg (1 : Int64)))) else none))) else none) else none) (fun (r772 : Int32) (m773 : Mem) => obind (rf m773) (fun (r777 : Int32) (m778 : Mem) => obind (LX12_thrown 125 m778) (fun (r781 : Int32) (m782 : Mem) => if r781 = r772 then (if r772 = 0 then (if inA m782 629 16 (0 : Int32) = true then (if r777 = 0 then (if (lg_cmp (g_L m782 629 (0 : Int32).toNatClampNeg) (0 : Int64)) = 0 then K m782 else none) else (if (lg_cmp (g_L m782 629 (0 : Int32).toNatClampNeg) (1 : Int64)) = 0 then K m782 else none)) else none) else K m782) else none)))) = some ((), μ') ∧ Q μ' := by
  obtain ⟨ν, f', e1, c1, o1⟩ := hC
  obtain ⟨x1, x2, x3, x4, x5⟩ := w.cl c1 o1
  have i0 : ∀ m : Mem, isK m 629 16 = true → g_N m 629 = 1 → inA m 629 16 (0 : Int32) = true := fun m h1 h2 => inA_n (n := 0) h1 h2 (by decide) (by decide)
  rw [if_pos w.1.1.1, if_pos w.2.2.2.2.1, e1]
  cases hS : S.1 with
  | inl j =>
    obtain ⟨y1, y2⟩ := hk j hS
    obtain ⟨v2, ν2, e2, a2, r2, m2⟩ := hR ν x1 w.1.2.2.2.1
    rw [hS] at a2
    have a2 : g_I ν2 125 0 = nI (ix j) := a2
    show ∃ μ' : Mem, obind ((hc j).map (fun c => (c, ν))) _ = _ ∧ _
    rw [y1, show Option.map (fun c => (c, ν)) (some (nI (ix j))) = some (nI (ix j), ν) from rfl, ob, e2, ob]
    unfold LX12_thrown
    rw [if_pos r2.1.1, ob, a2, if_pos rfl, if_neg y2]
    exact hK ν2 f' S.2 (Wst.rf c1 r2 m2 ⟨x2, x3, x4, x5⟩)
  | inr v =>
    obtain ⟨b, hb⟩ : ∃ b : Int64, b = if v = 0 then 0 else 1 := ⟨_, rfl⟩
    obtain ⟨m0, hm0⟩ : ∃ m0, m0 = p_L ν 629 (0 : Int32).toNatClampNeg b := ⟨_, rfl⟩
    have eV : (if v = 0 then (if inA ν 629 16 (0 : Int32) = true then (some ((0 : Int32), (p_L ν 629 (0 : Int32).toNatClampNeg (0 : Int64)))) else none) else (if inA ν 629 16 (0 : Int32) = true then (some ((0 : Int32), (p_L ν 629 (0 : Int32).toNatClampNeg (1 : Int64)))) else none) : Option (Int32 × Mem)) = some (0, m0) := by
      rw [if_pos (i0 ν x4 x5), if_pos (i0 ν x4 x5), hm0, hb]
      split <;> rfl
    show ∃ μ' : Mem, obind (if v = 0 then (if inA ν 629 16 (0 : Int32) = true then (some ((0 : Int32), (p_L ν 629 (0 : Int32).toNatClampNeg (0 : Int64)))) else none) else (if inA ν 629 16 (0 : Int32) = true then (some ((0 : Int32), (p_L ν 629 (0 : Int32).toNatClampNeg (1 : Int64)))) else none)) _ = _ ∧ _
    rw [eV, ob]
    have oL : Out (fun x => x = 629) ν m0 := by rw [hm0]; exact (Out.rf (S := fun x => x = 629)).pL rfl
    have gL : g_L m0 629 0 = b := by rw [hm0, gL_pL, if_pos rfl, if_pos (show 0 = Int32.toNatClampNeg 0 from rfl)]
    have c2 : ClR m0 f' 630 S.2 := c1.out oL fun x hx z => by
      have hu := hu_or f'
      have hl := la_or f'
      have hc := ch_or f'
      have hb := bk_or f'
      unfold usd at hx
      omega
    have r2 : RfR m0 a := by
      obtain ⟨y0, y1, y2, y3, y4, y5, y6, y7, y8, y9, y10, y11⟩ := x1
      have ho := RfR.hu w.1.2.2.2.1
      have e : ∀ x, x ≠ 629 → g_I m0 x = g_I ν x := fun x hx => (oL.2 x hx).1
      exact ⟨y0.sh oL.1, fun k hk => by rw [e 126 (by decide)]; exact y1 k hk, by rw [e 125 (by decide)]; exact y2, by rw [e 125 (by decide)]; exact y3, y4.fr ho (fun x hx => e x (by omega)), y5.fr (by rw [e 125 (by decide)]) (fun x hx => e x (by omega)), y6.fr (by rw [e 125 (by decide)]) (e 520 (by decide)), y7.fr (by rw [e 125 (by decide)]) (fun x hx => e x (by omega)), y8.fr (by rw [e 125 (by decide)]) (by rw [e 125 (by decide)]) (fun x hx => e x (by omega)), fun k hk => by rw [e 603 (by decide)]; exact y9 k hk, by rw [e 125 (by decide)]; exact y10, fun k hk => by rw [e 127 (by decide)]; exact y11 k hk⟩
    have h4 : isK m0 629 16 = true := by rw [sh_isK oL.1]; exact x4
    have h5 : g_N m0 629 = 1 := by rw [sh_gN oL.1]; exact x5
    obtain ⟨v2, ν2, e2, a2, r3, m2⟩ := hR m0 r2 w.1.2.2.2.1
    rw [hS] at a2
    obtain ⟨a3, a4⟩ := a2
    have h4' : isK ν2 629 16 = true := by rw [sh_isK m2.1]; exact h4
    have h5' : g_N ν2 629 = 1 := by rw [sh_gN m2.1]; exact h5
    have gL2 : g_L ν2 629 (0 : Int32).toNatClampNeg = b := by
      rw [(m2.2 629 (by decide)).2.1]
      exact gL
    rw [e2, ob]
    unfold LX12_thrown
    have lz : ∀ x : Int64, lg_cmp x x = 0 := fun x => by
      unfold lg_cmp
      rw [if_neg (fun z => absurd (Int64.lt_iff_toInt_lt.mp z) (by omega)), if_pos rfl]
    rw [if_pos r3.1.1, ob, a3, if_pos rfl, if_pos rfl, if_pos (i0 ν2 h4' h5'), gL2, a4, hb]
    have fin : ∃ μ' : Mem, K ν2 = some ((), μ') ∧ Q μ' := hK ν2 f' S.2 (Wst.rf c2 r3 m2 ⟨by rw [sh_gc oL.1]; exact x2, by rw [sh_gw oL.1]; exact x3, h4, h5⟩)
    by_cases hv : v = 0
    · rw [if_pos hv, if_pos hv, if_pos (lz 0)]; exact fin
    · rw [if_neg hv, if_neg hv, if_pos (lz 1)]; exact fin
theorem AskX.t {B : Nat} {f : Fl} {μ : Mem} {o : Option ((Nat ⊕ Int32) × Mem)} {s : (Nat ⊕ Int32) × ClT} (h : AskX B f μ o s) : AskT B μ o s := by
  obtain ⟨ν, e, c, x⟩ := h
  exact ⟨ν, f, e, c, x⟩
theorem AskI.p {B : Nat} {f : Fl} {μ : Mem} {a : ClT} {o : Option (Int32 × Mem)} {v : Int32} (c : ClR μ f B a) (h : o = some (v, μ)) : AskI B f μ o (v, a) := ⟨μ, h, c, CallO.rf⟩
theorem ClR.chn {μ : Mem} {f : Fl} {B : Nat} {a : ClT} (c : ClR μ f B a) : ChnK a := fun j hj => c.2.2.1.2.2.2.2.2.1.2 _ (getD_mem hj)
def QEnd (μ : Mem) : Prop := g_c μ ≤ 603072 ∧ g_w μ ≤ 7215210
theorem case_feed {c0 w0 Ls n : Nat} {xs : Nat → Int32} {q23 : Nat → Nat → Nat → Int32 → Mem → Option (Unit × Mem)} {l4 : Int32} {μ : Mem} {f : Fl} {a : ClT} (w : Wst c0 w0 μ f a n) (g1 : 0 ≤ (l4 + (1 : Int32)).toInt ∧ (l4 + (1 : Int32)).toInt < (Ls : Int)) (g2 : 0 ≤ (l4 + (2 : Int32)).toInt ∧ (l4 + (2 : Int32)).toInt < (Ls : Int)) (g3 : 0 ≤ (l4 + (3 : Int32)).toInt ∧ (l4 + (3 : Int32)).toInt < (Ls : Int)) (g4 : 0 ≤ (l4 + (4 : Int32)).toInt ∧ (l4 + (4 : Int32)).toInt < (Ls : Int)) (g5 : 0 ≤ (l4 + (5 : Int32)).toInt ∧ (l4 + (5 : Int32)).toInt < (Ls : Int)) (hK : ∀ ν f' b, Wst c0 w0 ν f' b (n + 1) → ∃ μ' : Mem, q23 1 125 629 (l4 + (9 : Int32)) ν = some ((), μ') ∧ QEnd μ') : ∃ μ' : Mem, mL_law__220 Ls xs q23 1 125 629 l4 μ = some ((), μ') ∧ QEnd μ' := by
  unfold mL_law__220
  simp only [if_pos g1, if_pos g2, if_pos g3, if_pos g4, if_pos g5]
  exact pairI w (X11_feed w.1) (fun ν r k => M_feed r k) hK
theorem case_hut {c0 w0 Ls n : Nat} {xs : Nat → Int32} {q23 : Nat → Nat → Nat → Int32 → Mem → Option (Unit × Mem)} {l4 : Int32} {μ : Mem} {f : Fl} {a : ClT} (w : Wst c0 w0 μ f a n) (g1 : 0 ≤ (l4 + (1 : Int32)).toInt ∧ (l4 + (1 : Int32)).toInt < (Ls : Int)) (hK : ∀ ν f' b, Wst c0 w0 ν f' b (n + 1) → ∃ μ' : Mem, q23 1 125 629 (l4 + (9 : Int32)) ν = some ((), μ') ∧ QEnd μ') : ∃ μ' : Mem, mL_law__293 Ls xs q23 1 125 629 l4 μ = some ((), μ') ∧ QEnd μ' := by
  unfold mL_law__293 LL_hut
  simp only [if_pos g1]
  refine pairX w (X11_hut w.1) (fun ν r k => R_hut r k) (fun j => ?_) hK
  unfold sHut
  repeat' split
  all_goals (intro h; first | (obtain rfl := Sum.inl.inj h; exact ⟨rfl, by decide⟩) | exact nomatch h)
theorem case_law {c0 w0 Ls n : Nat} {xs : Nat → Int32} {q23 : Nat → Nat → Nat → Int32 → Mem → Option (Unit × Mem)} {l4 : Int32} {μ : Mem} {f : Fl} {a : ClT} (w : Wst c0 w0 μ f a n) (g1 : 0 ≤ (l4 + (1 : Int32)).toInt ∧ (l4 + (1 : Int32)).toInt < (Ls : Int)) (hK : ∀ ν f' b, Wst c0 w0 ν f' b (n + 1) → ∃ μ' : Mem, q23 1 125 629 (l4 + (9 : Int32)) ν = some ((), μ') ∧ QEnd μ') : ∃ μ' : Mem, mL_law__349 Ls xs q23 1 125 629 l4 μ = some ((), μ') ∧ QEnd μ' := by
  unfold mL_law__349 LL_law
  simp only [if_pos g1]
  refine pairX w (X11_law w.1) (fun ν r k => M_law r k) (fun j => ?_) hK
  unfold sLaw
  repeat' split
  all_goals (intro h; first | (obtain rfl := Sum.inl.inj h; exact ⟨rfl, by decide⟩) | exact nomatch h)
theorem case_work {c0 w0 Ls n : Nat} {xs : Nat → Int32} {q23 : Nat → Nat → Nat → Int32 → Mem → Option (Unit × Mem)} {l4 : Int32} {μ : Mem} {f : Fl} {a : ClT} (w : Wst c0 w0 μ f a n) (g1 : 0 ≤ (l4 + (1 : Int32)).toInt ∧ (l4 + (1 : Int32)).toInt < (Ls : Int)) (hK : ∀ ν f' b, Wst c0 w0 ν f' b (n + 1) → ∃ μ' : Mem, q23 1 125 629 (l4 + (9 : Int32)) ν = some ((), μ') ∧ QEnd μ') : ∃ μ' : Mem, mL_law__405 Ls xs q23 1 125 629 l4 μ = some ((), μ') ∧ QEnd μ' := by
  unfold mL_law__405 LL_work
  simp only [if_pos g1]
  refine pairX w (X11_work w.1) (fun ν r k => M_work r k) (fun j => ?_) hK
  unfold sWork
  repeat' split
  all_goals (intro h; first | (obtain rfl := Sum.inl.inj h; exact ⟨rfl, by decide⟩) | exact nomatch h)
theorem case_chain {c0 w0 Ls n : Nat} {xs : Nat → Int32} {q23 : Nat → Nat → Nat → Int32 → Mem → Option (Unit × Mem)} {l4 : Int32} {μ : Mem} {f : Fl} {a : ClT} (w : Wst c0 w0 μ f a n) (g1 : 0 ≤ (l4 + (1 : Int32)).toInt ∧ (l4 + (1 : Int32)).toInt < (Ls : Int)) (hK : ∀ ν f' b, Wst c0 w0 ν f' b (n + 1) → ∃ μ' : Mem, q23 1 125 629 (l4 + (9 : Int32)) ν = some ((), μ') ∧ QEnd μ') : ∃ μ' : Mem, mL_law__461 Ls xs q23 1 125 629 l4 μ = some ((), μ') ∧ QEnd μ' := by
  unfold mL_law__461 LL_chain
  simp only [if_pos g1]
  refine pairX w (X11_chain w.1) (fun ν r k => R_chain r k) (fun j => ?_) hK
  unfold sChain
  repeat' split
  all_goals (intro h; first | (obtain rfl := Sum.inl.inj h; exact ⟨rfl, by decide⟩) | exact nomatch h)
theorem case_book {c0 w0 Ls n : Nat} {xs : Nat → Int32} {q23 : Nat → Nat → Nat → Int32 → Mem → Option (Unit × Mem)} {l4 : Int32} {μ : Mem} {f : Fl} {a : ClT} (w : Wst c0 w0 μ f a n) (g1 : 0 ≤ (l4 + (1 : Int32)).toInt ∧ (l4 + (1 : Int32)).toInt < (Ls : Int)) (hK : ∀ ν f' b, Wst c0 w0 ν f' b (n + 1) → ∃ μ' : Mem, q23 1 125 629 (l4 + (9 : Int32)) ν = some ((), μ') ∧ QEnd μ') : ∃ μ' : Mem, mL_law__517 Ls xs q23 1 125 629 l4 μ = some ((), μ') ∧ QEnd μ' := by
  unfold mL_law__517 LL_book
  simp only [if_pos g1]
  refine pairX w (X11_book w.1) (fun ν r k => R_book r k) (fun j => ?_) hK
  unfold sBook
  repeat' split
  all_goals (intro h; first | (obtain rfl := Sum.inl.inj h; exact ⟨rfl, by decide⟩) | exact nomatch h)
theorem case_fault {c0 w0 Ls n : Nat} {xs : Nat → Int32} {q23 : Nat → Nat → Nat → Int32 → Mem → Option (Unit × Mem)} {l4 : Int32} {μ : Mem} {f : Fl} {a : ClT} (w : Wst c0 w0 μ f a n)  (hK : ∀ ν f' b, Wst c0 w0 ν f' b (n + 1) → ∃ μ' : Mem, q23 1 125 629 (l4 + (9 : Int32)) ν = some ((), μ') ∧ QEnd μ') : ∃ μ' : Mem, mL_law__573 Ls xs q23 1 125 629 l4 μ = some ((), μ') ∧ QEnd μ' := by
  unfold mL_law__573
  exact pairI w (X11_fault w.1) (fun ν r k => M_fault r k) hK
theorem case_undo {c0 w0 Ls n : Nat} {xs : Nat → Int32} {q23 : Nat → Nat → Nat → Int32 → Mem → Option (Unit × Mem)} {l4 : Int32} {μ : Mem} {f : Fl} {a : ClT} (w : Wst c0 w0 μ f a n)  (hK : ∀ ν f' b, Wst c0 w0 ν f' b (n + 1) → ∃ μ' : Mem, q23 1 125 629 (l4 + (9 : Int32)) ν = some ((), μ') ∧ QEnd μ') : ∃ μ' : Mem, mL_law__586 Ls xs q23 1 125 629 l4 μ = some ((), μ') ∧ QEnd μ' := by
  unfold mL_law__586
  exact pairI w (X11_undo w.1) (fun ν r k => M_undo r k) hK
theorem case_told {c0 w0 Ls n : Nat} {xs : Nat → Int32} {q23 : Nat → Nat → Nat → Int32 → Mem → Option (Unit × Mem)} {l4 : Int32} {μ : Mem} {f : Fl} {a : ClT} (w : Wst c0 w0 μ f a n) (g1 : 0 ≤ (l4 + (1 : Int32)).toInt ∧ (l4 + (1 : Int32)).toInt < (Ls : Int)) (hK : ∀ ν f' b, Wst c0 w0 ν f' b (n + 1) → ∃ μ' : Mem, q23 1 125 629 (l4 + (9 : Int32)) ν = some ((), μ') ∧ QEnd μ') : ∃ μ' : Mem, mL_law__599 Ls xs q23 1 125 629 l4 μ = some ((), μ') ∧ QEnd μ' := by
  unfold mL_law__599 LL_told
  simp only [if_pos g1]
  refine pairX w (X11_told w.1).t (fun ν r k => M_told r k) (fun j => ?_) hK
  repeat' split
  all_goals (intro h; first | (obtain rfl := Sum.inl.inj h; exact ⟨rfl, by decide⟩) | exact nomatch h)
theorem case_pen {c0 w0 Ls n : Nat} {xs : Nat → Int32} {q23 : Nat → Nat → Nat → Int32 → Mem → Option (Unit × Mem)} {l4 : Int32} {μ : Mem} {f : Fl} {a : ClT} (w : Wst c0 w0 μ f a n) (g1 : 0 ≤ (l4 + (1 : Int32)).toInt ∧ (l4 + (1 : Int32)).toInt < (Ls : Int)) (g2 : 0 ≤ (l4 + (2 : Int32)).toInt ∧ (l4 + (2 : Int32)).toInt < (Ls : Int)) (hK : ∀ ν f' b, Wst c0 w0 ν f' b (n + 1) → ∃ μ' : Mem, q23 1 125 629 (l4 + (9 : Int32)) ν = some ((), μ') ∧ QEnd μ') : ∃ μ' : Mem, mL_law__655 Ls xs q23 1 125 629 l4 μ = some ((), μ') ∧ QEnd μ' := by
  unfold mL_law__655 LL_pen
  simp only [if_pos g1, if_pos g2]
  refine pairX w (X11_pen w.1).t (fun ν r k => M_pen r k) (fun j => ?_) hK
  repeat' split
  all_goals (intro h; first | (obtain rfl := Sum.inl.inj h; exact ⟨rfl, by decide⟩) | exact nomatch h)
theorem case_wire {c0 w0 Ls n : Nat} {xs : Nat → Int32} {q23 : Nat → Nat → Nat → Int32 → Mem → Option (Unit × Mem)} {l4 : Int32} {μ : Mem} {f : Fl} {a : ClT} (w : Wst c0 w0 μ f a n) (g1 : 0 ≤ (l4 + (1 : Int32)).toInt ∧ (l4 + (1 : Int32)).toInt < (Ls : Int)) (g2 : 0 ≤ (l4 + (2 : Int32)).toInt ∧ (l4 + (2 : Int32)).toInt < (Ls : Int)) (hK : ∀ ν f' b, Wst c0 w0 ν f' b (n + 1) → ∃ μ' : Mem, q23 1 125 629 (l4 + (9 : Int32)) ν = some ((), μ') ∧ QEnd μ') : ∃ μ' : Mem, mL_law__723 Ls xs q23 1 125 629 l4 μ = some ((), μ') ∧ QEnd μ' := by
  unfold mL_law__723 LL_wire
  simp only [if_pos g1, if_pos g2]
  refine pairX w (X11_wire w.1).t (fun ν r k => M_wire r k) (fun j => ?_) hK
  repeat' split
  all_goals (intro h; first | (obtain rfl := Sum.inl.inj h; exact ⟨rfl, by decide⟩) | exact nomatch h)
theorem case_record {c0 w0 Ls n : Nat} {xs : Nat → Int32} {q23 : Nat → Nat → Nat → Int32 → Mem → Option (Unit × Mem)} {l4 : Int32} {μ : Mem} {f : Fl} {a : ClT} (w : Wst c0 w0 μ f a n) (g1 : 0 ≤ (l4 + (1 : Int32)).toInt ∧ (l4 + (1 : Int32)).toInt < (Ls : Int)) (g2 : 0 ≤ (l4 + (2 : Int32)).toInt ∧ (l4 + (2 : Int32)).toInt < (Ls : Int)) (hK : ∀ ν f' b, Wst c0 w0 ν f' b (n + 1) → ∃ μ' : Mem, q23 1 125 629 (l4 + (9 : Int32)) ν = some ((), μ') ∧ QEnd μ') : ∃ μ' : Mem, mL_law__791 Ls xs q23 1 125 629 l4 μ = some ((), μ') ∧ QEnd μ' := by
  unfold mL_law__791 LL_record
  simp only [if_pos g1, if_pos g2]
  refine pairX w (X11_record w.1).t (fun ν r k => M_record r k) (fun j => ?_) hK
  unfold sRec
  repeat' split
  all_goals (intro h; first | (obtain rfl := Sum.inl.inj h; exact ⟨rfl, by decide⟩) | exact nomatch h)
theorem case_out {c0 w0 Ls n : Nat} {xs : Nat → Int32} {q23 : Nat → Nat → Nat → Int32 → Mem → Option (Unit × Mem)} {l4 : Int32} {μ : Mem} {f : Fl} {a : ClT} (w : Wst c0 w0 μ f a n) (g1 : 0 ≤ (l4 + (1 : Int32)).toInt ∧ (l4 + (1 : Int32)).toInt < (Ls : Int)) (g2 : 0 ≤ (l4 + (2 : Int32)).toInt ∧ (l4 + (2 : Int32)).toInt < (Ls : Int)) (hK : ∀ ν f' b, Wst c0 w0 ν f' b (n + 1) → ∃ μ' : Mem, q23 1 125 629 (l4 + (9 : Int32)) ν = some ((), μ') ∧ QEnd μ') : ∃ μ' : Mem, mL_law__859 Ls xs q23 1 125 629 l4 μ = some ((), μ') ∧ QEnd μ' := by
  unfold mL_law__859 LL_out
  simp only [if_pos g1, if_pos g2]
  refine pairX w (X11_out w.1).t (fun ν r k => M_out r k) (fun j => ?_) hK
  unfold sOut
  repeat' split
  all_goals (intro h; first | (obtain rfl := Sum.inl.inj h; exact ⟨rfl, by decide⟩) | exact nomatch h)
theorem case_level {c0 w0 Ls n : Nat} {xs : Nat → Int32} {q23 : Nat → Nat → Nat → Int32 → Mem → Option (Unit × Mem)} {l4 : Int32} {μ : Mem} {f : Fl} {a : ClT} (w : Wst c0 w0 μ f a n) (g1 : 0 ≤ (l4 + (1 : Int32)).toInt ∧ (l4 + (1 : Int32)).toInt < (Ls : Int)) (g2 : 0 ≤ (l4 + (2 : Int32)).toInt ∧ (l4 + (2 : Int32)).toInt < (Ls : Int)) (hK : ∀ ν f' b, Wst c0 w0 ν f' b (n + 1) → ∃ μ' : Mem, q23 1 125 629 (l4 + (9 : Int32)) ν = some ((), μ') ∧ QEnd μ') : ∃ μ' : Mem, mL_law__927 Ls xs q23 1 125 629 l4 μ = some ((), μ') ∧ QEnd μ' := by
  unfold mL_law__927 LL_level
  simp only [if_pos g1, if_pos g2]
  refine pairX w (X11_level w.1).t (fun ν r k => M_level r k) (fun j => ?_) hK
  repeat' split
  all_goals (intro h; first | (obtain rfl := Sum.inl.inj h; exact ⟨rfl, by decide⟩) | exact nomatch h)
theorem case_would {c0 w0 Ls n : Nat} {xs : Nat → Int32} {q23 : Nat → Nat → Nat → Int32 → Mem → Option (Unit × Mem)} {l4 : Int32} {μ : Mem} {f : Fl} {a : ClT} (w : Wst c0 w0 μ f a n) (g1 : 0 ≤ (l4 + (1 : Int32)).toInt ∧ (l4 + (1 : Int32)).toInt < (Ls : Int)) (g2 : 0 ≤ (l4 + (2 : Int32)).toInt ∧ (l4 + (2 : Int32)).toInt < (Ls : Int)) (g3 : 0 ≤ (l4 + (3 : Int32)).toInt ∧ (l4 + (3 : Int32)).toInt < (Ls : Int)) (g4 : 0 ≤ (l4 + (4 : Int32)).toInt ∧ (l4 + (4 : Int32)).toInt < (Ls : Int)) (g5 : 0 ≤ (l4 + (5 : Int32)).toInt ∧ (l4 + (5 : Int32)).toInt < (Ls : Int)) (g6 : 0 ≤ (l4 + (6 : Int32)).toInt ∧ (l4 + (6 : Int32)).toInt < (Ls : Int)) (g7 : 0 ≤ (l4 + (7 : Int32)).toInt ∧ (l4 + (7 : Int32)).toInt < (Ls : Int)) (g8 : 0 ≤ (l4 + (8 : Int32)).toInt ∧ (l4 + (8 : Int32)).toInt < (Ls : Int)) (hK : ∀ ν f' b, Wst c0 w0 ν f' b (n + 1) → ∃ μ' : Mem, q23 1 125 629 (l4 + (9 : Int32)) ν = some ((), μ') ∧ QEnd μ') : ∃ μ' : Mem, mL_law__995 Ls xs q23 1 125 629 l4 μ = some ((), μ') ∧ QEnd μ' := by
  unfold mL_law__995 LL_would
  simp only [if_pos g1, if_pos g2, if_pos g3, if_pos g4, if_pos g5, if_pos g6, if_pos g7, if_pos g8]
  refine pairX w (X11_would w.1).t (fun ν r k => M_would r k) (fun j => ?_) hK
  repeat' split
  all_goals (intro h; first | (obtain rfl := Sum.inl.inj h; exact ⟨rfl, by decide⟩) | exact nomatch h)
theorem case_total {c0 w0 Ls n : Nat} {xs : Nat → Int32} {q23 : Nat → Nat → Nat → Int32 → Mem → Option (Unit × Mem)} {l4 : Int32} {μ : Mem} {f : Fl} {a : ClT} (w : Wst c0 w0 μ f a n) (g1 : 0 ≤ (l4 + (1 : Int32)).toInt ∧ (l4 + (1 : Int32)).toInt < (Ls : Int)) (hK : ∀ ν f' b, Wst c0 w0 ν f' b (n + 1) → ∃ μ' : Mem, q23 1 125 629 (l4 + (9 : Int32)) ν = some ((), μ') ∧ QEnd μ') : ∃ μ' : Mem, mL_law__1141 Ls xs q23 1 125 629 l4 μ = some ((), μ') ∧ QEnd μ' := by
  unfold mL_law__1141 LL_total
  simp only [if_pos g1]
  refine pairX w (X11_total w.1).t (fun ν r k => M_total r k) (fun j => ?_) hK
  unfold optA
  repeat' split
  all_goals (intro h; first | (obtain rfl := Sum.inl.inj h; exact ⟨rfl, by decide⟩) | exact nomatch h)
theorem case_strange {c0 w0 Ls n : Nat} {xs : Nat → Int32} {q23 : Nat → Nat → Nat → Int32 → Mem → Option (Unit × Mem)} {l4 : Int32} {μ : Mem} {f : Fl} {a : ClT} (w : Wst c0 w0 μ f a n) (g1 : 0 ≤ (l4 + (1 : Int32)).toInt ∧ (l4 + (1 : Int32)).toInt < (Ls : Int)) (g2 : 0 ≤ (l4 + (2 : Int32)).toInt ∧ (l4 + (2 : Int32)).toInt < (Ls : Int)) (hK : ∀ ν f' b, Wst c0 w0 ν f' b (n + 1) → ∃ μ' : Mem, q23 1 125 629 (l4 + (9 : Int32)) ν = some ((), μ') ∧ QEnd μ') : ∃ μ' : Mem, mL_law__1197 Ls xs q23 1 125 629 l4 μ = some ((), μ') ∧ QEnd μ' := by
  unfold mL_law__1197 LL_strange
  simp only [if_pos g1, if_pos g2]
  refine pairX w (X11_strange w.1).t (fun ν r k => M_strange r k) (fun j => ?_) hK
  repeat' split
  all_goals (intro h; first | (obtain rfl := Sum.inl.inj h; exact ⟨rfl, by decide⟩) | exact nomatch h)
theorem case_extreme {c0 w0 Ls n : Nat} {xs : Nat → Int32} {q23 : Nat → Nat → Nat → Int32 → Mem → Option (Unit × Mem)} {l4 : Int32} {μ : Mem} {f : Fl} {a : ClT} (w : Wst c0 w0 μ f a n) (g1 : 0 ≤ (l4 + (1 : Int32)).toInt ∧ (l4 + (1 : Int32)).toInt < (Ls : Int)) (g2 : 0 ≤ (l4 + (2 : Int32)).toInt ∧ (l4 + (2 : Int32)).toInt < (Ls : Int)) (hK : ∀ ν f' b, Wst c0 w0 ν f' b (n + 1) → ∃ μ' : Mem, q23 1 125 629 (l4 + (9 : Int32)) ν = some ((), μ') ∧ QEnd μ') : ∃ μ' : Mem, mL_law__1265 Ls xs q23 1 125 629 l4 μ = some ((), μ') ∧ QEnd μ' := by
  unfold mL_law__1265 LL_extreme
  simp only [if_pos g1, if_pos g2]
  refine pairX w (X11_extreme w.1).t (fun ν r k => M_extreme r k) (fun j => ?_) hK
  repeat' split
  all_goals (intro h; first | (obtain rfl := Sum.inl.inj h; exact ⟨rfl, by decide⟩) | exact nomatch h)
theorem case_through {c0 w0 Ls n : Nat} {xs : Nat → Int32} {q23 : Nat → Nat → Nat → Int32 → Mem → Option (Unit × Mem)} {l4 : Int32} {μ : Mem} {f : Fl} {a : ClT} (w : Wst c0 w0 μ f a n) (g1 : 0 ≤ (l4 + (1 : Int32)).toInt ∧ (l4 + (1 : Int32)).toInt < (Ls : Int)) (hK : ∀ ν f' b, Wst c0 w0 ν f' b (n + 1) → ∃ μ' : Mem, q23 1 125 629 (l4 + (9 : Int32)) ν = some ((), μ') ∧ QEnd μ') : ∃ μ' : Mem, mL_law__1333 Ls xs q23 1 125 629 l4 μ = some ((), μ') ∧ QEnd μ' := by
  unfold mL_law__1333 LL_through
  simp only [if_pos g1]
  refine pairX w (X11_through w.1).t (fun ν r k => M_through r k w.1.chn) (fun j => ?_) hK
  repeat' split
  all_goals (intro h; first | (obtain rfl := Sum.inl.inj h; exact ⟨rfl, by decide⟩) | exact nomatch h)
theorem case_kept {c0 w0 Ls n : Nat} {xs : Nat → Int32} {q23 : Nat → Nat → Nat → Int32 → Mem → Option (Unit × Mem)} {l4 : Int32} {μ : Mem} {f : Fl} {a : ClT} (w : Wst c0 w0 μ f a n) (g1 : 0 ≤ (l4 + (1 : Int32)).toInt ∧ (l4 + (1 : Int32)).toInt < (Ls : Int)) (g2 : 0 ≤ (l4 + (2 : Int32)).toInt ∧ (l4 + (2 : Int32)).toInt < (Ls : Int)) (hK : ∀ ν f' b, Wst c0 w0 ν f' b (n + 1) → ∃ μ' : Mem, q23 1 125 629 (l4 + (9 : Int32)) ν = some ((), μ') ∧ QEnd μ') : ∃ μ' : Mem, mL_law__1389 Ls xs q23 1 125 629 l4 μ = some ((), μ') ∧ QEnd μ' := by
  unfold mL_law__1389 LL_kept
  simp only [if_pos g1, if_pos g2]
  refine pairX w (X11_kept w.1).t (fun ν r k => M_kept r k w.1.chn) (fun j => ?_) hK
  repeat' split
  all_goals (intro h; first | (obtain rfl := Sum.inl.inj h; exact ⟨rfl, by decide⟩) | exact nomatch h)
theorem case_gives {c0 w0 Ls n : Nat} {xs : Nat → Int32} {q23 : Nat → Nat → Nat → Int32 → Mem → Option (Unit × Mem)} {l4 : Int32} {μ : Mem} {f : Fl} {a : ClT} (w : Wst c0 w0 μ f a n) (g1 : 0 ≤ (l4 + (1 : Int32)).toInt ∧ (l4 + (1 : Int32)).toInt < (Ls : Int)) (g2 : 0 ≤ (l4 + (2 : Int32)).toInt ∧ (l4 + (2 : Int32)).toInt < (Ls : Int)) (g3 : 0 ≤ (l4 + (3 : Int32)).toInt ∧ (l4 + (3 : Int32)).toInt < (Ls : Int)) (hK : ∀ ν f' b, Wst c0 w0 ν f' b (n + 1) → ∃ μ' : Mem, q23 1 125 629 (l4 + (9 : Int32)) ν = some ((), μ') ∧ QEnd μ') : ∃ μ' : Mem, mL_law__1457 Ls xs q23 1 125 629 l4 μ = some ((), μ') ∧ QEnd μ' := by
  unfold mL_law__1457 LL_gives
  simp only [if_pos g1, if_pos g2, if_pos g3]
  refine pairX w (X11_gives w.1).t (fun ν r k => M_gives r k w.1.chn) (fun j => ?_) hK
  repeat' split
  all_goals (intro h; first | (obtain rfl := Sum.inl.inj h; exact ⟨rfl, by decide⟩) | exact nomatch h)
theorem case_worst {c0 w0 Ls n : Nat} {xs : Nat → Int32} {q23 : Nat → Nat → Nat → Int32 → Mem → Option (Unit × Mem)} {l4 : Int32} {μ : Mem} {f : Fl} {a : ClT} (w : Wst c0 w0 μ f a n) (g1 : 0 ≤ (l4 + (1 : Int32)).toInt ∧ (l4 + (1 : Int32)).toInt < (Ls : Int)) (g2 : 0 ≤ (l4 + (2 : Int32)).toInt ∧ (l4 + (2 : Int32)).toInt < (Ls : Int)) (g3 : 0 ≤ (l4 + (3 : Int32)).toInt ∧ (l4 + (3 : Int32)).toInt < (Ls : Int)) (hK : ∀ ν f' b, Wst c0 w0 ν f' b (n + 1) → ∃ μ' : Mem, q23 1 125 629 (l4 + (9 : Int32)) ν = some ((), μ') ∧ QEnd μ') : ∃ μ' : Mem, mL_law__1537 Ls xs q23 1 125 629 l4 μ = some ((), μ') ∧ QEnd μ' := by
  unfold mL_law__1537 LL_worst
  simp only [if_pos g1, if_pos g2, if_pos g3]
  refine pairX w (X11_worst w.1).t (fun ν r k => M_worst r k w.1.chn) (fun j => ?_) hK
  repeat' split
  all_goals (intro h; first | (obtain rfl := Sum.inl.inj h; exact ⟨rfl, by decide⟩) | exact nomatch h)
theorem case_best {c0 w0 Ls n : Nat} {xs : Nat → Int32} {q23 : Nat → Nat → Nat → Int32 → Mem → Option (Unit × Mem)} {l4 : Int32} {μ : Mem} {f : Fl} {a : ClT} (w : Wst c0 w0 μ f a n) (g1 : 0 ≤ (l4 + (1 : Int32)).toInt ∧ (l4 + (1 : Int32)).toInt < (Ls : Int)) (g2 : 0 ≤ (l4 + (2 : Int32)).toInt ∧ (l4 + (2 : Int32)).toInt < (Ls : Int)) (g3 : 0 ≤ (l4 + (3 : Int32)).toInt ∧ (l4 + (3 : Int32)).toInt < (Ls : Int)) (g4 : 0 ≤ (l4 + (4 : Int32)).toInt ∧ (l4 + (4 : Int32)).toInt < (Ls : Int)) (hK : ∀ ν f' b, Wst c0 w0 ν f' b (n + 1) → ∃ μ' : Mem, q23 1 125 629 (l4 + (9 : Int32)) ν = some ((), μ') ∧ QEnd μ') : ∃ μ' : Mem, mL_law__1617 Ls xs q23 1 125 629 l4 μ = some ((), μ') ∧ QEnd μ' := by
  unfold mL_law__1617 LL_best
  simp only [if_pos g1, if_pos g2, if_pos g3, if_pos g4]
  refine pairX w (X11_best w.1).t (fun ν r k => M_best r k) (fun j => ?_) hK
  repeat' split
  all_goals (intro h; first | (obtain rfl := Sum.inl.inj h; exact ⟨rfl, by decide⟩) | exact nomatch h)
theorem case_hop {c0 w0 Ls n : Nat} {xs : Nat → Int32} {q23 : Nat → Nat → Nat → Int32 → Mem → Option (Unit × Mem)} {l4 : Int32} {μ : Mem} {f : Fl} {a : ClT} (w : Wst c0 w0 μ f a n) (g1 : 0 ≤ (l4 + (1 : Int32)).toInt ∧ (l4 + (1 : Int32)).toInt < (Ls : Int)) (g2 : 0 ≤ (l4 + (2 : Int32)).toInt ∧ (l4 + (2 : Int32)).toInt < (Ls : Int)) (g3 : 0 ≤ (l4 + (3 : Int32)).toInt ∧ (l4 + (3 : Int32)).toInt < (Ls : Int)) (g4 : 0 ≤ (l4 + (4 : Int32)).toInt ∧ (l4 + (4 : Int32)).toInt < (Ls : Int)) (hK : ∀ ν f' b, Wst c0 w0 ν f' b (n + 1) → ∃ μ' : Mem, q23 1 125 629 (l4 + (9 : Int32)) ν = some ((), μ') ∧ QEnd μ') : ∃ μ' : Mem, mL_law__1709 Ls xs q23 1 125 629 l4 μ = some ((), μ') ∧ QEnd μ' := by
  unfold mL_law__1709 LL_hop
  simp only [if_pos g1, if_pos g2, if_pos g3, if_pos g4]
  refine pairX w (X11_hop w.1).t (fun ν r k => M_hop r k) (fun j => ?_) hK
  unfold sHop
  repeat' split
  all_goals (intro h; first | (obtain rfl := Sum.inl.inj h; exact ⟨rfl, by decide⟩) | exact nomatch h)
theorem case_tuning {c0 w0 Ls n : Nat} {xs : Nat → Int32} {q23 : Nat → Nat → Nat → Int32 → Mem → Option (Unit × Mem)} {l4 : Int32} {μ : Mem} {f : Fl} {a : ClT} (w : Wst c0 w0 μ f a n) (g1 : 0 ≤ (l4 + (1 : Int32)).toInt ∧ (l4 + (1 : Int32)).toInt < (Ls : Int)) (g2 : 0 ≤ (l4 + (2 : Int32)).toInt ∧ (l4 + (2 : Int32)).toInt < (Ls : Int)) (g3 : 0 ≤ (l4 + (3 : Int32)).toInt ∧ (l4 + (3 : Int32)).toInt < (Ls : Int)) (hK : ∀ ν f' b, Wst c0 w0 ν f' b (n + 1) → ∃ μ' : Mem, q23 1 125 629 (l4 + (9 : Int32)) ν = some ((), μ') ∧ QEnd μ') : ∃ μ' : Mem, mL_law__1801 Ls xs q23 1 125 629 l4 μ = some ((), μ') ∧ QEnd μ' := by
  unfold mL_law__1801 LL_tuning
  simp only [if_pos g1, if_pos g2, if_pos g3]
  refine pairX w (X11_tuning w.1).t (fun ν r k => M_tuning r k) (fun j => ?_) hK
  repeat' split
  all_goals (intro h; first | (obtain rfl := Sum.inl.inj h; exact ⟨rfl, by decide⟩) | exact nomatch h)
theorem case_ring {c0 w0 Ls n : Nat} {xs : Nat → Int32} {q23 : Nat → Nat → Nat → Int32 → Mem → Option (Unit × Mem)} {l4 : Int32} {μ : Mem} {f : Fl} {a : ClT} (w : Wst c0 w0 μ f a n) (g1 : 0 ≤ (l4 + (1 : Int32)).toInt ∧ (l4 + (1 : Int32)).toInt < (Ls : Int)) (g2 : 0 ≤ (l4 + (2 : Int32)).toInt ∧ (l4 + (2 : Int32)).toInt < (Ls : Int)) (g3 : 0 ≤ (l4 + (3 : Int32)).toInt ∧ (l4 + (3 : Int32)).toInt < (Ls : Int)) (hK : ∀ ν f' b, Wst c0 w0 ν f' b (n + 1) → ∃ μ' : Mem, q23 1 125 629 (l4 + (9 : Int32)) ν = some ((), μ') ∧ QEnd μ') : ∃ μ' : Mem, mL_law__1881 Ls xs q23 1 125 629 l4 μ = some ((), μ') ∧ QEnd μ' := by
  unfold mL_law__1881 LL_ring
  simp only [if_pos g1, if_pos g2, if_pos g3]
  refine pairX w (X11_ring w.1).t (fun ν r k => M_ring r k) (fun j => ?_) hK
  repeat' split
  all_goals (intro h; first | (obtain rfl := Sum.inl.inj h; exact ⟨rfl, by decide⟩) | exact nomatch h)
theorem case_fits {c0 w0 Ls n : Nat} {xs : Nat → Int32} {q23 : Nat → Nat → Nat → Int32 → Mem → Option (Unit × Mem)} {l4 : Int32} {μ : Mem} {f : Fl} {a : ClT} (w : Wst c0 w0 μ f a n)  (hK : ∀ ν f' b, Wst c0 w0 ν f' b (n + 1) → ∃ μ' : Mem, q23 1 125 629 (l4 + (9 : Int32)) ν = some ((), μ') ∧ QEnd μ') : ∃ μ' : Mem, mL_law__1961 Ls xs q23 1 125 629 l4 μ = some ((), μ') ∧ QEnd μ' := by
  unfold mL_law__1961
  exact pairI w (AskI.p w.1 (X11_fits w.1)) (fun ν r k => M_fits r k) hK
theorem case_look {c0 w0 Ls n : Nat} {xs : Nat → Int32} {q23 : Nat → Nat → Nat → Int32 → Mem → Option (Unit × Mem)} {l4 : Int32} {μ : Mem} {f : Fl} {a : ClT} (w : Wst c0 w0 μ f a n) (g1 : 0 ≤ (l4 + (1 : Int32)).toInt ∧ (l4 + (1 : Int32)).toInt < (Ls : Int)) (hK : ∀ ν f' b, Wst c0 w0 ν f' b (n + 1) → ∃ μ' : Mem, q23 1 125 629 (l4 + (9 : Int32)) ν = some ((), μ') ∧ QEnd μ') : ∃ μ' : Mem, mL_law__1974 Ls xs q23 1 125 629 l4 μ = some ((), μ') ∧ QEnd μ' := by
  unfold mL_law__1974 LL_look
  simp only [if_pos g1]
  refine pairX w (X11_look w.1).t (fun ν r k => M_look r k) (fun j => ?_) hK
  repeat' split
  all_goals (intro h; first | (obtain rfl := Sum.inl.inj h; exact ⟨rfl, by decide⟩) | exact nomatch h)
theorem case_ready {c0 w0 Ls n : Nat} {xs : Nat → Int32} {q23 : Nat → Nat → Nat → Int32 → Mem → Option (Unit × Mem)} {l4 : Int32} {μ : Mem} {f : Fl} {a : ClT} (w : Wst c0 w0 μ f a n) (g1 : 0 ≤ (l4 + (1 : Int32)).toInt ∧ (l4 + (1 : Int32)).toInt < (Ls : Int)) (hK : ∀ ν f' b, Wst c0 w0 ν f' b (n + 1) → ∃ μ' : Mem, q23 1 125 629 (l4 + (9 : Int32)) ν = some ((), μ') ∧ QEnd μ') : ∃ μ' : Mem, mL_law__2030 Ls xs q23 1 125 629 l4 μ = some ((), μ') ∧ QEnd μ' := by
  unfold mL_law__2030
  simp only [if_pos g1]
  exact pairI w (AskI.p w.1 (X11_ready w.1 _)) (fun ν r k => M_ready r k) hK
theorem case_latest {c0 w0 Ls n : Nat} {xs : Nat → Int32} {q23 : Nat → Nat → Nat → Int32 → Mem → Option (Unit × Mem)} {l4 : Int32} {μ : Mem} {f : Fl} {a : ClT} (w : Wst c0 w0 μ f a n) (g1 : 0 ≤ (l4 + (1 : Int32)).toInt ∧ (l4 + (1 : Int32)).toInt < (Ls : Int)) (hK : ∀ ν f' b, Wst c0 w0 ν f' b (n + 1) → ∃ μ' : Mem, q23 1 125 629 (l4 + (9 : Int32)) ν = some ((), μ') ∧ QEnd μ') : ∃ μ' : Mem, mL_law__2055 Ls xs q23 1 125 629 l4 μ = some ((), μ') ∧ QEnd μ' := by
  unfold mL_law__2055 LL_latest
  simp only [if_pos g1]
  obtain ⟨ix, hix⟩ : ∃ ix : Nat → Nat, ix = fun k => if k = 0 then 1 else k := ⟨_, rfl⟩
  refine pairX (ix := ix) w (X11_latest w.1).t (fun ν r k => by rw [hix]; exact M_latest r k) (fun j => ?_) hK
  unfold sLat
  repeat' split
  all_goals (intro h; first | (obtain rfl := Sum.inl.inj h; rw [hix]; exact ⟨rfl, by decide⟩) | exact nomatch h)
theorem case_alike {c0 w0 Ls n : Nat} {xs : Nat → Int32} {q23 : Nat → Nat → Nat → Int32 → Mem → Option (Unit × Mem)} {l4 : Int32} {μ : Mem} {f : Fl} {a : ClT} (w : Wst c0 w0 μ f a n) (g1 : 0 ≤ (l4 + (1 : Int32)).toInt ∧ (l4 + (1 : Int32)).toInt < (Ls : Int)) (g2 : 0 ≤ (l4 + (2 : Int32)).toInt ∧ (l4 + (2 : Int32)).toInt < (Ls : Int)) (hK : ∀ ν f' b, Wst c0 w0 ν f' b (n + 1) → ∃ μ' : Mem, q23 1 125 629 (l4 + (9 : Int32)) ν = some ((), μ') ∧ QEnd μ') : ∃ μ' : Mem, mL_law__2111 Ls xs q23 1 125 629 l4 μ = some ((), μ') ∧ QEnd μ' := by
  unfold mL_law__2111 LL_alike mL_law__2177
  simp only [if_pos g1, if_pos g2]
  refine pairB w (X11_alike w.1).t (fun ν r k => M_alike r k) (fun j => ?_) hK
  repeat' split
  all_goals (intro h; first | (obtain rfl := Sum.inl.inj h; exact ⟨rfl, by decide⟩) | exact nomatch h)
theorem case_chained {c0 w0 Ls n : Nat} {xs : Nat → Int32} {q23 : Nat → Nat → Nat → Int32 → Mem → Option (Unit × Mem)} {l4 : Int32} {μ : Mem} {f : Fl} {a : ClT} (w : Wst c0 w0 μ f a n) (g1 : 0 ≤ (l4 + (1 : Int32)).toInt ∧ (l4 + (1 : Int32)).toInt < (Ls : Int)) (hK : ∀ ν f' b, Wst c0 w0 ν f' b (n + 1) → ∃ μ' : Mem, q23 1 125 629 (l4 + (9 : Int32)) ν = some ((), μ') ∧ QEnd μ') : ∃ μ' : Mem, mL_law__2186 Ls xs q23 1 125 629 l4 μ = some ((), μ') ∧ QEnd μ' := by
  unfold mL_law__2186 LL_chained
  simp only [if_pos g1]
  refine pairX w (X11_chained w.1).t (fun ν r k => M_chained r k w.1.chn) (fun j => ?_) hK
  repeat' split
  all_goals (intro h; first | (obtain rfl := Sum.inl.inj h; exact ⟨rfl, by decide⟩) | exact nomatch h)
theorem case_liar {c0 w0 Ls n : Nat} {xs : Nat → Int32} {q23 : Nat → Nat → Nat → Int32 → Mem → Option (Unit × Mem)} {l4 : Int32} {μ : Mem} {f : Fl} {a : ClT} (w : Wst c0 w0 μ f a n) (g1 : 0 ≤ (l4 + (1 : Int32)).toInt ∧ (l4 + (1 : Int32)).toInt < (Ls : Int)) (g2 : 0 ≤ (l4 + (2 : Int32)).toInt ∧ (l4 + (2 : Int32)).toInt < (Ls : Int)) (hK : ∀ ν f' b, Wst c0 w0 ν f' b (n + 1) → ∃ μ' : Mem, q23 1 125 629 (l4 + (9 : Int32)) ν = some ((), μ') ∧ QEnd μ') : ∃ μ' : Mem, mL_law__2242 Ls xs q23 1 125 629 l4 μ = some ((), μ') ∧ QEnd μ' := by
  unfold mL_law__2242 LL_liar
  simp only [if_pos g1, if_pos g2]
  refine pairX w (X11_liar w.1).t (fun ν r k => M_liar r k) (fun j => ?_) hK
  repeat' split
  all_goals (intro h; first | (obtain rfl := Sum.inl.inj h; exact ⟨rfl, by decide⟩) | exact nomatch h)
theorem case_reach {c0 w0 Ls n : Nat} {xs : Nat → Int32} {q23 : Nat → Nat → Nat → Int32 → Mem → Option (Unit × Mem)} {l4 : Int32} {μ : Mem} {f : Fl} {a : ClT} (w : Wst c0 w0 μ f a n) (g1 : 0 ≤ (l4 + (1 : Int32)).toInt ∧ (l4 + (1 : Int32)).toInt < (Ls : Int)) (hK : ∀ ν f' b, Wst c0 w0 ν f' b (n + 1) → ∃ μ' : Mem, q23 1 125 629 (l4 + (9 : Int32)) ν = some ((), μ') ∧ QEnd μ') : ∃ μ' : Mem, mL_law__2310 Ls xs q23 1 125 629 l4 μ = some ((), μ') ∧ QEnd μ' := by
  unfold mL_law__2310 LL_reach
  simp only [if_pos g1]
  refine pairX w (X11_reach w.1).t (fun ν r k => M_reach r k) (fun j => ?_) hK
  repeat' split
  all_goals (intro h; first | (obtain rfl := Sum.inl.inj h; exact ⟨rfl, by decide⟩) | exact nomatch h)
theorem case_room {c0 w0 Ls n : Nat} {xs : Nat → Int32} {q23 : Nat → Nat → Nat → Int32 → Mem → Option (Unit × Mem)} {l4 : Int32} {μ : Mem} {f : Fl} {a : ClT} (w : Wst c0 w0 μ f a n)  (hK : ∀ ν f' b, Wst c0 w0 ν f' b (n + 1) → ∃ μ' : Mem, q23 1 125 629 (l4 + (9 : Int32)) ν = some ((), μ') ∧ QEnd μ') : ∃ μ' : Mem, mL_law__2366 Ls xs q23 1 125 629 l4 μ = some ((), μ') ∧ QEnd μ' := by
  unfold mL_law__2366
  exact pairI w (AskI.p w.1 (X11_room w.1)) (fun ν r k => M_room r k) hK
theorem case_season {c0 w0 Ls n : Nat} {xs : Nat → Int32} {q23 : Nat → Nat → Nat → Int32 → Mem → Option (Unit × Mem)} {l4 : Int32} {μ : Mem} {f : Fl} {a : ClT} (w : Wst c0 w0 μ f a n) (g1 : 0 ≤ (l4 + (1 : Int32)).toInt ∧ (l4 + (1 : Int32)).toInt < (Ls : Int)) (g2 : 0 ≤ (l4 + (2 : Int32)).toInt ∧ (l4 + (2 : Int32)).toInt < (Ls : Int)) (g3 : 0 ≤ (l4 + (3 : Int32)).toInt ∧ (l4 + (3 : Int32)).toInt < (Ls : Int)) (g4 : 0 ≤ (l4 + (4 : Int32)).toInt ∧ (l4 + (4 : Int32)).toInt < (Ls : Int)) (hK : ∀ ν f' b, Wst c0 w0 ν f' b (n + 1) → ∃ μ' : Mem, q23 1 125 629 (l4 + (9 : Int32)) ν = some ((), μ') ∧ QEnd μ') : ∃ μ' : Mem, mL_law__2379 Ls xs q23 1 125 629 l4 μ = some ((), μ') ∧ QEnd μ' := by
  unfold mL_law__2379 LL_season
  simp only [if_pos g1, if_pos g2, if_pos g3, if_pos g4]
  refine pairX w (X11_season w.1).t (fun ν r k => M_season r k) (fun j => ?_) hK
  repeat' split
  all_goals (intro h; first | (obtain rfl := Sum.inl.inj h; exact ⟨rfl, by decide⟩) | exact nomatch h)
theorem case_span {c0 w0 Ls n : Nat} {xs : Nat → Int32} {q23 : Nat → Nat → Nat → Int32 → Mem → Option (Unit × Mem)} {l4 : Int32} {μ : Mem} {f : Fl} {a : ClT} (w : Wst c0 w0 μ f a n) (g1 : 0 ≤ (l4 + (1 : Int32)).toInt ∧ (l4 + (1 : Int32)).toInt < (Ls : Int)) (g2 : 0 ≤ (l4 + (2 : Int32)).toInt ∧ (l4 + (2 : Int32)).toInt < (Ls : Int)) (g3 : 0 ≤ (l4 + (3 : Int32)).toInt ∧ (l4 + (3 : Int32)).toInt < (Ls : Int)) (g4 : 0 ≤ (l4 + (4 : Int32)).toInt ∧ (l4 + (4 : Int32)).toInt < (Ls : Int)) (g5 : 0 ≤ (l4 + (5 : Int32)).toInt ∧ (l4 + (5 : Int32)).toInt < (Ls : Int)) (g6 : 0 ≤ (l4 + (6 : Int32)).toInt ∧ (l4 + (6 : Int32)).toInt < (Ls : Int)) (hK : ∀ ν f' b, Wst c0 w0 ν f' b (n + 1) → ∃ μ' : Mem, q23 1 125 629 (l4 + (9 : Int32)) ν = some ((), μ') ∧ QEnd μ') : ∃ μ' : Mem, mL_law__2471 Ls xs q23 1 125 629 l4 μ = some ((), μ') ∧ QEnd μ' := by
  unfold mL_law__2471 LL_span
  simp only [if_pos g1, if_pos g2, if_pos g3, if_pos g4, if_pos g5, if_pos g6]
  refine pairX w (X11_span w.1).t (fun ν r k => M_span r k) (fun j => ?_) hK
  repeat' split
  all_goals (intro h; first | (obtain rfl := Sum.inl.inj h; exact ⟨rfl, by decide⟩) | exact nomatch h)
theorem case_image {c0 w0 Ls n : Nat} {xs : Nat → Int32} {q23 : Nat → Nat → Nat → Int32 → Mem → Option (Unit × Mem)} {l4 : Int32} {μ : Mem} {f : Fl} {a : ClT} (w : Wst c0 w0 μ f a n)  (hK : ∀ ν f' b, Wst c0 w0 ν f' b (n + 1) → ∃ μ' : Mem, q23 1 125 629 (l4 + (9 : Int32)) ν = some ((), μ') ∧ QEnd μ') : ∃ μ' : Mem, mL_law__2589 Ls xs q23 1 125 629 l4 μ = some ((), μ') ∧ QEnd μ' := by
  unfold mL_law__2589
  exact pairI w (X11_image w.1) (fun ν r k => M_image r k) hK
theorem case_restore {c0 w0 Ls n : Nat} {xs : Nat → Int32} {q23 : Nat → Nat → Nat → Int32 → Mem → Option (Unit × Mem)} {l4 : Int32} {μ : Mem} {f : Fl} {a : ClT} (w : Wst c0 w0 μ f a n)  (hK : ∀ ν f' b, Wst c0 w0 ν f' b (n + 1) → ∃ μ' : Mem, q23 1 125 629 (l4 + (9 : Int32)) ν = some ((), μ') ∧ QEnd μ') : ∃ μ' : Mem, mL_law__2602 Ls xs q23 1 125 629 l4 μ = some ((), μ') ∧ QEnd μ' := by
  unfold mL_law__2602
  exact pairI w (X11_restore w.1) (fun ν r k => M_restore r k) hK
theorem case_status {c0 w0 Ls n : Nat} {xs : Nat → Int32} {q23 : Nat → Nat → Nat → Int32 → Mem → Option (Unit × Mem)} {l4 : Int32} {μ : Mem} {f : Fl} {a : ClT} (w : Wst c0 w0 μ f a n) (g1 : 0 ≤ (l4 + (1 : Int32)).toInt ∧ (l4 + (1 : Int32)).toInt < (Ls : Int)) (hK : ∀ ν f' b, Wst c0 w0 ν f' b (n + 1) → ∃ μ' : Mem, q23 1 125 629 (l4 + (9 : Int32)) ν = some ((), μ') ∧ QEnd μ') : ∃ μ' : Mem, mL_law__2615 Ls xs q23 1 125 629 l4 μ = some ((), μ') ∧ QEnd μ' := by
  unfold mL_law__2615
  simp only [if_pos g1]
  exact pairI w (X11_status w.1) (fun ν r k => M_status r k) hK
theorem case_count {c0 w0 Ls n : Nat} {xs : Nat → Int32} {q23 : Nat → Nat → Nat → Int32 → Mem → Option (Unit × Mem)} {l4 : Int32} {μ : Mem} {f : Fl} {a : ClT} (w : Wst c0 w0 μ f a n) (g1 : 0 ≤ (l4 + (1 : Int32)).toInt ∧ (l4 + (1 : Int32)).toInt < (Ls : Int)) (hK : ∀ ν f' b, Wst c0 w0 ν f' b (n + 1) → ∃ μ' : Mem, q23 1 125 629 (l4 + (9 : Int32)) ν = some ((), μ') ∧ QEnd μ') : ∃ μ' : Mem, mL_law__2640 Ls xs q23 1 125 629 l4 μ = some ((), μ') ∧ QEnd μ' := by
  unfold mL_law__2640
  simp only [if_pos g1]
  exact pairI w (X11_count w.1) (fun ν r k => M_count r k) hK
