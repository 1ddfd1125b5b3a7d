/-! ===== the reference: STEPS in order ===== -/
abbrev gF : Nat → Prop := fun k => k = 36 ∨ k = 39 ∨ k = 40
/-- what WORK is at in the reference -/
def GoM (μ : Mem) (t : HutT) (ops : OpsT) (n : Nat) (pr : Nat → StepT) (w : WkT) : Prop := RwC μ 603 t ops w.2.2.2 ∧ g_I μ 125 39 = nI w.1 ∧ g_I μ 125 40 = nI w.2.1 ∧ g_I μ 125 36 = nI w.2.2.1 ∧ w.1 ≤ 200 ∧ ∀ i, i < n → StpM μ (523 + i) (pr i)
theorem StpM.fr {μ ν : Mem} {hs : Nat} {q : StepT} (s : StpM μ hs q) (e : g_I ν hs = g_I μ hs) : StpM ν hs q := by
  unfold StpM
  rw [e]
  exact s
theorem runI_id {t : HutT} {ops : OpsT} {pr : Nat → StepT} {rec : Nat → Nat → WkT → WkT} {g i to : Nat} {w : WkT} (h : 200 ≤ w.1) : runI t ops pr rec g i to w = w := by
  cases g with
  | zero => rfl
  | succ g =>
    show (if to ≤ i then w else if 200 ≤ w.1 then w else _) = w
    by_cases h1 : to ≤ i
    · rw [if_pos h1]
    · rw [if_neg h1, if_pos h]
theorem runW_id {t : HutT} {ops : OpsT} {pr : Nat → StepT} {D i to : Nat} {w : WkT} (h : 200 ≤ w.1) : runW t ops pr D i to w = w := by
  cases D with
  | zero => exact runI_id h
  | succ D => exact runI_id h
theorem stp_at {μ : Mem} {i : Nat} (s : RfS μ) (hi : i < 80) : inA μ 522 19 (nI i) = true ∧ g_R μ 522 (nI i).toNatClampNeg = 523 + i ∧ 0 < 523 + i ∧ ArS μ (523 + i) 5 := s.t522.at hi (by decide)
theorem R_goes144 {μ : Mem} {t : HutT} {ops : OpsT} {n i to : Nat} {pr : Nat → StepT} {w : WkT} {rec q2 : Nat → Int32 → Int32 → Mem → Option (Unit × Mem)} (g : GoM μ t ops n pr w) (hn : n ≤ 37) (hi : i < n) : mX12_goes_144 rec q2 125 (nI to) (nI i) μ = q2 125 (nI to) (nI (pr i).2.2.2.2) μ := by
  obtain ⟨a1, a2, a3, a4⟩ := stp_at (i := i) g.1.1 (by omega)
  unfold mX12_goes_144
  rw [g.1.1.h27, if_pos q522, if_pos a1, a2, if_pos a3, if_pos (show inA μ (523 + i) 15 (4 : Int32) = true from a4.ix (i := 4) (by decide) (by decide)), c4n, (g.2.2.2.2.2 i hi).2.2.2.2]
theorem R_goes43 {t : HutT} {ops : OpsT} {n i to e N : Nat} {pr : Nat → StepT} {rec q2 : Nat → Int32 → Int32 → Mem → Option (Unit × Mem)} {rc : Nat → Nat → WkT → WkT} (hn : n ≤ 37) (hi : i < n) (he : (pr i).2.2.2.2 = e) (h9 : (pr i).1 = 9) (hN : (pr i).2.1 = N) (hN6 : N ≤ 60) (hid : ∀ w, 200 ≤ w.1 → rc (i + 1) e w = w)
    (hrec : ∀ (w : WkT) (μ : Mem), GoM μ t ops n pr w → ∃ μ' : Mem, rec 125 (nI (i + 1)) (nI e) μ = some ((), μ') ∧ OF gF (dS 603) μ μ' ∧ GoM μ' t ops n pr (rc (i + 1) e w)) : ∀ (f k fu : Nat) (w : WkT) (μ : Mem), f + k = N → f < fu → GoM μ t ops n pr w → ∃ μ' : Mem, mX12_goes_43 rec q2 fu 125 (nI to) (nI i) (nI k) μ = q2 125 (nI to) (nI e) μ' ∧ OF gF (dS 603) μ μ' ∧ GoM μ' t ops n pr (itW (rc (i + 1) e) f w) := by
  intro f
  induction f with
  | zero =>
    intro k fu w μ hk hf g
    obtain ⟨fu, rfl⟩ : ∃ q, fu = q + 1 := ⟨fu - 1, by omega⟩
    obtain ⟨a1, a2, a3, a4⟩ := stp_at (i := i) g.1.1 (by omega)
    have hN' : g_I μ (523 + i) 1 = nI N := by rw [(g.2.2.2.2.2 i hi).2.1 (by omega), hN]
    rw [mX12_goes_43, g.1.1.h27, if_pos q522, if_pos a1, a2, if_pos a3, if_pos (show inA μ (523 + i) 15 (1 : Int32) = true from a4.ix (i := 1) (by decide) (by decide)), c1n, hN', if_pos (nI_le (by omega) (by omega)), R_goes144 g hn hi, he]
    exact ⟨μ, rfl, OF.rf, g⟩
  | succ f ih =>
    intro k fu w μ hk hf g
    obtain ⟨fu, rfl⟩ : ∃ q, fu = q + 1 := ⟨fu - 1, by omega⟩
    obtain ⟨a1, a2, a3, a4⟩ := stp_at (i := i) g.1.1 (by omega)
    have hN' : g_I μ (523 + i) 1 = nI N := by rw [(g.2.2.2.2.2 i hi).2.1 (by omega), hN]
    have hw := g.2.2.2.2.1
    rw [mX12_goes_43, g.1.1.h27, if_pos q522, if_pos a1, a2, if_pos a3, if_pos (show inA μ (523 + i) 15 (1 : Int32) = true from a4.ix (i := 1) (by decide) (by decide)), c1n, hN', if_neg (nI_ge (by omega) (by omega)), g.2.1]
    by_cases h2 : 200 ≤ w.1
    · rw [if_pos (show (200 : Int32) ≤ nI w.1 from nI_le (a := 200) h2 (by omega)), R_goes144 g hn hi, he]
      have eid : ∀ (m : Nat) (w : WkT), 200 ≤ w.1 → itW (rc (i + 1) e) m w = w := by
        intro m
        induction m with
        | zero => intro w _; rfl
        | succ m ihm => intro w hw; show itW (rc (i + 1) e) m (rc (i + 1) e w) = w; rw [hid w hw]; exact ihm w hw
      rw [eid (f + 1) w h2]
      exact ⟨μ, rfl, OF.rf, g⟩
    · have e4 : g_I μ (523 + i) 4 = nI e := by rw [(g.2.2.2.2.2 i hi).2.2.2.2, he]
      rw [if_neg (show ¬ (200 : Int32) ≤ nI w.1 from nI_ge (b := 200) (by omega) (by decide)), if_pos (show inA μ (523 + i) 15 (4 : Int32) = true from a4.ix (i := 4) (by decide) (by decide)), c4n, e4, ← nI_succ, ← nI_succ]
      obtain ⟨μ1, e1, o1, g1⟩ := hrec w μ g
      rw [e1, ob]
      obtain ⟨μ', e2, o2, g2⟩ := ih (k + 1) fu (rc (i + 1) e w) μ1 (by omega) (by omega) g1
      exact ⟨μ', e2, o1.tr o2, g2⟩
theorem GoM.p {μ : Mem} {t : HutT} {ops : OpsT} {n : Nat} {pr : Nat → StepT} {w : WkT} (g : GoM μ t ops n pr w) (hn : n ≤ 37) (h2 : w.1 < 200) : GoM (p_I μ 125 39 (nI (w.1 + 1))) t ops n pr (w.1 + 1, w.2) := by
  have o : OF (fun k => k = 39) nS μ (p_I μ 125 39 (nI (w.1 + 1))) := OF.rf.p0 rfl
  exact ⟨g.1.o o (by decide) (fun x z => z.elim) (g.1.r.o o (by decide) (fun z => z)) g.1.k, gI_s, by rw [gI_k (by decide)]; exact g.2.2.1, by rw [gI_k (by decide)]; exact g.2.2.2.1, h2, fun i hi => (g.2.2.2.2.2 i hi).fr (gI_rowo (by omega))⟩
theorem R_goesI {t : HutT} {ops : OpsT} {n to : Nat} {pr : Nat → StepT} {rec : Nat → Int32 → Int32 → Mem → Option (Unit × Mem)} {rc : Nat → Nat → WkT → WkT} {P : Nat → Nat → Prop} (hn : n ≤ 37) (hto : to ≤ n) (hok : ∀ i, i < n → StepOk t (pr i)) (hid : ∀ i e w, 200 ≤ w.1 → rc i e w = w)
    (hrec : ∀ (i e : Nat) (w : WkT) (μ : Mem), P i e → e ≤ n → GoM μ t ops n pr w → ∃ μ' : Mem, rec 125 (nI i) (nI e) μ = some ((), μ') ∧ OF gF (dS 603) μ μ' ∧ GoM μ' t ops n pr (rc i e w)) : ∀ (g G i fu : Nat) (w : WkT) (μ : Mem), SeqW pr P g i to → g ≤ G → g < fu → GoM μ t ops n pr w → ∃ μ' : Mem, mX12_goes_2 rec fu 125 (nI to) (nI i) μ = some ((), μ') ∧ OF gF (dS 603) μ μ' ∧ GoM μ' t ops n pr (runI t ops pr rc G i to w) := by
  intro g
  induction g with
  | zero =>
    intro G i fu w μ hs hG hf c
    obtain ⟨fu, rfl⟩ : ∃ q, fu = q + 1 := ⟨fu - 1, by omega⟩
    have hs : i = to := hs
    have er : runI t ops pr rc G i to w = w := by
      cases G with
      | zero => rfl
      | succ G => exact if_pos (by omega)
    rw [mX12_goes_2, if_pos (nI_le (by omega) (by omega)), er]
    exact ⟨μ, rfl, OF.rf, c⟩
  | succ g ih =>
    intro G i fu w μ hs hG hf c
    obtain ⟨fu, rfl⟩ : ∃ q, fu = q + 1 := ⟨fu - 1, by omega⟩
    obtain ⟨G, rfl⟩ : ∃ q, G = q + 1 := ⟨G - 1, by omega⟩
    obtain ⟨h1, h2, h3, h4⟩ := hs
    have hi : i < n := by omega
    have er : runI t ops pr rc (G + 1) i to w = if to ≤ i then w else if 200 ≤ w.1 then w else runI t ops pr rc G (max (i + 1) (pr i).2.2.2.2) to (if (pr i).1 = 9 then itW (rc (i + 1) (pr i).2.2.2.2) (pr i).2.1 (w.1 + 1, w.2) else oneW t ops (pr i) w) := rfl
    have hw := c.2.2.2.2.1
    rw [mX12_goes_2, if_neg (nI_ge (by omega) (by omega)), c.2.1, er, if_neg (show ¬ to ≤ i by omega)]
    by_cases w2 : 200 ≤ w.1
    · rw [if_pos (show (200 : Int32) ≤ nI w.1 from nI_le (a := 200) w2 (by omega)), if_pos w2]
      exact ⟨μ, rfl, OF.rf, c⟩
    rw [if_neg (show ¬ (200 : Int32) ≤ nI w.1 from nI_ge (b := 200) (by omega) (by decide)), if_neg w2, show max (i + 1) (pr i).2.2.2.2 = (pr i).2.2.2.2 by omega]
    obtain ⟨a1, a2, a3, a4⟩ := stp_at (i := i) c.1.1 (by omega)
    have k0 : g_I (p_I μ 125 39 (nI (w.1 + 1))) (523 + i) 0 = nI (pr i).1 := by rw [gI_h (by omega)]; exact (c.2.2.2.2.2 i hi).1
    rw [c.1.1.h27, if_pos q522, if_pos a1, a2, if_pos a3, if_pos (show inA μ (523 + i) 15 (0 : Int32) = true from a4.ix (i := 0) (by decide) (by decide)), c0n, ← nI_succ, k0]
    have c1 := c.p hn (by omega)
    have o0 : OF gF (dS 603) μ (p_I μ 125 39 (nI (w.1 + 1))) := OF.rf.p0 (Or.inr (Or.inl rfl))
    have k9 := (hok i hi).1
    by_cases h9 : (pr i).1 = 9
    · rw [h9, if_pos (show nI 9 = (9 : Int32) from rfl), if_pos rfl]
      have h60 := (hok i hi).2.2.2.2.2.2.2 h9
      obtain ⟨μ1, e1, o1, g1⟩ := R_goes43 (rec := rec) (q2 := fun l0 l2 l3 μ => mX12_goes_2 rec fu l0 l2 l3 μ) (rc := rc) (to := to) (N := (pr i).2.1) hn hi rfl h9 rfl h60 (fun w hw => hid _ _ w hw) (fun w μ gw => hrec _ _ w μ (h3 h9) (by omega) gw) (pr i).2.1 0 100000 (w.1 + 1, w.2) _ rfl (by omega) c1
      have e1 : mX12_goes_43 rec (fun l0 l2 l3 μ => mX12_goes_2 rec fu l0 l2 l3 μ) 100000 125 (nI to) (nI i) (0 : Int32) (p_I μ 125 39 (nI (w.1 + 1))) = mX12_goes_2 rec fu 125 (nI to) (nI (pr i).2.2.2.2) μ1 := e1
      obtain ⟨μ', e2, o2, g2⟩ := ih G (pr i).2.2.2.2 fu _ μ1 h4 (by omega) (by omega) g1
      rw [e1]
      exact ⟨μ', e2, (o0.tr o1).tr o2, g2⟩
    · have h9' : ¬ nI (pr i).1 = (9 : Int32) := fun z => h9 ((nI_eq (by omega) (by decide)).mp (show nI (pr i).1 = nI 9 from z))
      rw [if_neg h9', if_neg h9, c.1.1.h29, if_pos q603]
      obtain ⟨μ1, e1, o1, r1⟩ := R_does (hs := 523 + i) c1.1 a4 (c1.2.2.2.2.2 i hi) (hok i hi) h9
      have e1 : LX12_does 125 603 (523 + i) (p_I μ 125 39 (nI (w.1 + 1))) = some ((doF t ops (pr i) w.2.2.2).1, μ1) := e1
      have r1 : RwC μ1 603 t ops (doF t ops (pr i) w.2.2.2).2 := r1
      have o1' : OF gF (dS 603) μ μ1 := o0.tr (o1.mo (fun _ z => z.elim) (fun _ z => z))
      have f39 : g_I μ1 125 39 = nI (w.1 + 1) := by rw [o1.2 39 (fun z => z)]; exact gI_s
      have f40 : g_I μ1 125 40 = nI w.2.1 := by rw [o1.2 40 (fun z => z)]; exact c1.2.2.1
      have f36 : g_I μ1 125 36 = nI w.2.2.1 := by rw [o1.2 36 (fun z => z)]; exact c1.2.2.2.1
      have st1 : ∀ j, j < n → StpM μ1 (523 + j) (pr j) := fun j hj => (c1.2.2.2.2.2 j hj).fr (o1.r (by omega) (fun z => by have z : 523 + j = 518 ∨ 523 + j = 519 ∨ 523 + j = 603 := z; omega))
      rw [e1, ob]
      -- what is counted
      have fin : ∀ (d r : Nat), ∃ μ' : Mem, mX12_goes_144 rec (fun l0 l2 l3 μ => mX12_goes_2 rec fu l0 l2 l3 μ) 125 (nI to) (nI i) (p_I (p_I μ1 125 40 (nI d)) 125 36 (nI r)) = some ((), μ') ∧ OF gF (dS 603) μ μ' ∧ GoM μ' t ops n pr (runI t ops pr rc G (pr i).2.2.2.2 to (w.1 + 1, d, r, (doF t ops (pr i) w.2.2.2).2)) := by
        intro d r
        have o3 : OF gF (dS 603) μ1 (p_I (p_I μ1 125 40 (nI d)) 125 36 (nI r)) := (OF.rf.p0 (Or.inr (Or.inr rfl))).p0 (Or.inl rfl)
        have g3 : GoM (p_I (p_I μ1 125 40 (nI d)) 125 36 (nI r)) t ops n pr (w.1 + 1, d, r, (doF t ops (pr i) w.2.2.2).2) := by
          have o3' : OF gF nS μ1 (p_I (p_I μ1 125 40 (nI d)) 125 36 (nI r)) := (OF.rf.p0 (Or.inr (Or.inr rfl))).p0 (Or.inl rfl)
          exact ⟨r1.o o3' (by decide) (fun x z => z.elim) (r1.r.o o3' (by decide) (fun z => z)) r1.k, by rw [gI_k (by decide), gI_k (by decide)]; exact f39, by rw [gI_k (by decide), gI_s], gI_s, (show w.1 + 1 ≤ 200 by omega), fun j hj => (st1 j hj).fr (by rw [gI_rowo (by omega), gI_rowo (by omega)])⟩
        rw [R_goes144 g3 hn hi]
        obtain ⟨μ', e2, o2, g2⟩ := ih G (pr i).2.2.2.2 fu _ _ h4 (by omega) (by omega) g3
        exact ⟨μ', e2, (o1'.tr o3).tr o2, g2⟩
      unfold oneW mX12_goes_121
      rw [f40]
      by_cases hd : (doF t ops (pr i) w.2.2.2).1 = 0
      · rw [if_pos hd, if_pos r1.1.1, hd, if_pos rfl, gI_k (by decide), f36, ← nI_succ, Int32.add_zero, if_pos rfl]
        exact fin w.2.1 (w.2.2.1 + 1)
      · rw [if_neg hd, if_pos r1.1.1, if_neg hd, gI_k (by decide), f36, ← nI_succ, Int32.add_zero, if_neg hd]
        exact fin (w.2.1 + 1) w.2.2.1
theorem R_goes {t : HutT} {ops : OpsT} {n : Nat} {pr : Nat → StepT} (hn : n ≤ 37) (hok : ∀ i, i < n → StepOk t (pr i)) : ∀ (D D' i to : Nat) (w : WkT) (μ : Mem), WfQ pr (D + 1) i to → D ≤ D' → to ≤ n → GoM μ t ops n pr w → ∃ μ' : Mem, LX12_goes (D' + 1) 125 (nI i) (nI to) μ = some ((), μ') ∧ OF gF (dS 603) μ μ' ∧ GoM μ' t ops n pr (runW t ops pr D i to w) := by
  intro D
  induction D with
  | zero =>
    intro D' i to w μ hw hD ht g
    obtain ⟨m, hm⟩ := hw
    show ∃ μ' : Mem, LX12_goes_b (LX12_goes D') 125 (nI i) (nI to) μ = some ((), μ') ∧ _
    unfold LX12_goes_b
    rw [if_pos g.1.1.1]
    have := hm.le m i to
    exact R_goesI (P := WfQ pr 0) (rc := fun _ _ w => w) hn ht hok (fun _ _ _ _ => rfl) (fun i e w μ hP => hP.elim) m 37 i 100000 w μ hm (by omega) (by omega) g
  | succ D ih =>
    intro D' i to w μ hw hD ht g
    obtain ⟨D', rfl⟩ : ∃ q, D' = q + 1 := ⟨D' - 1, by omega⟩
    obtain ⟨m, hm⟩ := hw
    show ∃ μ' : Mem, LX12_goes_b (LX12_goes (D' + 1)) 125 (nI i) (nI to) μ = some ((), μ') ∧ _
    unfold LX12_goes_b
    rw [if_pos g.1.1.1]
    have := hm.le m i to
    exact R_goesI (P := WfQ pr (D + 1)) (rc := runW t ops pr D) hn ht hok (fun _ _ _ h => runW_id h) (fun i e w μ hP he gw => ih D' i e w μ hP (by omega) he gw) m 37 i 100000 w μ hm (by omega) (by omega) g
