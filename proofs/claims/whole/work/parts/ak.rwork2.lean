/-! ===== the reference is told WORK: it is done ===== -/
theorem M_work {μ : Mem} {a : ClT} {v : Int32} (r : RfR μ a) (k : ClK a) : AskM (fun _ => 1) μ (LX12_work 125 v μ) (if v < 0 ∨ ¬ v ≤ (if nI a.2.1 < 150 then nI a.2.1 else 150) then (.inl 1, rfA a 1) else sWork a v.toNatClampNeg) := by
  unfold LX12_work mX12_work_30
  refine R_text (m := 150) (S := sWork a) r k rfl (by decide) fun n hv hn μ0 r0 z0 => ?_
  have ho := RfR.hu k
  subst hv
  obtain ⟨y0, y1, y2, y3, y4, y5, y6, y7, y8, y9, y10, y11⟩ := id r0
  obtain ⟨⟨y81, y81'⟩, ⟨y82, y82'⟩, y83, y84⟩ := id y8
  unfold sWork
  by_cases h16 : (hisA a).1 < 16
  case neg =>
    have e16 : g_I μ0 125 35 = 16 := by rw [y81, show (hisA a).1 = 16 by omega]; rfl
    rw [if_neg h16, e16, if_pos rfl]
    have oo : OF xF nS μ0 (p_I (p_I μ0 125 1 0) 125 3 (-1)) := ((OF.rf (F := xF) (S := nS)).p0 (Or.inl rfl)).p0 (Or.inr (Or.inr (Or.inl rfl)))
    exact ⟨_, _, rfl, ⟨by rw [gI_k (by decide), gI_k (by decide)]; exact z0, rfl⟩, r0.txt ho oo (fun k hk => xF_fr hk) (fun y hy => hy.elim) (by rw [gI_k (by decide), gI_s]; rfl) (Nat.zero_le _) gI_s, oo.mf fun y hy => hy.elim⟩
  have e16 : ¬ g_I μ0 125 35 = 16 := fun z => by
    rw [y81] at z
    have := (nI_eq (a := (hisA a).1) (b := 16) (by omega) (by decide)).mp z
    omega
  rw [if_pos h16, if_neg e16]
  obtain ⟨m1, e1, o1, t1, f1, f7, f8⟩ := R_starts r0.1 r0.2.1 (show n ≤ 600 by omega)
  have hN : (txtO a n).2 ≤ 150 := hn
  have oz : OF pF nS m1 (p_I m1 125 28 0) := (OF.rf (F := pF) (S := nS)).p0 (Or.inr (Or.inr (Or.inr (Or.inr rfl))))
  have tz : TmA (p_I m1 125 28 0) (txtO a n) (sk (txtO a n) 0) := t1.o (F := fun k => k = 28) (S := nS) (OF.rf.p0 rfl) (by decide) (fun z => z) (by decide) (by decide) (by decide)
  have s_z : OF xF nS μ0 (p_I m1 125 28 0) := (s_x o1).p0 (by decide)
  have hu1 : HuM (p_I m1 125 28 0) (hutT a.2.2.2.1) := y4.fr ho fun x hx => s_z.r (by omega) (fun z => z)
  obtain ⟨m2, e2, o2, p2, g2⟩ := R_workL (W := 6 < 6) (by decide) hN ho 38 0 100000 (.inr (sk (txtO a n) 0)) 0 (fun _ => (0, 0, 0, 0, 0)) (p_I m1 125 28 0) rfl (by decide) ⟨tz.rs sk_sk, hu1, fun b hb => ⟨Nat.zero_le _, by rw [gI_k (by decide)]; exact f8, gI_s⟩⟩ (fun b hb => by cases hb; exact ⟨tz, Nat.le_refl _⟩)
  have eS : stpR a n = stepsL (txtO a n) (hutT a.2.2.2.1) (stepsF (txtO a n) (hutT a.2.2.2.1) 5) False (6 < 6) 38 (.inr (sk (txtO a n) 0)) 0 (fun _ => (0, 0, 0, 0, 0)) := rfl
  rw [← eS] at p2 g2
  have oo : OF xF (pS 0) μ0 m2 := (s_z.mo (fun _ z => z) (fun _ z => z.elim)).tr (o2.mo (fun k z => by have z : k = 4 ∨ k = 5 ∨ k = 6 ∨ k = 8 ∨ k = 28 := z; show k = 1 ∨ k = 2 ∨ k = 3 ∨ k = 4 ∨ k = 5 ∨ k = 6 ∨ k = 7 ∨ k = 8 ∨ k = 18 ∨ k = 28; omega) (fun _ z => z))
  have hS : ∀ y, pS 0 y → frS y ∧ 125 ≤ y ∧ y < 629 := fun y hy => by
    obtain ⟨hy1, hy2⟩ := hy
    unfold frS; omega
  have h1 : g_I m2 125 1 = nI 0 := by rw [o2.2 1 (by decide), oz.2 1 (by decide)]; exact f1
  have h0 : g_I m2 125 0 = 0 := by rw [oo.2 0 (by decide)]; exact z0
  rw [e1, ob, e2]
  unfold mX12_work_101
  cases hc : (stpR a n).1 with
  | inl e =>
    have t2 := p2.1
    rw [hc] at t2
    obtain ⟨q1, q2⟩ := TmB.err t2 rfl
    rw [q1, if_neg q2]
    exact R_fail r0 ho oo hS t2 h1 h0
  | inr b =>
    have tb := g2 b hc
    have hbx := tb.2.2.2.2
    obtain ⟨u1, u2, u3, u4, u5, u6⟩ := p2.2 b hc
    obtain ⟨-, -, sok, swf⟩ := stepsF_w (x := txtO a n) ho.1 ho.2.1 6 (.inr (sk (txtO a n) 0)) 0 (fun _ => (0, 0, 0, 0, 0)) b hc
    have sok : ∀ i, 0 ≤ i → i < (stpR a n).2.1 → StepOk (hutT a.2.2.2.1) ((stpR a n).2.2 i) ∧ ((stpR a n).2.2 i).2.2.2.2 ≤ (stpR a n).2.1 := sok
    have swf : WfQ (stpR a n).2.2 (6 + 1) 0 (stpR a n).2.1 := swf
    have s2 := tb.1.1
    have s3 : RfS (p_I m2 125 3 (-1)) := s2
    have k35 : g_I m2 125 35 = nI (hisA a).1 := by rw [oo.2 35 (by decide)]; exact y81
    obtain ⟨q1, q2, q3, q4⟩ := s3.t605.at h16 (by decide)
    have e606 : 605 + 1 + (hisA a).1 = 606 + (hisA a).1 := by omega
    rw [e606] at q2 q3 q4
    have q1' : inA m2 605 19 (nI (hisA a).1) = true := q1
    have q2' : g_R m2 605 (nI (hisA a).1).toNatClampNeg = 606 + (hisA a).1 := q2
    rw [tb.2.1, if_pos rfl, s2.h29, if_pos q603, s2.h31, if_pos q605, gI_k (show (35 : Nat) ≠ 3 by decide), k35, if_pos q1', q2', if_pos q3]
    obtain ⟨m4, e4, o4, r4⟩ := R_row (μ := p_I m2 125 3 (-1)) (h0 := 603) (h1 := 606 + (hisA a).1) (by omega) s3.a603 q4
    have k354 : g_I m4 125 35 = nI (hisA a).1 := by rw [(o4.2 125 (by omega)).1, gI_k (by decide)]; exact k35
    have k284 : g_I m4 125 28 = nI (stpR a n).2.1 := by rw [(o4.2 125 (by omega)).1, gI_k (by decide)]; exact u4
    rw [e4, ob, k354, ← nI_succ]
    obtain ⟨m5, hm5⟩ : ∃ m5, m5 = p_I (p_I (p_I (p_I m4 125 35 (nI ((hisA a).1 + 1))) 125 39 0) 125 40 0) 125 36 0 := ⟨_, rfl⟩
    rw [← hm5]
    have o5 : OF (fun k => k = 35 ∨ k = 39 ∨ k = 40 ∨ k = 36) nS m4 m5 := by
      rw [hm5]
      exact ((((OF.rf (F := fun k => k = 35 ∨ k = 39 ∨ k = 40 ∨ k = 36) (S := nS)).p0 (Or.inl rfl)).p0 (Or.inr (Or.inl rfl))).p0 (Or.inr (Or.inr (Or.inl rfl)))).p0 (Or.inr (Or.inr (Or.inr rfl)))
    have w28 : g_I m5 125 28 = nI (stpR a n).2.1 := by rw [o5.2 28 (by decide)]; exact k284
    rw [w28]
    -- rows and fields up to here
    have gr : ∀ x, x ≠ 125 → x ≠ 606 + (hisA a).1 → (x < 523 ∨ 603 ≤ x) → g_I m5 x = g_I μ0 x := fun x h1 h2 h3 => by
      rw [o5.r h1 (fun z => z), (o4.2 x h2).1, gI_rowo h1, oo.r h1 (fun z => by obtain ⟨z1, z2⟩ := z; omega)]
    have gf : ∀ k, ¬ xF k → k ≠ 35 → k ≠ 39 → k ≠ 40 → k ≠ 36 → g_I m5 125 k = g_I μ0 125 k := fun k h1 h2 h3 h4 h5 => by
      rw [o5.2 k (by omega), (o4.2 125 (by omega)).1, gI_k (fun e => h1 (by rw [e]; decide)), oo.2 k h1]
    have s5 : RfS m5 := o5.s (s3.sh o4.1)
    have n37 : (stpR a n).2.1 ≤ 37 := by omega
    have rw5 : RwC m5 603 (hutT a.2.2.2.1) a.2.2.2.2.1 (rowOf a) := ⟨s5, y4.fr ho (fun x hx => gr x (by omega) (by omega) (by omega)), ho, y5.fr (gf 17 (by decide) (by decide) (by decide) (by decide) (by decide)) (fun x hx => gr x (by omega) (by omega) (by omega)), Or.inl rfl, fun j hj => by rw [gr 603 (by decide) (by omega) (by decide)]; exact y9 j hj, k.2.1⟩
    have go : GoM m5 (hutT a.2.2.2.1) a.2.2.2.2.1 (stpR a n).2.1 (stpR a n).2.2 (0, 0, 0, rowOf a) := ⟨rw5, by rw [hm5, gI_k (by decide), gI_k (by decide), gI_s]; rfl, by rw [hm5, gI_k (by decide), gI_s]; rfl, by rw [hm5, gI_s]; rfl, Nat.zero_le _, fun i hi => (u6 i (Nat.zero_le _) hi).fr (by rw [o5.r (by omega) (fun z => z), (o4.2 (523 + i) (by omega)).1, gI_rowo (by omega)])⟩
    obtain ⟨m6, e6, o6, g6⟩ := R_goes n37 (fun i hi => (sok i (Nat.zero_le _) hi).1) 6 11 0 (stpR a n).2.1 (0, 0, 0, rowOf a) m5 swf (by decide) (Nat.le_refl _) go
    have e6 : LX12_goes 12 125 (0 : Int32) (nI (stpR a n).2.1) m5 = some ((), m6) := e6
    have g6 : GoM m6 (hutT a.2.2.2.1) a.2.2.2.2.1 (stpR a n).2.1 (stpR a n).2.2 (wkR a n) := g6
    obtain ⟨w1, w2, w3, w4, w5, w6⟩ := g6
    rw [e6, ob, w3]
    have gr6 : ∀ x, x ≠ 125 → x ≠ 606 + (hisA a).1 → x ≠ 518 → x ≠ 519 → x ≠ 603 → (x < 523 ∨ 603 ≤ x) → g_I m6 x = g_I μ0 x := fun x h1 h2 h3 h4 h5 h6 => by
      rw [o6.r h1 (fun z => by have z : x = 518 ∨ x = 519 ∨ x = 603 := z; omega)]
      exact gr x h1 h2 h6
    have gf6 : ∀ k, ¬ xF k → k ≠ 35 → k ≠ 39 → k ≠ 40 → k ≠ 36 → g_I m6 125 k = g_I μ0 125 k := fun k h1 h2 h3 h4 h5 => by
      rw [o6.2 k (fun z => by have z : k = 36 ∨ k = 39 ∨ k = 40 := z; omega)]
      exact gf k h1 h2 h3 h4 h5
    have g1 : g_I m6 125 1 = nI 0 := by rw [o6.2 1 (by decide), o5.2 1 (by decide), (o4.2 125 (by omega)).1, gI_k (by decide)]; exact h1
    have g3 : g_I m6 125 3 = -1 := by rw [o6.2 3 (by decide), o5.2 3 (by decide), (o4.2 125 (by omega)).1, gI_s]
    have g35 : g_I m6 125 35 = nI ((hisA a).1 + 1) := by rw [o6.2 35 (by decide), hm5, gI_k (by decide), gI_k (by decide), gI_k (by decide), gI_s]
    have row : g_I m6 (606 + (hisA a).1) = g_I m4 (606 + (hisA a).1) := by
      rw [o6.r (by omega) (fun z => by have z : 606 + (hisA a).1 = 518 ∨ 606 + (hisA a).1 = 519 ∨ 606 + (hisA a).1 = 603 := z; omega), o5.r (by omega) (fun z => z)]
    refine ⟨_, m6, rfl, ⟨by rw [gf6 0 (by decide) (by decide) (by decide) (by decide) (by decide)]; exact z0, rfl⟩, ⟨w1.1, fun j hj => by rw [gr6 126 (by decide) (by omega) (by decide) (by decide) (by decide) (by decide)]; exact y1 j hj, ⟨g1, Nat.zero_le _⟩, g3, w1.2.1, w1.2.2.2.1, y6.fr (gf6 34 (by decide) (by decide) (by decide) (by decide) (by decide)) (gr6 520 (by decide) (by omega) (by decide) (by decide) (by decide) (by decide)), y7.fr (gf6 33 (by decide) (by decide) (by decide) (by decide) (by decide)) (fun x hx => gr6 x (by omega) (by omega) (by omega) (by omega) (by omega) (by omega)), ⟨⟨g35, by show (hisA a).1 + 1 ≤ 16; omega⟩, ⟨by rw [gf6 37 (by decide) (by decide) (by decide) (by decide) (by decide)]; exact y82, y82'⟩, fun i hi => ?_, fun q hq => ?_⟩, w1.2.2.2.2.2.1, w4, fun j hj => by rw [gr6 127 (by decide) (by omega) (by decide) (by decide) (by decide) (by decide)]; exact y11 j hj⟩, ?_⟩
    · show RoR m6 (606 + i) (up (hisA a).2.1 (hisA a).1 (rowOf a) i)
      have hi : i < (hisA a).1 + 1 := hi
      by_cases e : i = (hisA a).1
      · rw [e, up_s]
        intro j hj
        rw [row, r4 j hj, gI_rowo (by decide), oo.r (by decide) (fun z => by obtain ⟨z1, z2⟩ := z; omega)]
        exact y9 j hj
      · rw [up_o e]
        intro j hj
        rw [gr6 (606 + i) (by omega) (by omega) (by omega) (by omega) (by omega) (by omega)]
        exact y83 i (by omega) j hj
    · have hq : q < (hisA a).2.2.1 := hq
      rw [gr6 (623 + q) (by omega) (by omega) (by omega) (by omega) (by omega) (by omega)]
      exact y84 q hq
    · have F2 : MF μ0 m2 := oo.mf fun y hy => (hS y hy).2
      have F3 : MF μ0 (p_I m2 125 3 (-1)) := F2.tr (Out.pI Out.rf (by omega))
      exact ((F3.tr (o4.mo fun y hy => by omega)).tr (o5.mf fun y hy => hy.elim)).tr (o6.mf fun y hy => by have z : y = 518 ∨ y = 519 ∨ y = 603 := hy; omega)
