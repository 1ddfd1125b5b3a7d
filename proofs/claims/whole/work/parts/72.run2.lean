/-! ===== WORK run (class): it does what is said ===== -/
theorem StR.o {μ ν : Mem} {s np x : Nat} {kf ρ : Nat → Int32} (r : StR μ s np kf ρ) (o : Out (fun a => a = x) μ ν) (hx : x < s ∨ s + 34 ≤ x) : StR ν s np kf ρ := r.fr fun a ha => o.2 a (by obtain ⟨y1, y2⟩ := ha; omega)
theorem X10_again {wk s hh lh n i e : Nat} {t : HutT} {ops : List (Int32 × Int32)} {pr : Nat → StepT} {rec : Nat → Nat → Nat → Nat → Int32 → Int32 → Int32 → Mem → Option (Unit × Mem)} {q4 : Nat → Nat → Nat → Nat → Int32 → Int32 → Int32 → Mem → Option (Unit × Mem)} {rc : Nat → Nat → WkT → WkT} {to open_ : Nat} (hn : n ≤ 37) (hi : i < n) (ap : ApW wk s hh lh) (he : (pr i).2.2.2.2 = e) (hen : e ≤ n) (hf : (pr i).2.1 ≤ 60) (ho6 : open_ ≤ 6)
    (hrec : open_ < 6 → ∀ (a b : Nat) (w : WkT) (μ : Mem), a ≤ 38 → b ≤ n → WkC μ wk s hh lh n t ops pr → WkR μ wk s n t w → ∃ μ' : Mem, rec wk s hh lh (nI a) (nI b) (nI (open_ + 1)) μ = some ((), μ') ∧ Out (inRun wk s lh) μ μ' ∧ WkR μ' wk s n t (rc a b w)) (hid : open_ = 6 → ∀ a b w, rc a b w = w) :
    ∀ (f j fu : Nat) (w : WkT) (μ : Mem), f + j = (pr i).2.1 → f < fu → WkC μ wk s hh lh n t ops pr → WkR μ wk s n t w →
      ∃ μ' : Mem, mX10_run_53 rec q4 fu wk s hh lh (nI to) (nI open_) (nI i) (nI j) μ = mX10_run_138 rec q4 wk s hh lh (nI to) (nI open_) (nI i) μ' ∧ Out (inRun wk s lh) μ μ' ∧ WkR μ' wk s n t (itW (rc (i + 1) e) f w) := by
  intro f
  induction f with
  | zero =>
    intro j fu w μ hj hfu c r
    obtain ⟨fu, rfl⟩ : ∃ q, fu = q + 1 := ⟨fu - 1, by omega⟩
    obtain ⟨w0, ⟨r1, r2, r3, r4, r5⟩, ⟨k1, k2, k3, k4, k5⟩, n1, n2, n3, n4, n5⟩ := id c.1
    obtain ⟨v1, v2, v3, v4, v5⟩ := c.2.1 i hi
    rw [mX10_run_53, r2, if_pos (isK_p k2), if_pos (inA_n k2 n2 (by omega) (by decide)), nI_clamp (n := i) (by omega), v2, if_pos (nI_le (by omega) (by omega))]
    exact ⟨μ, rfl, Out.rf, r⟩
  | succ f ih =>
    intro j fu w μ hj hfu c r
    obtain ⟨fu, rfl⟩ : ∃ q, fu = q + 1 := ⟨fu - 1, by omega⟩
    obtain ⟨w0, ⟨r1, r2, r3, r4, r5⟩, ⟨k1, k2, k3, k4, k5⟩, n1, n2, n3, n4, n5⟩ := id c.1
    obtain ⟨v1, v2, v3, v4, v5⟩ := c.2.1 i hi
    rw [mX10_run_53, r2, if_pos (isK_p k2), if_pos (inA_n k2 n2 (by omega) (by decide)), nI_clamp (n := i) (by omega), v2, if_neg (nI_ge (by omega) (by omega))]
    by_cases h6 : open_ = 6
    · rw [if_pos (show (6 : Int32) ≤ nI open_ by rw [h6]; decide), itW_id (hid h6 (i + 1) e)]
      exact ⟨μ, rfl, Out.rf, r⟩
    · obtain ⟨μ1, e1, o1, w1⟩ := hrec (by omega) (i + 1) e w μ (by omega) hen c r
      rw [if_neg (show ¬ (6 : Int32) ≤ nI open_ from nI_ge (b := 6) (by omega) (by decide)), r5, if_pos (isK_p k5), if_pos (inA_n k5 n5 (by omega) (by decide)), v5, he, ← nI_succ, ← nI_succ, e1, ob, ← nI_succ]
      obtain ⟨μ', e2, o2, w2⟩ := ih (j + 1) fu (rc (i + 1) e w) μ1 (by omega) (by omega) (c.out ap o1) w1
      exact ⟨μ', e2, o1.tr o2, w2⟩
theorem X10_runI (fp : FpNn) {wk s hh lh n : Nat} {t : HutT} {ops : List (Int32 × Int32)} {pr : Nat → StepT} {rec : Nat → Nat → Nat → Nat → Int32 → Int32 → Int32 → Mem → Option (Unit × Mem)} {rc : Nat → Nat → WkT → WkT} {open_ : Nat} (hn : n ≤ 37) (ho : HutOk t) (ap : ApW wk s hh lh) (hok : ∀ i, i < n → StepOk t (pr i) ∧ (pr i).2.2.2.2 ≤ n) (ho6 : open_ ≤ 6)
    (hrec : open_ < 6 → ∀ (a b : Nat) (w : WkT) (μ : Mem), a ≤ 38 → b ≤ n → WkC μ wk s hh lh n t ops pr → WkR μ wk s n t w → ∃ μ' : Mem, rec wk s hh lh (nI a) (nI b) (nI (open_ + 1)) μ = some ((), μ') ∧ Out (inRun wk s lh) μ μ' ∧ WkR μ' wk s n t (rc a b w)) (hid : open_ = 6 → ∀ a b w, rc a b w = w) :
    ∀ (g i fu : Nat) (to : Nat) (w : WkT) (μ : Mem), to ≤ n → i ≤ 38 → to ≤ i + g → g < fu → WkC μ wk s hh lh n t ops pr → WkR μ wk s n t w →
      ∃ μ' : Mem, mX10_run_4 rec fu wk s hh lh (nI to) (nI open_) (nI i) μ = some ((), μ') ∧ Out (inRun wk s lh) μ μ' ∧ WkR μ' wk s n t (runI t ops pr rc g i to w) := by
  intro g
  induction g with
  | zero =>
    intro i fu to w μ ht hi38 hi hfu c r
    obtain ⟨fu, rfl⟩ : ∃ q, fu = q + 1 := ⟨fu - 1, by omega⟩
    rw [mX10_run_4, if_pos (nI_le (by omega) (by omega))]
    exact ⟨μ, rfl, Out.rf, r⟩
  | succ g ih =>
    intro i fu to w μ ht hi38 hi hfu c r
    obtain ⟨fu, rfl⟩ : ∃ q, fu = q + 1 := ⟨fu - 1, by omega⟩
    unfold runI
    rw [mX10_run_4]
    by_cases h1 : to ≤ i
    · rw [if_pos (nI_le h1 (by omega)), if_pos h1]
      exact ⟨μ, rfl, Out.rf, r⟩
    rw [if_neg (nI_ge (by omega) (by omega)), if_neg h1, if_neg (show ¬ (37 : Int32) ≤ nI i from nI_ge (b := 37) (by omega) (by decide))]
    obtain ⟨g5, g6, g7, g8, hw200, rs, rk⟩ := id r
    rw [g6]
    by_cases h2 : 200 ≤ w.1
    · rw [if_pos (show (200 : Int32) ≤ nI w.1 from nI_le (a := 200) h2 (by omega)), if_pos h2]
      exact ⟨μ, rfl, Out.rf, r⟩
    rw [if_neg (show ¬ (200 : Int32) ≤ nI w.1 from nI_ge (b := 200) (by omega) (by decide)), if_neg h2]
    have hin : i < n := by omega
    obtain ⟨w0, ⟨r1, r2, r3, r4, r5⟩, ⟨k1, k2, k3, k4, k5⟩, n1, n2, n3, n4, n5⟩ := id c.1
    obtain ⟨sok, sen⟩ := hok i hin
    obtain ⟨ap1, ap2, ap3, ap4, ap5, ap6⟩ := id ap
    rw [r1, if_pos (isK_p k1), if_pos (inA_n k1 n1 (by omega) (by decide)), ← nI_succ]
    obtain ⟨ν, hν⟩ : ∃ ν, ν = p_I μ wk 6 (nI (w.1 + 1)) := ⟨_, rfl⟩
    rw [← hν]
    have o1 : Out (fun x => x = wk) μ ν := by rw [hν]; exact (Out.rf (S := fun x => x = wk)).pI rfl
    have o1' : Out (inRun wk s lh) μ ν := o1.mo fun x hx => Or.inr hx
    have cν := c.out ap o1'
    obtain ⟨v1, v2, v3, v4, v5⟩ := cν.2.1 i hin
    have rν : WkR ν wk s n t (w.1 + 1, w.2) := ⟨by rw [hν, gI_k (by decide)]; exact g5, by rw [hν, gI_s], by rw [hν, gI_k (by decide)]; exact g7, by rw [hν, gI_k (by decide)]; exact g8, by show w.1 + 1 ≤ 200; omega, rs.o o1 (by omega), rk⟩
    rw [nI_clamp (n := i) (by omega), v1]
    -- how it goes on
    have next : ∀ (w' : WkT) (ν' : Mem), Out (inRun wk s lh) μ ν' → WkR ν' wk s n t w' → ∃ μ' : Mem, mX10_run_138 rec (fun l0 l1 l2 l3 l5 l6 l7 μ => mX10_run_4 rec fu l0 l1 l2 l3 l5 l6 l7 μ) wk s hh lh (nI to) (nI open_) (nI i) ν' = some ((), μ') ∧ Out (inRun wk s lh) μ μ' ∧ WkR μ' wk s n t (runI t ops pr rc g (max (i + 1) (pr i).2.2.2.2) to w') := by
      intro w' ν' o' r'
      have c' := c.out ap o'
      obtain ⟨w0, ⟨r1, r2, r3, r4, r5⟩, ⟨k1, k2, k3, k4, k5⟩, n1, n2, n3, n4, n5⟩ := id c'.1
      obtain ⟨v1, v2, v3, v4, v5⟩ := c'.2.1 i hin
      unfold mX10_run_138
      rw [r5, if_pos (isK_p k5), if_pos (inA_n k5 n5 (by omega) (by decide)), nI_clamp (n := i) (by omega), v5, ← nI_succ]
      have em : (if nI (i + 1) < nI (pr i).2.2.2.2 then nI (pr i).2.2.2.2 else nI (i + 1)) = nI (max (i + 1) (pr i).2.2.2.2) := by
        by_cases z : i + 1 < (pr i).2.2.2.2
        · rw [if_pos (nI_lt z (by omega))]; congr 1; omega
        · rw [if_neg (nI_nlt (by omega) (by omega))]; congr 1; omega
      rw [em]
      obtain ⟨μ', e1, o2, r2⟩ := ih (max (i + 1) (pr i).2.2.2.2) fu to w' ν' ht (by omega) (by omega) (by omega) c' r'
      exact ⟨μ', e1, o'.tr o2, r2⟩
    by_cases h9 : (pr i).1 = 9
    · rw [if_pos (show nI (pr i).1 = (9 : Int32) by rw [h9]; rfl), if_pos h9]
      obtain ⟨ν', e1, o2, r2⟩ := X10_again (q4 := fun l0 l1 l2 l3 l5 l6 l7 μ => mX10_run_4 rec fu l0 l1 l2 l3 l5 l6 l7 μ) (to := to) hn hin ap rfl sen (sok.2.2.2.2.2.2.2 h9) ho6 hrec hid (pr i).2.1 0 100000 (w.1 + 1, w.2) ν rfl (by have := sok.2.2.2.2.2.2.2 h9; omega) cν rν
      have e1 : mX10_run_53 rec (fun l0 l1 l2 l3 l5 l6 l7 μ => mX10_run_4 rec fu l0 l1 l2 l3 l5 l6 l7 μ) 100000 wk s hh lh (nI to) (nI open_) (nI i) (0 : Int32) ν = _ := e1
      rw [e1]
      exact next _ _ (o1'.tr o2) r2
    · rw [if_neg (show ¬ nI (pr i).1 = (9 : Int32) from fun z => h9 ((nI_eq (by have := sok.1; omega) (by decide)).mp (show nI (pr i).1 = nI 9 from z))), if_neg h9]
      obtain ⟨c1, c2, c3, c4, c5, c6, c7⟩ := id cν
      obtain ⟨ν1, e1, o2, r2⟩ := X10_isDone fp (ops := ops) c1 (show i < 37 by omega) v1 v2 v3 v4 c3 rν.2.2.2.2.2.1 rk c4 c5 ho c6 c7 sok h9 ap4
      rw [e1, ob]
      have e0 : g_I ν1 wk = g_I ν wk := (o2.2 wk (by rintro ((⟨z1, z2⟩) | z | z) <;> omega)).1
      have o2' : Out (inRun wk s lh) ν ν1 := o2.mo fun x hx => Or.inl hx
      have rk2 := rk_do (ops := ops) rk ho sok
      unfold oneW
      by_cases hd : (doF t ops (pr i) w.2.2.2).1 = 0
      · rw [if_pos hd, if_pos hd, e0, rν.2.2.2.1]
        show ∃ μ', mX10_run_138 _ _ _ _ _ _ _ _ _ (p_I ν1 wk 8 (nI w.2.2.1 + 1)) = _ ∧ _
        rw [← nI_succ]
        have o3 : Out (fun x => x = wk) ν1 (p_I ν1 wk 8 (nI (w.2.2.1 + 1))) := (Out.rf (S := fun x => x = wk)).pI rfl
        exact next _ _ ((o1'.tr o2').tr (o3.mo fun x hx => Or.inr hx)) ⟨by rw [gI_k (by decide), e0]; exact rν.1, by rw [gI_k (by decide), e0]; exact rν.2.1, by rw [gI_k (by decide), e0]; exact rν.2.2.1, gI_s, rν.2.2.2.2.1, r2.o o3 (by omega), rk2⟩
      · rw [if_neg hd, if_neg hd, e0, rν.2.2.1]
        show ∃ μ', mX10_run_138 _ _ _ _ _ _ _ _ _ (p_I ν1 wk 7 (nI w.2.1 + 1)) = _ ∧ _
        rw [← nI_succ]
        have o3 : Out (fun x => x = wk) ν1 (p_I ν1 wk 7 (nI (w.2.1 + 1))) := (Out.rf (S := fun x => x = wk)).pI rfl
        exact next _ _ ((o1'.tr o2').tr (o3.mo fun x hx => Or.inr hx)) ⟨by rw [gI_k (by decide), e0]; exact rν.1, by rw [gI_k (by decide), e0]; exact rν.2.1, gI_s, by rw [gI_k (by decide), e0]; exact rν.2.2.2.1, rν.2.2.2.2.1, r2.o o3 (by omega), rk2⟩
theorem X10_run (fp : FpNn) {wk s hh lh n : Nat} {t : HutT} {ops : List (Int32 × Int32)} {pr : Nat → StepT} (hn : n ≤ 37) (ho : HutOk t) (ap : ApW wk s hh lh) (hok : ∀ i, i < n → StepOk t (pr i) ∧ (pr i).2.2.2.2 ≤ n) :
    ∀ (D D' open_ i to : Nat) (w : WkT) (μ : Mem), D + open_ = 6 → D ≤ D' → to ≤ n → i ≤ 38 → WkC μ wk s hh lh n t ops pr → WkR μ wk s n t w →
      ∃ μ' : Mem, LX10_run (D' + 1) wk s hh lh (nI i) (nI to) (nI open_) μ = some ((), μ') ∧ Out (inRun wk s lh) μ μ' ∧ WkR μ' wk s n t (runW t ops pr D i to w) := by
  intro D
  induction D with
  | zero =>
    intro D' open_ i to w μ hD hD' ht hi c r
    show ∃ μ' : Mem, LX10_run_b (LX10_run D') wk s hh lh (nI i) (nI to) (nI open_) μ = some ((), μ') ∧ _
    unfold LX10_run_b
    rw [if_pos c.1.1, if_pos c.2.2.1.1, if_pos c.2.2.2.1.1, if_pos c.2.2.2.2.2.1.1]
    exact X10_runI fp (rc := fun _ _ w => w) hn ho ap hok (by omega) (fun h => absurd h (by omega)) (fun _ _ _ _ => rfl) 37 i 100000 to w μ ht hi (by omega) (by decide) c r
  | succ D ih =>
    intro D' open_ i to w μ hD hD' ht hi c r
    obtain ⟨D', rfl⟩ : ∃ q, D' = q + 1 := ⟨D' - 1, by omega⟩
    show ∃ μ' : Mem, LX10_run_b (LX10_run (D' + 1)) wk s hh lh (nI i) (nI to) (nI open_) μ = some ((), μ') ∧ _
    unfold LX10_run_b
    rw [if_pos c.1.1, if_pos c.2.2.1.1, if_pos c.2.2.2.1.1, if_pos c.2.2.2.2.2.1.1]
    exact X10_runI fp (rc := runW t ops pr D) hn ho ap hok (by omega) (fun h a b w μ ha hb c r => ih D' (open_ + 1) a b w μ (by omega) (by omega) hb ha c r) (fun h => absurd h (by omega)) 37 i 100000 to w μ ht hi (by omega) (by decide) c r
