/-! ===== the reference is asked: hop, reach ===== -/
theorem M_hop {μ : Mem} {a : ClT} {pn qn v kk : Int32} (r : RfR μ a) (k : ClK a) : AskM ixPV μ (LX12_hop 125 pn qn v kk μ) (if noPen a pn then (.inl 0, rfA a 0) else if noPen a qn then (.inl 0, rfA a 0) else sHop a v kk pn.toNatClampNeg qn.toNatClampNeg) := by
  unfold LX12_hop mX12_hop_27
  refine A_2pens (S := fun p p' => sHop a v kk p p') r k (by decide) rfl fun p p' hp hp' hv hv' μ0 q => ?_
  subst hv
  subst hv'
  unfold mX12_hop_46 sHop
  by_cases h0 : 0 ≤ kk
  case neg =>
    rw [if_neg h0, if_neg h0]
    exact gate_1 q (k := 1) rfl (by decide) (by decide) rfl
  rw [if_pos h0, if_pos h0, gate_0 q (c := 1) (k := 1) rfl (by decide) (by decide)]
  obtain ⟨ν, e1, o1, b1⟩ := R_laysBest (v := v) q hp hp'
  rw [e1, ob]
  cases hb : bestA a p p' v with
  | none =>
    rw [hb] at b1
    rw [b1.2, if_pos (show (-1 : Int32) ≤ kk from by
      have := Int32.le_iff_toInt_le.mp h0
      refine Int32.le_iff_toInt_le.mpr ?_
      rw [show (0 : Int32).toInt = 0 from rfl] at this
      rw [show (-1 : Int32).toInt = -1 from rfl]
      omega)]
    exact AskM.y q o1
  | some rr =>
    rw [hb] at b1
    obtain ⟨r1, r2⟩ := rr
    obtain ⟨c1, c2, c3, c4, c5, c6⟩ := b1
    rw [c2]
    show AskM ixPV μ0 _ (if nI r1.length ≤ kk then (.inr (-1), a) else (.inr (nI (r1.getD (r1.length - 1 - kk.toNatClampNeg) 0)), a))
    by_cases h : nI r1.length ≤ kk
    · rw [if_pos h, if_pos h]; exact AskM.y q o1
    · rw [if_neg h, if_neg h]
      obtain ⟨j, hj, rfl⟩ : ∃ j : Nat, j < r1.length ∧ kk = nI j := nI_lt_of (fun z => z.elim (fun y => absurd h0 (Int32.not_le.mpr y)) (fun y => h (Int32.not_lt.mp y))) (by omega)
      have qν := q.y o1
      rw [qν.s.h42, if_pos q627, if_pos (qν.s.a627.ix (show j < 8 by omega) (by decide)), nI_clamp (show j < 2147483648 by omega), c6 j hj]
      exact AskM.y q o1
/-- all of one are in the other -/
def SubI (x y : Int32) : Prop := ∀ k, k < 32 → hasI x k → hasI y k
theorem SubI.tr {x y z : Int32} (h : SubI x y) (g : SubI y z) : SubI x z := fun k hk a => g k hk (h k hk a)
theorem SubI.rf {x : Int32} : SubI x x := fun _ _ a => a
theorem SubI.eq {x y : Int32} (h : SubI x y) (g : SubI y x) : x = y := has_ext fun k hk => ⟨h k hk, g k hk⟩
theorem SubI.or {x y z : Int32} (h : SubI x z) (g : SubI y z) : SubI (x ||| y) z := fun k hk a => ((has_or hk).mp a).elim (h k hk) (g k hk)
theorem out1_m {x y : Int32} (h : SubI x y) {k : Nat} (hk : k < 8) : out1 y k ≤ out1 x k := by
  unfold out1
  by_cases a : hasI x k
  · rw [if_pos a, if_pos (h k (by omega) a)]; exact Nat.le_refl _
  · rw [if_neg a]; split <;> omega
theorem outN_m {x y : Int32} (h : SubI x y) : outN y ≤ outN x := by
  have e := fun k hk => out1_m h (k := k) hk
  have e0 := e 0 (by decide)
  have e1 := e 1 (by decide)
  have e2 := e 2 (by decide)
  have e3 := e 3 (by decide)
  have e4 := e 4 (by decide)
  have e5 := e 5 (by decide)
  have e6 := e 6 (by decide)
  have e7 := e 7 (by decide)
  unfold outN
  omega
theorem outN_l {x y : Int32} {k : Nat} (h : SubI x y) (hk : k < 8) (h1 : ¬ hasI x k) (h2 : hasI y k) : outN y < outN x := by
  have hs : SubI (x ||| bitI k) y := h.or fun j hj a => by rw [(has_bit k (by omega) j hj).mp a]; exact h2
  have := outN_m hs
  have := outN_in hk h1
  omega
theorem outN_all {x : Int32} (h : outN x = 0) : ∀ k, k < 8 → hasI x k := by
  intro k hk
  refine Classical.byContradiction fun z => ?_
  have := outN_in hk z
  omega
abbrev wrA (a : ClT) : Nat → Nat := (hutT a.2.2.2.1).2.2.2.2.2.1
abbrev wrB (a : ClT) : Nat → Nat := (hutT a.2.2.2.1).2.2.2.2.2.2.1
abbrev wrN (a : ClT) : Nat := (hutT a.2.2.2.1).2.2.2.2.1
theorem wr_lt {a : ClT} (ho : HutOk (hutT a.2.2.2.1)) : ∀ w, w < wrN a → wrA a w < 8 ∧ wrB a w < 8 ∧ wrA a w < penN a := fun w hw => ⟨Nat.lt_of_lt_of_le (ho.2.2.2.1 w hw).1 ho.1, Nat.lt_of_lt_of_le (ho.2.2.2.1 w hw).2 ho.1, (ho.2.2.2.1 w hw).1⟩
/-- what is heard of it is in too -/
def CloI (a : ClT) (x : Int32) : Prop := ∀ w, w < wrN a → hasI x (wrA a w) → hasI x (wrB a w)
theorem has_wirB {A B : Nat → Nat} {p : Nat} : ∀ (n j : Nat) (acc : Int32), (∀ w, w < j + n → B w < 32) → ∀ k, k < 32 → (hasI (wirB A B p n j acc) k ↔ hasI acc k ∨ ∃ w, j ≤ w ∧ w < j + n ∧ A w = p ∧ B w = k) := by
  intro n
  induction n with
  | zero => intro j acc _ k _; exact ⟨Or.inl, fun z => z.elim id fun ⟨w, h1, h2, _⟩ => absurd h1 (by omega)⟩
  | succ n ih =>
    intro j acc hB k hk
    show hasI (wirB A B p n (j + 1) (if A j = p then acc ||| bitI (B j) else acc)) k ↔ _
    rw [ih (j + 1) _ (fun w hw => hB w (by omega)) k hk]
    by_cases h : A j = p
    · rw [if_pos h, has_or hk, has_bit (B j) (hB j (by omega)) k hk]
      constructor
      · rintro ((z | z) | ⟨w, h1, h2, h3⟩)
        · exact Or.inl z
        · exact Or.inr ⟨j, by omega, by omega, h, z.symm⟩
        · exact Or.inr ⟨w, by omega, by omega, h3⟩
      · rintro (z | ⟨w, h1, h2, h3, h4⟩)
        · exact Or.inl (Or.inl z)
        · by_cases e : w = j
          · exact Or.inl (Or.inr (by rw [← h4, e]))
          · exact Or.inr ⟨w, by omega, by omega, h3, h4⟩
    · rw [if_neg h]
      constructor
      · rintro (z | ⟨w, h1, h2, h3⟩)
        · exact Or.inl z
        · exact Or.inr ⟨w, by omega, by omega, h3⟩
      · rintro (z | ⟨w, h1, h2, h3, h4⟩)
        · exact Or.inl z
        · by_cases e : w = j
          · exact absurd (e ▸ h3) h
          · exact Or.inr ⟨w, by omega, by omega, h3, h4⟩
theorem has_hrs {a : ClT} (ho : HutOk (hutT a.2.2.2.1)) {p k : Nat} (hk : k < 32) : hasI (hrsF (hutT a.2.2.2.1) p) k ↔ ∃ w, w < wrN a ∧ wrA a w = p ∧ wrB a w = k := by
  have hl := wr_lt ho
  show hasI (wirB (wrA a) (wrB a) p (wrN a) 0 0) k ↔ _
  rw [has_wirB _ 0 0 (fun w hw => by have := (hl w (by omega)).2.1; omega) k hk]
  constructor
  · rintro (z | ⟨w, h1, h2, h3⟩)
    · exact absurd z (has_0 k hk)
    · exact ⟨w, by omega, h3⟩
  · rintro ⟨w, h1, h2⟩
    exact Or.inr ⟨w, Nat.zero_le _, by omega, h2⟩
/-- a round of the reference -/
def refF (a : ClT) (S : Int32) : Nat → Nat → Int32 → Int32
  | 0, _, acc => acc
  | n + 1, j, acc => refF a S n (j + 1) (if hasI S j then acc ||| hrsF (hutT a.2.2.2.1) j else acc)
theorem has_refF {a : ClT} {S : Int32} : ∀ (n j : Nat) (acc : Int32), ∀ k, k < 32 → (hasI (refF a S n j acc) k ↔ hasI acc k ∨ ∃ i, j ≤ i ∧ i < j + n ∧ hasI S i ∧ hasI (hrsF (hutT a.2.2.2.1) i) k) := by
  intro n
  induction n with
  | zero => intro j acc k _; exact ⟨Or.inl, fun z => z.elim id fun ⟨w, h1, h2, _⟩ => absurd h1 (by omega)⟩
  | succ n ih =>
    intro j acc k hk
    show hasI (refF a S n (j + 1) (if hasI S j then acc ||| hrsF (hutT a.2.2.2.1) j else acc)) k ↔ _
    rw [ih (j + 1) _ k hk]
    by_cases h : hasI S j
    · rw [if_pos h, has_or hk]
      constructor
      · rintro ((z | z) | ⟨w, h1, h2, h3⟩)
        · exact Or.inl z
        · exact Or.inr ⟨j, by omega, by omega, h, z⟩
        · exact Or.inr ⟨w, by omega, by omega, h3⟩
      · rintro (z | ⟨w, h1, h2, h3, h4⟩)
        · exact Or.inl (Or.inl z)
        · by_cases e : w = j
          · exact Or.inl (Or.inr (by rw [← e]; exact h4))
          · exact Or.inr ⟨w, by omega, by omega, h3, h4⟩
    · rw [if_neg h]
      constructor
      · rintro (z | ⟨w, h1, h2, h3⟩)
        · exact Or.inl z
        · exact Or.inr ⟨w, by omega, by omega, h3⟩
      · rintro (z | ⟨w, h1, h2, h3, h4⟩)
        · exact Or.inl z
        · by_cases e : w = j
          · exact absurd (by rw [← e]; exact h3) h
          · exact Or.inr ⟨w, by omega, by omega, h3, h4⟩
theorem has_ref {a : ClT} (ho : HutOk (hutT a.2.2.2.1)) {S : Int32} {k : Nat} (hk : k < 32) : hasI (refF a S (penN a) 0 S) k ↔ hasI S k ∨ ∃ w, w < wrN a ∧ hasI S (wrA a w) ∧ wrB a w = k := by
  rw [has_refF (penN a) 0 S k hk]
  constructor
  · rintro (z | ⟨i, h1, h2, h3, h4⟩)
    · exact Or.inl z
    · obtain ⟨w, w1, w2, w3⟩ := (has_hrs ho hk).mp h4
      exact Or.inr ⟨w, w1, by rw [w2]; exact h3, w3⟩
  · rintro (z | ⟨w, w1, w2, w3⟩)
    · exact Or.inl z
    · exact Or.inr ⟨wrA a w, Nat.zero_le _, by have : wrA a w < penN a := (wr_lt ho w w1).2.2; omega, w2, (has_hrs ho hk).mpr ⟨w, w1, rfl, w3⟩⟩
theorem ref_sub {a : ClT} (ho : HutOk (hutT a.2.2.2.1)) {S : Int32} : SubI S (refF a S (penN a) 0 S) := fun k hk h => (has_ref ho hk).mpr (Or.inl h)
theorem ref_in {a : ClT} (ho : HutOk (hutT a.2.2.2.1)) {S C : Int32} (h : SubI S C) (c : CloI a C) : SubI (refF a S (penN a) 0 S) C := by
  intro k hk z
  rcases (has_ref ho hk).mp z with z | ⟨w, w1, w2, w3⟩
  · exact h k hk z
  · have := (wr_lt ho w w1).1
    rw [← w3]
    exact c w w1 (h _ (by omega) w2)
theorem ref_clo {a : ClT} (ho : HutOk (hutT a.2.2.2.1)) {S : Int32} (h : refF a S (penN a) 0 S = S) : CloI a S := by
  intro w hw z
  have := (wr_lt ho w hw).2.1
  have h2 := (has_ref ho (S := S) (k := wrB a w) (by omega)).mpr (Or.inr ⟨w, hw, z, rfl⟩)
  rw [h] at h2
  exact h2
theorem R_reach45 {μ : Mem} {a : ClT} {S : Int32} {q35 : Nat → Int32 → Int32 → Mem → Option (Int32 × Mem)} (q : RqR μ a) : ∀ (n j fu : Nat) (acc : Int32), n + j = penN a → n < fu → mX12_reach_45 q35 fu 125 acc S (nI j) μ = q35 125 (refF a S n j acc) S μ := by
  obtain ⟨p1, p2, p3, p4⟩ := q.np
  intro n
  induction n with
  | zero =>
    intro j fu acc hj hf
    obtain ⟨fu, rfl⟩ : ∃ q, fu = q + 1 := ⟨fu - 1, by omega⟩
    rw [mX12_reach_45, p1, if_pos q129, if_pos p2, p3, if_pos (nI_le (by omega) (by omega))]
    rfl
  | succ n ih =>
    intro j fu acc hj hf
    obtain ⟨fu, rfl⟩ : ∃ q, fu = q + 1 := ⟨fu - 1, by omega⟩
    rw [mX12_reach_45, p1, if_pos q129, if_pos p2, p3, if_neg (nI_ge (by omega) (by omega)), R_has (by omega), ob]
    show _ = q35 125 (refF a S n (j + 1) (if hasI S j then acc ||| hrsF (hutT a.2.2.2.1) j else acc)) S μ
    by_cases h : hasI S j
    · rw [if_pos h, if_neg (show ¬ (1 : Int32) = 0 by decide), (R_wired q (show j < 8 by omega)).1, ob, if_pos h, ← nI_succ]
      exact ih (j + 1) fu _ (by omega) (by omega)
    · rw [if_neg h, if_pos rfl, if_neg h, Int32.or_zero, ← nI_succ]
      exact ih (j + 1) fu _ (by omega) (by omega)
theorem R_reach35 {μ : Mem} {a : ClT} (q : RqR μ a) : ∀ (m fu : Nat) (S : Int32), outN S ≤ m → m + 1 < fu → ∃ T : Int32, mX12_reach_35 fu 125 (refF a S (penN a) 0 S) S μ = some (T, μ) ∧ CloI a T ∧ SubI S T ∧ ∀ C, CloI a C → SubI S C → SubI T C := by
  intro m
  have ho := q.ho
  have h8 := q.n0.2
  induction m with
  | zero =>
    intro fu S hS hf
    obtain ⟨fu, rfl⟩ : ∃ q, fu = q + 1 := ⟨fu - 1, by omega⟩
    have e : refF a S (penN a) 0 S = S := by
      refine SubI.eq (fun k hk z => ?_) (ref_sub ho)
      rcases (has_ref ho hk).mp z with z | ⟨w, w1, w2, w3⟩
      · exact z
      · have := (wr_lt ho w w1).2.1
        have hk8 : k < 8 := by rw [← w3]; exact this
        exact outN_all (by omega) k hk8
    rw [mX12_reach_35, if_pos e, e]
    exact ⟨S, rfl, ref_clo ho e, SubI.rf, fun C _ h => h⟩
  | succ m ih =>
    intro fu S hS hf
    obtain ⟨fu, rfl⟩ : ∃ q, fu = q + 1 := ⟨fu - 1, by omega⟩
    by_cases e : refF a S (penN a) 0 S = S
    · rw [mX12_reach_35, if_pos e, e]
      exact ⟨S, rfl, ref_clo ho e, SubI.rf, fun C _ h => h⟩
    · rw [mX12_reach_35, if_neg e, show mX12_reach_45 (fun l0 l2 l3 μ => mX12_reach_35 fu l0 l2 l3 μ) 100000 125 (refF a S (penN a) 0 S) (refF a S (penN a) 0 S) 0 μ = _ from R_reach45 q (penN a) 0 100000 _ rfl (by omega)]
      have hlt : outN (refF a S (penN a) 0 S) < outN S := by
        have : ∃ k, k < 32 ∧ hasI (refF a S (penN a) 0 S) k ∧ ¬ hasI S k := Classical.byContradiction fun z => e (SubI.eq (fun k hk h => Classical.byContradiction fun y => z ⟨k, hk, h, y⟩) (ref_sub ho))
        obtain ⟨k, hk, k1, k2⟩ := this
        rcases (has_ref ho hk).mp k1 with z | ⟨w, w1, w2, w3⟩
        · exact absurd z k2
        · have := (wr_lt ho w w1).2.1
          have hk8 : k < 8 := by rw [← w3]; exact this
          exact outN_l (ref_sub ho) hk8 k2 k1
      obtain ⟨T, e1, c1, s1, m1⟩ := ih fu (refF a S (penN a) 0 S) (by omega) (by omega)
      exact ⟨T, e1, c1, (ref_sub ho).tr s1, fun C hC hS => m1 C hC (ref_in ho hS hC)⟩
theorem reaW_sub {a : ClT} : ∀ (n j : Nat) (b : Int32), SubI b (reaW a n j b) := by
  intro n
  induction n with
  | zero => intro j b; exact SubI.rf
  | succ n ih =>
    intro j b
    refine SubI.tr (y := if hasI b (wrA a j) then b ||| bitI (wrB a j) else b) ?_ (ih (j + 1) _)
    by_cases h : hasI b (wrA a j)
    · rw [if_pos h]; exact fun k hk z => (has_or hk).mpr (Or.inl z)
    · rw [if_neg h]; exact SubI.rf
theorem reaW_in {a : ClT} (ho : HutOk (hutT a.2.2.2.1)) {C : Int32} (c : CloI a C) : ∀ (n j : Nat) (b : Int32), j + n ≤ wrN a → SubI b C → SubI (reaW a n j b) C := by
  intro n
  have h8 := ho.1
  induction n with
  | zero => intro j b _ h; exact h
  | succ n ih =>
    intro j b hj h
    refine ih (j + 1) _ (by omega) ?_
    have w1 := (wr_lt ho j (by omega)).1
    have w2 := (wr_lt ho j (by omega)).2.1
    by_cases g : hasI b (wrA a j)
    · rw [if_pos g]
      refine h.or fun k hk z => ?_
      rw [(has_bit (wrB a j) (by omega) k hk).mp z]
      exact c j (by omega) (h _ (by omega) g)
    · rw [if_neg g]; exact h
theorem reaW_adds {a : ClT} (ho : HutOk (hutT a.2.2.2.1)) : ∀ (n j : Nat) (b : Int32) (w : Nat), j + n ≤ wrN a → j ≤ w → w < j + n → hasI b (wrA a w) → hasI (reaW a n j b) (wrB a w) := by
  intro n
  have h8 := ho.1
  induction n with
  | zero => intro j b w _ h1 h2; omega
  | succ n ih =>
    intro j b w hj h1 h2 hb
    have w1 := (wr_lt ho w (by omega)).1
    have w2 := (wr_lt ho w (by omega)).2.1
    show hasI (reaW a n (j + 1) (if hasI b (wrA a j) then b ||| bitI (wrB a j) else b)) (wrB a w)
    by_cases e : w = j
    · subst e
      rw [if_pos hb]
      exact reaW_sub n (w + 1) _ _ (by omega) ((has_or (by omega)).mpr (Or.inr ((has_bit _ (by omega) _ (by omega)).mpr rfl)))
    · refine ih (j + 1) _ w (by omega) (by omega) (by omega) ?_
      by_cases g : hasI b (wrA a j)
      · rw [if_pos g]; exact (has_or (by omega)).mpr (Or.inl hb)
      · rw [if_neg g]; exact hb
theorem reaF_clo {a : ClT} (ho : HutOk (hutT a.2.2.2.1)) : ∀ (n : Nat) (b : Int32), outN b ≤ n → CloI a (reaF a n b) ∧ SubI b (reaF a n b) ∧ ∀ C, CloI a C → SubI b C → SubI (reaF a n b) C := by
  intro n
  have h8 := ho.1
  induction n with
  | zero =>
    intro b hb
    refine ⟨fun w hw _ => ?_, SubI.rf, fun C _ h => h⟩
    have := (wr_lt ho w hw).2.1
    exact outN_all (Nat.le_zero.mp hb) _ (by omega)
  | succ n ih =>
    intro b hb
    have e : reaF a (n + 1) b = reaF a n (reaW a (wirN a) 0 b) := rfl
    rw [e]
    have hsub : SubI b (reaW a (wirN a) 0 b) := reaW_sub _ _ _
    have hw0 : 0 + wirN a ≤ wrN a := by show 0 + wirN a ≤ wirN a; omega
    by_cases hc : CloI a b
    · have e2 : reaW a (wirN a) 0 b = b := SubI.eq (reaW_in ho hc _ 0 b hw0 SubI.rf) hsub
      rw [e2]
      have fix : ∀ m, reaF a m b = b := by
        intro m
        induction m with
        | zero => rfl
        | succ m ihm => show reaF a m (reaW a (wirN a) 0 b) = b; rw [e2]; exact ihm
      rw [fix n]
      exact ⟨hc, SubI.rf, fun C _ h => h⟩
    · have : ∃ w, w < wrN a ∧ hasI b (wrA a w) ∧ ¬ hasI b (wrB a w) := Classical.byContradiction fun z => hc fun w hw h => Classical.byContradiction fun y => z ⟨w, hw, h, y⟩
      obtain ⟨w, w1, w2, w3⟩ := this
      have wb := (wr_lt ho w w1).2.1
      have hadd := reaW_adds ho (wirN a) 0 b w hw0 (Nat.zero_le _) (by show w < 0 + wirN a; have : w < wirN a := w1; omega) w2
      have hlt := outN_l hsub (show wrB a w < 8 by omega) w3 hadd
      obtain ⟨c1, s1, m1⟩ := ih (reaW a (wirN a) 0 b) (by omega)
      exact ⟨c1, hsub.tr s1, fun C hC hS => m1 C hC (reaW_in ho hC _ 0 b hw0 hS)⟩
theorem M_reach {μ : Mem} {a : ClT} {pn : Int32} (r : RfR μ a) (k : ClK a) : AskM (fun _ => 1) μ (LX12_reach 125 pn μ) (if noPen a pn then (.inl 0, rfA a 0) else (.inr (reaF a 8 (bitI pn.toNatClampNeg)), a)) := by
  unfold LX12_reach mX12_reach_19
  refine A_pen (S := fun p => (.inr (reaF a 8 (bitI p)), a)) r k (by decide) rfl fun p hp hv μ0 q => ?_
  subst hv
  have h8 := q.n0.2
  have hp8 : p < 8 := Nat.lt_of_lt_of_le hp h8
  have hne : ¬ bitI p = 0 := fun z => by
    have := (has_bit p (by omega) p (by omega)).mpr rfl
    rw [z] at this
    exact has_0 p (by omega) this
  have hout : outN (bitI p) ≤ 8 := by have := outN_m (x := 0) (y := bitI p) (fun k hk h => absurd h (has_0 k hk)); rw [outN_0] at this; exact this
  obtain ⟨T, e1, c1, s1, m1⟩ := R_reach35 q 8 99999 (bitI p) hout (by decide)
  have e0 : mX12_reach_35 100000 125 (bitI p) 0 μ0 = some (T, μ0) := by
    rw [mX12_reach_35, if_neg hne, show mX12_reach_45 (fun l0 l2 l3 μ => mX12_reach_35 99999 l0 l2 l3 μ) 100000 125 (bitI p) (bitI p) 0 μ0 = _ from R_reach45 q (penN a) 0 100000 _ rfl (by omega)]
    exact e1
  obtain ⟨c2, s2, m2⟩ := reaF_clo q.ho 8 (bitI p) hout
  have eT : T = reaF a 8 (bitI p) := SubI.eq (m1 _ c2 s2) (m2 _ c1 s1)
  rw [show mX12_reach_35 100000 125 ((1 : Int32) <<< (nI p &&& 31)) 0 μ0 = _ from e0, eT]
  exact q.same
