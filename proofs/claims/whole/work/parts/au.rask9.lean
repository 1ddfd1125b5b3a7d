/-! ===== the reference is asked: look ===== -/
theorem has_bitF {t : Nat → Int32} : ∀ (n j : Nat) (acc : Int32), j + n ≤ 32 → ∀ k, k < 32 → (hasI (bitF t n j acc) k ↔ hasI acc k ∨ (j ≤ k ∧ k < j + n ∧ ¬ t k = 0)) := by
  intro n
  induction n with
  | zero => intro j acc _ k _; exact ⟨Or.inl, fun z => z.elim id fun ⟨h1, h2, _⟩ => absurd h1 (by omega)⟩
  | succ n ih =>
    intro j acc hj k hk
    show hasI (bitF t n (j + 1) (if t j = 0 then acc else acc ||| bitI j)) k ↔ _
    rw [ih (j + 1) _ (by omega) k hk]
    by_cases h : t j = 0
    · rw [if_pos h]
      constructor
      · rintro (z | ⟨h1, h2, h3⟩)
        · exact Or.inl z
        · exact Or.inr ⟨by omega, by omega, h3⟩
      · rintro (z | ⟨h1, h2, h3⟩)
        · exact Or.inl z
        · by_cases e : k = j
          · exact absurd (e ▸ h) h3
          · exact Or.inr ⟨by omega, by omega, h3⟩
    · rw [if_neg h, has_or hk, has_bit j (by omega) k hk]
      constructor
      · rintro ((z | z) | ⟨h1, h2, h3⟩)
        · exact Or.inl z
        · exact Or.inr ⟨by omega, by omega, by rw [z]; exact h⟩
        · exact Or.inr ⟨by omega, by omega, h3⟩
      · rintro (z | ⟨h1, h2, h3⟩)
        · exact Or.inl (Or.inl z)
        · by_cases e : k = j
          · exact Or.inl (Or.inr e)
          · exact Or.inr ⟨by omega, by omega, h3⟩
theorem both_iff {b : Int32} {i j : Nat} (hi : i < 32) (hj : j < 32) : bothI b i j ↔ (hasI b i ∧ hasI b j) := by
  unfold bothI
  rw [hasI_iff hi, hasI_iff hj, ← shr_bit hi, ← shr_bit hj, ← Int32.toBitVec_inj, Int32.toBitVec_and, Int32.toBitVec_and, show (1 : Int32).toBitVec = 1#32 from rfl, show (0 : Int32).toBitVec = 0#32 from rfl, and1, BitVec.getLsbD_and]
  cases (b >>> (nI i &&& 31)).toBitVec.getLsbD 0 <;> cases (b >>> (nI j &&& 31)).toBitVec.getLsbD 0 <;> simp
theorem fitB_has {a : ClT} (h8 : penN a ≤ 8) {k : Nat} (hk : k < penN a) : hasI (fitB a) k ↔ ¬ fitA a k = 0 := by
  unfold fitB
  rw [has_bitF (penN a) 0 0 (by omega) k (by omega)]
  exact ⟨fun z => z.elim (fun y => absurd y (has_0 k (by omega))) fun y => y.2.2, fun z => Or.inr ⟨Nat.zero_le _, by omega, z⟩⟩
theorem R_alikeAt {μ : Mem} {a : ClT} {i j : Nat} {v : Int32} (q : RqR μ a) (hi : i < penN a) (hj : j < penN a) : LX12_areAlikeAt 125 (nI i) (nI j) v μ = some (comA a i j v, μ) := by
  unfold LX12_areAlikeAt mX12_areAlikeAt_24 comA
  rw [if_pos q.s.1, q.s.h29, if_pos q603, R_jamA q hi, ob]
  by_cases h1 : jamA a i = 0
  · rw [if_pos h1, if_pos h1, q.s.h29, if_pos q603, R_jamA q hj, ob]
    by_cases h2 : jamA a j = 0
    · rw [if_pos h2, if_pos h2, q.s.h29, if_pos q603, show LX12_outOf 125 603 (nI i) v μ = some (outA a i v, μ) from R_outOf q.w hi h1, ob, q.s.h29, if_pos q603, show LX12_outOf 125 603 (nI j) v μ = some (outA a j v, μ) from R_outOf q.w hj h2, ob]
      split <;> rfl
    · rw [if_neg h2, if_neg h2, q.s.h29, if_pos q603, R_jamA q hi, ob, if_pos h1]
  · rw [if_neg h1, if_neg h1, q.s.h29, if_pos q603, R_jamA q hi, ob, if_neg h1, q.s.h29, if_pos q603, R_jamA q hj, ob]
    split <;> rfl
theorem R_worst20 {μ : Mem} {a : ClT} {v : Int32} {i m : Nat} {q4 : Nat → Int32 → Int32 → Int32 → Mem → Option (Int32 × Mem)} (q : RqR μ a) (hi : i < penN a) (hm : m ≤ 8) : ∀ (n j fu g : Nat), n + j = penN a → n < fu → g ≤ j → mX12_worstAt_20 q4 fu 125 v (nI m) (nI i) (nI g) (nI j) μ = q4 125 v (nI (if m < grpF a (fitB a) v i n j g then grpF a (fitB a) v i n j g else m)) (nI (i + 1)) μ ∧ grpF a (fitB a) v i n j g ≤ penN a := by
  obtain ⟨p1, p2, p3, p4⟩ := q.np
  intro n
  induction n with
  | zero =>
    intro j fu g hj hf hg
    obtain ⟨fu, rfl⟩ : ∃ q, fu = q + 1 := ⟨fu - 1, by omega⟩
    have e : grpF a (fitB a) v i 0 j g = g := rfl
    rw [mX12_worstAt_20, p1, if_pos q129, if_pos p2, p3, if_pos (nI_le (by omega) (by omega)), R_more, ob, e, ← nI_succ]
    refine ⟨?_, by omega⟩
    by_cases h : m < g
    · rw [if_pos (nI_lt h (by omega)), if_pos h]
    · rw [if_neg (nI_nlt (by omega) (by omega)), if_neg h]
  | succ n ih =>
    intro j fu g hj hf hg
    obtain ⟨fu, rfl⟩ : ∃ q, fu = q + 1 := ⟨fu - 1, by omega⟩
    have hjn : j < penN a := by omega
    have e : grpF a (fitB a) v i (n + 1) j g = grpF a (fitB a) v i n (j + 1) (if bothI (fitB a) i j then (if comA a i j v = 0 then g else g + 1) else g) := rfl
    rw [mX12_worstAt_20, p1, if_pos q129, if_pos p2, p3, if_neg (nI_ge (by omega) (by omega)), R_fitsBy q hi, ob, e]
    have hb := both_iff (b := fitB a) (i := i) (j := j) (by omega) (by omega)
    have b1 := fitB_has p4 hi
    have b2 := fitB_has p4 hjn
    have same := ih (j + 1) fu g (by omega) (by omega) (by omega)
    have more := ih (j + 1) fu (g + 1) (by omega) (by omega) (by omega)
    by_cases h1 : fitA a i = 0
    · rw [if_pos h1, if_neg (show ¬ bothI (fitB a) i j from fun z => b1.mp (hb.mp z).1 h1), Int32.add_zero, ← nI_succ]
      exact same
    rw [if_neg h1, R_fitsBy q hjn, ob]
    by_cases h2 : fitA a j = 0
    · rw [if_pos h2, if_neg (show ¬ bothI (fitB a) i j from fun z => b2.mp (hb.mp z).2 h2), Int32.add_zero, ← nI_succ]
      exact same
    rw [if_neg h2, R_alikeAt q hi hjn, ob, if_pos (show bothI (fitB a) i j from hb.mpr ⟨b1.mpr h1, b2.mpr h2⟩)]
    by_cases h3 : comA a i j v = 0
    · rw [if_pos h3, if_pos h3, Int32.add_zero, ← nI_succ]
      exact same
    · rw [if_neg h3, if_neg h3, ← nI_succ, ← nI_succ]
      exact more
theorem R_worst4 {μ : Mem} {a : ClT} {v : Int32} (q : RqR μ a) : ∀ (n i fu m : Nat), n + i = penN a → n < fu → m ≤ 8 → mX12_worstAt_4 fu 125 v (nI m) (nI i) μ = some (nI (mosF a (fitB a) v n i m), μ) ∧ mosF a (fitB a) v n i m ≤ 8 := by
  obtain ⟨p1, p2, p3, p4⟩ := q.np
  intro n
  induction n with
  | zero =>
    intro i fu m hi hf hm
    obtain ⟨fu, rfl⟩ : ∃ q, fu = q + 1 := ⟨fu - 1, by omega⟩
    rw [mX12_worstAt_4, p1, if_pos q129, if_pos p2, p3, if_pos (nI_le (by omega) (by omega))]
    exact ⟨rfl, hm⟩
  | succ n ih =>
    intro i fu m hi hf hm
    obtain ⟨fu, rfl⟩ : ∃ q, fu = q + 1 := ⟨fu - 1, by omega⟩
    obtain ⟨e1, e2⟩ := R_worst20 (v := v) (q4 := fun l0 l1 l2 l3 μ => mX12_worstAt_4 fu l0 l1 l2 l3 μ) q (show i < penN a by omega) hm (penN a) 0 100000 0 rfl (by omega) (Nat.le_refl _)
    have e1 : mX12_worstAt_20 (fun l0 l1 l2 l3 μ => mX12_worstAt_4 fu l0 l1 l2 l3 μ) 100000 125 v (nI m) (nI i) 0 0 μ = _ := e1
    rw [mX12_worstAt_4, p1, if_pos q129, if_pos p2, p3, if_neg (nI_ge (by omega) (by omega)), e1]
    exact ih (i + 1) fu _ (by omega) (by omega) (by split <;> omega)
theorem R_worstAt {μ : Mem} {a : ClT} {v : Int32} (q : RqR μ a) : LX12_worstAt 125 v μ = some (nI (mosA a (fitB a) v), μ) ∧ mosA a (fitB a) v ≤ 8 := by
  unfold LX12_worstAt mosA
  rw [if_pos q.s.1]
  exact R_worst4 q (penN a) 0 100000 0 rfl (by have := q.np.2.2.2; omega) (by decide)
/-- what fits comes out as itself does -/
theorem grp_ge {a : ClT} {b v : Int32} {i : Nat} : ∀ (n j g : Nat), g ≤ grpF a b v i n j g := by
  intro n
  induction n with
  | zero => intro j g; exact Nat.le_refl _
  | succ n ih =>
    intro j g
    refine Nat.le_trans ?_ (ih (j + 1) _)
    repeat' split
    all_goals omega
theorem grp_1 {a : ClT} {b v : Int32} {i : Nat} (hb : bothI b i i) : ∀ (n j g : Nat), j ≤ i → i < j + n → 1 ≤ grpF a b v i n j g := by
  intro n
  induction n with
  | zero => intro j g h1 h2; omega
  | succ n ih =>
    intro j g h1 h2
    by_cases e : j = i
    · subst e
      have hc : ¬ comA a j j v = 0 := by
        unfold comA
        by_cases h : jamA a j = 0
        · rw [if_pos h, if_pos h, if_pos rfl]; decide
        · rw [if_neg h, if_neg h]; decide
      show 1 ≤ grpF a b v j n (j + 1) (if bothI b j j then (if comA a j j v = 0 then g else g + 1) else g)
      rw [if_pos hb, if_neg hc]
      exact Nat.le_trans (by omega) (grp_ge n (j + 1) (g + 1))
    · exact ih (j + 1) _ (by omega) (by omega)
theorem mos_ge {a : ClT} {b v : Int32} : ∀ (n i m : Nat), m ≤ mosF a b v n i m := by
  intro n
  induction n with
  | zero => intro i m; exact Nat.le_refl _
  | succ n ih =>
    intro i m
    refine Nat.le_trans ?_ (ih (i + 1) _)
    split <;> omega
theorem mos_1 {a : ClT} {b v : Int32} {k : Nat} (hb : bothI b k k) (hk : k < penN a) : ∀ (n i m : Nat), i ≤ k → k < i + n → 1 ≤ mosF a b v n i m := by
  intro n
  induction n with
  | zero => intro i m h1 h2; omega
  | succ n ih =>
    intro i m h1 h2
    by_cases e : i = k
    · subst e
      have hg := grp_1 (a := a) (v := v) hb (penN a) 0 0 (Nat.zero_le _) (by omega)
      refine Nat.le_trans ?_ (mos_ge n (i + 1) _)
      split <;> omega
    · exact ih (i + 1) _ (by omega) (by omega)
theorem mosA_1 {a : ClT} {v : Int32} (h8 : penN a ≤ 8) (h : ¬ fitB a = 0) : 1 ≤ mosA a (fitB a) v := by
  have : ∃ k, k < 32 ∧ hasI (fitB a) k := Classical.byContradiction fun z => h (has_ext fun k hk => ⟨fun y => absurd ⟨k, hk, y⟩ z, fun y => absurd y (has_0 k hk)⟩)
  obtain ⟨k, hk, h1⟩ := this
  have hkn : k < penN a := by
    unfold fitB at h1
    rcases (has_bitF (penN a) 0 0 (by omega) k hk).mp h1 with z | ⟨_, z, _⟩
    · exact absurd z (has_0 k hk)
    · omega
  exact mos_1 ((both_iff hk hk).mpr ⟨h1, h1⟩) hkn (penN a) 0 0 (Nat.zero_le _) (by omega)
theorem mosA_0 {a : ClT} {v : Int32} (h8 : penN a ≤ 8) (h : fitB a = 0) : mosA a (fitB a) v = 0 := by
  unfold mosA
  rw [h]
  have g0 : ∀ (i n j g : Nat), i < 32 → j + n ≤ 32 → grpF a 0 v i n j g = g := by
    intro i n
    induction n with
    | zero => intro j g _ _; rfl
    | succ n ih =>
      intro j g hi hj
      show grpF a 0 v i n (j + 1) (if bothI 0 i j then (if comA a i j v = 0 then g else g + 1) else g) = g
      rw [if_neg (fun z => has_0 i hi ((both_iff hi (by omega)).mp z).1)]
      exact ih (j + 1) g hi (by omega)
  have m0 : ∀ (n i : Nat), i + n ≤ penN a → mosF a 0 v n i 0 = 0 := by
    intro n
    induction n with
    | zero => intro i _; rfl
    | succ n ih =>
      intro i hi
      show mosF a 0 v n (i + 1) (if 0 < grpF a 0 v i (penN a) 0 0 then grpF a 0 v i (penN a) 0 0 else 0) = 0
      rw [g0 i (penN a) 0 0 (by omega) (by omega), if_neg (Nat.lt_irrefl 0)]
      exact ih (i + 1) (by omega)
  exact m0 (penN a) 0 (by omega)
theorem R_look0 {μ : Mem} {a : ClT} {w : Int32} (q : RqR μ a) (hb : fitB a = 0) : ∀ (n v fu : Nat), n + v = 100 → n < fu → mX12_look_37 fu 125 w (-1) (-1) (nI v) μ = some (-1, μ) := by
  intro n
  induction n with
  | zero =>
    intro v fu hv hf
    obtain ⟨fu, rfl⟩ : ∃ q, fu = q + 1 := ⟨fu - 1, by omega⟩
    rw [mX12_look_37, if_pos (show (99 : Int32) < nI v from nI_lt (a := 99) (by omega) (by omega))]
    split <;> rfl
  | succ n ih =>
    intro v fu hv hf
    obtain ⟨fu, rfl⟩ : ∃ q, fu = q + 1 := ⟨fu - 1, by omega⟩
    rw [mX12_look_37, if_neg (show ¬ (99 : Int32) < nI v from nI_nlt (a := 99) (by omega) (by decide)), (R_worstAt q).1, ob, mosA_0 q.n0.2 hb, if_pos (show nI 0 = (0 : Int32) from rfl), ← nI_succ]
    exact ih (v + 1) fu (by omega) (by omega)
theorem looF_s {a : ClT} {b : Int32} {n v : Nat} {z : Int32 × Int32} : looF a b (n + 1) v z = looF a b n (v + 1) (if z.2 ≤ nI (mosA a b (nI v)) then z else (nI v, nI (mosA a b (nI v)))) := rfl
theorem R_look2 {μ : Mem} {a : ClT} {w : Int32} (q : RqR μ a) (hb : ¬ fitB a = 0) : ∀ (n v fu : Nat) (z : Int32 × Int32), n + v = 100 → n < fu → ¬ z.1 = -1 → mX12_look_37 fu 125 w z.1 z.2 (nI v) μ = some (if w = 0 then (looF a (fitB a) n v z).1 else (looF a (fitB a) n v z).2, μ) := by
  intro n
  induction n with
  | zero =>
    intro v fu z hv hf hz
    obtain ⟨fu, rfl⟩ : ∃ q, fu = q + 1 := ⟨fu - 1, by omega⟩
    rw [mX12_look_37, if_pos (show (99 : Int32) < nI v from nI_lt (a := 99) (by omega) (by omega))]
    have e : looF a (fitB a) 0 v z = z := rfl
    rw [e]
    split <;> rfl
  | succ n ih =>
    intro v fu z hv hf hz
    obtain ⟨fu, rfl⟩ : ∃ q, fu = q + 1 := ⟨fu - 1, by omega⟩
    have h1 := mosA_1 (v := nI v) q.n0.2 hb
    have h8 := (R_worstAt (v := nI v) q).2
    rw [mX12_look_37, if_neg (show ¬ (99 : Int32) < nI v from nI_nlt (a := 99) (by omega) (by decide)), (R_worstAt q).1, ob, if_neg (show ¬ nI (mosA a (fitB a) (nI v)) = (0 : Int32) from fun y => by have := (nI_eq (a := mosA a (fitB a) (nI v)) (b := 0) (by omega) (by decide)).mp y; omega), if_neg hz, ← nI_succ]
    have e : looF a (fitB a) (n + 1) v z = looF a (fitB a) n (v + 1) (if z.2 ≤ nI (mosA a (fitB a) (nI v)) then z else (nI v, nI (mosA a (fitB a) (nI v)))) := rfl
    rw [e]
    by_cases h : z.2 ≤ nI (mosA a (fitB a) (nI v))
    · rw [if_pos h, if_neg (Int32.not_lt.mpr h)]
      exact ih (v + 1) fu z (by omega) (by omega) hz
    · rw [if_neg h, if_pos (Int32.not_le.mp h)]
      exact ih (v + 1) fu (nI v, nI (mosA a (fitB a) (nI v))) (by omega) (by omega) (nI_nm1 (by omega))
theorem M_look {μ : Mem} {a : ClT} {w : Int32} (r : RfR μ a) (k : ClK a) : AskM (fun _ => 1) μ (LX12_look 125 w μ) (if offB w 0 1 then (.inl 1, rfA a 1) else (.inr (sLook a w), a)) := by
  obtain ⟨q, m0⟩ := r.q k
  unfold LX12_look mX12_look_20
  rw [if_pos r.1.1]
  refine AskM.tr m0 ?_
  generalize p_I μ 125 0 0 = μ0 at q
  refine A_in (k := 1) q rfl (by decide) (by decide) rfl fun h => ?_
  unfold sLook
  by_cases hb : fitB a = 0
  · rw [if_pos hb, show mX12_look_37 100000 125 w (-1) (-1) 0 μ0 = _ from R_look0 q hb 100 0 100000 rfl (by decide)]
    exact q.same
  · rw [if_neg hb]
    have h1 := mosA_1 (v := nI 0) q.n0.2 hb
    have h8 := (R_worstAt (v := nI 0) q).2
    have e0 : mX12_look_37 100000 125 w (-1) (-1) (nI 0) μ0 = some (if w = 0 then (looF a (fitB a) 100 0 (-1, 9)).1 else (looF a (fitB a) 100 0 (-1, 9)).2, μ0) := by
      rw [mX12_look_37, if_neg (show ¬ (99 : Int32) < nI 0 by decide), (R_worstAt q).1, ob, if_neg (show ¬ nI (mosA a (fitB a) (nI 0)) = (0 : Int32) from fun y => by have := (nI_eq (a := mosA a (fitB a) (nI 0)) (b := 0) (by omega) (by decide)).mp y; omega), if_pos rfl, ← nI_succ]
      have e : looF a (fitB a) 100 0 (-1, 9) = looF a (fitB a) 99 1 (if (9 : Int32) ≤ nI (mosA a (fitB a) (nI 0)) then (-1, 9) else (nI 0, nI (mosA a (fitB a) (nI 0)))) := looF_s (n := 99) (v := 0) (z := (-1, 9))
      rw [e, if_neg (show ¬ (9 : Int32) ≤ nI (mosA a (fitB a) (nI 0)) from nI_ge (b := 9) (by omega) (by decide))]
      exact R_look2 q hb 99 1 99999 (nI 0, nI (mosA a (fitB a) (nI 0))) rfl (by decide) (show ¬ nI 0 = (-1 : Int32) by decide)
    rw [show mX12_look_37 100000 125 w (-1) (-1) 0 μ0 = _ from e0]
    exact q.same
