/-! ===== PENS of the class: what is asked of them ===== -/
/-- how many records from i on are strange, as the class counts them -/
def strF (ρ : Nat → Int32) (k : Int32) (p : Nat) (e : Int32) : Nat → Nat → Int32
  | 0, _ => 0
  | f + 1, i => (if tkM k (ρ (35 + (24 * p + i))) (ρ (227 + (24 * p + i))) = 0 then 0 else if (if tkM k (ρ (35 + (24 * p + i))) (ρ (227 + (24 * p + i))) = 2 then (1 : Int32) else 0) = e then 0 else 1) + strF ρ k p e f (i + 1)
theorem X5_strangeL {h p n : Nat} {k e : Int32} {ρ : Nat → Int32} {μ : Mem} (s : PenS μ h) (r : PenR μ h k ρ p) (hn : ρ (24 + p) = nI n) (hn24 : n ≤ 24) : ∀ (f i fu : Nat) (acc : Int32), f + i = n → f < fu → mX5_strangeRecords_4 fu h e acc (nI i) μ = some (acc + strF ρ k p e f i, μ) := by
  obtain ⟨s0, s1, s2, s3, s4, s5, s6, n1, n2, n3⟩ := id s
  obtain ⟨r0, r1, r2, r3, r4, r5⟩ := id r
  intro f
  induction f with
  | zero =>
    intro i fu acc hi hf
    obtain ⟨fu, rfl⟩ : ∃ q, fu = q + 1 := ⟨fu - 1, by omega⟩
    rw [mX5_strangeRecords_4, r4, hn, if_pos (nI_le (by omega) (by omega))]
    show _ = some (acc + 0, μ)
    rw [Int32.add_zero]
  | succ f ih =>
    intro i fu acc hi hf
    obtain ⟨fu, rfl⟩ : ∃ q, fu = q + 1 := ⟨fu - 1, by omega⟩
    have c1 : (nI i).toNatClampNeg = i := nI_clamp (by omega)
    have hin : inA μ (h + 3) 13 (nI i) = true := inA_n s6 n3 (by omega) (by decide)
    have hm := (r5 i (by omega)).2.2
    rw [mX5_strangeRecords_4, r4, hn, if_neg (nI_ge (by omega) (by omega)), s3, if_pos (isK_p s6), if_pos hin, c1, hm]
    have key : ∀ z : Int32, mX5_strangeRecords_27 (fun l0 l1 l2 l3 μ => mX5_strangeRecords_4 fu l0 l1 l2 l3 μ) h e acc (nI i) z μ = some (acc + ((if tkM k (ρ (35 + (24 * p + i))) (ρ (227 + (24 * p + i))) = 0 then 0 else if z = e then 0 else 1) + strF ρ k p e f (i + 1)), μ) := by
      intro z
      unfold mX5_strangeRecords_27
      rw [s3, if_pos (isK_p s6), if_pos hin, c1, hm, ← nI_succ]
      by_cases q1 : tkM k (ρ (35 + (24 * p + i))) (ρ (227 + (24 * p + i))) = 0
      · rw [if_pos q1, if_pos q1, Int32.zero_add]
        exact ih (i + 1) fu acc (by omega) (by omega)
      · rw [if_neg q1, if_neg q1]
        by_cases q2 : z = e
        · rw [if_pos q2, if_pos q2, Int32.zero_add]
          exact ih (i + 1) fu acc (by omega) (by omega)
        · rw [if_neg q2, if_neg q2, ← Int32.add_assoc]
          exact ih (i + 1) fu (acc + 1) (by omega) (by omega)
    show _ = some (acc + ((if tkM k (ρ (35 + (24 * p + i))) (ρ (227 + (24 * p + i))) = 0 then 0 else if (if tkM k (ρ (35 + (24 * p + i))) (ρ (227 + (24 * p + i))) = 2 then (1 : Int32) else 0) = e then 0 else 1) + strF ρ k p e f (i + 1)), μ)
    by_cases q : tkM k (ρ (35 + (24 * p + i))) (ρ (227 + (24 * p + i))) = 2
    · rw [if_pos q, key, if_pos q]
    · rw [if_neg q, key, if_neg q]
theorem X5_strange {h p n : Nat} {k e : Int32} {ρ : Nat → Int32} {μ : Mem} (s : PenS μ h) (r : PenR μ h k ρ p) (hn : ρ (24 + p) = nI n) (hn24 : n ≤ 24) : LX5_strangeRecords h e μ = some (strF ρ k p e n 0, μ) := by
  unfold LX5_strangeRecords
  rw [if_pos s.1, show (0 : Int32) = nI 0 from rfl, X5_strangeL s r hn hn24 n 0 100000 (nI 0) (by omega) (by omega)]
  show some ((0 : Int32) + _, μ) = _
  rw [Int32.zero_add]
/-- the class's order of two records -/
def lessF (k : Int32) (ρ : Nat → Int32) (p i j : Nat) : Int32 :=
  if tkM k (ρ (35 + (24 * p + i))) (ρ (227 + (24 * p + i))) = tkM k (ρ (35 + (24 * p + j))) (ρ (227 + (24 * p + j))) then
    (if lg_cmp (tkL k (ρ (35 + (24 * p + i))) (ρ (227 + (24 * p + i)))) (tkL k (ρ (35 + (24 * p + j))) (ρ (227 + (24 * p + j)))) < 0 then 1
     else if 0 ≤ Op.cmpValue (FP.dcmp (tkD k (ρ (35 + (24 * p + i))) (ρ (227 + (24 * p + i)))) (tkD k (ρ (35 + (24 * p + j))) (ρ (227 + (24 * p + j))))) CmpOp.g then 0 else 1)
  else if tkM k (ρ (35 + (24 * p + j))) (ρ (227 + (24 * p + j))) ≤ tkM k (ρ (35 + (24 * p + i))) (ρ (227 + (24 * p + i))) then 0 else 1
theorem X5_isLess {h p i j : Nat} {k : Int32} {ρ : Nat → Int32} {μ : Mem} (s : PenS μ h) (r : PenR μ h k ρ p) (hi : i < 24) (hj : j < 24) : LX5_isLess h (nI i) (nI j) μ = some (lessF k ρ p i j, μ) := by
  obtain ⟨s0, s1, s2, s3, s4, s5, s6, n1, n2, n3⟩ := id s
  obtain ⟨r0, r1, r2, r3, r4, r5⟩ := id r
  obtain ⟨w1, w2, w3⟩ := r5 i hi
  obtain ⟨v1, v2, v3⟩ := r5 j hj
  have c1 : (nI i).toNatClampNeg = i := nI_clamp (by omega)
  have c2 : (nI j).toNatClampNeg = j := nI_clamp (by omega)
  unfold LX5_isLess lessF
  rw [if_pos s0, s1, s2, s3, if_pos (isK_p s6), if_pos (inA_n s6 n3 hi (by decide)), if_pos (inA_n s6 n3 hj (by decide)), if_pos (isK_p s4), if_pos (inA_n s4 n1 hi (by decide)), if_pos (inA_n s4 n1 hj (by decide)), if_pos (isK_p s5), if_pos (inA_n s5 n2 hi (by decide)), if_pos (inA_n s5 n2 hj (by decide)), c1, c2, w1, w2, w3, v1, v2, v3]
  repeat' split
  all_goals rfl
/-- the class's extreme record, from i on, the one found so far -/
def extN (k : Int32) (ρ : Nat → Int32) (p : Nat) (least : Int32) (i : Nat) : Option Nat → Option Nat
  | none => if tkM k (ρ (35 + (24 * p + i))) (ρ (227 + (24 * p + i))) = 2 then none else some i
  | some j => if tkM k (ρ (35 + (24 * p + i))) (ρ (227 + (24 * p + i))) = 2 then some j else if (if least = 0 then lessF k ρ p j i else lessF k ρ p i j) = 0 then some j else some i
def extF (k : Int32) (ρ : Nat → Int32) (p : Nat) (least : Int32) : Nat → Nat → Option Nat → Option Nat
  | 0, _, b => b
  | f + 1, i, b => extF k ρ p least f (i + 1) (extN k ρ p least i b)
def onI (b : Option Nat) : Int32 := match b with
  | none => -1
  | some j => nI j
theorem X5_extremeL {h p n : Nat} {k e : Int32} {ρ : Nat → Int32} {μ : Mem} (s : PenS μ h) (r : PenR μ h k ρ p) (hn : ρ (24 + p) = nI n) (hn24 : n ≤ 24) : ∀ (f i fu : Nat) (b : Option Nat), f + i = n → f < fu → (∀ j, b = some j → j < 24) → mX5_extremePlace_4 fu h e (onI b) (nI i) μ = some (onI (extF k ρ p e f i b), μ) := by
  obtain ⟨s0, s1, s2, s3, s4, s5, s6, n1, n2, n3⟩ := id s
  obtain ⟨r0, r1, r2, r3, r4, r5⟩ := id r
  intro f
  induction f with
  | zero =>
    intro i fu b hi hf hb
    obtain ⟨fu, rfl⟩ : ∃ q, fu = q + 1 := ⟨fu - 1, by omega⟩
    rw [mX5_extremePlace_4, r4, hn, if_pos (nI_le (by omega) (by omega))]
    rfl
  | succ f ih =>
    intro i fu b hi hf hb
    obtain ⟨fu, rfl⟩ : ∃ q, fu = q + 1 := ⟨fu - 1, by omega⟩
    have c1 : (nI i).toNatClampNeg = i := nI_clamp (by omega)
    have hin : inA μ (h + 3) 13 (nI i) = true := inA_n s6 n3 (by omega) (by decide)
    have hm := (r5 i (by omega)).2.2
    rw [mX5_extremePlace_4, r4, hn, if_neg (nI_ge (by omega) (by omega)), s3, if_pos (isK_p s6), if_pos hin, c1, hm, ← nI_succ]
    show _ = some (onI (extF k ρ p e f (i + 1) (extN k ρ p e i b)), μ)
    cases b with
    | none =>
      by_cases q : tkM k (ρ (35 + (24 * p + i))) (ρ (227 + (24 * p + i))) = 2
      · rw [if_pos q, show extN k ρ p e i none = none from if_pos q]
        exact ih (i + 1) fu none (by omega) (by omega) hb
      · rw [if_neg q, if_pos (show onI none = -1 from rfl), show extN k ρ p e i none = some i from if_neg q]
        exact ih (i + 1) fu (some i) (by omega) (by omega) (fun j hj => by cases hj; omega)
    | some j =>
      have hj : j < 24 := hb j rfl
      by_cases q : tkM k (ρ (35 + (24 * p + i))) (ρ (227 + (24 * p + i))) = 2
      · rw [if_pos q, show extN k ρ p e i (some j) = some j from if_pos q]
        exact ih (i + 1) fu (some j) (by omega) (by omega) hb
      · have e9 : extN k ρ p e i (some j) = if (if e = 0 then lessF k ρ p j i else lessF k ρ p i j) = 0 then some j else some i := if_neg q
        rw [if_neg q, if_neg (show ¬ onI (some j) = -1 from nI_nm1 (by omega)), show onI (some j) = nI j from rfl, X5_isLess s r hj (by omega), X5_isLess s r (by omega) hj, ob, ob, e9]
        by_cases q1 : e = 0
        · rw [if_pos q1, if_pos q1]
          by_cases q2 : lessF k ρ p j i = 0
          · rw [if_pos q2, if_pos q2]
            exact ih (i + 1) fu (some j) (by omega) (by omega) hb
          · rw [if_neg q2, if_neg q2]
            exact ih (i + 1) fu (some i) (by omega) (by omega) (fun j hj => by cases hj; omega)
        · rw [if_neg q1, if_neg q1]
          by_cases q2 : lessF k ρ p i j = 0
          · rw [if_pos q2, if_pos q2]
            exact ih (i + 1) fu (some j) (by omega) (by omega) hb
          · rw [if_neg q2, if_neg q2]
            exact ih (i + 1) fu (some i) (by omega) (by omega) (fun j hj => by cases hj; omega)
theorem X5_extreme {h p n : Nat} {k e : Int32} {ρ : Nat → Int32} {μ : Mem} (s : PenS μ h) (r : PenR μ h k ρ p) (hn : ρ (24 + p) = nI n) (hn24 : n ≤ 24) : LX5_extremePlace h e μ = some (onI (extF k ρ p e n 0 none), μ) := by
  unfold LX5_extremePlace
  rw [if_pos s.1]
  exact X5_extremeL s r hn hn24 n 0 100000 none (by omega) (by omega) (fun j hj => by cases hj)
/-- whether the readings of two PENS' records are alike -/
def likeF (k kb : Int32) (ρ : Nat → Int32) (a b : Nat) : Nat → Nat → Int32
  | 0, _ => 1
  | f + 1, i => if rdF k (ρ (35 + (24 * a + i))) (ρ (227 + (24 * a + i))) = rdF kb (ρ (35 + (24 * b + i))) (ρ (227 + (24 * b + i))) then likeF k kb ρ a b f (i + 1) else 0
theorem X5_isLikeL {h g a b n : Nat} {k kb : Int32} {ρ : Nat → Int32} {μ : Mem} (s : PenS μ h) (r : PenR μ h k ρ a) (t : PenS μ g) (rb : PenR μ g kb ρ b) (hn : ρ (24 + a) = nI n) (hn24 : n ≤ 24) : ∀ (f i fu : Nat), f + i = n → f < fu → mX5_isLike_45 fu h g (nI i) μ = some (likeF k kb ρ a b f i, μ) := by
  intro f
  induction f with
  | zero =>
    intro i fu hi hf
    obtain ⟨fu, rfl⟩ : ∃ q, fu = q + 1 := ⟨fu - 1, by omega⟩
    rw [mX5_isLike_45, r.2.2.2.2.1, hn, if_pos (nI_le (by omega) (by omega))]
    rfl
  | succ f ih =>
    intro i fu hi hf
    obtain ⟨fu, rfl⟩ : ∃ q, fu = q + 1 := ⟨fu - 1, by omega⟩
    rw [mX5_isLike_45, r.2.2.2.2.1, hn, if_neg (nI_ge (by omega) (by omega)), X5_readAt s r (by omega), ob, X5_readAt t rb (by omega), ob, likeF, ← nI_succ, ih (i + 1) fu (by omega) (by omega)]
    split <;> rfl
def alikeF (k kb : Int32) (ρ : Nat → Int32) (a b n : Nat) : Int32 := if ρ (16 + a) = -1 then 0 else if k = kb then (if ρ (16 + a) = ρ (16 + b) then (if ρ (24 + a) = ρ (24 + b) then likeF k kb ρ a b n 0 else 0) else 0) else 0
theorem X5_isLike {h g a b n : Nat} {k kb : Int32} {ρ : Nat → Int32} {μ : Mem} (s : PenS μ h) (r : PenR μ h k ρ a) (t : PenS μ g) (rb : PenR μ g kb ρ b) (hn : ρ (24 + a) = nI n) (hn24 : n ≤ 24) : LX5_isLike h g μ = some (alikeF k kb ρ a b n, μ) := by
  unfold LX5_isLike alikeF
  rw [if_pos s.1, if_pos t.1, r.1, rb.1, r.2.2.2.1, rb.2.2.2.1, r.2.2.2.2.1, rb.2.2.2.2.1, show (0 : Int32) = nI 0 from rfl, X5_isLikeL s r t rb hn hn24 n 0 100000 (by omega) (by omega)]
  repeat' split
  all_goals rfl
