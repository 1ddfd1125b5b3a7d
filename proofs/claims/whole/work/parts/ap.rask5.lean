/-! ===== the reference is asked: what is never refused; liar, alike ===== -/
def AskN (μ : Mem) (o : Option (Int32 × Mem)) (s : Int32 × ClT) : Prop := ∃ μ' : Mem, o = some (s.1, μ') ∧ RfR μ' s.2 ∧ MF μ μ'
theorem AskN.tr {μ ν : Mem} {o : Option (Int32 × Mem)} {s : Int32 × ClT} (m : MF μ ν) (h : AskN ν o s) : AskN μ o s := by
  obtain ⟨μ', e, r1, m1⟩ := h
  exact ⟨μ', e, r1, m.tr m1⟩
theorem RqR.nsame {μ : Mem} {a : ClT} {v : Int32} (q : RqR μ a) : AskN μ (some (v, μ)) (v, a) := ⟨μ, rfl, q.1, Out.rf⟩
theorem R_readyL {μ : Mem} {a : ClT} (q : RqR μ a) : ∀ (n j fu : Nat) (acc : Int32), n + j = penN a → n < fu → mX12_ready_9 fu 125 acc (nI j) μ = some (bitF (canA a) n j acc, μ) := by
  obtain ⟨p1, p2, p3, p4⟩ := q.np
  intro n
  induction n with
  | zero =>
    intro j fu acc hj hf
    obtain ⟨fu, rfl⟩ : ∃ q, fu = q + 1 := ⟨fu - 1, by omega⟩
    rw [mX12_ready_9, p1, if_pos q129, if_pos p2, p3, if_pos (nI_le (by omega) (by omega))]
    rfl
  | succ n ih =>
    intro j fu acc hj hf
    obtain ⟨fu, rfl⟩ : ∃ q, fu = q + 1 := ⟨fu - 1, by omega⟩
    rw [mX12_ready_9, p1, if_pos q129, if_pos p2, p3, if_neg (nI_ge (by omega) (by omega)), q.s.h29, if_pos q603, show LX12_canRead 125 603 (nI j) μ = some (canA a j, μ) from R_canRead q.w (show j < penN a by omega), ob, ← nI_succ]
    have e : bitF (canA a) (n + 1) j acc = bitF (canA a) n (j + 1) (if canA a j = 0 then acc else acc ||| bitI j) := rfl
    rw [e]
    by_cases h : canA a j = 0
    · rw [if_pos h, if_pos h, Int32.or_zero]; exact ih (j + 1) fu _ (by omega) (by omega)
    · rw [if_neg h, if_neg h]; exact ih (j + 1) fu _ (by omega) (by omega)
theorem M_ready {μ : Mem} {a : ClT} {v : Int32} (r : RfR μ a) (k : ClK a) : AskN μ (LX12_ready 125 v μ) (bitF (canA a) (penN a) 0 0, a) := by
  obtain ⟨q, m0⟩ := r.q k
  unfold LX12_ready
  rw [if_pos r.1.1]
  refine AskN.tr m0 ?_
  generalize p_I μ 125 0 0 = μ0 at q
  rw [show mX12_ready_9 100000 125 0 0 μ0 = _ from R_readyL q (penN a) 0 100000 0 rfl (by have := q.np.2.2.2; omega)]
  exact q.nsame
theorem R_roomL {μ : Mem} {a : ClT} (q : RqR μ a) : ∀ (n j fu : Nat) (acc : Int32), n + j = penN a → n < fu → mX12_room_9 fu 125 acc (nI j) μ = some (roomF a n j acc, μ) := by
  obtain ⟨p1, p2, p3, p4⟩ := q.np
  intro n
  induction n with
  | zero =>
    intro j fu acc hj hf
    obtain ⟨fu, rfl⟩ : ∃ q, fu = q + 1 := ⟨fu - 1, by omega⟩
    rw [mX12_room_9, p1, if_pos q129, if_pos p2, p3, if_pos (nI_le (by omega) (by omega))]
    rfl
  | succ n ih =>
    intro j fu acc hj hf
    obtain ⟨fu, rfl⟩ : ∃ q, fu = q + 1 := ⟨fu - 1, by omega⟩
    obtain ⟨c1, c2, c3⟩ := q.at (j := 16 + j) (by omega)
    obtain ⟨d1, d2, d3⟩ := q.at (j := 24 + j) (by omega)
    rw [mX12_room_9, p1, if_pos q129, if_pos p2, p3, if_neg (nI_ge (by omega) (by omega)), q.s.h29, if_pos q603, n16p, if_pos c1, c2, c3, n24p, if_pos d1, d2, d3, ← nI_succ]
    have e : roomF a (n + 1) j acc = roomF a n (j + 1) (acc + freeF (rowOf a (16 + j)) (rowOf a (24 + j))) := rfl
    rw [e]
    unfold freeF
    by_cases h : rowOf a (16 + j) = -1
    · rw [if_pos h, if_pos h]; exact ih (j + 1) fu _ (by omega) (by omega)
    · rw [if_neg h, if_neg h]; exact ih (j + 1) fu _ (by omega) (by omega)
theorem M_room {μ : Mem} {a : ClT} (r : RfR μ a) (k : ClK a) : AskN μ (LX12_room 125 μ) (roomF a (penN a) 0 0, a) := by
  obtain ⟨q, m0⟩ := r.q k
  unfold LX12_room
  rw [if_pos r.1.1]
  refine AskN.tr m0 ?_
  generalize p_I μ 125 0 0 = μ0 at q
  rw [show mX12_room_9 100000 125 0 0 μ0 = _ from R_roomL q (penN a) 0 100000 0 rfl (by have := q.np.2.2.2; omega)]
  exact q.nsame
theorem RqR.ln {μ : Mem} {a : ClT} (q : RqR μ a) : g_I μ 125 33 = nI (booL a).length ∧ (booL a).length ≤ 6 := ⟨q.1.2.2.2.2.2.2.2.1.1, q.1.2.2.2.2.2.2.2.1.2.1⟩
theorem RqR.line {μ : Mem} {a : ClT} (q : RqR μ a) {j : Nat} (hj : j < (booL a).length) : inA μ 504 19 (nI j) = true ∧ g_R μ 504 (nI j).toNatClampNeg = 505 + j ∧ 0 < 505 + j ∧ (∀ i, i < 2 → inA μ (505 + j) 15 (nI i) = true) ∧ g_I μ (505 + j) 0 = nI ((booL a).getD j (0, 0)).1 ∧ g_I μ (505 + j) 1 = nI ((booL a).getD j (0, 0)).2 := by
  have h6 := q.ln.2
  obtain ⟨t1, t2, t3, t4⟩ := q.s.t504.at (show j < 6 by omega) (by decide)
  have e505 : 504 + 1 + j = 505 + j := by omega
  rw [e505] at t2 t3 t4
  exact ⟨t1, t2, t3, fun i hi => t4.ix hi (by decide), (q.1.2.2.2.2.2.2.2.1.2.2 j hj).1, (q.1.2.2.2.2.2.2.2.1.2.2 j hj).2⟩
/-- the flag stays down, once it is -/
theorem R_fits0 {μ : Mem} {p : Int32} {l : Int32} {fu : Nat} : mX12_fitsBy_4 (fu + 1) 125 p 0 l μ = some (0, μ) := by
  rw [mX12_fitsBy_4]
  simp only [if_pos (show (0 : Int32) = 0 ∨ (0 : Int32) = 1 from Or.inl rfl), if_true]
  split <;> rfl
theorem R_fitsByL {μ : Mem} {a : ClT} {p : Nat} (q : RqR μ a) (hp : p < penN a) (hJ : jamA a p = 0) : ∀ (n j fu : Nat), n + j = (booL a).length → n + 1 < fu → mX12_fitsBy_4 fu 125 (nI p) 1 (nI j) μ = some (fitF a p n j, μ) := by
  obtain ⟨l1, l2⟩ := q.ln
  intro n
  induction n with
  | zero =>
    intro j fu hj hf
    obtain ⟨fu, rfl⟩ : ∃ q, fu = q + 1 := ⟨fu - 1, by omega⟩
    rw [mX12_fitsBy_4, l1, if_pos (nI_le (by omega) (by omega)), if_pos (Or.inr rfl)]
    rfl
  | succ n ih =>
    intro j fu hj hf
    obtain ⟨fu, rfl⟩ : ∃ q, fu = q + 1 := ⟨fu - 1, by omega⟩
    obtain ⟨k1, k2, k3, k4, k5, k6⟩ := q.line (show j < (booL a).length by omega)
    have x0 : inA μ (505 + j) 15 (0 : Int32) = true := k4 0 (by decide)
    have x1 : inA μ (505 + j) 15 (1 : Int32) = true := k4 1 (by decide)
    rw [mX12_fitsBy_4, l1, if_neg (nI_ge (by omega) (by omega)), if_neg (by decide), q.s.h29, if_pos q603, R_jamA q hp, ob, if_pos hJ, q.s.h29, if_pos q603, q.s.h21, if_pos q504, if_pos k1, k2, if_pos k3, if_pos x0, c0n, k5, show LX12_outOf 125 603 (nI p) (nI ((booL a).getD j (0, 0)).1) μ = some (outA a p (nI ((booL a).getD j (0, 0)).1), μ) from R_outOf q.w hp hJ, ob, q.s.h21, if_pos q504, if_pos k1, k2, if_pos k3, if_pos x1, c1n, k6, ← nI_succ]
    have e : fitF a p (n + 1) j = if outA a p (nI ((booL a).getD j (0, 0)).1) = nI ((booL a).getD j (0, 0)).2 then fitF a p n (j + 1) else 0 := rfl
    rw [e]
    by_cases h : outA a p (nI ((booL a).getD j (0, 0)).1) = nI ((booL a).getD j (0, 0)).2
    · rw [if_pos h, if_pos h]; exact ih (j + 1) fu (by omega) (by omega)
    · rw [if_neg h, if_neg h]
      obtain ⟨fu, rfl⟩ : ∃ q, fu = q + 1 := ⟨fu - 1, by omega⟩
      exact R_fits0
theorem R_fitsBy {μ : Mem} {a : ClT} {p : Nat} (q : RqR μ a) (hp : p < penN a) : LX12_fitsBy 125 (nI p) μ = some (fitA a p, μ) := by
  obtain ⟨l1, l2⟩ := q.ln
  unfold LX12_fitsBy fitA
  rw [if_pos q.s.1]
  by_cases h0 : (booL a).length = 0
  · rw [if_pos h0, mX12_fitsBy_4, l1, h0, if_pos (show nI 0 ≤ (0 : Int32) by decide), if_pos (Or.inr rfl)]
  rw [if_neg h0]
  by_cases hJ : jamA a p = 0
  · rw [if_pos hJ]
    exact R_fitsByL q hp hJ (booL a).length 0 100000 rfl (by omega)
  · rw [if_neg hJ, mX12_fitsBy_4, l1, if_neg (show ¬ nI (booL a).length ≤ (0 : Int32) from nI_ge (a := 0) (by omega) (by omega)), if_neg (by decide), q.s.h29, if_pos q603, R_jamA q hp, ob, if_neg hJ]
    exact R_fits0
theorem R_fitsL {μ : Mem} {a : ClT} (q : RqR μ a) : ∀ (n j fu : Nat) (acc : Int32), n + j = penN a → n < fu → mX12_fits_9 fu 125 acc (nI j) μ = some (bitF (fitA a) n j acc, μ) := by
  obtain ⟨p1, p2, p3, p4⟩ := q.np
  intro n
  induction n with
  | zero =>
    intro j fu acc hj hf
    obtain ⟨fu, rfl⟩ : ∃ q, fu = q + 1 := ⟨fu - 1, by omega⟩
    rw [mX12_fits_9, p1, if_pos q129, if_pos p2, p3, if_pos (nI_le (by omega) (by omega))]
    rfl
  | succ n ih =>
    intro j fu acc hj hf
    obtain ⟨fu, rfl⟩ : ∃ q, fu = q + 1 := ⟨fu - 1, by omega⟩
    rw [mX12_fits_9, p1, if_pos q129, if_pos p2, p3, if_neg (nI_ge (by omega) (by omega)), R_fitsBy q (by omega), ob, ← nI_succ]
    have e : bitF (fitA a) (n + 1) j acc = bitF (fitA a) n (j + 1) (if fitA a j = 0 then acc else acc ||| bitI j) := rfl
    rw [e]
    by_cases h : fitA a j = 0
    · rw [if_pos h, if_pos h, Int32.or_zero]; exact ih (j + 1) fu _ (by omega) (by omega)
    · rw [if_neg h, if_neg h]; exact ih (j + 1) fu _ (by omega) (by omega)
theorem R_fitsAll {μ : Mem} {a : ClT} (q : RqR μ a) : mX12_fits_9 100000 125 0 0 μ = some (fitB a, μ) := R_fitsL q (penN a) 0 100000 0 rfl (by have := q.np.2.2.2; omega)
theorem M_fits {μ : Mem} {a : ClT} (r : RfR μ a) (k : ClK a) : AskN μ (LX12_fits 125 μ) (fitB a, a) := by
  obtain ⟨q, m0⟩ := r.q k
  unfold LX12_fits
  rw [if_pos r.1.1]
  refine AskN.tr m0 ?_
  generalize p_I μ 125 0 0 = μ0 at q
  rw [R_fitsAll q]
  exact q.nsame
theorem M_fault {μ : Mem} {a : ClT} (r : RfR μ a) (k : ClK a) : AskN μ (LX12_fault 125 μ) (a.2.2.1, a) := by
  obtain ⟨q, m0⟩ := r.q k
  unfold LX12_fault
  rw [if_pos r.1.1]
  refine AskN.tr m0 ?_
  generalize p_I μ 125 0 0 = μ0 at q
  rw [q.1.2.2.2.1]
  exact q.nsame
theorem M_count {μ : Mem} {a : ClT} {w : Int32} (r : RfR μ a) (k : ClK a) : AskN μ (LX12_count 125 w μ) (if w = 0 then nI a.2.2.2.2.2.2.2.1.2.2.1 else if w = 1 then nI a.2.1 else if w = 2 then nI a.2.2.2.2.2.2.2.1.1 else -1, a) := by
  obtain ⟨q, m0⟩ := r.q k
  unfold LX12_count
  rw [if_pos r.1.1]
  refine AskN.tr m0 ?_
  generalize p_I μ 125 0 0 = μ0 at q
  have h37 : g_I μ0 125 37 = nI a.2.2.2.2.2.2.2.1.2.2.1 := q.1.2.2.2.2.2.2.2.2.1.2.1.1
  have h35 : g_I μ0 125 35 = nI a.2.2.2.2.2.2.2.1.1 := q.1.2.2.2.2.2.2.2.2.1.1.1
  rw [h37, h35, q.1.2.2.1.1]
  repeat' split
  all_goals exact q.nsame
theorem M_status {μ : Mem} {a : ClT} {w : Int32} (r : RfR μ a) (k : ClK a) : AskN μ (LX12_status 125 w μ) (if w < 0 ∨ (5 : Int32) ≤ w then -1 else a.2.2.2.2.2.2.2.2.2.2 w.toNatClampNeg, a) := by
  obtain ⟨q, m0⟩ := r.q k
  unfold LX12_status
  rw [if_pos r.1.1]
  refine AskN.tr m0 ?_
  generalize p_I μ 125 0 0 = μ0 at q
  rw [R_in, ob, in_off]
  have e : offB w 0 4 ↔ (w < 0 ∨ (5 : Int32) ≤ w) := by
    refine or_congr Iff.rfl ?_
    rw [Int32.le_iff_toInt_le, Int32.le_iff_toInt_le, show (4 : Int32).toInt = 4 from rfl, show (5 : Int32).toInt = 5 from rfl]
    omega
  by_cases h : offB w 0 4
  · rw [if_pos h, if_pos rfl, if_pos (e.mp h)]
    exact q.nsame
  · rw [if_neg h, if_neg (by decide), if_neg (fun z => h (e.mpr z))]
    obtain ⟨j, hj, rfl⟩ := in_ofN (n := 4) h (by decide)
    rw [q.s.h10, if_pos q127, if_pos (q.s.a127.ix (show j < 5 by omega) (by decide)), nI_clamp (show j < 2147483648 by omega), q.1.2.2.2.2.2.2.2.2.2.2.2 j (by omega)]
    exact q.nsame
theorem R_liarL {μ : Mem} {a : ClT} {v w : Int32} (q : RqR μ a) : ∀ (n j fu : Nat) (z : Int32 × Int32), n + j = penN a → n < fu → (-1 : Int32) ≤ z.2 → mX12_liar_38 fu 125 v w z.1 z.2 (nI j) μ = some (if w = 0 then (liaF a v n j z).1 else (liaF a v n j z).2, μ) := by
  obtain ⟨p1, p2, p3, p4⟩ := q.np
  intro n
  induction n with
  | zero =>
    intro j fu z hj hf hz
    obtain ⟨fu, rfl⟩ : ∃ q, fu = q + 1 := ⟨fu - 1, by omega⟩
    rw [mX12_liar_38, p1, if_pos q129, if_pos p2, p3, if_pos (nI_le (by omega) (by omega))]
    have e : liaF a v 0 j z = z := rfl
    rw [e]
    split <;> rfl
  | succ n ih =>
    intro j fu z hj hf hz
    obtain ⟨fu, rfl⟩ : ∃ q, fu = q + 1 := ⟨fu - 1, by omega⟩
    rw [mX12_liar_38, p1, if_pos q129, if_pos p2, p3, if_neg (nI_ge (by omega) (by omega)), q.s.h29, if_pos q603, R_jamA q (by omega), ob, ← nI_succ]
    have e : liaF a v (n + 1) j z = liaF a v n (j + 1) (if (if jamA a j = 0 then distF v (outA a j v) else -1) ≤ z.2 then z else (nI j, if jamA a j = 0 then distF v (outA a j v) else -1)) := rfl
    rw [e]
    by_cases hJ : jamA a j = 0
    · simp only [if_pos hJ]
      rw [q.s.h29, if_pos q603, show LX12_outOf 125 603 (nI j) v μ = some (outA a j v, μ) from R_outOf q.w (show j < penN a by omega) hJ, ob, R_off, ob]
      unfold mX12_liar_95
      by_cases h : distF v (outA a j v) ≤ z.2
      · rw [if_pos h, if_pos h, R_moreG h, ob, ← nI_succ]
        exact ih (j + 1) fu z (by omega) (by omega) hz
      · rw [if_neg h, if_neg h, R_moreL (le_or h), ob, ← nI_succ]
        exact ih (j + 1) fu (nI j, distF v (outA a j v)) (by omega) (by omega) (by
          have h1 := Int32.le_iff_toInt_le.mp hz
          have h2 := Int32.le_iff_toInt_le.mp (le_or h)
          refine Int32.le_iff_toInt_le.mpr ?_
          show (-1 : Int32).toInt ≤ (distF v (outA a j v)).toInt
          omega)
    · simp only [if_neg hJ]
      rw [if_pos hz]
      exact ih (j + 1) fu z (by omega) (by omega) hz
theorem M_liar {μ : Mem} {a : ClT} {v w : Int32} (r : RfR μ a) (k : ClK a) : AskM (fun _ => 1) μ (LX12_liar 125 v w μ) (if offB w 0 1 then (.inl 1, rfA a 1) else (.inr (if w = 0 then (liaF a v (penN a) 0 (-1, -1)).1 else (liaF a v (penN a) 0 (-1, -1)).2), a)) := by
  obtain ⟨q, m0⟩ := r.q k
  unfold LX12_liar mX12_liar_20
  rw [if_pos r.1.1]
  refine AskM.tr m0 ?_
  generalize p_I μ 125 0 0 = μ0 at q
  refine A_in (k := 1) q rfl (by decide) (by decide) rfl fun h => ?_
  rw [show mX12_liar_38 100000 125 v w (-1) (-1) 0 μ0 = _ from R_liarL q (penN a) 0 100000 (-1, -1) rfl (by have := q.np.2.2.2; omega) (by decide)]
  exact q.same
theorem R_likeL {μ : Mem} {a : ClT} {p p' : Nat} (q : RqR μ a) (hp : p < penN a) (hp' : p' < penN a) : ∀ (n j fu : Nat), n + j = nOf (rowOf a) p → n + 1 < fu → mX12_alike_120 fu 125 (nI p) (nI p') 1 (nI j) μ = some (likeF (kindOf a p) (kindOf a p') (rowOf a) p p' n j, μ) := by
  obtain ⟨n1, n2, -⟩ := (q.po hp).n
  have hn := q.n0.2
  obtain ⟨i1, i2, i3⟩ := q.at (j := 24 + p) (by omega)
  intro n
  induction n with
  | zero =>
    intro j fu hj hf
    obtain ⟨fu, rfl⟩ : ∃ q, fu = q + 1 := ⟨fu - 1, by omega⟩
    rw [mX12_alike_120, q.s.h29, if_pos q603, n24p, if_pos i1, i2, i3, n1, if_pos (nI_le (by omega) (by omega)), if_pos (Or.inr rfl)]
    rfl
  | succ n ih =>
    intro j fu hj hf
    obtain ⟨fu, rfl⟩ : ∃ q, fu = q + 1 := ⟨fu - 1, by omega⟩
    rw [mX12_alike_120, q.s.h29, if_pos q603, n24p, if_pos i1, i2, i3, n1, if_neg (nI_ge (by omega) (by omega)), if_neg (by decide), R_readAt q.w hp (by omega), ob, q.s.h29, if_pos q603, R_readAt q.w hp' (by omega), ob, ← nI_succ]
    show (if rdF (kindOf a p) (rowOf a (35 + (24 * p + j))) (rowOf a (227 + (24 * p + j))) = rdF (kindOf a p') (rowOf a (35 + (24 * p' + j))) (rowOf a (227 + (24 * p' + j))) then _ else _) = some (if rdF (kindOf a p) (rowOf a (35 + (24 * p + j))) (rowOf a (227 + (24 * p + j))) = rdF (kindOf a p') (rowOf a (35 + (24 * p' + j))) (rowOf a (227 + (24 * p' + j))) then likeF (kindOf a p) (kindOf a p') (rowOf a) p p' n (j + 1) else 0, μ)
    by_cases h : rdF (kindOf a p) (rowOf a (35 + (24 * p + j))) (rowOf a (227 + (24 * p + j))) = rdF (kindOf a p') (rowOf a (35 + (24 * p' + j))) (rowOf a (227 + (24 * p' + j)))
    · rw [if_pos h, if_pos h]; exact ih (j + 1) fu (by omega) (by omega)
    · rw [if_neg h, if_neg h]
      obtain ⟨fu, rfl⟩ : ∃ q, fu = q + 1 := ⟨fu - 1, by omega⟩
      rw [mX12_alike_120, q.s.h29, if_pos q603, n24p, if_pos i1, i2, i3]
      simp only [if_pos (show (0 : Int32) = 0 ∨ (0 : Int32) = 1 from Or.inl rfl), if_true]
      split <;> rfl
theorem A_2pens {ix : Nat → Nat} {μ : Mem} {a : ClT} {v v' : Int32} {K : Mem → Option (Int32 × Mem)} {S : Nat → Nat → (Nat ⊕ Int32) × ClT} {w : Int32} (r : RfR μ a) (k : ClK a) (hw : ¬ w = 0) (hx : w = nI (ix 0)) (h : ∀ p p', p < penN a → p' < penN a → v = nI p → v' = nI p' → ∀ μ0, RqR μ0 a → AskM ix μ0 (K μ0) (S p p')) : AskM ix μ (if isK μ 125 12 = true then (obind (LX12_isPen 125 v (p_I μ 125 0 (0 : Int32))) (fun (r1 : Int32) (m2 : Mem) => if r1 = 0 then (if isK m2 125 12 = true then (obind (LX12_bad 125 1 w (0 : Int32) m2) (fun (r : Int32) (m : Mem) => if r = 0 then K m else (some ((0 : Int32), m)))) else none) else (obind (LX12_isPen 125 v' m2) (fun (r6 : Int32) (m7 : Mem) => if r6 = 0 then (if isK m7 125 12 = true then (obind (LX12_bad 125 1 w (0 : Int32) m7) (fun (r : Int32) (m : Mem) => if r = 0 then K m else (some ((0 : Int32), m)))) else none) else (if isK m7 125 12 = true then (obind (LX12_bad 125 0 w (0 : Int32) m7) (fun (r : Int32) (m : Mem) => if r = 0 then K m else (some ((0 : Int32), m)))) else none))))) else none) (if noPen a v then (.inl 0, rfA a 0) else if noPen a v' then (.inl 0, rfA a 0) else S v.toNatClampNeg v'.toNatClampNeg) := by
  obtain ⟨q, m0⟩ := r.q k
  rw [if_pos r.1.1]
  refine AskM.tr m0 ?_
  generalize p_I μ 125 0 0 = μ0 at q
  rw [R_isPen q, ob]
  by_cases hp : noPen a v
  · rw [if_pos hp, if_pos hp, if_pos rfl]
    exact gate_1 q (k := 0) rfl (by decide) hw hx
  · rw [if_neg hp, if_neg hp, if_neg (by decide)]
    have hn := q.n0.2
    obtain ⟨p, hp1, hp2⟩ := pen_of hp hn
    have e : v.toNatClampNeg = p := by rw [hp2]; exact nI_clamp (by have hp1 : p < penN a := hp1; omega)
    rw [e]
    exact A_pen2 (S := S p) q hw hx fun p' h1 h2 => h p p' hp1 h1 hp2 h2 μ0 q
theorem M_alike {μ : Mem} {a : ClT} {pn qn : Int32} (r : RfR μ a) (k : ClK a) : AskM (fun _ => 1) μ (LX12_alike 125 pn qn μ) (if noPen a pn then (.inl 0, rfA a 0) else if noPen a qn then (.inl 0, rfA a 0) else (.inr (alkA a pn.toNatClampNeg qn.toNatClampNeg), a)) := by
  unfold LX12_alike mX12_alike_27
  refine A_2pens (S := fun p p' => (.inr (alkA a p p'), a)) r k (by decide) rfl fun p p' hp hp' hv hv' μ0 q => ?_
  subst hv
  subst hv'
  obtain ⟨n1, n2, -⟩ := (q.po hp).n
  have hn := q.n0.2
  obtain ⟨i1, i2, i3⟩ := q.at (j := 24 + p) (by omega)
  obtain ⟨j1, j2, j3⟩ := q.at (j := 16 + p) (by omega)
  obtain ⟨i1', i2', i3'⟩ := q.at (j := 24 + p') (by omega)
  obtain ⟨j1', j2', j3'⟩ := q.at (j := 16 + p') (by omega)
  obtain ⟨u1, u2, u3, u4, u5, u6, u7⟩ := q.pen hp
  obtain ⟨u1', u2', u3', u4', u5', u6', u7'⟩ := q.pen hp'
  have z : mX12_alike_120 100000 125 (nI p) (nI p') 0 0 μ0 = some (0, μ0) := by
    rw [mX12_alike_120, q.s.h29, if_pos q603, n24p, if_pos i1, i2, i3]
    simp only [if_pos (show (0 : Int32) = 0 ∨ (0 : Int32) = 1 from Or.inl rfl), if_true]
    split <;> rfl
  have y : mX12_alike_120 100000 125 (nI p) (nI p') 1 0 μ0 = _ := R_likeL q hp hp' (nOf (rowOf a) p) 0 100000 rfl (by omega)
  rw [q.s.h29, if_pos q603, n16p, if_pos j1, j2, j3, z, n16p, if_pos j1', j2', j3', q.s.h14, if_pos q139, if_pos u1, u2, u3, if_pos u4, if_pos u5, if_pos u1', u2', u3', if_pos u4', if_pos u5', c0n, u6, u6', n24p, if_pos i1, i2, i3, n24p, if_pos i1', i2', i3', y]
  unfold alkA alikeF
  by_cases h1 : rowOf a (16 + p) = -1
  · rw [if_pos h1, if_pos h1]; exact q.same
  rw [if_neg h1, if_neg h1]
  by_cases h2 : rowOf a (16 + p) = rowOf a (16 + p')
  · by_cases h3 : kindOf a p = kindOf a p'
    · rw [if_pos h2, if_pos h3, if_pos h3, if_pos h2]
      by_cases h4 : rowOf a (24 + p) = rowOf a (24 + p')
      · rw [if_pos h4, if_pos h4]; exact q.same
      · rw [if_neg h4, if_neg h4]; exact q.same
    · rw [if_pos h2, if_neg h3, if_neg h3]; exact q.same
  · rw [if_neg h2]
    by_cases h3 : kindOf a p = kindOf a p'
    · rw [if_pos h3, if_neg h2]; exact q.same
    · rw [if_neg h3]; exact q.same
