/-! ===== the reference is asked: strange, extreme ===== -/
def rAt (k v t : Int32) : UInt64 := if t = -1 then FP.dconst0 else rVal k v (t / 100) (t - t / 100 * 100)
abbrev rcV (a : ClT) (p i : Nat) : Int32 := rowOf a (35 + (24 * p + i))
abbrev rcT (a : ClT) (p i : Nat) : Int32 := rowOf a (227 + (24 * p + i))
theorem R_realAt {μ : Mem} {a : ClT} {p i : Nat} (q : RqR μ a) (hp : p < penN a) (hr : kindOf a p = 5 ∨ kindOf a p = 6) (hi : i < 24) : LX12_realAt 125 (nI p) (nI i) μ = some (rAt (kindOf a p) (rcV a p i) (rcT a p i), μ) ∧ VM (rAt (kindOf a p) (rcV a p i) (rcT a p i)) (tkD (kindOf a p) (rcV a p i) (rcT a p i)) (tkM (kindOf a p) (rcV a p i) (rcT a p i)) := by
  obtain ⟨p1, p2, p3, p4, p5, p6, p7⟩ := q.pen hp
  obtain ⟨b1, b2, b3⟩ := q.at (j := 227 + (24 * p + i)) (by omega)
  obtain ⟨a1, a2, a3⟩ := q.at (j := 35 + (24 * p + i)) (by omega)
  obtain ⟨⟨kk, hk, hk8⟩, -⟩ := q.ho.2.2.1 p hp
  have hrB : ¬ realB (kindOf a p) = 0 := realB_r.mpr hr
  have hpo := pen_tun (q.po hp) hk hk8 hi
  unfold rcV rcT
  refine ⟨?_, ?_⟩
  · unfold LX12_realAt LX12_placeOf rAt
    rw [if_pos q.s.1, q.s.h29, if_pos q603, ob, n24m, n227p, if_pos b1, b2, b3]
    rcases hpo with e | ⟨m, d, e, hm, hd, hd0⟩
    · rw [if_pos e, if_pos e]
    · have hn : ¬ nI (100 * m + d) = -1 := nI_nm1 (by omega)
      rw [e, if_neg hn, if_neg hn, q.s.h14, if_pos q139, if_pos p1, p2, p3, if_pos p4, if_pos p5, q.s.h29, if_pos q603, ob, n35p, if_pos a1, a2, a3, if_pos (show ¬ (100 : Int32) = 0 by decide), if_pos (show ¬ (100 : Int32) = 0 by decide), c0n, p6]
      have e1 : LX12_real (kindOf a p) (rowOf a (35 + (24 * p + i))) (nI (100 * m + d) / 100) (nI (100 * m + d) - nI (100 * m + d) / 100 * 100) μ = some (rVal (kindOf a p) (rowOf a (35 + (24 * p + i))) (nI (100 * m + d) / 100) (nI (100 * m + d) - nI (100 * m + d) / 100 * 100), μ) := by
        unfold LX12_real rVal
        split <;> rfl
      rw [e1, ob]
  · unfold rAt tkD tkM
    rcases hpo with e | ⟨m, d, e, hm, hd, hd0⟩
    · rw [if_pos e, if_pos e, if_pos e]
      exact Or.inl ⟨rfl, rfl, ⟨_, _, _, rfl⟩⟩
    · have hn : ¬ nI (100 * m + d) = -1 := nI_nm1 (by omega)
      have e2 : nI (100 * m + d) - nI m * 100 = nI d := by rw [← tun_m hm hd]; exact tun_d hm hd
      rw [e, if_neg hn, if_neg hn, if_neg hn, if_neg hrB, if_neg hrB, tun_m hm hd, e2]
      exact vm_r hr hm
theorem R_wholeK {kk m d : Nat} {v : Int32} {μ : Mem} (hk : kk < 8) (hr : ¬ (kk = 5 ∨ kk = 6)) (hd : kk ≤ 4 → ¬ nI d = 0) : LX12_whole (nI kk) v (nI m) (nI d) μ = some (wholeF (nI kk) v (nI m) (nI d), μ) := by
  have hk' : kk = 0 ∨ kk = 1 ∨ kk = 2 ∨ kk = 3 ∨ kk = 4 ∨ kk = 7 := by omega
  unfold LX12_whole wholeF
  rcases hk' with rfl | rfl | rfl | rfl | rfl | rfl
  · have := hd (by decide)
    rw [if_pos (show nI 0 = (0 : Int32) from rfl), if_pos this, if_neg (show ¬ nI 0 = (7 : Int32) by decide), if_neg this, if_pos (show nI 0 = (0 : Int32) from rfl)]
  · have := hd (by decide)
    rw [if_neg (show ¬ nI 1 = (0 : Int32) by decide), if_pos (show nI 1 = (1 : Int32) from rfl), if_pos this, if_neg (show ¬ nI 1 = (7 : Int32) by decide), if_neg this, if_neg (show ¬ nI 1 = (0 : Int32) by decide), if_pos (show nI 1 = (1 : Int32) from rfl)]
  · have := hd (by decide)
    rw [if_neg (show ¬ nI 2 = (0 : Int32) by decide), if_neg (show ¬ nI 2 = (1 : Int32) by decide), if_pos (show nI 2 = (2 : Int32) from rfl), if_pos this, if_neg (show ¬ nI 2 = (7 : Int32) by decide), if_neg this, if_neg (show ¬ nI 2 = (0 : Int32) by decide), if_neg (show ¬ nI 2 = (1 : Int32) by decide), if_pos (show nI 2 = (2 : Int32) from rfl)]
  · have := hd (by decide)
    rw [if_neg (show ¬ nI 3 = (0 : Int32) by decide), if_neg (show ¬ nI 3 = (1 : Int32) by decide), if_neg (show ¬ nI 3 = (2 : Int32) by decide), if_pos (show nI 3 = (3 : Int32) from rfl), if_pos this, if_neg (show ¬ nI 3 = (7 : Int32) by decide), if_neg this, if_neg (show ¬ nI 3 = (0 : Int32) by decide), if_neg (show ¬ nI 3 = (1 : Int32) by decide), if_neg (show ¬ nI 3 = (2 : Int32) by decide), if_pos (show nI 3 = (3 : Int32) from rfl)]
  · have := hd (by decide)
    rw [if_neg (show ¬ nI 4 = (0 : Int32) by decide), if_neg (show ¬ nI 4 = (1 : Int32) by decide), if_neg (show ¬ nI 4 = (2 : Int32) by decide), if_neg (show ¬ nI 4 = (3 : Int32) by decide), if_pos (show nI 4 = (4 : Int32) from rfl), if_pos (i64_ne0 this), if_neg (show ¬ nI 4 = (7 : Int32) by decide), if_neg this, if_neg (show ¬ nI 4 = (0 : Int32) by decide), if_neg (show ¬ nI 4 = (1 : Int32) by decide), if_neg (show ¬ nI 4 = (2 : Int32) by decide), if_neg (show ¬ nI 4 = (3 : Int32) by decide)]
  · rw [if_neg (show ¬ nI 7 = (0 : Int32) by decide), if_neg (show ¬ nI 7 = (1 : Int32) by decide), if_neg (show ¬ nI 7 = (2 : Int32) by decide), if_neg (show ¬ nI 7 = (3 : Int32) by decide), if_neg (show ¬ nI 7 = (4 : Int32) by decide), if_pos (show nI 7 = (7 : Int32) from rfl)]
theorem R_wholeAt {μ : Mem} {a : ClT} {p i : Nat} (q : RqR μ a) (hp : p < penN a) (hr : ¬ (kindOf a p = 5 ∨ kindOf a p = 6)) (hi : i < 24) : LX12_wholeAt 125 (nI p) (nI i) μ = some (tkL (kindOf a p) (rcV a p i) (rcT a p i), μ) := by
  obtain ⟨p1, p2, p3, p4, p5, p6, p7⟩ := q.pen hp
  obtain ⟨b1, b2, b3⟩ := q.at (j := 227 + (24 * p + i)) (by omega)
  obtain ⟨a1, a2, a3⟩ := q.at (j := 35 + (24 * p + i)) (by omega)
  obtain ⟨⟨kk, hk, hk8⟩, -⟩ := q.ho.2.2.1 p hp
  have hk : kindOf a p = nI kk := hk
  have hrB : realB (kindOf a p) = 0 := Classical.byContradiction fun z => hr (realB_r.mp z)
  unfold rcV rcT LX12_wholeAt LX12_placeOf tkL
  rw [if_pos q.s.1, q.s.h29, if_pos q603, ob, n24m, n227p, if_pos b1, b2, b3]
  rcases pen_tun (q.po hp) hk hk8 hi with e | ⟨m, d, e, hm, hd, hd0⟩
  · rw [if_pos e, if_pos e]
  · have hn : ¬ nI (100 * m + d) = -1 := nI_nm1 (by omega)
    have e2 : nI (100 * m + d) - nI m * 100 = nI d := by rw [← tun_m hm hd]; exact tun_d hm hd
    rw [e, if_neg hn, if_neg hn, if_pos hrB, q.s.h14, if_pos q139, if_pos p1, p2, p3, if_pos p4, if_pos p5, q.s.h29, if_pos q603, ob, n35p, if_pos a1, a2, a3, if_pos (show ¬ (100 : Int32) = 0 by decide), if_pos (show ¬ (100 : Int32) = 0 by decide), c0n, p6, tun_m hm hd, e2, hk, R_wholeK hk8 (fun z => hr (by rw [hk]; rcases z with z | z <;> rw [z]; exact Or.inl rfl; exact Or.inr rfl)) (fun z => nI_ne0 (Nat.pos_of_ne_zero (hd0 z)) (by omega)), ob]
theorem tk_whole {k v t : Int32} (h : realB k = 0) : tkM k v t = 0 ∧ tkD k v t = FP.dconst0 := by
  unfold tkM tkD
  rw [if_pos h, if_pos h]
  constructor
  · split <;> rfl
  · split <;> rfl
theorem tk_real {k v t : Int32} (h : ¬ realB k = 0) : tkL k v t = 0 := by
  unfold tkL
  rw [if_neg h]
  split <;> rfl
theorem R_isMore {μ : Mem} {a : ClT} {p i j : Nat} (q : RqR μ a) (hp : p < penN a) (hi : i < 24) (hj : j < 24) (ni : tkM (kindOf a p) (rcV a p i) (rcT a p i) ≠ 2) (nj : tkM (kindOf a p) (rcV a p j) (rcT a p j) ≠ 2) : LX12_isMore 125 (nI p) (nI i) (nI j) μ = some (lessF (kindOf a p) (rowOf a) p j i, μ) := by
  obtain ⟨p1, p2, p3, p4, p5, p6, p7⟩ := q.pen hp
  unfold LX12_isMore
  rw [if_pos q.s.1, q.s.h14, if_pos q139, if_pos p1, p2, p3, if_pos p4, if_pos p5, c0n, p6, R_isReal, ob]
  by_cases hr : kindOf a p = 5 ∨ kindOf a p = 6
  · have hrB : ¬ realB (kindOf a p) = 0 := realB_r.mpr hr
    obtain ⟨e1, v1⟩ := R_realAt q hp hr hi
    obtain ⟨e2, v2⟩ := R_realAt q hp hr hj
    rw [if_neg hrB, e1, ob, e2, ob]
    have hl := VM.less v2 v1 nj ni
    unfold lessF
    rw [tk_real hrB, tk_real hrB, if_neg (show ¬ lg_cmp (0 : Int64) 0 < 0 by decide)]
    unfold rcV rcT at *
    rw [← hl]
    split <;> rfl
  · have hrB : realB (kindOf a p) = 0 := Classical.byContradiction fun z => hr (realB_r.mp z)
    rw [if_pos hrB, R_wholeAt q hp hr hi, ob, R_wholeAt q hp hr hj, ob]
    unfold lessF rcV rcT
    rw [(tk_whole hrB).1, (tk_whole hrB).1, (tk_whole hrB).2, (tk_whole hrB).2, if_pos rfl, if_pos (show (0 : Int32) ≤ Op.cmpValue (FP.dcmp FP.dconst0 FP.dconst0) CmpOp.g by decide)]
    generalize tkL (kindOf a p) (rowOf a (35 + (24 * p + i))) (rowOf a (227 + (24 * p + i))) = x
    generalize tkL (kindOf a p) (rowOf a (35 + (24 * p + j))) (rowOf a (227 + (24 * p + j))) = y
    have hc : lg_cmp x y ≤ 0 ↔ ¬ lg_cmp y x < 0 := by
      unfold lg_cmp
      by_cases h1 : x > y
      · have h2 : ¬ y > x := fun z => absurd (Int64.lt_iff_toInt_lt.mp z) (by have := Int64.lt_iff_toInt_lt.mp h1; omega)
        have h3 : ¬ y = x := fun z => by subst z; exact absurd (Int64.lt_iff_toInt_lt.mp h1) (by omega)
        rw [if_pos h1, if_neg h2, if_neg h3]; decide
      · rw [if_neg h1]
        by_cases h2 : x = y
        · rw [if_pos h2, h2, if_neg (fun z => absurd (Int64.lt_iff_toInt_lt.mp z) (by omega)), if_pos rfl]; decide
        · have h3 : y > x := Int64.lt_iff_toInt_lt.mpr (by
            have a1 : ¬ y.toInt < x.toInt := fun z => h1 (Int64.lt_iff_toInt_lt.mpr z)
            have a2 : ¬ x.toInt = y.toInt := fun z => h2 (Int64.toInt_inj.mp z)
            omega)
          rw [if_neg h2, if_pos h3]; decide
    by_cases h : lg_cmp x y ≤ 0
    · rw [if_pos h, if_neg (hc.mp h)]
    · rw [if_neg h, if_pos (Classical.byContradiction fun z => h (hc.mpr z))]
theorem strF_0 {ρ : Nat → Int32} {k e : Int32} {p : Nat} (h : realB k = 0) : ∀ (n i : Nat), strF ρ k p e n i = 0 := by
  intro n
  induction n with
  | zero => intro i; rfl
  | succ n ih =>
    intro i
    show (if tkM k (ρ (35 + (24 * p + i))) (ρ (227 + (24 * p + i))) = 0 then 0 else _) + strF ρ k p e n (i + 1) = 0
    rw [if_pos (tk_whole h).1, ih, Int32.zero_add]
theorem R_isNumber {r R : UInt64} {mk : Int32} {μ : Mem} (h : VM r R mk) : LX12_isNumber r μ = some (if mk = 2 then 0 else 1, μ) := by
  unfold LX12_isNumber
  by_cases e : mk = 2
  · rw [if_pos e, if_neg (fun z => VM.num h |>.mp z e)]
  · rw [if_neg e, if_pos ((VM.num h).mpr e)]
theorem R_isEndless {r R : UInt64} {mk : Int32} {μ : Mem} (h : VM r R mk) : LX12_isEndless r μ = some (if mk = 2 then 0 else if mk = 0 then 0 else 1, μ) := by
  unfold LX12_isEndless
  rw [R_isNumber h, ob]
  by_cases e : mk = 2
  · rw [if_pos e, if_pos e, if_pos rfl]
  · rw [if_neg e, if_neg e, if_neg (by decide)]
    unfold LX12_isNumber
    have hf := VM.fin h e
    by_cases e0 : mk = 0
    · rw [if_pos (hf.mpr e0), ob, if_neg (by decide), if_pos e0]
    · rw [if_neg (fun z => e0 (hf.mp z)), ob, if_pos rfl, if_neg e0]
theorem vm_01 {r R : UInt64} {mk : Int32} (h : VM r R mk) : mk = 0 ∨ mk = 2 ∨ mk = 1 ∨ mk = -1 := by
  rcases h with h | h | h | h
  · exact Or.inl h.1
  · exact Or.inr (Or.inl h.1)
  · exact Or.inr (Or.inr (Or.inl h.1))
  · exact Or.inr (Or.inr (Or.inr h.1))
theorem R_strangeL {μ : Mem} {a : ClT} {p w : Nat} (q : RqR μ a) (hp : p < penN a) (hw : w < 2) : ∀ (n j fu : Nat) (acc : Int32), n + j = nOf (rowOf a) p → n < fu → mX12_strange_57 fu 125 (nI p) (nI w) acc (nI j) μ = some (acc + strF (rowOf a) (kindOf a p) p (if nI w = 1 then 1 else 0) n j, μ) := by
  obtain ⟨n1, n2, -⟩ := (q.po hp).n
  have hn := q.n0.2
  obtain ⟨i1, i2, i3⟩ := q.at (j := 24 + p) (by omega)
  obtain ⟨p1, p2, p3, p4, p5, p6, p7⟩ := q.pen hp
  intro n
  induction n with
  | zero =>
    intro j fu acc hj hf
    obtain ⟨fu, rfl⟩ : ∃ q, fu = q + 1 := ⟨fu - 1, by omega⟩
    rw [mX12_strange_57, q.s.h29, if_pos q603, n24p, if_pos i1, i2, i3, n1, if_pos (nI_le (by omega) (by omega))]
    show _ = some (acc + 0, μ)
    rw [Int32.add_zero]
  | succ n ih =>
    intro j fu acc hj hf
    obtain ⟨fu, rfl⟩ : ∃ q, fu = q + 1 := ⟨fu - 1, by omega⟩
    rw [mX12_strange_57, q.s.h29, if_pos q603, n24p, if_pos i1, i2, i3, n1, if_neg (nI_ge (by omega) (by omega)), q.s.h14, if_pos q139, if_pos p1, p2, p3, if_pos p4, if_pos p5, c0n, p6, R_isReal, ob]
    by_cases hr : kindOf a p = 5 ∨ kindOf a p = 6
    case neg =>
      have hrB : realB (kindOf a p) = 0 := Classical.byContradiction fun z => hr (realB_r.mp z)
      rw [if_pos hrB, strF_0 hrB, Int32.add_zero]
    have hrB : ¬ realB (kindOf a p) = 0 := realB_r.mpr hr
    obtain ⟨e1, v1⟩ := R_realAt q hp hr (show j < 24 by omega)
    rw [if_neg hrB, e1, ob, ob, R_isNumber v1, R_isEndless v1, ob, ob, ← nI_succ]
    have e : strF (rowOf a) (kindOf a p) p (if nI w = 1 then 1 else 0) (n + 1) j = (if tkM (kindOf a p) (rcV a p j) (rcT a p j) = 0 then 0 else if (if tkM (kindOf a p) (rcV a p j) (rcT a p j) = 2 then (1 : Int32) else 0) = (if nI w = 1 then 1 else 0) then 0 else 1) + strF (rowOf a) (kindOf a p) p (if nI w = 1 then 1 else 0) n (j + 1) := rfl
    rw [e]
    have h01 := vm_01 v1
    rw [← Int32.add_assoc]
    generalize tkM (kindOf a p) (rcV a p j) (rcT a p j) = mk at h01
    have hw : w = 0 ∨ w = 1 := by omega
    rcases hw with rfl | rfl
    · rw [if_pos (show nI 0 = (0 : Int32) from rfl), if_neg (show ¬ nI 0 = (1 : Int32) by decide)]
      rcases h01 with rfl | rfl | rfl | rfl
      · exact ih (j + 1) fu _ (by omega) (by omega)
      · exact ih (j + 1) fu _ (by omega) (by omega)
      · exact ih (j + 1) fu _ (by omega) (by omega)
      · exact ih (j + 1) fu _ (by omega) (by omega)
    · rw [if_neg (show ¬ nI 1 = (0 : Int32) by decide), if_pos (show nI 1 = (1 : Int32) from rfl)]
      rcases h01 with rfl | rfl | rfl | rfl
      · exact ih (j + 1) fu _ (by omega) (by omega)
      · exact ih (j + 1) fu _ (by omega) (by omega)
      · exact ih (j + 1) fu _ (by omega) (by omega)
      · exact ih (j + 1) fu _ (by omega) (by omega)
theorem M_strange {μ : Mem} {a : ClT} {pn w : Int32} (r : RfR μ a) (k : ClK a) : AskM ixPV μ (LX12_strange 125 pn w μ) (if noPen a pn then (.inl 0, rfA a 0) else if offB w 0 1 then (.inl 1, rfA a 1) else (.inr (strF (rowOf a) (kindOf a pn.toNatClampNeg) pn.toNatClampNeg (if w = 1 then 1 else 0) (nOf (rowOf a) pn.toNatClampNeg) 0), a)) := by
  unfold LX12_strange mX12_strange_19
  refine A_pen (S := fun p => if offB w 0 1 then (.inl 1, rfA a 1) else (.inr (strF (rowOf a) (kindOf a p) p (if w = 1 then 1 else 0) (nOf (rowOf a) p) 0), a)) r k (by decide) rfl fun p hp hv μ0 q => ?_
  subst hv
  unfold mX12_strange_42
  refine A_in (k := 1) q rfl (by decide) (by decide) rfl fun h => ?_
  obtain ⟨j, hj, rfl⟩ := in_ofN (n := 1) h (by decide)
  have n2 := (q.po hp).n.2.1
  rw [show mX12_strange_57 100000 125 (nI p) (nI j) 0 0 μ0 = _ from R_strangeL q hp (by omega) (nOf (rowOf a) p) 0 100000 0 rfl (by omega), Int32.zero_add]
  exact q.same
theorem R_extremeL {μ : Mem} {a : ClT} {p w : Nat} (q : RqR μ a) (hp : p < penN a) (hw : w < 2) : ∀ (n j fu : Nat) (b : Option Nat), n + j = nOf (rowOf a) p → n < fu → (∀ i, b = some i → i < 24 ∧ tkM (kindOf a p) (rcV a p i) (rcT a p i) ≠ 2) → mX12_extreme_57 fu 125 (nI p) (nI w) (onI b) (nI j) μ = some (onI (extF (kindOf a p) (rowOf a) p (if nI w = 1 then 1 else 0) n j b), μ) := by
  obtain ⟨n1, n2, -⟩ := (q.po hp).n
  have hn := q.n0.2
  obtain ⟨i1, i2, i3⟩ := q.at (j := 24 + p) (by omega)
  obtain ⟨p1, p2, p3, p4, p5, p6, p7⟩ := q.pen hp
  intro n
  induction n with
  | zero =>
    intro j fu b hj hf hb
    obtain ⟨fu, rfl⟩ : ∃ q, fu = q + 1 := ⟨fu - 1, by omega⟩
    rw [mX12_extreme_57, q.s.h29, if_pos q603, n24p, if_pos i1, i2, i3, n1, if_pos (nI_le (by omega) (by omega))]
    rfl
  | succ n ih =>
    intro j fu b hj hf hb
    obtain ⟨fu, rfl⟩ : ∃ q, fu = q + 1 := ⟨fu - 1, by omega⟩
    rw [mX12_extreme_57, q.s.h29, if_pos q603, n24p, if_pos i1, i2, i3, n1, if_neg (nI_ge (by omega) (by omega)), q.s.h14, if_pos q139, if_pos p1, p2, p3, if_pos p4, if_pos p5, c0n, p6, R_isReal, ob]
    have e : extF (kindOf a p) (rowOf a) p (if nI w = 1 then 1 else 0) (n + 1) j b = extF (kindOf a p) (rowOf a) p (if nI w = 1 then 1 else 0) n (j + 1) (extN (kindOf a p) (rowOf a) p (if nI w = 1 then 1 else 0) j b) := rfl
    rw [e]
    -- a number
    have go : tkM (kindOf a p) (rcV a p j) (rcT a p j) ≠ 2 → mX12_extreme_101 (fun l0 l1 l2 l3 l4 μ => mX12_extreme_57 fu l0 l1 l2 l3 l4 μ) 125 (nI p) (nI w) (onI b) (nI j) μ = some (onI (extF (kindOf a p) (rowOf a) p (if nI w = 1 then 1 else 0) n (j + 1) (extN (kindOf a p) (rowOf a) p (if nI w = 1 then 1 else 0) j b)), μ) := by
      intro h2
      unfold mX12_extreme_101
      cases b with
      | none =>
        rw [if_pos (show onI none = (-1 : Int32) from rfl), ← nI_succ]
        rw [show extN (kindOf a p) (rowOf a) p (if nI w = 1 then 1 else 0) j none = some j from if_neg h2]
        exact ih (j + 1) fu (some j) (by omega) (by omega) (fun i hi => by cases hi; exact ⟨by omega, h2⟩)
      | some i =>
        obtain ⟨hi, hi2⟩ := hb i rfl
        have eN : extN (kindOf a p) (rowOf a) p (if nI w = 1 then 1 else 0) j (some i) = if (if (if nI w = 1 then (1 : Int32) else 0) = 0 then lessF (kindOf a p) (rowOf a) p i j else lessF (kindOf a p) (rowOf a) p j i) = 0 then some i else some j := if_neg h2
        rw [if_neg (show ¬ onI (some i) = (-1 : Int32) from nI_nm1 (show i < 2147483648 by omega)), show onI (some i) = nI i from rfl, R_isMore q hp (by omega) hi h2 hi2, R_isMore q hp hi (by omega) hi2 h2, ob, ob, eN, ← nI_succ]
        have b1 := ih (j + 1) fu (some i) (by omega) (by omega) (fun i' hi' => by cases hi'; exact ⟨hi, hi2⟩)
        have b2 := ih (j + 1) fu (some j) (by omega) (by omega) (fun i' hi' => by cases hi'; exact ⟨by omega, h2⟩)
        have hw : w = 0 ∨ w = 1 := by omega
        rcases hw with rfl | rfl
        · rw [if_pos (show nI 0 = (0 : Int32) from rfl), if_pos (show (if nI 0 = 1 then (1 : Int32) else 0) = 0 from rfl)]
          by_cases h : lessF (kindOf a p) (rowOf a) p i j = 0
          · rw [if_pos h, if_pos h]; exact b1
          · rw [if_neg h, if_neg h]; exact b2
        · rw [if_neg (show ¬ nI 1 = (0 : Int32) by decide), if_neg (show ¬ (if nI 1 = 1 then (1 : Int32) else 0) = 0 by decide)]
          by_cases h : lessF (kindOf a p) (rowOf a) p j i = 0
          · rw [if_pos h, if_pos h]; exact b1
          · rw [if_neg h, if_neg h]; exact b2
    by_cases hr : kindOf a p = 5 ∨ kindOf a p = 6
    · have hrB : ¬ realB (kindOf a p) = 0 := realB_r.mpr hr
      obtain ⟨e1, v1⟩ := R_realAt q hp hr (show j < 24 by omega)
      rw [if_neg hrB, e1, ob, R_isNumber v1, ob]
      by_cases h2 : tkM (kindOf a p) (rcV a p j) (rcT a p j) = 2
      · rw [if_pos h2, if_pos rfl, ← nI_succ]
        have eN : extN (kindOf a p) (rowOf a) p (if nI w = 1 then 1 else 0) j b = b := by
          cases b with
          | none => exact if_pos h2
          | some i => exact if_pos h2
        rw [eN]
        exact ih (j + 1) fu b (by omega) (by omega) hb
      · rw [if_neg h2, if_neg (by decide)]
        exact go h2
    · have hrB : realB (kindOf a p) = 0 := Classical.byContradiction fun z => hr (realB_r.mp z)
      rw [if_pos hrB]
      exact go (by rw [(tk_whole hrB).1]; decide)
theorem M_extreme {μ : Mem} {a : ClT} {pn w : Int32} (r : RfR μ a) (k : ClK a) : AskM ixPV μ (LX12_extreme 125 pn w μ) (if noPen a pn then (.inl 0, rfA a 0) else if offB w 0 1 then (.inl 1, rfA a 1) else (.inr (onI (extF (kindOf a pn.toNatClampNeg) (rowOf a) pn.toNatClampNeg (if w = 1 then 1 else 0) (nOf (rowOf a) pn.toNatClampNeg) 0 none)), a)) := by
  unfold LX12_extreme mX12_extreme_19
  refine A_pen (S := fun p => if offB w 0 1 then (.inl 1, rfA a 1) else (.inr (onI (extF (kindOf a p) (rowOf a) p (if w = 1 then 1 else 0) (nOf (rowOf a) p) 0 none)), a)) r k (by decide) rfl fun p hp hv μ0 q => ?_
  subst hv
  unfold mX12_extreme_42
  refine A_in (k := 1) q rfl (by decide) (by decide) rfl fun h => ?_
  obtain ⟨j, hj, rfl⟩ := in_ofN (n := 1) h (by decide)
  have n2 := (q.po hp).n.2.1
  rw [show mX12_extreme_57 100000 125 (nI p) (nI j) (-1) 0 μ0 = _ from R_extremeL q hp (by omega) (nOf (rowOf a) p) 0 100000 none rfl (by omega) (fun i hi => nomatch hi)]
  exact q.same
