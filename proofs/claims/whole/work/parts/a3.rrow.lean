/-! ===== the reference: PENS, as its rows have them ===== -/
def RoR (μ : Mem) (h : Nat) (ρ : Nat → Int32) : Prop := ∀ k, k < 419 → g_I μ h k = ρ k
theorem RoR.p {μ : Mem} {h j : Nat} {ρ : Nat → Int32} {v : Int32} (r : RoR μ h ρ) : RoR (p_I μ h j v) h (ru ρ j v) := fun k hk => by
  by_cases e : k = j
  · rw [e, gI_s, ru_s]
  · rw [gI_k e, ru_o e]; exact r k hk
theorem RoR.o {F S : Nat → Prop} {μ ν : Mem} {h : Nat} {ρ : Nat → Int32} (r : RoR μ h ρ) (o : OF F S μ ν) (h1 : h ≠ 125) (hS : ¬ S h) : RoR ν h ρ := fun k hk => by rw [o.r h1 hS]; exact r k hk
/-- what the reference knows of the HUT -/
def HuM (μ : Mem) (t : HutT) : Prop := (g_I μ 129 0 = nI t.1 ∧ g_I μ 129 1 = nI t.2.2.2.2.1 ∧ (t.1 = 0 ∨ g_I μ 129 2 = t.2.2.2.2.2.2.2)) ∧ (∀ p, p < t.1 → g_I μ (140 + p) 0 = t.2.1 p ∧ g_I μ (140 + p) 1 = t.2.2.1 p ∧ g_I μ (140 + p) 2 = t.2.2.2.1 p) ∧ ∀ w, w < t.2.2.2.2.1 → g_I μ (166 + w) 0 = nI (t.2.2.2.2.2.1 w) ∧ g_I μ (166 + w) 1 = nI (t.2.2.2.2.2.2.1 w)
theorem HuM.fr {μ ν : Mem} {t : HutT} (h : HuM μ t) (ho : HutOk t) (e : ∀ x, (129 ≤ x ∧ x < 182) → g_I ν x = g_I μ x) : HuM ν t := by
  obtain ⟨h1, h2, h3⟩ := h
  have t8 := ho.1
  have w16 := ho.2.1
  refine ⟨by rw [e 129 ⟨by decide, by decide⟩]; exact h1, fun p hp => by rw [e (140 + p) ⟨by omega, by omega⟩]; exact h2 p hp, fun w hw => by rw [e (166 + w) ⟨by omega, by omega⟩]; exact h3 w hw⟩
/-- the LAW in the reference -/
def LaM (μ : Mem) (ops : OpsT) : Prop := (g_I μ 125 17 = 0 ∧ ops = law0) ∨ (g_I μ 125 17 = nI ops.length ∧ ops.length ≤ 150 ∧ wfL ops 0 ∧ ∀ j q, ops[j]? = some q → g_I μ (183 + j) 0 = q.1 ∧ g_I μ (183 + j) 1 = q.2)
theorem LaM.fr {μ ν : Mem} {ops : OpsT} (l : LaM μ ops) (h17 : g_I ν 125 17 = g_I μ 125 17) (e : ∀ x, (183 ≤ x ∧ x < 343) → g_I ν x = g_I μ x) : LaM ν ops := by
  rcases l with ⟨l1, l2⟩ | ⟨l1, l2, l3, l4⟩
  · exact Or.inl ⟨by rw [h17]; exact l1, l2⟩
  · refine Or.inr ⟨by rw [h17]; exact l1, l2, l3, fun j q hq => ?_⟩
    have hj : j < ops.length := by
      have := List.getElem?_eq_some_iff.mp hq
      exact this.1
    rw [e (183 + j) ⟨by omega, by omega⟩]
    exact l4 j q hq
/-- what a row's functions look at -/
def RwC (μ : Mem) (h : Nat) (t : HutT) (ops : OpsT) (ρ : Nat → Int32) : Prop := RfS μ ∧ HuM μ t ∧ HutOk t ∧ LaM μ ops ∧ (h = 603 ∨ h = 604) ∧ RoR μ h ρ ∧ RowK t.1 t.2.1 ρ
theorem RwC.ar {μ : Mem} {h : Nat} {t : HutT} {ops : OpsT} {ρ : Nat → Int32} (c : RwC μ h t ops ρ) : ArS μ h 419 := by
  rcases c.2.2.2.2.1 with e | e <;> rw [e]
  · exact c.1.a603
  · exact c.1.a604
theorem RwC.at {μ : Mem} {h j : Nat} {t : HutT} {ops : OpsT} {ρ : Nat → Int32} (c : RwC μ h t ops ρ) (hj : j < 419) : inA μ h 15 (nI j) = true ∧ (nI j).toNatClampNeg = j ∧ g_I μ h j = ρ j := ⟨c.ar.ix hj (by decide), nI_clamp (by omega), c.2.2.2.2.2.1 j hj⟩
/-- frames that leave all that is looked at -/
theorem RwC.o {F S : Nat → Prop} {μ ν : Mem} {h : Nat} {t : HutT} {ops : OpsT} {ρ σ : Nat → Int32} (c : RwC μ h t ops ρ) (o : OF F S μ ν) (h17 : ¬ F 17) (hS : ∀ x, S x → (x < 129 ∨ 343 ≤ x)) (r : RoR ν h σ) (k : RowK t.1 t.2.1 σ) : RwC ν h t ops σ := ⟨o.s c.1, c.2.1.fr c.2.2.1 (fun x hx => o.r (by omega) (fun z => by have := hS x z; omega)), c.2.2.1, c.2.2.2.1.fr (o.2 17 h17) (fun x hx => o.r (by omega) (fun z => by have := hS x z; omega)), c.2.2.2.2.1, r, k⟩
theorem n8p (p : Nat) : (8 : Int32) + nI p = nI (8 + p) := nI_add 8 p
theorem n0p (p : Nat) : (0 : Int32) + nI p = nI p := by rw [show (0 : Int32) = nI 0 from rfl, nI_add, Nat.zero_add]
theorem n16p (p : Nat) : (16 : Int32) + nI p = nI (16 + p) := nI_add 16 p
theorem n24p (p : Nat) : (24 : Int32) + nI p = nI (24 + p) := nI_add 24 p
theorem n24m (p i : Nat) : ((24 : Int32) * nI p) + nI i = nI (24 * p + i) := by rw [show (24 : Int32) = nI 24 from rfl, nI_mul, nI_add]
theorem n35p (p : Nat) : (35 : Int32) + nI p = nI (35 + p) := nI_add 35 p
theorem n227p (p : Nat) : (227 : Int32) + nI p = nI (227 + p) := nI_add 227 p
/-- the PEN p in the reference -/
theorem penM {μ : Mem} {t : HutT} {p : Nat} (s : RfS μ) (hu : HuM μ t) (ho : HutOk t) (hp : p < t.1) : inA μ 139 19 (nI p) = true ∧ (nI p).toNatClampNeg = p ∧ g_R μ 139 p = 140 + p ∧ 0 < 140 + p ∧ inA μ (140 + p) 15 (0 : Int32) = true ∧ g_I μ (140 + p) 0 = t.2.1 p ∧ p < 8 := by
  have h8 := ho.1
  obtain ⟨a1, a2, a3, a4⟩ := s.t139.at (i := p) (by omega) (by decide)
  have cp : (nI p).toNatClampNeg = p := nI_clamp (by omega)
  rw [cp] at a2
  exact ⟨a1, cp, a2, a3, a4.ix (i := 0) (by decide) (by decide), (hu.2.1 p hp).1, by omega⟩
theorem c0n : (0 : Int32).toNatClampNeg = 0 := rfl
theorem c1n : (1 : Int32).toNatClampNeg = 1 := rfl
theorem c2n : (2 : Int32).toNatClampNeg = 2 := rfl
theorem c3n : (3 : Int32).toNatClampNeg = 3 := rfl
theorem c4n : (4 : Int32).toNatClampNeg = 4 := rfl
theorem R_jamsBy {kk : Nat} {d : Int32} {μ : Mem} (hk : kk < 8) : LX12_jamsBy (nI kk) d μ = some (jamI (nI kk) d, μ) := by
  unfold LX12_jamsBy jamI
  by_cases h : 5 ≤ kk
  · rw [if_pos (show (5 : Int32) ≤ nI kk from nI_le (a := 5) h (by omega)), if_pos (show (4 : Int32) < nI kk from nI_lt (a := 4) (by omega) (by omega))]
    split <;> rfl
  · rw [if_neg (show ¬ (5 : Int32) ≤ nI kk from nI_ge (b := 5) (by omega) (by decide)), if_neg (show ¬ (4 : Int32) < nI kk from nI_nlt (a := 4) (b := kk) (by omega) (by decide))]
    split <;> rfl
theorem jam01 {k d : Int32} : jamI k d = 0 ∨ jamI k d = 1 := by
  unfold jamI
  repeat' split
  all_goals decide
theorem R_jams {μ : Mem} {h p : Nat} {t : HutT} {ops : OpsT} {ρ : Nat → Int32} (c : RwC μ h t ops ρ) (hp : p < t.1) : LX12_jams 125 h (nI p) μ = some (jamI (t.2.1 p) (ρ (8 + p)), μ) := by
  obtain ⟨p1, p2, p3, p4, p5, p6, p7⟩ := penM c.1 c.2.1 c.2.2.1 hp
  obtain ⟨b1, b2, b3⟩ := c.at (j := 8 + p) (by omega)
  obtain ⟨⟨kk, hk, hk8⟩, -⟩ := c.2.2.1.2.2.1 p hp
  unfold LX12_jams
  rw [if_pos c.1.1, if_pos c.ar.1, c.1.h14, if_pos q139, if_pos p1, p2, p3, if_pos p4, if_pos p5, n8p, if_pos b1, b2, b3, c0n, p6, hk, R_jamsBy hk8, ob, if_pos jam01]
theorem R_isReal {k : Int32} {μ : Mem} : LX12_isReal k μ = some (realB k, μ) := by
  unfold LX12_isReal realB
  repeat' split
  all_goals rfl
theorem jam_d {kk d : Nat} (hk : kk ≤ 4) (hd : d ≤ 99) (h : jamI (nI kk) (nI d) = 0) : ¬ nI d = 0 := by
  intro e
  unfold jamI at h
  rw [if_pos e] at h
  by_cases h4 : (4 : Int32) < nI kk
  · have := Int32.lt_iff_toInt_lt.mp h4
    rw [nI_toInt (by omega), show (4 : Int32).toInt = 4 from by decide] at this
    omega
  · rw [if_neg h4] at h
    exact absurd h (by decide)
theorem R_outBy {kk m d : Nat} {v : Int32} {μ : Mem} (hk : kk < 8) (hm : m ≤ 99) (hd : kk ≤ 4 → ¬ nI d = 0) : LX12_outBy (nI kk) v (nI m) (nI d) μ = some (outF (nI kk) v (nI m) (nI d), μ) := by
  unfold LX12_outBy
  rw [R_isReal, ob]
  by_cases hr : kk = 5 ∨ kk = 6
  · have hr' : nI kk = 5 ∨ nI kk = 6 := by rcases hr with e | e <;> rw [e] <;> decide
    rw [if_neg (realB_r.mpr hr')]
    have e1 : LX12_real (nI kk) v (nI m) (nI d) μ = some (rVal (nI kk) v (nI m) (nI d), μ) := by
      unfold LX12_real rVal
      split <;> rfl
    rw [e1, ob, vm_out hr' hm]
  · have hb : realB (nI kk) = 0 := Classical.byContradiction fun z => hr (by
      rcases realB_r.mp z with e | e
      · exact Or.inl ((nI_eq (by omega) (by decide)).mp (show nI kk = nI 5 from e))
      · exact Or.inr ((nI_eq (by omega) (by decide)).mp (show nI kk = nI 6 from e)))
    rw [if_pos hb]
    unfold outF
    rw [if_pos hb]
    have e1 : LX12_whole (nI kk) v (nI m) (nI d) μ = some (wholeF (nI kk) v (nI m) (nI d), μ) := by
      have hk' : kk = 0 ∨ kk = 1 ∨ kk = 2 ∨ kk = 3 ∨ kk = 4 ∨ kk = 7 := by omega
      unfold LX12_whole wholeF
      rcases hk' with rfl | rfl | rfl | rfl | rfl | rfl
      · have := hd (by decide)
        rw [if_pos (show nI 0 = (0 : Int32) from rfl), if_pos this, if_neg (show ¬ nI 0 = (7 : Int32) by decide), if_neg this, if_pos (show nI 0 = (0 : Int32) from rfl)]
      · have := hd (by decide)
        rw [if_neg (show ¬ nI 1 = (0 : Int32) by decide), if_pos (show nI 1 = (1 : Int32) from rfl), if_pos this, if_neg (show ¬ nI 1 = (7 : Int32) by decide), if_neg this, if_neg (show ¬ nI 1 = (0 : Int32) by decide), if_pos (show nI 1 = (1 : Int32) from rfl)]
      · have := hd (by decide)
        rw [if_neg (show ¬ nI 2 = (0 : Int32) by decide), if_neg (show ¬ nI 2 = (1 : Int32) by decide), if_pos (show nI 2 = (2 : Int32) from rfl), if_pos this, if_neg (show ¬ nI 2 = (7 : Int32) by decide), if_neg this, if_neg (show ¬ nI 2 = (0 : Int32) by decide), if_neg (show ¬ nI 2 = (1 : Int32) by decide), if_pos (show nI 2 = (2 : Int32) from rfl)]
      · have := hd (by decide)
        rw [if_neg (show ¬ nI 3 = (0 : Int32) by decide), if_neg (show ¬ nI 3 = (1 : Int32) by decide), if_neg (show ¬ nI 3 = (2 : Int32) by decide), if_pos (show nI 3 = (3 : Int32) from rfl), if_pos this, if_neg (show ¬ nI 3 = (7 : Int32) by decide), if_neg this, if_neg (show ¬ nI 3 = (0 : Int32) by decide), if_neg (show ¬ nI 3 = (1 : Int32) by decide), if_neg (show ¬ nI 3 = (2 : Int32) by decide), if_pos (show nI 3 = (3 : Int32) from rfl)]
      · have := hd (by decide)
        rw [if_neg (show ¬ nI 4 = (0 : Int32) by decide), if_neg (show ¬ nI 4 = (1 : Int32) by decide), if_neg (show ¬ nI 4 = (2 : Int32) by decide), if_neg (show ¬ nI 4 = (3 : Int32) by decide), if_pos (show nI 4 = (4 : Int32) from rfl), if_pos (i64_ne0 this), if_neg (show ¬ nI 4 = (7 : Int32) by decide), if_neg this, if_neg (show ¬ nI 4 = (0 : Int32) by decide), if_neg (show ¬ nI 4 = (1 : Int32) by decide), if_neg (show ¬ nI 4 = (2 : Int32) by decide), if_neg (show ¬ nI 4 = (3 : Int32) by decide)]
      · rw [if_neg (show ¬ nI 7 = (0 : Int32) by decide), if_neg (show ¬ nI 7 = (1 : Int32) by decide), if_neg (show ¬ nI 7 = (2 : Int32) by decide), if_neg (show ¬ nI 7 = (3 : Int32) by decide), if_neg (show ¬ nI 7 = (4 : Int32) by decide), if_pos (show nI 7 = (7 : Int32) from rfl)]
    rw [e1, ob]
theorem R_outOf {μ : Mem} {h p : Nat} {t : HutT} {ops : OpsT} {ρ : Nat → Int32} {v : Int32} (c : RwC μ h t ops ρ) (hp : p < t.1) (hj : jamI (t.2.1 p) (ρ (8 + p)) = 0) : LX12_outOf 125 h (nI p) v μ = some (outF (t.2.1 p) v (ρ p) (ρ (8 + p)), μ) := by
  obtain ⟨p1, p2, p3, p4, p5, p6, p7⟩ := penM c.1 c.2.1 c.2.2.1 hp
  obtain ⟨b1, b2, b3⟩ := c.at (j := 8 + p) (by omega)
  obtain ⟨a1, a2, a3⟩ := c.at (j := p) (by omega)
  obtain ⟨⟨kk, hk, hk8⟩, -⟩ := c.2.2.1.2.2.1 p hp
  obtain ⟨m, d, hm, hm9, hd, hd9⟩ := (c.2.2.2.2.2.2.2.1 p hp).1.md
  rw [hk, hd] at hj
  unfold LX12_outOf
  rw [if_pos c.1.1, if_pos c.ar.1, c.1.h14, if_pos q139, if_pos p1, p2, p3, if_pos p4, if_pos p5, n0p, if_pos a1, n8p, if_pos b1, b2, b3, p2, a3, c0n, p6, hk, hm, hd, R_outBy hk8 hm9 (fun z => jam_d z hd9 hj), ob]
theorem dist_ref {x M : Int64} : (if lg_cmp x M ≤ 0 then x.toInt32 else M.toInt32) = (if x < M then x else M).toInt32 := by
  unfold lg_cmp
  by_cases h1 : x < M
  · have h2 : ¬ x > M := fun z => absurd (Int64.lt_iff_toInt_lt.mp z) (by have := Int64.lt_iff_toInt_lt.mp h1; omega)
    have h3 : ¬ x = M := fun z => by subst z; exact absurd (Int64.lt_iff_toInt_lt.mp h1) (by omega)
    rw [if_neg h2, if_neg h3, if_pos (by decide), if_pos h1]
  · rw [if_neg h1]
    by_cases h2 : x > M
    · rw [if_pos h2, if_neg (by decide)]
    · have h3 : x = M := Int64.toInt_inj.mp (by
        have a1 : ¬ x.toInt < M.toInt := fun z => h1 (Int64.lt_iff_toInt_lt.mpr z)
        have a2 : ¬ M.toInt < x.toInt := fun z => h2 (Int64.lt_iff_toInt_lt.mpr z)
        omega)
      rw [if_neg h2, if_pos h3, if_pos (by decide), h3]
theorem R_off {a b : Int32} {μ : Mem} : LX12_off a b μ = some (distF a b, μ) := by
  have e0 : ∀ x : Int64, mX12_off_18 x μ = some ((if x < (2147483647 : Int64) then x else (2147483647 : Int64)).toInt32, μ) := by
    intro x
    rw [← dist_ref]
    unfold mX12_off_18
    split <;> rfl
  unfold LX12_off distF
  rw [e0, e0]
  by_cases h : 0 < (a.toInt64 - b.toInt64)
  · rw [if_pos h, if_pos ((lg_cmp_ge _ _).mpr (Int64.le_iff_toInt_le.mpr (by have := Int64.lt_iff_toInt_lt.mp h; omega)))]
  · rw [if_neg h]
    by_cases h2 : 0 ≤ lg_cmp (a.toInt64 - b.toInt64) 0
    · rw [if_pos h2]
      have h3 : a.toInt64 - b.toInt64 = 0 := Int64.toInt_inj.mp (by
        have a1 : ¬ (0 : Int64).toInt < (a.toInt64 - b.toInt64).toInt := fun z => h (Int64.lt_iff_toInt_lt.mpr z)
        have a2 := Int64.le_iff_toInt_le.mp ((lg_cmp_ge _ _).mp h2)
        omega)
      rw [h3]
      rfl
    · rw [if_neg h2]
theorem div_m1 (u : Int32) : u / (-1) = -u := by
  apply Int32.toInt_inj.mp
  rw [Int32.toInt_div, show (-1 : Int32).toInt = -1 from by decide, Int.tdiv_neg, Int.tdiv_one, Int32.toInt_neg]
theorem rem_m1 (u : Int32) : u - u / (-1) * (-1) = 0 := by
  rw [div_m1, Int32.mul_neg, Int32.mul_one, Int32.neg_neg, Int32.sub_self]
theorem R_less {a b : Int32} {μ : Mem} : LX12_less a b μ = some (if b < a then b else a, μ) := by
  unfold LX12_less
  by_cases h : b < a
  · rw [if_pos h, if_pos (Int32.le_of_lt h)]
  · rw [if_neg h]
    by_cases h2 : b ≤ a
    · have e : b = a := Int32.le_antisymm h2 (Int32.not_lt.mp h)
      rw [if_pos h2, e]
    · rw [if_neg h2]
theorem R_more {a b : Int32} {μ : Mem} : LX12_more a b μ = some (if a < b then b else a, μ) := by
  unfold LX12_more
  by_cases h : a < b
  · rw [if_pos h, if_pos (Int32.le_of_lt h)]
  · rw [if_neg h]
    by_cases h2 : a ≤ b
    · have e : a = b := Int32.le_antisymm h2 (Int32.not_lt.mp h)
      rw [if_pos h2, e]
    · rw [if_neg h2]
theorem R_by {k : Nat} {u v : Int32} {μ : Mem} (h1 : 2 ≤ k) (h2 : k ≤ 8) : LX12_by (nI k) u v μ = some (byF (nI k) u v, μ) := by
  have hk : k = 2 ∨ k = 3 ∨ k = 4 ∨ k = 5 ∨ k = 6 ∨ k = 7 ∨ k = 8 := by omega
  rcases hk with rfl | rfl | rfl | rfl | rfl | rfl | rfl
  · rfl
  · rfl
  · rfl
  · show (if v = 0 then some (0, μ) else if v = -1 then some (-u, μ) else if ¬ v = 0 then some (u / v, μ) else none) = some (if v = 0 then 0 else u / v, μ)
    by_cases hv : v = 0
    · rw [if_pos hv, if_pos hv]
    · rw [if_neg hv, if_neg hv]
      by_cases hv1 : v = -1
      · rw [if_pos hv1, hv1, div_m1]
      · rw [if_neg hv1, if_pos hv]
  · show (if v = 0 then some (0, μ) else if v = -1 then some (0, μ) else if ¬ v = 0 then some (u - u / v * v, μ) else none) = some (if v = 0 then 0 else u - u / v * v, μ)
    by_cases hv : v = 0
    · rw [if_pos hv, if_pos hv]
    · rw [if_neg hv, if_neg hv]
      by_cases hv1 : v = -1
      · rw [if_pos hv1, hv1, rem_m1]
      · rw [if_neg hv1, if_pos hv]
  · show obind (LX12_less u v μ) (fun r m => some (r, m)) = some (if v < u then v else u, μ)
    rw [R_less, ob]
  · show obind (LX12_more u v μ) (fun r m => some (r, m)) = some (if u < v then v else u, μ)
    rw [R_more, ob]
theorem cl_ref {x : Int32} : (if (if (0 : Int32) < x then x else 0) < 99 then (if (0 : Int32) < x then x else 0) else (99 : Int32)) = clL9 x := by
  unfold clL9
  by_cases h1 : (0 : Int32) < x
  · rw [if_pos h1]
    by_cases h2 : x < 99
    · rw [if_pos h2, if_pos h1]
    · rw [if_neg h2, if_pos (by decide)]
  · rw [if_neg h1, if_pos (by decide)]
    have h2 : x < 99 := Int32.lt_of_le_of_lt (Int32.not_lt.mp h1) (by decide)
    rw [if_pos h2, if_neg h1]
theorem clL9' {x : Int32} : (if (if (0 : Int32) < x then x else 0) < (99 : Int32) then (if (0 : Int32) < x then x else 0) else (99 : Int32)) = clL9 x := cl_ref
/-- how the LAW's row is gone through -/
theorem R_byLawL {n : Nat} {kn : Nat → Int32} : ∀ (ops : OpsT) (i fu : Nat) (st : List Int32) (μ : Mem), RfS μ → (∀ j q, ops[j]? = some q → g_I μ (183 + (i + j)) 0 = q.1 ∧ g_I μ (183 + (i + j)) 1 = q.2) → g_I μ 125 17 = nI n → (∀ k, k < 8 → g_I μ 519 k = kn k) → i + ops.length = n → n ≤ 150 →
    StkR (g_I μ 518) st → st.length + ops.length ≤ 150 → wfL ops st.length → ops.length < fu →
    ∃ μ' : Mem, mX12_byLaw_16 fu 125 (nI st.length) (nI i) μ = some (clL9 ((evL kn ops st).getD ((evL kn ops st).length - 1) 0), μ') ∧ OF nS (fun a => a = 518) μ μ' := by
  intro ops
  induction ops with
  | nil =>
    intro i fu st μ s hc hn hk hi h15 hst hl hw hf
    obtain ⟨fu, rfl⟩ : ∃ q, fu = q + 1 := ⟨fu - 1, by simp at hf; omega⟩
    have hd : 1 ≤ st.length := hw
    simp only [List.length_nil] at hi hl
    rw [mX12_byLaw_16, hn, if_pos (nI_le (by omega) (by omega)), s.h23, if_pos q518, if_pos (show inA μ 518 15 (0 : Int32) = true from s.a518.ix (i := 0) (by decide) (by decide)), c0n, hst 0 (by omega), R_more, ob, R_less, ob]
    have e := cl_ref (x := st.getD (st.length - 1 - 0) 0)
    rw [e]
    exact ⟨μ, rfl, OF.rf⟩
  | cons q r ih =>
    intro i fu st μ s hc hn hk hi h15 hst hl hw hf
    obtain ⟨fu, rfl⟩ : ∃ q, fu = q + 1 := ⟨fu - 1, by simp at hf; omega⟩
    simp only [List.length_cons] at hi hl hf
    have ct : (nI st.length).toNatClampNeg = st.length := nI_clamp (by omega)
    obtain ⟨hq1, hq2⟩ := hc 0 q rfl
    rw [Nat.add_zero] at hq1 hq2
    obtain ⟨a1, a2, a3, a4⟩ := s.t182.at (i := i) (by omega) (by decide)
    have i0 : inA μ (183 + i) 15 (0 : Int32) = true := a4.ix (i := 0) (by decide) (by decide)
    have i1 : inA μ (183 + i) 15 (1 : Int32) = true := a4.ix (i := 1) (by decide) (by decide)
    have a2 : g_R μ 182 (nI i).toNatClampNeg = 183 + i := a2
    have a3 : 0 < 183 + i := by omega
    rw [mX12_byLaw_16, hn, if_neg (nI_ge (by omega) (by omega)), s.h19, if_pos q182, if_pos a1, a2, if_pos a3, if_pos i0, s.h23, c0n, c1n, hq1]
    -- what follows a value
    have leaf : ∀ x : Int32, lstep kn q st = x :: st → wfL r (st.length + 1) → ∃ μ' : Mem, mX12_byLaw_16 fu 125 (nI st.length + 1) (nI i + 1) (p_I μ 518 st.length x) = some (clL9 ((evL kn (q :: r) st).getD ((evL kn (q :: r) st).length - 1) 0), μ') ∧ OF nS (fun a => a = 518) μ μ' := by
      intro x hx hw'
      have hx' : evL kn (q :: r) st = evL kn r (x :: st) := by show evL kn r (lstep kn q st) = _; rw [hx]
      have o1 : OF nS (fun a => a = 518) μ (p_I μ 518 st.length x) := OF.rf.pS rfl (by decide)
      obtain ⟨μ', e1, e2⟩ := ih (i + 1) fu (x :: st) (p_I μ 518 st.length x) (o1.s s) (fun j z hz => by
        have := hc (j + 1) z hz
        rw [gI_h (show 183 + (i + 1 + j) ≠ 518 by have := (List.getElem?_eq_some_iff.mp hz).1; omega), gI_h (show 183 + (i + 1 + j) ≠ 518 by have := (List.getElem?_eq_some_iff.mp hz).1; omega), show i + 1 + j = i + (j + 1) by omega]
        exact this) (by rw [gI_h (by decide)]; exact hn) (fun k hk8 => by rw [gI_h (by decide)]; exact hk k hk8) (by omega) h15 (by rw [gI_row]; exact hst.push) (by simp only [List.length_cons]; omega) (by rw [List.length_cons]; exact hw') (by omega)
      rw [List.length_cons, nI_succ, nI_succ] at e1
      rw [hx']
      exact ⟨μ', e1, o1.tr e2⟩
    rcases hw with ⟨c0, hw'⟩ | ⟨c1, ⟨k, k8, e2⟩, hw'⟩ | ⟨⟨k, k1', k8, c2⟩, hd, hw'⟩
    · rw [c0, if_neg (show ¬ (2 : Int32) ≤ 0 by decide), if_pos q518, if_pos rfl, if_pos i1, if_pos (s.a518.ix (show st.length < 160 by omega) (by decide)), ct, hq2]
      exact leaf q.2 (if_pos c0) hw'
    · rw [c1, if_neg (show ¬ (2 : Int32) ≤ 1 by decide), if_pos q518, if_neg (show ¬ (1 : Int32) = 0 by decide), s.h24, if_pos q519, if_pos i1, hq2, e2, if_pos (s.a519.ix k8 (by decide)), if_pos (s.a518.ix (show st.length < 160 by omega) (by decide)), ct, nI_clamp (show k < 2147483648 by omega), hk k k8]
      refine leaf (kn k) ?_ hw'
      unfold lstep
      rw [c1, if_neg (by decide), if_pos rfl, e2, nI_clamp (by omega)]
    · obtain ⟨y, st1, rfl⟩ : ∃ y st1, st = y :: st1 := by
        cases st with
        | nil => simp at hd
        | cons y st1 => exact ⟨y, st1, rfl⟩
      obtain ⟨x, rr, rfl⟩ : ∃ x rr, st1 = x :: rr := by
        cases st1 with
        | nil => simp at hd
        | cons x rr => exact ⟨x, rr, rfl⟩
      obtain ⟨z1, z2, z3⟩ := StkR.op (z := byF (nI k) x y) hst
      simp only [List.length_cons] at hl hw' ⊢
      have et : nI (rr.length + 1 + 1) + -1 = nI (rr.length + 1) := by
        rw [show (-1 : Int32) = - nI 1 from rfl, ← Int32.sub_eq_add_neg, nI_sub (by omega), Nat.add_sub_cancel]
      have et2 : nI (rr.length + 1) - 1 = nI rr.length := nI_pred _
      have c3 : (nI rr.length).toNatClampNeg = rr.length := nI_clamp (by omega)
      have c4 : (nI (rr.length + 1)).toNatClampNeg = rr.length + 1 := nI_clamp (by omega)
      have ix1 : inA μ 518 15 (nI rr.length) = true := s.a518.ix (by omega) (by decide)
      have ix2 : inA μ 518 15 (nI (rr.length + 1)) = true := s.a518.ix (by omega) (by decide)
      rw [c2, if_pos (show (2 : Int32) ≤ nI k from nI_le (a := 2) k1' (by omega)), if_pos q518, et, et2, if_pos ix1, if_pos ix2, c3, c4, z2, z3, R_by k1' k8, ob, if_pos ix1]
      have o1 : OF nS (fun a => a = 518) μ (p_I μ 518 rr.length (byF (nI k) x y)) := OF.rf.pS rfl (by decide)
      obtain ⟨μ', e1, e2⟩ := ih (i + 1) fu (byF (nI k) x y :: rr) (p_I μ 518 rr.length (byF (nI k) x y)) (o1.s s) (fun j z hz => by
        have := hc (j + 1) z hz
        rw [gI_h (show 183 + (i + 1 + j) ≠ 518 by have := (List.getElem?_eq_some_iff.mp hz).1; omega), gI_h (show 183 + (i + 1 + j) ≠ 518 by have := (List.getElem?_eq_some_iff.mp hz).1; omega), show i + 1 + j = i + (j + 1) by omega]
        exact this) (by rw [gI_h (by decide)]; exact hn) (fun k hk8 => by rw [gI_h (by decide)]; exact hk k hk8) (by omega) h15 (by rw [gI_row]; exact z1) (by simp only [List.length_cons]; omega) (by rw [List.length_cons]; exact hw') (by omega)
      have hx' : evL kn (q :: r) (y :: x :: rr) = evL kn r (byF (nI k) x y :: rr) := by
        show evL kn r (lstep kn q (y :: x :: rr)) = _
        congr 1
        unfold lstep
        rw [c2, if_neg (nI_ne0 (by omega) (by omega)), if_neg (fun z => by have := (nI_eq (by omega) (by decide)).mp (show nI k = nI 1 from z); omega)]
        rfl
      rw [List.length_cons, nI_succ i] at e1
      rw [hx']
      exact ⟨μ', e1, o1.tr e2⟩
theorem R_byLaw {μ : Mem} {ops : OpsT} {kn : Nat → Int32} (s : RfS μ) (l : LaM μ ops) (hk : ∀ k, k < 8 → g_I μ 519 k = kn k) : ∃ μ' : Mem, LX12_byLaw 125 μ = some (lawV ops kn, μ') ∧ OF nS (fun a => a = 518) μ μ' := by
  unfold LX12_byLaw
  have i2 : inA μ 519 15 (2 : Int32) = true := s.a519.ix (i := 2) (by decide) (by decide)
  have i0 : inA μ 518 15 (0 : Int32) = true := s.a518.ix (i := 0) (by decide) (by decide)
  rw [if_pos s.1, s.h23, if_pos q518, s.h24, if_pos q519, if_pos i2, if_pos i0, c0n, c2n, hk 2 (by decide)]
  have o1 : OF nS (fun a => a = 518) μ (p_I μ 518 0 (kn 2)) := OF.rf.pS rfl (by decide)
  rcases l with ⟨l1, l2⟩ | ⟨l1, l2, l3, l4⟩
  · have h17 : g_I (p_I μ 518 0 (kn 2)) 125 17 = 0 := by rw [gI_h (by decide)]; exact l1
    have i0' : inA (p_I μ 518 0 (kn 2)) 518 15 (0 : Int32) = true := i0
    have h23' : g_R (p_I μ 518 0 (kn 2)) 125 23 = 518 := s.h23
    rw [mX12_byLaw_16, h17, if_pos (show (0 : Int32) ≤ 0 by decide), h23', if_pos q518, if_pos i0', c0n, gI_s, R_more, ob, R_less, ob, cl_ref]
    refine ⟨_, ?_, o1⟩
    rw [l2]
    rfl
  · obtain ⟨μ', e1, o2⟩ := R_byLawL (n := ops.length) (kn := kn) ops 0 100000 [] (p_I μ 518 0 (kn 2)) (o1.s s) (fun j q hq => by
      rw [Nat.zero_add, gI_h (show 183 + j ≠ 518 by have := (List.getElem?_eq_some_iff.mp hq).1; omega), gI_h (show 183 + j ≠ 518 by have := (List.getElem?_eq_some_iff.mp hq).1; omega)]
      exact l4 j q hq) (by rw [gI_h (by decide)]; exact l1) (fun k hk8 => by rw [gI_h (by decide)]; exact hk k hk8) (Nat.zero_add _) l2 (fun j hj => absurd hj (Nat.not_lt_zero _)) (by simpa using l2) l3 (by omega)
    exact ⟨μ', e1, o1.tr o2⟩
/-- the rows that a LEVEL is worked out in -/
abbrev lvS : Nat → Prop := fun a => a = 518 ∨ a = 519
theorem R_levelBy {μ : Mem} {ops : OpsT} {a0 a1 a2 a3 a4 a5 a6 a7 : Int32} (s : RfS μ) (l : LaM μ ops) : ∃ μ' : Mem, LX12_levelBy 125 a0 a1 a2 a3 a4 a5 a6 a7 μ = some (lawV ops (kn8 a0 a1 a2 a3 a4 a5 a6 a7), μ') ∧ OF nS lvS μ μ' := by
  unfold LX12_levelBy
  have inn : ∀ j : Nat, j < 8 → inA μ 519 15 (nI j) = true := fun j hj => s.a519.ix hj (by decide)
  rw [if_pos s.1, s.h24, if_pos q519, if_pos (show inA μ 519 15 (0 : Int32) = true from inn 0 (by decide)), if_pos (show inA μ 519 15 (1 : Int32) = true from inn 1 (by decide)), if_pos (show inA μ 519 15 (2 : Int32) = true from inn 2 (by decide)), if_pos (show inA μ 519 15 (3 : Int32) = true from inn 3 (by decide)), if_pos (show inA μ 519 15 (4 : Int32) = true from inn 4 (by decide)), if_pos (show inA μ 519 15 (5 : Int32) = true from inn 5 (by decide)), if_pos (show inA μ 519 15 (6 : Int32) = true from inn 6 (by decide)), if_pos (show inA μ 519 15 (7 : Int32) = true from inn 7 (by decide))]
  obtain ⟨ν, hν⟩ : ∃ ν, ν = p_I (p_I (p_I (p_I (p_I (p_I (p_I (p_I μ 519 0 a0) 519 1 a1) 519 2 a2) 519 3 a3) 519 4 a4) 519 5 a5) 519 6 a6) 519 7 a7 := ⟨_, rfl⟩
  have o1 : OF nS lvS μ ν := by
    rw [hν]
    exact ((((((((OF.rf (F := nS) (S := lvS)).pS (Or.inr rfl) (by decide)).pS (Or.inr rfl) (by decide)).pS (Or.inr rfl) (by decide)).pS (Or.inr rfl) (by decide)).pS (Or.inr rfl) (by decide)).pS (Or.inr rfl) (by decide)).pS (Or.inr rfl) (by decide)).pS (Or.inr rfl) (by decide)
  obtain ⟨μ', e1, o2⟩ := R_byLaw (μ := ν) (ops := ops) (kn := kn8 a0 a1 a2 a3 a4 a5 a6 a7) (o1.s s) (l.fr (o1.2 17 (fun z => z)) (fun x hx => o1.r (by omega) (fun z => by have z : x = 518 ∨ x = 519 := z; omega))) (fun k hk => by
    rw [hν]
    have hk : k = 0 ∨ k = 1 ∨ k = 2 ∨ k = 3 ∨ k = 4 ∨ k = 5 ∨ k = 6 ∨ k = 7 := by omega
    rcases hk with rfl | rfl | rfl | rfl | rfl | rfl | rfl | rfl <;> simp [gI_pI, kn8])
  show ∃ μ' : Mem, obind (LX12_byLaw 125 (p_I (p_I (p_I (p_I (p_I (p_I (p_I (p_I μ 519 0 a0) 519 1 a1) 519 2 a2) 519 3 a3) 519 4 a4) 519 5 a5) 519 6 a6) 519 7 a7)) (fun r m => some (r, m)) = _ ∧ _
  rw [← hν, e1, ob]
  exact ⟨μ', rfl, o1.tr (o2.mo (fun _ z => z) (fun a ha => Or.inl ha))⟩
theorem lv_far {x : Nat} (h : lvS x) : x < 129 ∨ 343 ≤ x := by have h : x = 518 ∨ x = 519 := h; omega
theorem R_levelOf {μ : Mem} {h p : Nat} {t : HutT} {ops : OpsT} {ρ : Nat → Int32} {v : Int32} (c : RwC μ h t ops ρ) (hp : p < t.1) : ∃ μ' : Mem, LX12_levelOf 125 h (nI p) v μ = some (levF ops (t.2.1 p) ρ p v, μ') ∧ OF nS lvS μ μ' := by
  have h8 := c.2.2.1.1
  obtain ⟨a1, a2, a3⟩ := c.at (j := p) (by omega)
  obtain ⟨b1, b2, b3⟩ := c.at (j := 8 + p) (by omega)
  obtain ⟨d1, d2, d3⟩ := c.at (j := 24 + p) (by omega)
  obtain ⟨e1, e2, e3⟩ := c.at (j := 32) (by decide)
  have key : ∀ o l : Int32, mX12_levelOf_41 125 h (nI p) v o l μ = obind (LX12_levelBy 125 v o l (ρ (24 + p)) (ρ 32) (nI p) (ρ p) (ρ (8 + p)) μ) (fun r m => some (r, m)) := by
    intro o l
    unfold mX12_levelOf_41
    rw [n24p, if_pos d1, if_pos (show inA μ h 15 (32 : Int32) = true from e1), n0p, if_pos a1, n8p, if_pos b1, d2, d3, b2, b3, a2, a3, show (32 : Int32).toNatClampNeg = 32 from rfl, e3]
  have fin : ∀ o l : Int32, ∃ μ' : Mem, mX12_levelOf_41 125 h (nI p) v o l μ = some (lawV ops (kn8 v o l (ρ (24 + p)) (ρ 32) (nI p) (ρ p) (ρ (8 + p))), μ') ∧ OF nS lvS μ μ' := by
    intro o l
    obtain ⟨μ', f1, f2⟩ := R_levelBy (a0 := v) (a1 := o) (a2 := l) (a3 := ρ (24 + p)) (a4 := ρ 32) (a5 := nI p) (a6 := ρ p) (a7 := ρ (8 + p)) c.1 c.2.2.2.1
    rw [key, f1, ob]
    exact ⟨μ', rfl, f2⟩
  unfold LX12_levelOf levF lvOut lvLoss
  rw [if_pos c.1.1, if_pos c.ar.1, R_jams c hp, ob]
  by_cases hj : jamI (t.2.1 p) (ρ (8 + p)) = 0
  · rw [if_pos hj, if_pos hj, if_pos hj, R_outOf c hp hj, ob]
    unfold mX12_levelOf_20
    rw [R_jams c hp, ob, if_pos hj, R_off, ob]
    exact fin _ _
  · rw [if_neg hj, if_neg hj, if_neg hj]
    unfold mX12_levelOf_20
    rw [R_jams c hp, ob, if_neg hj]
    exact fin _ _
