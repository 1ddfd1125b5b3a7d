/-! ===== FLOATS: what the reference works out, and the class's marks ===== -/
theorem n64_iff {a : UInt64} : nn64 a = true ↔ FP.Core.dIsNaN a = false := by
  have h := FP.Core.isNaN_bits a
  have e : (a &&& 0x7fffffffffffffff).toNat = a.toNat % 2 ^ 63 := by
    rw [UInt64.toNat_and]
    show a.toNat &&& (2 ^ 63 - 1) = _
    rw [Nat.and_two_pow_sub_one_eq_mod]
  unfold nn64
  rw [decide_eq_true_iff, UInt64.le_iff_toNat_le, e]
  show a.toNat % 2 ^ 63 ≤ 9218868437227405312 ↔ _
  cases hh : FP.Core.dIsNaN a
  · rw [hh] at h
    constructor
    · intro _; rfl
    · intro _
      apply Classical.byContradiction
      intro z
      exact absurd (h.mpr (by omega)) (by decide)
  · rw [hh] at h
    have := h.mp rfl
    constructor
    · intro z; omega
    · intro z; exact absurd z (by decide)
theorem n32_iff {a : UInt32} : nn32 a = true ↔ FP.Core.fIsNaN a = false := by
  have h := FP.Core.isNaN_bits32 a
  have e : (a &&& 0x7fffffff).toNat = a.toNat % 2 ^ 31 := by
    rw [UInt32.toNat_and]
    show a.toNat &&& (2 ^ 31 - 1) = _
    rw [Nat.and_two_pow_sub_one_eq_mod]
  unfold nn32
  rw [decide_eq_true_iff, UInt32.le_iff_toNat_le, e]
  show a.toNat % 2 ^ 31 ≤ 2139095040 ↔ _
  cases hh : FP.Core.fIsNaN a
  · rw [hh] at h
    constructor
    · intro _; rfl
    · intro _
      apply Classical.byContradiction
      intro z
      exact absurd (h.mpr (by omega)) (by decide)
  · rw [hh] at h
    have := h.mp rfl
    constructor
    · intro z; omega
    · intro z; exact absurd z (by decide)
/-- what the reference works out -/
def rVal (k v m d : Int32) : UInt64 := if k = 6 then FP.ddiv (FP.dmul (FP.i2d v) (FP.i2d m)) (FP.i2d d) else FP.f2d (FP.fdiv (FP.fmul (FP.i2f v) (FP.i2f m)) (FP.i2f d))
theorem nI_ne {d : Int32} (h : ¬ d = 0) : d.toInt ≠ 0 := fun e => h (Int32.toInt.inj (by rw [e]; rfl))
theorem dv_fin {v m d : Int32} (hd : ¬ d = 0) : FP.Core.DFin (FP.dmul (FP.i2d v) (FP.i2d m)) ∧ FP.Core.DFin (FP.ddiv (FP.dmul (FP.i2d v) (FP.i2d m)) (FP.i2d d)) := by
  have h1 := FP.Core.dmul_mag (FP.Core.i2d_mag v) (FP.Core.i2d_mag m) (by decide) (by decide)
  obtain ⟨h2, h3⟩ := FP.Core.i2d_big (nI_ne hd)
  have h4 := FP.Core.ddiv_mag h1 h2 h3 (by decide) (by decide)
  exact ⟨FP.Core.fin_of_lt h1 (by decide), FP.Core.fin_of_lt h4 (by decide)⟩
theorem fv_fin {v m d : Int32} (hd : ¬ d = 0) : FP.Core.FFin (FP.fmul (FP.i2f v) (FP.i2f m)) ∧ FP.Core.FFin (FP.fdiv (FP.fmul (FP.i2f v) (FP.i2f m)) (FP.i2f d)) := by
  have h1 := FP.Core.fmul_mag (FP.Core.i2f_mag v) (FP.Core.i2f_mag m) (by decide) (by decide)
  obtain ⟨h2, h3⟩ := FP.Core.i2f_big (nI_ne hd)
  have h4 := FP.Core.fdiv_mag h1 h2 h3 (by decide) (by decide)
  exact ⟨FP.Core.fin_of_lt32 h1 (by decide), FP.Core.fin_of_lt32 h4 (by decide)⟩
theorem f2d_c {a : UInt32} (h : FP.Core.fIsNaN a = false) : FP.f2d a = FP.Core.f2d a := FP.f2d_core (by rw [FP.fIsNaN_core]; exact h)
theorem fpNn : FpNn := by
  intro k v m d hm hd
  unfold NnOk
  by_cases h0 : nI d = 0
  · exact Or.inl h0
  refine Or.inr ?_
  obtain ⟨a1, a2⟩ := dv_fin (v := v) (m := nI m) h0
  obtain ⟨b1, b2⟩ := fv_fin (v := v) (m := nI m) h0
  by_cases hk : k = 5
  · rw [if_pos hk]
    refine ⟨n32_iff.mpr b1.notNaN, n32_iff.mpr b2.notNaN, n64_iff.mpr ?_⟩
    rw [f2d_c b2.notNaN]
    exact (FP.Core.f2d_fin b2).notNaN
  · rw [if_neg hk]
    exact ⟨n64_iff.mpr a1.notNaN, n64_iff.mpr a2.notNaN⟩
theorem rVal_fin {k v m d : Int32} (hd : ¬ d = 0) : FP.Core.DFin (rVal k v m d) := by
  unfold rVal
  by_cases hk : k = 6
  · rw [if_pos hk]; exact (dv_fin hd).2
  · rw [if_neg hk, f2d_c (fv_fin hd).2.notNaN]
    exact FP.Core.f2d_fin (fv_fin hd).2
theorem rVal_F {k v m d : Int32} (hk : k = 5 ∨ k = 6) (hd : ¬ d = 0) : rVal k v m d = realF k v m d := by
  unfold rVal realF
  rw [if_neg hd]
  rcases hk with rfl | rfl
  · rw [if_neg (by decide), if_pos rfl]
  · rw [if_pos rfl, if_neg (by decide)]
/-- a rounded number that is not too small is no zero -/
theorem rr_nz {f : FP.Core.Fmt} (hf : FP.Core.Good f) {s : Bool} {A : Nat} (hA : 0 < A) {e : Int} (he : f.qmin ≤ e) : FP.Core.roundRatio f s A 1 e = .inf s ∨ ∃ c q, FP.Core.roundRatio f s A 1 e = .fin s c q ∧ c ≠ 0 ∧ e - ((f.p : Int) - 1) ≤ q := by
  unfold FP.Core.roundRatio
  rw [if_neg (by omega)]
  unfold FP.Core.roundAt FP.Core.settle FP.Core.bound
  have hq1 : e - ((f.p : Int) - 1) ≤ FP.Core.quantum f A 1 e := by
    have hl : 0 ≤ FP.Core.leading A 1 := by
      apply Classical.byContradiction
      intro z
      have := (FP.Core.leading_spec hA (by decide : 0 < 1)).2
      unfold FP.Core.Below at this
      rw [show (FP.Core.leading A 1 + 1).toNat = 0 by omega] at this
      have h2 : 0 < A * 2 ^ (-(FP.Core.leading A 1 + 1)).toNat := Nat.mul_pos hA (Nat.two_pow_pos _)
      omega
    unfold FP.Core.quantum
    omega
  have hn : 1 ≤ FP.Core.nearest (FP.Core.unitsNum A e (FP.Core.quantum f A 1 e)) (FP.Core.unitsDen 1 e (FP.Core.quantum f A 1 e)) := by
    refine FP.Core.nearest_ge (FP.Core.unitsDen_pos (by decide) _ _) ?_
    rw [Nat.one_mul]
    unfold FP.Core.unitsNum FP.Core.unitsDen
    rw [Nat.one_mul]
    rcases FP.Core.quantum_not_below (f := f) hA (by decide : 0 < 1) e with h | h
    · rw [h, show (f.qmin - e).toNat = 0 by omega]
      exact Nat.mul_pos hA (Nat.two_pow_pos _)
    · generalize FP.Core.quantum f A 1 e = q at *
      by_cases hqe : q ≤ e
      · rw [show (q - e).toNat = 0 by omega]
        exact Nat.mul_pos hA (Nat.two_pow_pos _)
      · rw [show (e - q).toNat = 0 by omega, Nat.pow_zero, Nat.mul_one]
        unfold FP.Core.Below at h
        have hp := hf.2
        rw [show (-(q - e + ((f.p : Int) - 1))).toNat = 0 by omega, Nat.pow_zero, Nat.mul_one, Nat.one_mul] at h
        have : 2 ^ (q - e).toNat ≤ 2 ^ (q - e + ((f.p : Int) - 1)).toNat := Nat.pow_le_pow_right (by decide) (by omega)
        omega
  have ht := FP.Core.tails_pos f
  repeat' split
  · exact Or.inr ⟨_, _, rfl, by omega, hq1⟩
  · exact Or.inl rfl
  · exact Or.inr ⟨_, _, rfl, by omega, by omega⟩
  · exact Or.inl rfl
/-- a whole number times a whole number, by 0 -/
theorem by0 {f : FP.Core.Fmt} (hf : FP.Core.Good f) (hq : f.qmin ≤ -(((f.p : Int) - 1) + ((f.p : Int) - 1))) {v m : Int} (hfv : ∃ s c q, FP.Core.round f (FP.Core.ofInt v) = .fin s c q) (hfm : ∃ s c q, FP.Core.round f (FP.Core.ofInt m) = .fin s c q) (hm : 0 ≤ m) :
    FP.Core.quotient f (FP.Core.round f (FP.Core.exactProduct (FP.Core.round f (FP.Core.ofInt v)) (FP.Core.round f (FP.Core.ofInt m)))) (.fin false 0 f.qmin) = if v = 0 ∨ m = 0 then .nan else .inf (decide (v < 0)) := by
  have hz : ∀ x : Int, x = 0 → FP.Core.round f (FP.Core.ofInt x) = .fin false 0 f.qmin := by
    intro x hx
    subst hx
    rfl
  have hnz : ∀ x : Int, x ≠ 0 → (∃ s c q, FP.Core.round f (FP.Core.ofInt x) = .fin s c q) → ∃ c q, FP.Core.round f (FP.Core.ofInt x) = .fin (decide (x < 0)) c q ∧ c ≠ 0 ∧ -((f.p : Int) - 1) ≤ q := by
    intro x hx hfin
    have hq0 := FP.Core.qmin_neg hf
    rcases rr_nz hf (s := decide (x < 0)) (A := x.natAbs) (by omega) (e := 0) (by omega) with h | ⟨c, q, h1, h2, h3⟩
    · obtain ⟨s, c, q, h'⟩ := hfin
      have : FP.Core.round f (FP.Core.ofInt x) = .inf (decide (x < 0)) := h
      rw [this] at h'
      cases h'
    · exact ⟨c, q, h1, h2, by omega⟩
  by_cases hv0 : v = 0
  · obtain ⟨s, c, q, e⟩ := hfm
    rw [if_pos (Or.inl hv0), hz v hv0, e]
    show FP.Core.quotient f (FP.Core.roundRatio f (false != s) (0 * c) 1 _) _ = _
    rw [Nat.zero_mul]
    rfl
  by_cases hm0 : m = 0
  · obtain ⟨s, c, q, e⟩ := hfv
    rw [if_pos (Or.inr hm0), hz m hm0, e]
    show FP.Core.quotient f (FP.Core.roundRatio f (s != false) (c * 0) 1 _) _ = _
    rw [Nat.mul_zero]
    rfl
  obtain ⟨c, q, e1, e2, e3⟩ := hnz v hv0 hfv
  obtain ⟨d, r, f1, f2, f3⟩ := hnz m hm0 hfm
  rw [if_neg (by omega), e1, f1, show decide (m < 0) = false from decide_eq_false (by omega)]
  show FP.Core.quotient f (FP.Core.roundRatio f (decide (v < 0) != false) (c * d) 1 (q + r)) _ = _
  have hs : (decide (v < 0) != false) = decide (v < 0) := by cases decide (v < 0) <;> rfl
  rw [hs]
  rcases rr_nz hf (s := decide (v < 0)) (A := c * d) (Nat.mul_pos (Nat.pos_of_ne_zero e2) (Nat.pos_of_ne_zero f2)) (e := q + r) (by omega) with h | ⟨c', q', h1, h2, h3⟩
  · rw [h]
    show FP.Core.Datum.inf (decide (v < 0) != false) = _
    rw [hs]
  · rw [h1]
    show (if (0 : Nat) = 0 then (if c' = 0 then FP.Core.Datum.nan else .inf (decide (v < 0) != false)) else FP.Core.roundRatio f (decide (v < 0) != false) c' 0 (q' - f.qmin)) = _
    rw [if_pos rfl, if_neg h2, hs]
/-- what a value and its mark and the number kept say of each other -/
def VM (r R : UInt64) (mk : Int32) : Prop := (mk = 0 ∧ r = R ∧ FP.Core.DFin r) ∨ (mk = 2 ∧ FP.Core.val64 r = .nan ∧ R = FP.dconst0) ∨ (mk = 1 ∧ FP.Core.val64 r = .inf false ∧ R = FP.dconst0) ∨ (mk = -1 ∧ FP.Core.val64 r = .inf true ∧ R = FP.dconst0)
theorem val_nan {a : UInt64} : FP.Core.dIsNaN a = true ↔ FP.Core.val64 a = .nan := FP.Core.dIsNaN_iff a
theorem rVal_0 {k v : Int32} {m : Nat} (hm : m ≤ 99) : FP.Core.val64 (rVal k v (nI m) 0) = if v.toInt = 0 ∨ (nI m).toInt = 0 then .nan else .inf (decide (v.toInt < 0)) := by
  have hm0 : 0 ≤ (nI m).toInt := by rw [nI_toInt (by omega)]; omega
  unfold rVal
  by_cases hk : k = 6
  · rw [if_pos hk]
    show FP.Core.val64 (FP.Core.ddiv (FP.Core.dmul (FP.Core.i2d v) (FP.Core.i2d (nI m))) (FP.Core.i2d 0)) = _
    rw [FP.Core.val64_ddiv, FP.Core.val64_dmul, FP.Core.val64_i2d, FP.Core.val64_i2d, FP.Core.val64_i2d]
    obtain ⟨s, c, q, h⟩ := FP.Core.i2d_fin v
    obtain ⟨t, d, r, g⟩ := FP.Core.i2d_fin (nI m)
    rw [FP.Core.val64_i2d] at h g
    exact by0 FP.Core.good_b64 (by decide) ⟨s, c, q, h⟩ ⟨t, d, r, g⟩ hm0
  · rw [if_neg hk]
    have hf : FP.Core.val32 (FP.Core.fdiv (FP.Core.fmul (FP.Core.i2f v) (FP.Core.i2f (nI m))) (FP.Core.i2f 0)) = if v.toInt = 0 ∨ (nI m).toInt = 0 then .nan else .inf (decide (v.toInt < 0)) := by
      rw [FP.Core.val32_fdiv, FP.Core.val32_fmul, FP.Core.val32_i2f, FP.Core.val32_i2f, FP.Core.val32_i2f]
      obtain ⟨s, c, q, h⟩ := FP.Core.i2f_fin v
      obtain ⟨t, d, r, g⟩ := FP.Core.i2f_fin (nI m)
      rw [FP.Core.val32_i2f] at h g
      exact by0 FP.Core.good_b32 (by decide) ⟨s, c, q, h⟩ ⟨t, d, r, g⟩ hm0
    show FP.Core.val64 (FP.f2d (FP.Core.fdiv (FP.Core.fmul (FP.Core.i2f v) (FP.Core.i2f (nI m))) (FP.Core.i2f 0))) = _
    generalize FP.Core.fdiv (FP.Core.fmul (FP.Core.i2f v) (FP.Core.i2f (nI m))) (FP.Core.i2f 0) = z at hf ⊢
    by_cases hc : v.toInt = 0 ∨ (nI m).toInt = 0
    · rw [if_pos hc] at hf ⊢
      refine val_nan.mp ?_
      have := FP.f2d_nan z
      rw [FP.dIsNaN_core, FP.fIsNaN_core] at this
      rw [this]
      exact (FP.Core.fIsNaN_iff z).mpr hf
    · rw [if_neg hc] at hf ⊢
      rw [f2d_c ((FP.Core.notNaN_iff32 z).mpr (by rw [hf]; exact FP.Core.Datum.noConfusion)), FP.Core.val64_f2d, hf]
      rfl
theorem vm_r {k v : Int32} {m d : Nat} (hk : k = 5 ∨ k = 6) (hm : m ≤ 99) : VM (rVal k v (nI m) (nI d)) (realF k v (nI m) (nI d)) (markF v (nI m) (nI d)) := by
  by_cases hd : nI d = 0
  · have hr := rVal_0 (k := k) (v := v) hm
    unfold realF markF VM
    rw [hd, if_pos rfl, if_pos rfl, hr]
    by_cases hv : v = 0
    · rw [if_pos hv, hv, if_pos (show (0 : Int32).toInt = 0 ∨ (nI m).toInt = 0 from Or.inl rfl)]
      exact Or.inr (Or.inl ⟨rfl, rfl, rfl⟩)
    · have hv' := nI_ne hv
      rw [if_neg hv]
      by_cases hm0 : nI m = 0
      · rw [if_pos hm0, if_pos (Or.inr (by rw [hm0]; rfl))]
        exact Or.inr (Or.inl ⟨rfl, rfl, rfl⟩)
      · have hm' := nI_ne hm0
        rw [if_neg hm0, if_neg (show ¬ (v.toInt = 0 ∨ (nI m).toInt = 0) from fun z => z.elim hv' hm')]
        by_cases hle : v ≤ 0
        · have h1 : v.toInt < 0 := by
            have := Int32.le_iff_toInt_le.mp hle
            rw [show (0 : Int32).toInt = 0 from rfl] at this
            omega
          rw [if_pos hle, decide_eq_true h1]
          exact Or.inr (Or.inr (Or.inr ⟨rfl, rfl, rfl⟩))
        · have h1 : ¬ v.toInt < 0 := by
            intro z
            apply hle
            apply Int32.le_iff_toInt_le.mpr
            rw [show (0 : Int32).toInt = 0 from rfl]
            omega
          rw [if_neg hle, decide_eq_false h1]
          exact Or.inr (Or.inr (Or.inl ⟨rfl, rfl, rfl⟩))
  · exact Or.inl ⟨by unfold markF; rw [if_neg hd], rVal_F hk hd, rVal_fin hd⟩
/-- what is read of it -/
theorem VM.d2i {k : Int32} {r R : UInt64} {mk : Int32} (h : VM r R mk) : FP.d2i r = readF mk R := by
  have e : FP.d2i r = Int32.ofInt (FP.Core.toInt (-2 ^ 31) (2 ^ 31 - 1) (FP.Core.val64 r)) := rfl
  unfold readF
  rcases h with ⟨h1, h2, h3⟩ | ⟨h1, h2, h3⟩ | ⟨h1, h2, h3⟩ | ⟨h1, h2, h3⟩
  · rw [h1, if_neg (by decide), if_pos rfl, h2]
  · rw [e, h2, h1, if_neg (by decide), if_neg (by decide), if_neg (by decide)]
    rfl
  · rw [e, h2, h1, if_neg (by decide), if_neg (by decide), if_pos rfl]
    rfl
  · rw [e, h2, h1, if_pos rfl]
    rfl
theorem vm_out {k v : Int32} {m d : Nat} (hk : k = 5 ∨ k = 6) (hm : m ≤ 99) : FP.d2i (rVal k v (nI m) (nI d)) = outF k v (nI m) (nI d) := by
  unfold outF
  rw [if_neg (realB_r.mpr hk)]
  exact (vm_r hk hm).d2i (k := k)
theorem dcmp_num {a : UInt64} : Op.cmpValue (FP.dcmp a a) CmpOp.l = 0 ↔ FP.Core.val64 a ≠ .nan := by
  show Op.cmpValue (FP.Core.dcmp a a) CmpOp.l = 0 ↔ _
  by_cases h : FP.Core.val64 a = .nan
  · rw [(FP.Core.dcmp_none a a).mpr (Or.inl h)]
    constructor
    · intro z; exact absurd z (by decide)
    · intro z; exact absurd h z
  · rw [FP.Core.dcmp_self h]
    exact ⟨fun _ => h, fun _ => rfl⟩
theorem VM.num {r R : UInt64} {mk : Int32} (h : VM r R mk) : Op.cmpValue (FP.dcmp r r) CmpOp.l = 0 ↔ mk ≠ 2 := by
  rw [dcmp_num]
  rcases h with ⟨h1, h2, h3⟩ | ⟨h1, h2, h3⟩ | ⟨h1, h2, h3⟩ | ⟨h1, h2, h3⟩
  · exact ⟨fun _ => by rw [h1]; decide, fun _ => h3.ne_nan⟩
  · exact ⟨fun z => absurd h2 z, fun z => absurd h1 z⟩
  · exact ⟨fun _ => by rw [h1]; decide, fun _ => by rw [h2]; exact FP.Core.Datum.noConfusion⟩
  · exact ⟨fun _ => by rw [h1]; decide, fun _ => by rw [h2]; exact FP.Core.Datum.noConfusion⟩
theorem VM.fin {r R : UInt64} {mk : Int32} (h : VM r R mk) (h2 : mk ≠ 2) : Op.cmpValue (FP.dcmp (FP.dsub r r) (FP.dsub r r)) CmpOp.l = 0 ↔ mk = 0 := by
  rw [dcmp_num]
  have hi : ∀ s, FP.Core.val64 r = .inf s → FP.Core.val64 (FP.dsub r r) = .nan := by
    intro s hs
    show FP.Core.val64 (FP.Core.dsub r r) = _
    rw [FP.Core.val64_dsub, hs]
    cases s <;> rfl
  rcases h with ⟨h1, h2, h3⟩ | ⟨h1, h2', h3⟩ | ⟨h1, h2, h3⟩ | ⟨h1, h2, h3⟩
  · exact ⟨fun _ => h1, fun _ => (FP.Core.notNaN_iff _).mp (FP.Core.dsub_out h3.notNaN h3)⟩
  · exact absurd h1 h2
  · exact ⟨fun z => absurd (hi _ h2) z, fun z => by rw [h1] at z; exact absurd z (by decide)⟩
  · exact ⟨fun z => absurd (hi _ h2) z, fun z => by rw [h1] at z; exact absurd z (by decide)⟩
theorem VM.less {r R s S : UInt64} {mk nk : Int32} (h : VM r R mk) (g : VM s S nk) (hn : mk ≠ 2) (gn : nk ≠ 2) : (if Op.cmpValue (FP.dcmp s r) CmpOp.l ≤ 0 then (0 : Int32) else 1) = if mk = nk then (if 0 ≤ Op.cmpValue (FP.dcmp R S) CmpOp.g then 0 else 1) else if nk ≤ mk then 0 else 1 := by
  have eo : FP.dcmp s r = FP.Core.order (FP.Core.val64 s) (FP.Core.val64 r) := rfl
  have z0 : Op.cmpValue (FP.dcmp FP.dconst0 FP.dconst0) CmpOp.g = 0 := by decide +kernel
  rcases h with ⟨h1, h2, h3⟩ | ⟨h1, h2, h3⟩ | ⟨h1, h2, h3⟩ | ⟨h1, h2, h3⟩
  · rcases g with ⟨g1, g2, g3⟩ | ⟨g1, g2, g3⟩ | ⟨g1, g2, g3⟩ | ⟨g1, g2, g3⟩
    · rw [h1, g1, if_pos rfl, ← h2, ← g2]
      have hs : FP.dcmp s r = (FP.dcmp r s).map Ordering.swap := FP.Core.dcmp_swap r s
      rw [hs]
      obtain ⟨o, ho⟩ := FP.Core.dcmp_of_notNaN h3.notNaN g3.notNaN
      have ho : FP.dcmp r s = some o := ho
      rw [ho]
      cases o <;> decide
    · exact absurd g1 gn
    · obtain ⟨a, c, q, hf⟩ := h3
      rw [eo, hf, g2, h1, g1, if_neg (show ¬ (0 : Int32) = 1 by decide)]
      rfl
    · obtain ⟨a, c, q, hf⟩ := h3
      rw [eo, hf, g2, h1, g1, if_neg (show ¬ (0 : Int32) = -1 by decide)]
      rfl
  · exact absurd h1 hn
  · rcases g with ⟨g1, g2, g3⟩ | ⟨g1, g2, g3⟩ | ⟨g1, g2, g3⟩ | ⟨g1, g2, g3⟩
    · obtain ⟨a, c, q, hf⟩ := g3
      rw [eo, hf, h2, h1, g1, if_neg (show ¬ (1 : Int32) = 0 by decide)]
      rfl
    · exact absurd g1 gn
    · rw [eo, g2, h2, h1, g1, h3, g3, if_pos rfl, z0]
      decide
    · rw [eo, g2, h2, h1, g1, if_neg (show ¬ (1 : Int32) = -1 by decide)]
      rfl
  · rcases g with ⟨g1, g2, g3⟩ | ⟨g1, g2, g3⟩ | ⟨g1, g2, g3⟩ | ⟨g1, g2, g3⟩
    · obtain ⟨a, c, q, hf⟩ := g3
      rw [eo, hf, h2, h1, g1, if_neg (show ¬ (-1 : Int32) = 0 by decide)]
      rfl
    · exact absurd g1 gn
    · rw [eo, g2, h2, h1, g1, if_neg (show ¬ (-1 : Int32) = 1 by decide)]
      rfl
    · rw [eo, g2, h2, h1, g1, h3, g3, if_pos rfl, z0]
      decide
