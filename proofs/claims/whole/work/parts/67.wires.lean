/-! ===== the HUT of the class: who hears whom ===== -/
def bitI (k : Nat) : Int32 := (1 : Int32) <<< (nI k &&& 31)
abbrev hasI (b : Int32) (k : Nat) : Prop := ¬ (b >>> (nI k &&& 31)) &&& (1 : Int32) = 0
def wirB (a b : Nat → Nat) (p : Nat) : Nat → Nat → Int32 → Int32
  | 0, _, acc => acc
  | f + 1, j, acc => wirB a b p f (j + 1) (if a j = p then acc ||| bitI (b j) else acc)
def hrsF (t : HutT) (p : Nat) : Int32 := wirB t.2.2.2.2.2.1 t.2.2.2.2.2.2.1 p t.2.2.2.2.1 0 0
def hrdF (t : HutT) (p : Nat) : Int32 := wirB t.2.2.2.2.2.2.1 t.2.2.2.2.2.1 p t.2.2.2.2.1 0 0
theorem X3_hearersL {μ : Mem} {h p : Nat} {t : HutT} (hs : HutS μ h) (hr : HutR μ h t) (ho : HutOk t) (hp : p < 2147483648) : ∀ (f j fu : Nat) (acc : Int32), f + j = t.2.2.2.2.1 → f < fu → mX3_hearersOf_4 fu h (nI p) acc (nI j) μ = some (wirB t.2.2.2.2.2.1 t.2.2.2.2.2.2.1 p f j acc, μ) := by
  obtain ⟨z0, z1, z2, z3, z5, z6, k1, k2, k3, k4, k5, n1, n2, n3, n4, n5⟩ := id hs
  obtain ⟨q0, q4, q7, qp, qw⟩ := id hr
  have h16 := ho.2.1
  have h8 := ho.1
  intro f
  induction f with
  | zero =>
    intro j fu acc hj hf
    obtain ⟨fu, rfl⟩ : ∃ q, fu = q + 1 := ⟨fu - 1, by omega⟩
    rw [mX3_hearersOf_4, q4, if_pos (nI_le (by omega) (by omega))]
    rfl
  | succ f ih =>
    intro j fu acc hj hf
    obtain ⟨fu, rfl⟩ : ∃ q, fu = q + 1 := ⟨fu - 1, by omega⟩
    obtain ⟨w1, w2⟩ := qw j (by omega)
    have a1 := (ho.2.2.2.1 j (by omega)).1
    rw [mX3_hearersOf_4, q4, if_neg (nI_ge (by omega) (by omega)), z5, if_pos (isK_p k4), if_pos (inA_n k4 n4 (by omega) (by decide)), nI_clamp (n := j) (by omega), w1, ← nI_succ]
    show _ = some (wirB _ _ p f (j + 1) (if t.2.2.2.2.2.1 j = p then acc ||| bitI (t.2.2.2.2.2.2.1 j) else acc), μ)
    by_cases e : t.2.2.2.2.2.1 j = p
    · rw [if_pos e, if_pos (by rw [e]), z6, if_pos (isK_p k5), if_pos (inA_n k5 n5 (by omega) (by decide)), w2]
      exact ih (j + 1) fu _ (by omega) (by omega)
    · rw [if_neg e, if_neg (fun z => e ((nI_eq (by omega) hp).mp z))]
      exact ih (j + 1) fu _ (by omega) (by omega)
theorem X3_hearersOf {μ : Mem} {h p : Nat} {t : HutT} (hs : HutS μ h) (hr : HutR μ h t) (ho : HutOk t) (hp : p < 2147483648) : LX3_hearersOf h (nI p) μ = some (hrsF t p, μ) := by
  unfold LX3_hearersOf
  rw [if_pos hs.1]
  exact X3_hearersL hs hr ho hp t.2.2.2.2.1 0 100000 0 rfl (by have := ho.2.1; omega)
theorem X3_heardL {μ : Mem} {h p : Nat} {t : HutT} (hs : HutS μ h) (hr : HutR μ h t) (ho : HutOk t) (hp : p < 2147483648) : ∀ (f j fu : Nat) (acc : Int32), f + j = t.2.2.2.2.1 → f < fu → mX3_heardBy_4 fu h (nI p) acc (nI j) μ = some (wirB t.2.2.2.2.2.2.1 t.2.2.2.2.2.1 p f j acc, μ) := by
  obtain ⟨z0, z1, z2, z3, z5, z6, k1, k2, k3, k4, k5, n1, n2, n3, n4, n5⟩ := id hs
  obtain ⟨q0, q4, q7, qp, qw⟩ := id hr
  have h16 := ho.2.1
  have h8 := ho.1
  intro f
  induction f with
  | zero =>
    intro j fu acc hj hf
    obtain ⟨fu, rfl⟩ : ∃ q, fu = q + 1 := ⟨fu - 1, by omega⟩
    rw [mX3_heardBy_4, q4, if_pos (nI_le (by omega) (by omega))]
    rfl
  | succ f ih =>
    intro j fu acc hj hf
    obtain ⟨fu, rfl⟩ : ∃ q, fu = q + 1 := ⟨fu - 1, by omega⟩
    obtain ⟨w1, w2⟩ := qw j (by omega)
    have a1 := (ho.2.2.2.1 j (by omega)).2
    rw [mX3_heardBy_4, q4, if_neg (nI_ge (by omega) (by omega)), z6, if_pos (isK_p k5), if_pos (inA_n k5 n5 (by omega) (by decide)), nI_clamp (n := j) (by omega), w2, ← nI_succ]
    show _ = some (wirB _ _ p f (j + 1) (if t.2.2.2.2.2.2.1 j = p then acc ||| bitI (t.2.2.2.2.2.1 j) else acc), μ)
    by_cases e : t.2.2.2.2.2.2.1 j = p
    · rw [if_pos e, if_pos (by rw [e]), z5, if_pos (isK_p k4), if_pos (inA_n k4 n4 (by omega) (by decide)), w1]
      exact ih (j + 1) fu _ (by omega) (by omega)
    · rw [if_neg e, if_neg (fun z => e ((nI_eq (by omega) hp).mp z))]
      exact ih (j + 1) fu _ (by omega) (by omega)
theorem X3_heardBy {μ : Mem} {h p : Nat} {t : HutT} (hs : HutS μ h) (hr : HutR μ h t) (ho : HutOk t) (hp : p < 2147483648) : LX3_heardBy h (nI p) μ = some (hrdF t p, μ) := by
  unfold LX3_heardBy
  rw [if_pos hs.1]
  exact X3_heardL hs hr ho hp t.2.2.2.2.1 0 100000 0 rfl (by have := ho.2.1; omega)
theorem X3_isHeardBy {μ : Mem} {h p q : Nat} {t : HutT} [Decidable (hasI (hrsF t p) q)] (hs : HutS μ h) (hr : HutR μ h t) (ho : HutOk t) (hp : p < 2147483648) : LX3_isHeardBy h (nI p) (nI q) μ = some (if hasI (hrsF t p) q then 1 else 0, μ) := by
  unfold LX3_isHeardBy
  rw [if_pos hs.1, X3_hearersOf hs hr ho hp, ob]
  by_cases e : hasI (hrsF t p) q
  · rw [if_pos e, if_neg e]
  · rw [if_neg e, if_pos (Classical.not_not.mp e)]
