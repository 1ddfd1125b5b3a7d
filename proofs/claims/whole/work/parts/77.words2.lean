/-! ===== the class's word lists; one of some signs ===== -/
def W0 : List (List Nat) := [[112, 101, 110], [119, 105, 114, 101], [115, 104, 101, 101, 116]]
def W1 : List (List Nat) := [[105, 110], [111, 117, 116], [108, 111, 115, 115], [109, 97, 110, 121], [100, 97, 121], [112, 101, 110], [109, 117, 108], [100, 105, 118], [108, 101, 97, 115, 116], [109, 111, 115, 116]]
def W2 : List (List Nat) := [[114, 101, 97, 100], [98, 101, 108, 111, 119], [104, 101, 97, 114], [119, 105, 112, 101], [116, 101, 97, 114], [108, 97, 121], [99, 111, 112, 121], [116, 117, 110, 101], [100, 97, 121], [97, 103, 97, 105, 110]]
theorem sw0 : StrW 0 W0 := by unfold StrW; decide +kernel
theorem sw1 : StrW 1 W1 := by unfold StrW; decide +kernel
theorem sw2 : StrW 2 W2 := by unfold StrW; decide +kernel
/-- the signs of a string of the class -/
def StrC (j : Nat) (cs : List Nat) : Prop := j < 10 ∧ sLen j = cs.length ∧ sLen j < 100 ∧ (∀ i, i < sLen j → ((sChr j i &&& 255).toUInt32 % 65536).toInt32 = nI (cs.getD i 0)) ∧ ∀ c, c ∈ cs → c < 256
theorem sc3 : StrC 3 [43, 45] := by unfold StrC; decide +kernel
theorem sc4 : StrC 4 [42, 47, 37] := by unfold StrC; decide +kernel
def oneIx (x : Txt) (a : Nat) : List Nat → Nat → Option Nat
  | [], _ => none
  | c :: r, i => if chT x a = c then some i else oneIx x a r (i + 1)
/-- which of some signs comes, where one reads on -/
def oneR (x : Txt) (c : Cur) (r : List Nat) (i : Nat) : Option (Nat × Nat) := match c with
  | .inl _ => none
  | .inr a => (oneIx x a r i).map fun k => (k, sk x (a + 1))
theorem X9_oneOfL {tp j : Nat} {x : Txt} {cs : List Nat} (hS : StrC j cs) {c : Cur} : ∀ (r : List Nat) (i fu : Nat) (μ : Mem), i + r.length = cs.length → (∀ k, k < r.length → cs.getD (i + k) 0 = r.getD k 0) → (∀ c, c ∈ r → c < 256) → r.length < fu → TpR μ tp x c →
    ∃ (μ' : Mem) (z : Int32), mX9_oneOf_2 fu tp j (nI i) μ = some (z, μ') ∧ Out (fun h => h = tp) μ μ' ∧ (match oneR x c r i with | none => z = -1 ∧ TpR μ' tp x c | some v => z = nI v.1 ∧ TpR μ' tp x (.inr v.2)) := by
  have h3 := hS.2.2.1
  have h2 := hS.2.1
  intro r
  induction r with
  | nil =>
    intro i fu μ hi hk hc hfu t
    obtain ⟨fu, rfl⟩ : ∃ q, fu = q + 1 := ⟨fu - 1, by omega⟩
    have hi : i = cs.length := by simpa using hi
    rw [mX9_oneOf_2, if_pos hS.1]
    unfold LJ0_length
    rw [if_pos hS.1, ob, if_pos (nI_le (by omega) (by omega))]
    refine ⟨μ, -1, rfl, Out.rf, ?_⟩
    cases c with
    | inl e => exact ⟨rfl, t⟩
    | inr a => exact ⟨rfl, t⟩
  | cons d r ih =>
    intro i fu μ hi hk hc hfu t
    obtain ⟨fu, rfl⟩ : ∃ q, fu = q + 1 := ⟨fu - 1, by omega⟩
    rw [List.length_cons] at hi hfu
    have hd : cs.getD i 0 = d := hk 0 (by rw [List.length_cons]; omega)
    have hd256 : d < 256 := hc d (List.mem_cons_self ..)
    rw [mX9_oneOf_2, if_pos hS.1]
    unfold LJ0_length
    rw [if_pos hS.1, ob, if_neg (nI_ge (by omega) (by omega)), if_pos hS.1]
    unfold LJ0_charAt
    rw [if_pos ⟨hS.1, nI_pos (by omega), nI_lt (by omega) (by omega)⟩, nI_clamp (n := i) (by omega), hS.2.2.2.1 i (by omega), hd, ob]
    obtain ⟨μ1, e1, o1, r1, g1⟩ := X9_comes t hd256
    rw [e1, ob]
    have go : comesF x d c = 0 → oneR x c (d :: r) i = oneR x c r (i + 1) → ∃ (μ' : Mem) (z : Int32), (if comesF x d c = 0 then mX9_oneOf_2 fu tp j (nI i + 1) μ1 else some (nI i, p_I μ1 tp 5 (g_I μ1 tp 5 + 1))) = some (z, μ') ∧ Out (fun h => h = tp) μ μ' ∧ (match oneR x c (d :: r) i with | none => z = -1 ∧ TpR μ' tp x c | some v => z = nI v.1 ∧ TpR μ' tp x (.inr v.2)) := by
      intro q0 q1
      rw [if_pos q0, q1, ← nI_succ]
      obtain ⟨μ', z, e2, o2, r2⟩ := ih (i + 1) fu μ1 (by omega) (fun k hk' => by have := hk (k + 1) (by rw [List.length_cons]; omega); rw [show i + 1 + k = i + (k + 1) by omega]; exact this) (fun c' hc' => hc c' (List.mem_cons_of_mem _ hc')) (by omega) r1
      exact ⟨μ', z, e2, o1.tr o2, r2⟩
    cases c with
    | inl e => exact go rfl rfl
    | inr a =>
      by_cases e : chT x a = d
      · have hcf : comesF x d (.inr a) = 1 := if_pos e
        obtain ⟨g4, g5⟩ := g1 a rfl
        have ho : oneR x (.inr a) (d :: r) i = some (i, sk x (a + 1)) := by
          show (if chT x a = d then some i else oneIx x a r (i + 1)).map _ = _
          rw [if_pos e]
          rfl
        rw [hcf, if_neg (by decide), g5, ← nI_succ, ho]
        exact ⟨_, _, rfl, o1.pI rfl, rfl, r1.on (chT_lt e hd256)⟩
      · exact go (if_neg e) (by
          show (if chT x a = d then some i else oneIx x a r (i + 1)).map _ = _
          rw [if_neg e]
          rfl)
theorem X9_oneOf {μ : Mem} {tp j : Nat} {x : Txt} {cs : List Nat} (hS : StrC j cs) {c : Cur} (t : TpR μ tp x c) : ∃ (μ' : Mem) (z : Int32), LX9_oneOf tp j μ = some (z, μ') ∧ Out (fun h => h = tp) μ μ' ∧ (match oneR x c cs 0 with | none => z = -1 ∧ TpR μ' tp x c | some v => z = nI v.1 ∧ TpR μ' tp x (.inr v.2)) := by
  unfold LX9_oneOf
  rw [if_pos t.1.1]
  exact X9_oneOfL hS cs 0 100000 μ (Nat.zero_add _) (fun k _ => by rw [Nat.zero_add]) hS.2.2.2.2 (by have := hS.2.2.1; have := hS.2.1; omega) t
/-- nothing may follow -/
def endF (x : Txt) (c : Cur) : Cur := curB c fun a => if a < x.2 then .inl (1, a) else .inr a
theorem X9_needEnd {μ : Mem} {tp : Nat} {x : Txt} {c : Cur} (t : TpR μ tp x c) : ∃ μ' : Mem, LX9_needEnd tp μ = some ((), μ') ∧ Out (fun h => h = tp) μ μ' ∧ TpR μ' tp x (endF x c) := by
  unfold LX9_needEnd
  rw [if_pos t.1.1]
  obtain ⟨μ1, e1, o1, r1, g1⟩ := X9_more t
  rw [e1, ob]
  cases c with
  | inl e =>
    rw [if_pos (show moreF x (.inl e) = 0 from rfl)]
    exact ⟨μ1, rfl, o1, r1⟩
  | inr a =>
    obtain ⟨g4, g5⟩ := g1 a rfl
    by_cases e : a < x.2
    · rw [show moreF x (.inr a) = 1 from if_pos e, if_neg (by decide), g4]
      obtain ⟨μ2, e2, o2, r2⟩ := X9_fail (k := 1) (p := a) r1 (by decide) (by decide)
      have e2 : LX9_fail tp (1 : Int32) (nI a) μ1 = some ((), μ2) := e2
      rw [e2, ob, show endF x (.inr a) = .inl (1, a) from if_pos e]
      exact ⟨μ2, rfl, o1.tr o2, r2⟩
    · rw [show moreF x (.inr a) = 0 from if_neg e, if_pos rfl, show endF x (.inr a) = .inr a from if_neg e]
      exact ⟨μ1, rfl, o1, r1⟩
