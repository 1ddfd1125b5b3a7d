/-! ===== the TAPE: what is read of it; the class reads it ===== -/
/-- the text: its bytes, how many -/
abbrev Txt : Type := (Nat → Int8) × Nat
def chT (x : Txt) (a : Nat) : Nat := if a < x.2 then (x.1 a).toUInt8.toNat else 256
def skT (x : Txt) : Nat → Nat → Nat
  | 0, a => a
  | f + 1, a => if chT x a = 32 then skT x f (a + 1) else a
/-- past the blanks -/
def sk (x : Txt) (a : Nat) : Nat := skT x (x.2 - a) a
theorem chT_lt {x : Txt} {a c : Nat} (h : chT x a = c) (hc : c < 256) : a < x.2 := by
  unfold chT at h
  by_cases e : a < x.2
  · exact e
  · rw [if_neg e] at h; omega
theorem chT_end {x : Txt} {a : Nat} (h : ¬ a < x.2) : chT x a = 256 := if_neg h
theorem chT_256 {x : Txt} {a : Nat} (h : a < x.2) : chT x a < 256 := by
  unfold chT
  rw [if_pos h]
  exact (x.1 a).toUInt8.toNat_lt
theorem sk_eq {x : Txt} {a : Nat} : sk x a = if chT x a = 32 then sk x (a + 1) else a := by
  unfold sk
  by_cases h : chT x a = 32
  · have := chT_lt h (by decide)
    obtain ⟨f, hf⟩ : ∃ f, x.2 - a = f + 1 := ⟨x.2 - a - 1, by omega⟩
    rw [hf, if_pos h, show x.2 - (a + 1) = f by omega]
    exact if_pos h
  · rw [if_neg h]
    cases x.2 - a with
    | zero => rfl
    | succ f => exact if_neg h
theorem sk_nb {x : Txt} : ∀ (f a : Nat), x.2 - a ≤ f → chT x (sk x a) ≠ 32 ∧ a ≤ sk x a ∧ (a ≤ x.2 → sk x a ≤ x.2) := by
  intro f
  induction f with
  | zero =>
    intro a ha
    have e : ¬ chT x a = 32 := fun z => by have := chT_lt z (by decide); omega
    rw [sk_eq, if_neg e]
    exact ⟨e, Nat.le_refl _, fun z => z⟩
  | succ f ih =>
    intro a ha
    by_cases e : chT x a = 32
    · rw [sk_eq, if_pos e]
      have hl := chT_lt e (by decide)
      obtain ⟨h1, h2, h3⟩ := ih (a + 1) (by omega)
      exact ⟨h1, by omega, fun _ => h3 (by omega)⟩
    · rw [sk_eq, if_neg e]
      exact ⟨e, Nat.le_refl _, fun z => z⟩
theorem sk_ne {x : Txt} {a : Nat} : chT x (sk x a) ≠ 32 := (sk_nb (x.2 - a) a (Nat.le_refl _)).1
theorem sk_ge {x : Txt} {a : Nat} : a ≤ sk x a := (sk_nb (x.2 - a) a (Nat.le_refl _)).2.1
theorem sk_le {x : Txt} {a : Nat} (h : a ≤ x.2) : sk x a ≤ x.2 := (sk_nb (x.2 - a) a (Nat.le_refl _)).2.2 h
theorem sk_sk {x : Txt} {a : Nat} : sk x (sk x a) = sk x a := by rw [sk_eq (a := sk x a), if_neg sk_ne]
/-- a FAULT and its place; or where one reads on -/
abbrev Cur : Type := (Nat × Nat) ⊕ Nat
def curB (c : Cur) (f : Nat → Cur) : Cur := match c with
  | .inl e => .inl e
  | .inr a => f a
def TpS (μ : Mem) (tp : Nat) : Prop := isK μ tp 9 = true ∧ g_R μ tp 0 = tp + 1 ∧ isK μ (tp + 1) 13 = true ∧ g_N μ (tp + 1) = 600
def TpB (μ : Mem) (tp : Nat) (x : Txt) : Prop := (∀ k, k < x.2 → g_I μ (tp + 1) k = (x.1 k).toInt32) ∧ g_I μ tp 6 = nI x.2 ∧ x.2 ≤ 600 ∧ g_I μ tp 1 = 0
def TpC (μ : Mem) (tp : Nat) (x : Txt) (c : Cur) : Prop := match c with
  | .inl e => g_I μ tp 2 = nI e.1 ∧ 0 < e.1 ∧ e.1 < 10 ∧ g_I μ tp 3 = nI e.2
  | .inr a => g_I μ tp 2 = 0 ∧ g_I μ tp 3 = -1 ∧ sk x a = a ∧ a ≤ x.2 ∧ ∃ c, c ≤ x.2 ∧ g_I μ tp 5 = nI c ∧ sk x c = a
def TpR (μ : Mem) (tp : Nat) (x : Txt) (c : Cur) : Prop := TpS μ tp ∧ TpB μ tp x ∧ TpC μ tp x c
theorem TpR.fr {μ ν : Mem} {tp : Nat} {x : Txt} {c : Cur} {S : Nat → Prop} (r : TpR μ tp x c) (o : Out S μ ν) (h0 : ¬ S tp) (h1 : ¬ S (tp + 1)) : TpR ν tp x c := by
  obtain ⟨⟨a1, a2, a3, a4⟩, ⟨b1, b2, b3⟩, r3⟩ := r
  refine ⟨⟨by rw [sh_isK o.1]; exact a1, by rw [sh_gR o.1]; exact a2, by rw [sh_isK o.1]; exact a3, by rw [sh_gN o.1]; exact a4⟩, ⟨fun k hk => by rw [(o.2 _ h1).1]; exact b1 k hk, by rw [(o.2 _ h0).1]; exact b2, by rw [(o.2 _ h0).1]; exact b3⟩, ?_⟩
  unfold TpC
  rw [(o.2 _ h0).1]
  exact r3
/-- a change of the TAPE's own fields, but for the size -/
theorem TpR.st {μ ν : Mem} {tp : Nat} {x : Txt} {c : Cur} (r : TpR μ tp x c) (o : Out (fun h => h = tp) μ ν) (h6 : ∀ k, k = 1 ∨ k = 6 → g_I ν tp k = g_I μ tp k) {c' : Cur} (hc : TpC ν tp x c') : TpR ν tp x c' := by
  obtain ⟨⟨a1, a2, a3, a4⟩, ⟨b1, b2, b3⟩, r3⟩ := r
  exact ⟨⟨by rw [sh_isK o.1]; exact a1, by rw [sh_gR o.1]; exact a2, by rw [sh_isK o.1]; exact a3, by rw [sh_gN o.1]; exact a4⟩, ⟨fun k hk => by rw [(o.2 _ (by omega)).1]; exact b1 k hk, by rw [h6 6 (Or.inr rfl)]; exact b2, b3.1, by rw [h6 1 (Or.inl rfl)]; exact b3.2⟩, hc⟩
def failC (k p : Nat) (c : Cur) : Cur := curB c fun _ => .inl (k, p)
theorem X9_fail {μ : Mem} {tp k p : Nat} {x : Txt} {c : Cur} (r : TpR μ tp x c) (hk : 0 < k) (hk10 : k < 10) : ∃ μ' : Mem, LX9_fail tp (nI k) (nI p) μ = some ((), μ') ∧ Out (fun h => h = tp) μ μ' ∧ TpR μ' tp x (failC k p c) := by
  unfold LX9_fail
  rw [if_pos r.1.1]
  match c, r with
  | .inl e, r =>
    obtain ⟨c1, c2, c3, c4⟩ := r.2.2
    rw [c1, if_neg (nI_ne0 c2 (by omega))]
    exact ⟨μ, rfl, Out.rf, r⟩
  | .inr a, r =>
    obtain ⟨c1, c2, c3, c4, c5⟩ := r.2.2
    rw [c1, if_pos rfl]
    have o : Out (fun h => h = tp) μ (p_I (p_I μ tp 2 (nI k)) tp 3 (nI p)) := ((Out.rf (S := fun h => h = tp)).pI rfl).pI rfl
    refine ⟨_, rfl, o, r.st o (fun k hk => by rcases hk with rfl | rfl <;> rw [gI_k (by decide), gI_k (by decide)]) ?_⟩
    exact ⟨by rw [gI_k (by decide), gI_s], hk, hk10, by rw [gI_s]⟩
theorem byte_and {b : Int8} : b.toInt32 &&& (255 : Int32) = nI b.toUInt8.toNat := by
  have h : ∀ z : BitVec 8, (Int8.ofBitVec z).toInt32 &&& (255 : Int32) = nI (Int8.ofBitVec z).toUInt8.toNat := by decide +kernel
  exact h b.toBitVec
theorem byte_eq {b : Int8} {c : Nat} (hc : c < 128) : b.toInt32 = nI c ↔ b.toUInt8.toNat = c := by
  have h : ∀ (z : BitVec 8) (c : Fin 128), (Int8.ofBitVec z).toInt32 = nI c.val ↔ (Int8.ofBitVec z).toUInt8.toNat = c.val := by decide +kernel
  exact h b.toBitVec ⟨c, hc⟩
def chI (x : Txt) (a : Nat) : Int32 := if a < x.2 then nI (chT x a) else -1
theorem chI_eq {x : Txt} {a c : Nat} (hc : c < 256) : chI x a = nI c ↔ chT x a = c := by
  unfold chI
  by_cases e : a < x.2
  · rw [if_pos e]
    exact nI_eq (by have := chT_256 e; omega) (by omega)
  · rw [if_neg e, chT_end e]
    constructor
    · intro z; exact absurd z.symm (nI_nm1 (by omega))
    · intro z; omega
theorem X9_next48 {μ : Mem} {tp a : Nat} {x : Txt} (s : TpS μ tp) (b : TpB μ tp x) (c1 : g_I μ tp 2 = 0) (c2 : g_I μ tp 3 = -1) (h5 : g_I μ tp 5 = nI a) (hs : sk x a = a) (ha : a ≤ x.2) : ∃ μ' : Mem, mX9_next_48 tp μ = some (chI x a, μ') ∧ Out (fun h => h = tp) μ μ' ∧ TpR μ' tp x (.inr a) ∧ g_I μ' tp 4 = nI a ∧ g_I μ' tp 5 = nI a := by
  obtain ⟨s1, s2, s3, s4⟩ := id s
  obtain ⟨b1, b2, b3⟩ := id b
  have o : Out (fun h => h = tp) μ (p_I μ tp 4 (nI a)) := (Out.rf (S := fun h => h = tp)).pI rfl
  have r : TpR μ tp x (.inr a) := ⟨s, b, c1, c2, hs, ha, a, ha, h5, hs⟩
  have r' : TpR (p_I μ tp 4 (nI a)) tp x (.inr a) := r.st o (fun k hk => by rcases hk with rfl | rfl <;> exact gI_k (by decide)) ⟨by rw [gI_k (by decide)]; exact c1, by rw [gI_k (by decide)]; exact c2, hs, ha, a, ha, by rw [gI_k (by decide)]; exact h5, hs⟩
  unfold mX9_next_48
  rw [h5, gI_k (show 6 ≠ 4 by decide), gI_k (show 5 ≠ 4 by decide), b2, h5]
  unfold chI
  by_cases e : a < x.2
  · rw [if_neg (nI_ge e (by omega)), if_neg (show ¬ (600 : Int32) ≤ nI a from nI_ge (b := 600) (by omega) (by decide)), s2, if_pos (isK_p s3), if_pos (inA_n s3 s4 (by omega) (by decide)), gI_h (by omega), nI_clamp (n := a) (by omega), b1 a e, byte_and, if_pos e]
    unfold chT
    rw [if_pos e]
    exact ⟨_, rfl, o, r', gI_s, by rw [gI_k (by decide)]; exact h5⟩
  · rw [if_pos (nI_le (by omega) (by omega)), if_neg e]
    exact ⟨_, rfl, o, r', gI_s, by rw [gI_k (by decide)]; exact h5⟩
theorem X9_nextL {tp a : Nat} {x : Txt} (ha : a ≤ x.2) (hs : sk x a = a) : ∀ (f c fu : Nat) (μ : Mem), TpS μ tp → TpB μ tp x → g_I μ tp 2 = 0 → g_I μ tp 3 = -1 → g_I μ tp 5 = nI c → c ≤ x.2 → sk x c = a → x.2 - c ≤ f → f < fu → ∃ μ' : Mem, mX9_next_0 fu tp μ = some (chI x a, μ') ∧ Out (fun h => h = tp) μ μ' ∧ TpR μ' tp x (.inr a) ∧ g_I μ' tp 4 = nI a ∧ g_I μ' tp 5 = nI a := by
  intro f
  induction f with
  | zero =>
    intro c fu μ s b c1 c2 h5 hc hk hf hfu
    obtain ⟨fu, rfl⟩ : ∃ q, fu = q + 1 := ⟨fu - 1, by omega⟩
    have hb := b.2.2
    have e : ¬ chT x c = 32 := fun z => by have := chT_lt z (by decide); omega
    rw [sk_eq, if_neg e] at hk
    subst hk
    rw [mX9_next_0, b.2.1, h5, if_pos (nI_le (by omega) (by omega))]
    exact X9_next48 s b c1 c2 h5 hs ha
  | succ f ih =>
    intro c fu μ s b c1 c2 h5 hc hk hf hfu
    obtain ⟨fu, rfl⟩ : ∃ q, fu = q + 1 := ⟨fu - 1, by omega⟩
    obtain ⟨s1, s2, s3, s4⟩ := id s
    obtain ⟨b1, b2, b3⟩ := id b
    rw [mX9_next_0, b2, h5]
    by_cases e : c < x.2
    · rw [if_neg (nI_ge e (by omega)), if_neg (show ¬ (600 : Int32) ≤ nI c from nI_ge (b := 600) (by omega) (by decide)), s2, if_pos (isK_p s3), if_pos (inA_n s3 s4 (by omega) (by decide)), nI_clamp (n := c) (by omega), b1 c e]
      have hch : chT x c = (x.1 c).toUInt8.toNat := if_pos e
      by_cases e2 : chT x c = 32
      · rw [if_pos (show (x.1 c).toInt32 = 32 from (byte_eq (c := 32) (by decide)).mpr (hch ▸ e2)), ← nI_succ]
        have o : Out (fun h => h = tp) μ (p_I μ tp 5 (nI (c + 1))) := (Out.rf (S := fun h => h = tp)).pI rfl
        rw [sk_eq, if_pos e2] at hk
        obtain ⟨μ', e3, o3, r3, g4, g5⟩ := ih (c + 1) fu (p_I μ tp 5 (nI (c + 1))) ⟨s1, s2, s3, s4⟩ ⟨fun k hk => by rw [gI_h (by omega)]; exact b1 k hk, by rw [gI_k (by decide)]; exact b2, b3.1, by rw [gI_k (by decide)]; exact b3.2⟩ (by rw [gI_k (by decide)]; exact c1) (by rw [gI_k (by decide)]; exact c2) gI_s (by omega) hk (by omega) (by omega)
        exact ⟨μ', e3, o.tr o3, r3, g4, g5⟩
      · rw [if_neg (show ¬ (x.1 c).toInt32 = 32 from fun z => e2 (hch.trans ((byte_eq (c := 32) (by decide)).mp z)))]
        rw [sk_eq, if_neg e2] at hk
        subst hk
        exact X9_next48 s b c1 c2 h5 hs ha
    · rw [if_pos (nI_le (by omega) (by omega))]
      have e2 : ¬ chT x c = 32 := fun z => e (chT_lt z (by decide))
      rw [sk_eq, if_neg e2] at hk
      subst hk
      exact X9_next48 s b c1 c2 h5 hs ha
theorem X9_next {μ : Mem} {tp a : Nat} {x : Txt} (r : TpR μ tp x (.inr a)) : ∃ μ' : Mem, LX9_next tp μ = some (chI x a, μ') ∧ Out (fun h => h = tp) μ μ' ∧ TpR μ' tp x (.inr a) ∧ g_I μ' tp 4 = nI a ∧ g_I μ' tp 5 = nI a := by
  obtain ⟨s, b, c1, c2, c3, c4, c, c5, c6, c7⟩ := r
  unfold LX9_next
  rw [if_pos s.1]
  exact X9_nextL c4 c3 (x.2 - c) c 100000 μ s b c1 c2 c6 c5 c7 (Nat.le_refl _) (by have := b.2.2; omega)
