/-! ===== the TAPE (class): signs and numbers ===== -/
def moreF (x : Txt) (c : Cur) : Int32 := match c with
  | .inl _ => 0
  | .inr a => if a < x.2 then 1 else 0
def digF (x : Txt) (c : Cur) : Int32 := match c with
  | .inl _ => 0
  | .inr a => if 48 ≤ chT x a ∧ chT x a ≤ 57 then 1 else 0
theorem X9_more {μ : Mem} {tp : Nat} {x : Txt} {c : Cur} (r : TpR μ tp x c) : ∃ μ' : Mem, LX9_more tp μ = some (moreF x c, μ') ∧ Out (fun h => h = tp) μ μ' ∧ TpR μ' tp x c ∧ ∀ a, c = .inr a → g_I μ' tp 4 = nI a ∧ g_I μ' tp 5 = nI a := by
  unfold LX9_more
  rw [if_pos r.1.1]
  match c, r with
  | .inl e, r =>
    obtain ⟨c1, c2, c3, c4⟩ := r.2.2
    rw [c1, if_neg (nI_ne0 c2 (by omega))]
    exact ⟨μ, rfl, Out.rf, r, fun a h => nomatch h⟩
  | .inr a, r =>
    rw [r.2.2.1, if_pos rfl]
    obtain ⟨μ', e1, o, r', g4, g5⟩ := X9_next r
    rw [e1, ob]
    unfold chI
    have hN := r.2.1.2.2
    by_cases e : a < x.2
    · rw [if_pos e, if_neg (nI_nm1 (by have := chT_256 e; omega)), show moreF x (.inr a) = 1 from if_pos e]
      exact ⟨μ', rfl, o, r', fun b h => by cases h; exact ⟨g4, g5⟩⟩
    · rw [if_neg e, if_pos rfl, show moreF x (.inr a) = 0 from if_neg e]
      exact ⟨μ', rfl, o, r', fun b h => by cases h; exact ⟨g4, g5⟩⟩
/-- the next sign is c, or it is not -/
def comesF (x : Txt) (k : Nat) (c : Cur) : Int32 := match c with
  | .inl _ => 0
  | .inr a => if chT x a = k then 1 else 0
theorem X9_comes {μ : Mem} {tp k : Nat} {x : Txt} {c : Cur} (r : TpR μ tp x c) (hk : k < 256) : ∃ μ' : Mem, LX9_comes tp (nI k) μ = some (comesF x k c, μ') ∧ Out (fun h => h = tp) μ μ' ∧ TpR μ' tp x c ∧ ∀ a, c = .inr a → g_I μ' tp 4 = nI a ∧ g_I μ' tp 5 = nI a := by
  unfold LX9_comes comesF
  rw [if_pos r.1.1]
  match c, r with
  | .inl e, r =>
    obtain ⟨c1, c2, c3, c4⟩ := r.2.2
    rw [c1, if_neg (nI_ne0 c2 (by omega))]
    exact ⟨μ, rfl, Out.rf, r, fun a h => nomatch h⟩
  | .inr a, r =>
    rw [r.2.2.1, if_pos rfl]
    obtain ⟨μ', e1, o, r', g4, g5⟩ := X9_next r
    rw [e1, ob]
    by_cases e : chT x a = k
    · rw [if_pos ((chI_eq hk).mpr e)]
      show ∃ μ'', _ = some (if chT x a = k then (1 : Int32) else 0, μ'') ∧ _
      rw [if_pos e]
      exact ⟨μ', rfl, o, r', fun b h => by cases h; exact ⟨g4, g5⟩⟩
    · rw [if_neg (fun z => e ((chI_eq hk).mp z))]
      show ∃ μ'', _ = some (if chT x a = k then (1 : Int32) else 0, μ'') ∧ _
      rw [if_neg e]
      exact ⟨μ', rfl, o, r', fun b h => by cases h; exact ⟨g4, g5⟩⟩
/-- reading on at a + 1 -/
theorem TpR.on {μ : Mem} {tp a : Nat} {x : Txt} (r : TpR μ tp x (.inr a)) (ha : a < x.2) : TpR (p_I μ tp 5 (nI (a + 1))) tp x (.inr (sk x (a + 1))) := by
  have o : Out (fun h => h = tp) μ (p_I μ tp 5 (nI (a + 1))) := (Out.rf (S := fun h => h = tp)).pI rfl
  exact r.st o (fun k hk => by rcases hk with rfl | rfl <;> exact gI_k (by decide)) ⟨by rw [gI_k (by decide)]; exact r.2.2.1, by rw [gI_k (by decide)]; exact r.2.2.2.1, sk_sk, sk_le ha, a + 1, ha, gI_s, rfl⟩
def needF (x : Txt) (k : Nat) (c : Cur) : Cur := curB c fun a => if chT x a = k then .inr (sk x (a + 1)) else .inl (1, a)
theorem X9_need {μ : Mem} {tp k : Nat} {x : Txt} {c : Cur} (r : TpR μ tp x c) (hk : k < 256) : ∃ μ' : Mem, LX9_need tp (nI k) μ = some ((), μ') ∧ Out (fun h => h = tp) μ μ' ∧ TpR μ' tp x (needF x k c) := by
  unfold LX9_need
  rw [if_pos r.1.1]
  match c, r with
  | .inl e, r =>
    obtain ⟨c1, c2, c3, c4⟩ := r.2.2
    rw [c1, if_neg (nI_ne0 c2 (by omega))]
    unfold mX9_need_28 LX9_fail
    rw [if_pos r.1.1, c1, if_neg (nI_ne0 c2 (by omega)), ob]
    exact ⟨μ, rfl, Out.rf, r⟩
  | .inr a, r =>
    rw [r.2.2.1, if_pos rfl]
    obtain ⟨μ', e1, o, r', g4, g5⟩ := X9_next r
    rw [e1, ob]
    by_cases e : chT x a = k
    · rw [if_pos ((chI_eq hk).mpr e), g5, ← nI_succ]
      have : needF x k (.inr a) = .inr (sk x (a + 1)) := if_pos e
      rw [this]
      exact ⟨_, rfl, o.pI rfl, r'.on (chT_lt e hk)⟩
    · rw [if_neg (fun z => e ((chI_eq hk).mp z))]
      have : needF x k (.inr a) = .inl (1, a) := if_neg e
      rw [this]
      unfold mX9_need_28
      rw [g4]
      obtain ⟨μ2, e2, o2, r2⟩ := X9_fail (k := 1) (p := a) r' (by decide) (by decide)
      have e2 : LX9_fail tp (1 : Int32) (nI a) μ' = some ((), μ2) := e2
      rw [e2, ob]
      exact ⟨μ2, rfl, o.tr o2, r2⟩
abbrev digT (c : Nat) : Prop := 48 ≤ c ∧ c ≤ 57
theorem X9_isDigit {x : Txt} {a : Nat} {μ : Mem} : LX9_isDigit (chI x a) μ = some (if digT (chT x a) then 1 else 0, μ) := by
  unfold LX9_isDigit chI
  by_cases e : a < x.2
  · have h2 := chT_256 e
    rw [if_pos e]
    by_cases h : digT (chT x a)
    · obtain ⟨h3, h4⟩ := id h
      rw [if_pos h, if_neg (show ¬ nI (chT x a) < (48 : Int32) from nI_nlt (b := 48) h3 (by omega)), if_neg (show ¬ (57 : Int32) < nI (chT x a) from nI_nlt (a := 57) h4 (by decide))]
    · rw [if_neg h]
      by_cases h5 : chT x a < 48
      · rw [if_pos (show nI (chT x a) < (48 : Int32) from nI_lt h5 (by decide))]
      · rw [if_neg (show ¬ nI (chT x a) < (48 : Int32) from nI_nlt (b := 48) (by omega) (by omega)), if_pos (show (57 : Int32) < nI (chT x a) from nI_lt (a := 57) (by omega) (by omega))]
  · rw [if_neg e, chT_end e, if_pos (by decide), if_neg (by decide)]
theorem X9_digitComes {μ : Mem} {tp : Nat} {x : Txt} {c : Cur} (r : TpR μ tp x c) : ∃ μ' : Mem, LX9_digitComes tp μ = some (digF x c, μ') ∧ Out (fun h => h = tp) μ μ' ∧ TpR μ' tp x c ∧ ∀ a, c = .inr a → g_I μ' tp 4 = nI a ∧ g_I μ' tp 5 = nI a := by
  unfold LX9_digitComes
  rw [if_pos r.1.1]
  match c, r with
  | .inl e, r =>
    obtain ⟨c1, c2, c3, c4⟩ := r.2.2
    rw [c1, if_neg (nI_ne0 c2 (by omega))]
    exact ⟨μ, rfl, Out.rf, r, fun a h => nomatch h⟩
  | .inr a, r =>
    rw [r.2.2.1, if_pos rfl]
    obtain ⟨μ', e1, o, r', g4, g5⟩ := X9_next r
    rw [e1, ob, X9_isDigit, ob]
    by_cases e : digT (chT x a)
    · rw [if_pos e, if_neg (by decide), show digF x (.inr a) = 1 from if_pos e]
      exact ⟨μ', rfl, o, r', fun b h => by cases h; exact ⟨g4, g5⟩⟩
    · rw [if_neg e, if_pos rfl, show digF x (.inr a) = 0 from if_neg e]
      exact ⟨μ', rfl, o, r', fun b h => by cases h; exact ⟨g4, g5⟩⟩
/-- digits from a on: what they say, where they end -/
def digs (x : Txt) : Nat → Nat → Nat → Nat × Nat
  | 0, a, v => (v, a)
  | f + 1, a, v => if digT (chT x a) then digs x f (a + 1) (if v * 10 + chT x a - 48 < 100000000 then v * 10 + chT x a - 48 else 100000000) else (v, a)
/-- a NUMBER up to most: its value, where one reads on -/
def numF (x : Txt) (most : Int32) (a : Nat) : (Nat × Nat) ⊕ (Nat × Nat) := if digT (chT x a) then (if nI (digs x (x.2 - a) a 0).1 ≤ most then .inr ((digs x (x.2 - a) a 0).1, sk x (digs x (x.2 - a) a 0).2) else .inl (2, a)) else .inl (1, a)
theorem X9_byteHere {μ : Mem} {tp a : Nat} {x : Txt} (s : TpS μ tp) (b : TpB μ tp x) (h5 : g_I μ tp 5 = nI a) (ha : a < x.2) : LX9_byteHere tp μ = some (chI x a, μ) := by
  obtain ⟨s1, s2, s3, s4⟩ := id s
  obtain ⟨b1, b2, b3⟩ := id b
  unfold LX9_byteHere chI chT
  rw [if_pos s1, b2, h5, if_neg (nI_ge ha (by omega)), if_neg (show ¬ (600 : Int32) ≤ nI a from nI_ge (b := 600) (by omega) (by decide)), s2, if_pos (isK_p s3), if_pos (inA_n s3 s4 (by omega) (by decide)), nI_clamp (n := a) (by omega), b1 a ha, byte_and, if_pos ha, if_pos ha]
def numC (c : (Nat × Nat) ⊕ (Nat × Nat)) : Cur := match c with
  | .inl e => .inl e
  | .inr v => .inr v.2
theorem X9_numberL {tp a : Nat} {x : Txt} {most : Int32} : ∀ (f c fu v : Nat) (μ : Mem), TpS μ tp → TpB μ tp x → g_I μ tp 2 = 0 → g_I μ tp 3 = -1 → g_I μ tp 4 = nI a → g_I μ tp 5 = nI c → c ≤ x.2 → v ≤ 100000000 → x.2 - c = f → f < fu →
    ∃ (μ' : Mem) (z : Int32), mX9_number_20 fu tp most (nI v) μ = some (z, μ') ∧ Out (fun h => h = tp) μ μ' ∧ TpR μ' tp x (numC (if nI (digs x f c v).1 ≤ most then .inr ((digs x f c v).1, sk x (digs x f c v).2) else .inl (2, a))) ∧ (nI (digs x f c v).1 ≤ most → z = nI (digs x f c v).1 ∧ g_I μ' tp 4 = nI a) := by
  -- the end
  have last : ∀ (c v : Nat) (μ : Mem), TpS μ tp → TpB μ tp x → g_I μ tp 2 = 0 → g_I μ tp 3 = -1 → g_I μ tp 4 = nI a → g_I μ tp 5 = nI c → c ≤ x.2 → ∃ (μ' : Mem) (z : Int32), mX9_number_72 tp most (nI v) μ = some (z, μ') ∧ Out (fun h => h = tp) μ μ' ∧ TpR μ' tp x (numC (if nI v ≤ most then .inr (v, sk x c) else .inl (2, a))) ∧ (nI v ≤ most → z = nI v ∧ g_I μ' tp 4 = nI a) := by
    intro c v μ s b c1 c2 h4 h5 hc
    unfold mX9_number_72
    have r : TpR μ tp x (.inr (sk x c)) := ⟨s, b, c1, c2, sk_sk, sk_le hc, c, hc, h5, rfl⟩
    by_cases e : nI v ≤ most
    · rw [if_pos e, if_pos e]
      exact ⟨μ, nI v, rfl, Out.rf, r, fun _ => ⟨rfl, h4⟩⟩
    · rw [if_neg e, if_neg e, h4]
      obtain ⟨μ2, e2, o2, r2⟩ := X9_fail (k := 2) (p := a) r (by decide) (by decide)
      have e2 : LX9_fail tp (2 : Int32) (nI a) μ = some ((), μ2) := e2
      rw [e2, ob]
      exact ⟨μ2, -1, rfl, o2, r2, fun z => absurd z e⟩
  intro f
  induction f with
  | zero =>
    intro c fu v μ s b c1 c2 h4 h5 hc hv hf hfu
    obtain ⟨fu, rfl⟩ : ∃ q, fu = q + 1 := ⟨fu - 1, by omega⟩
    have hb := b.2.2
    rw [mX9_number_20, b.2.1, h5, if_pos (nI_le (by omega) (by omega))]
    exact last c v μ s b c1 c2 h4 h5 hc
  | succ f ih =>
    intro c fu v μ s b c1 c2 h4 h5 hc hv hf hfu
    obtain ⟨fu, rfl⟩ : ∃ q, fu = q + 1 := ⟨fu - 1, by omega⟩
    have hb := b.2.2
    have hl : c < x.2 := by omega
    rw [mX9_number_20, b.2.1, h5, if_neg (nI_ge hl (by omega)), X9_byteHere s b h5 hl, ob, X9_isDigit, ob]
    by_cases e : digT (chT x c)
    · obtain ⟨e1, e2⟩ := id e
      have hd : digs x (f + 1) c v = digs x f (c + 1) (if v * 10 + chT x c - 48 < 100000000 then v * 10 + chT x c - 48 else 100000000) := if_pos e
      rw [if_pos e, if_neg (by decide), X9_byteHere s b h5 hl, ob, h5, ← nI_succ, hd]
      have ev : (if ((nI v * (10 : Int32)) + chI x c) - (48 : Int32) < (100000000 : Int32) then ((nI v * (10 : Int32)) + chI x c) - (48 : Int32) else (100000000 : Int32)) = nI (if v * 10 + chT x c - 48 < 100000000 then v * 10 + chT x c - 48 else 100000000) := by
        have : ((nI v * (10 : Int32)) + chI x c) - (48 : Int32) = nI (v * 10 + chT x c - 48) := by
          unfold chI
          rw [if_pos hl, show (10 : Int32) = nI 10 from rfl, nI_mul, nI_add, show (48 : Int32) = nI 48 from rfl, nI_sub (by omega)]
        rw [this]
        by_cases h : v * 10 + chT x c - 48 < 100000000
        · rw [if_pos h, if_pos (show nI (v * 10 + chT x c - 48) < (100000000 : Int32) from nI_lt h (by decide))]
        · rw [if_neg h, if_neg (show ¬ nI (v * 10 + chT x c - 48) < (100000000 : Int32) from nI_nlt (b := 100000000) (by omega) (by omega))]
          rfl
      rw [ev]
      have o : Out (fun h => h = tp) μ (p_I μ tp 5 (nI (c + 1))) := (Out.rf (S := fun h => h = tp)).pI rfl
      obtain ⟨s1, s2, s3, s4⟩ := id s
      obtain ⟨b1, b2, b3⟩ := id b
      obtain ⟨μ', z, e3, o3, r3, g3⟩ := ih (c + 1) fu (if v * 10 + chT x c - 48 < 100000000 then v * 10 + chT x c - 48 else 100000000) (p_I μ tp 5 (nI (c + 1))) ⟨s1, s2, s3, s4⟩ ⟨fun k hk => by rw [gI_h (by omega)]; exact b1 k hk, by rw [gI_k (by decide)]; exact b2, b3.1, by rw [gI_k (by decide)]; exact b3.2⟩ (by rw [gI_k (by decide)]; exact c1) (by rw [gI_k (by decide)]; exact c2) (by rw [gI_k (by decide)]; exact h4) gI_s (by omega) (by split <;> omega) (by omega) (by omega)
      exact ⟨μ', z, e3, o.tr o3, r3, g3⟩
    · have hd : digs x (f + 1) c v = (v, c) := if_neg e
      rw [if_neg e, if_pos rfl, hd]
      exact last c v μ s b c1 c2 h4 h5 hc
def numCur (x : Txt) (most : Int32) (c : Cur) : (Nat × Nat) ⊕ (Nat × Nat) := match c with
  | .inl e => .inl e
  | .inr a => numF x most a
theorem X9_number {μ : Mem} {tp : Nat} {x : Txt} {most : Int32} {c : Cur} (r : TpR μ tp x c) : ∃ (μ' : Mem) (z : Int32), LX9_number tp most μ = some (z, μ') ∧ Out (fun h => h = tp) μ μ' ∧ TpR μ' tp x (numC (numCur x most c)) ∧ ∀ a v e, c = .inr a → numF x most a = .inr (v, e) → z = nI v ∧ g_I μ' tp 4 = nI a := by
  unfold LX9_number
  rw [if_pos r.1.1]
  obtain ⟨μ1, e1, o1, r1, g1⟩ := X9_digitComes r
  rw [e1, ob]
  match c, r, r1, g1 with
  | .inl e, r, r1, g1 =>
    rw [if_pos (show digF x (.inl e) = 0 from rfl)]
    obtain ⟨c1, c2, c3, c4⟩ := r1.2.2
    unfold LX9_fail
    rw [if_pos r1.1.1, c1, if_neg (nI_ne0 c2 (by omega)), ob]
    exact ⟨μ1, -1, rfl, o1, r1, fun a v e h => nomatch h⟩
  | .inr a, r, r1, g1 =>
    obtain ⟨g4, g5⟩ := g1 a rfl
    obtain ⟨c1, c2, c3, c4, c5⟩ := r1.2.2
    show ∃ (μ' : Mem) (z : Int32), (if (if digT (chT x a) then (1 : Int32) else 0) = 0 then _ else _) = some (z, μ') ∧ _ ∧ TpR μ' tp x (numC (numF x most a)) ∧ _
    unfold numF
    by_cases e : digT (chT x a)
    · rw [if_pos e, if_neg (by decide), if_pos e]
      obtain ⟨μ', z, e2, o2, r2, g2⟩ := X9_numberL (a := a) (most := most) (x.2 - a) a 100000 0 μ1 r1.1 r1.2.1 c1 c2 g4 g5 c4 (Nat.zero_le _) rfl (by have := r1.2.1.2.2; omega)
      refine ⟨μ', z, e2, o1.tr o2, r2, fun b v e' h h2 => ?_⟩
      cases h
      rw [if_pos e] at h2
      by_cases h3 : nI (digs x (x.2 - a) a 0).1 ≤ most
      · rw [if_pos h3] at h2
        obtain ⟨q1, q2⟩ := g2 h3
        have : (digs x (x.2 - a) a 0).1 = v := congrArg Prod.fst (Sum.inr.inj h2)
        exact ⟨by rw [q1, this], q2⟩
      · rw [if_neg h3] at h2
        exact nomatch h2
    · rw [if_neg e, if_pos rfl, if_neg e, g4]
      obtain ⟨μ2, e2, o2, r2⟩ := X9_fail (k := 1) (p := a) r1 (by decide) (by decide)
      have e2 : LX9_fail tp (1 : Int32) (nI a) μ1 = some ((), μ2) := e2
      rw [e2, ob]
      refine ⟨μ2, -1, rfl, o1.tr o2, r2, fun b v e' h h2 => ?_⟩
      cases h
      rw [if_neg e] at h2
      exact nomatch h2
