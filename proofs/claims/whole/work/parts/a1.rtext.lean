/-! ===== the reference: bytes, blanks, numbers, signs ===== -/
def TmB (μ : Mem) (x : Txt) : Prop := RfS μ ∧ g_I μ 125 2 = nI x.2 ∧ x.2 ≤ 600 ∧ ∀ k, k < x.2 → g_I μ 126 k = nI (chT x k)
/-- no FAULT so far, and at stands exactly there -/
def TmA (μ : Mem) (x : Txt) (a : Nat) : Prop := TmB μ x ∧ g_I μ 125 5 = 0 ∧ g_I μ 125 6 = -1 ∧ g_I μ 125 4 = nI a ∧ a ≤ x.2
def TmC (μ : Mem) (x : Txt) (c : Cur) : Prop := match c with
  | .inl e => 0 < e.1 ∧ e.1 < 10 ∧ g_I μ 125 5 = nI e.1 ∧ g_I μ 125 6 = nI e.2 ∧ ∃ b, b ≤ x.2 ∧ g_I μ 125 4 = nI b
  | .inr a => ∃ b, TmA μ x b ∧ sk x b = a
def TmR (μ : Mem) (x : Txt) (c : Cur) : Prop := TmB μ x ∧ TmC μ x c
theorem TmB.o {F S : Nat → Prop} {μ ν : Mem} {x : Txt} (t : TmB μ x) (o : OF F S μ ν) (h2 : ¬ F 2) (h126 : ¬ S 126) : TmB ν x := ⟨o.s t.1, by rw [o.2 2 h2]; exact t.2.1, t.2.2.1, fun k hk => by rw [o.r (by decide) h126]; exact t.2.2.2 k hk⟩
theorem TmA.o {F S : Nat → Prop} {μ ν : Mem} {x : Txt} {a : Nat} (t : TmA μ x a) (o : OF F S μ ν) (h2 : ¬ F 2) (h126 : ¬ S 126) (h4 : ¬ F 4) (h5 : ¬ F 5) (h6 : ¬ F 6) : TmA ν x a := ⟨t.1.o o h2 h126, by rw [o.2 5 h5]; exact t.2.1, by rw [o.2 6 h6]; exact t.2.2.1, by rw [o.2 4 h4]; exact t.2.2.2.1, t.2.2.2.2⟩
theorem TmR.o {F S : Nat → Prop} {μ ν : Mem} {x : Txt} {c : Cur} (t : TmR μ x c) (o : OF F S μ ν) (h2 : ¬ F 2) (h126 : ¬ S 126) (h4 : ¬ F 4) (h5 : ¬ F 5) (h6 : ¬ F 6) : TmR ν x c := by
  refine ⟨t.1.o o h2 h126, ?_⟩
  cases c with
  | inl e =>
    obtain ⟨t1, t2, t3, t4, b, t5, t6⟩ := t.2
    exact ⟨t1, t2, by rw [o.2 5 h5]; exact t3, by rw [o.2 6 h6]; exact t4, b, t5, by rw [o.2 4 h4]; exact t6⟩
  | inr a =>
    obtain ⟨b, t1, t2⟩ := t.2
    exact ⟨b, t1.o o h2 h126 h4 h5 h6, t2⟩
theorem TmA.r {μ : Mem} {x : Txt} {a : Nat} (t : TmA μ x a) : TmR μ x (.inr (sk x a)) := ⟨t.1, a, t, rfl⟩
theorem TmA.rs {μ : Mem} {x : Txt} {a : Nat} (t : TmA μ x a) (h : sk x a = a) : TmR μ x (.inr a) := ⟨t.1, a, t, h⟩
theorem R_byte {μ : Mem} {x : Txt} {i : Nat} (t : TmB μ x) (hi : i < 2147483648) : LX12_byteAt 125 (nI i) μ = some (chI x i, μ) := by
  obtain ⟨s, b1, b2, b3⟩ := t
  unfold LX12_byteAt chI
  rw [if_pos s.1, b1]
  by_cases h : i < x.2
  · rw [if_pos (nI_lt h (by omega)), if_pos h, s.h9, if_pos q126, if_pos (s.a126.ix (by omega) (by decide)), nI_clamp hi, b3 i h]
  · rw [if_neg (nI_nlt (by omega) hi), if_neg h]
theorem chI_ne {x : Txt} {a c : Nat} (hc : c < 256) (h : ¬ chT x a = c) : ¬ chI x a = nI c := fun z => h ((chI_eq hc).mp z)
theorem TmA.go {μ : Mem} {x : Txt} {a b : Nat} (t : TmA μ x a) (hb : b ≤ x.2) : TmA (p_I μ 125 4 (nI b)) x b := by
  have o : OF (fun k => k = 4) nS μ (p_I μ 125 4 (nI b)) := OF.rf.p0 rfl
  exact ⟨t.1.o o (by decide) (fun z => z), by rw [o.2 5 (by decide)]; exact t.2.1, by rw [o.2 6 (by decide)]; exact t.2.2.1, gI_s, hb⟩
theorem R_blanksL {x : Txt} : ∀ (f a fu : Nat) (μ : Mem), TmB μ x → g_I μ 125 4 = nI a → a ≤ x.2 → x.2 - a ≤ f → f < fu → ∃ μ' : Mem, mX12_blanks_0 fu 125 μ = some ((), μ') ∧ OF (fun k => k = 4) nS μ μ' ∧ g_I μ' 125 4 = nI (sk x a) := by
  intro f
  induction f with
  | zero =>
    intro a fu μ t h4 ha h1 h2
    obtain ⟨fu, rfl⟩ : ∃ q, fu = q + 1 := ⟨fu - 1, by omega⟩
    have hx := t.2.2.1
    have hn : ¬ chT x a = 32 := fun z => by have := chT_lt z (by decide); omega
    rw [mX12_blanks_0, h4, R_byte t (by omega), ob, if_neg (show ¬ chI x a = (32 : Int32) from chI_ne (by decide) hn), sk_eq, if_neg hn]
    exact ⟨μ, rfl, OF.rf, h4⟩
  | succ f ih =>
    intro a fu μ t h4 ha h1 h2
    obtain ⟨fu, rfl⟩ : ∃ q, fu = q + 1 := ⟨fu - 1, by omega⟩
    have hx := t.2.2.1
    rw [mX12_blanks_0, h4, R_byte t (by omega), ob, sk_eq]
    by_cases hn : chT x a = 32
    · have hl := chT_lt hn (by decide)
      rw [if_pos (show chI x a = (32 : Int32) from (chI_eq (c := 32) (by decide)).mpr hn), if_pos hn, h4, ← nI_succ]
      have o0 : OF (fun k => k = 4) nS μ (p_I μ 125 4 (nI (a + 1))) := OF.rf.p0 rfl
      obtain ⟨μ', e1, o1, t1⟩ := ih (a + 1) fu (p_I μ 125 4 (nI (a + 1))) (t.o o0 (by decide) (fun z => z)) gI_s (by omega) (by omega) (by omega)
      exact ⟨μ', e1, o0.tr o1, t1⟩
    · rw [if_neg (show ¬ chI x a = (32 : Int32) from chI_ne (by decide) hn), if_neg hn]
      exact ⟨μ, rfl, OF.rf, h4⟩
theorem R_blanks {μ : Mem} {x : Txt} {a : Nat} (t : TmA μ x a) : ∃ μ' : Mem, LX12_blanks 125 μ = some ((), μ') ∧ OF tF nS μ μ' ∧ TmA μ' x (sk x a) := by
  unfold LX12_blanks
  rw [if_pos t.1.1.1]
  obtain ⟨μ', e1, o1, t1⟩ := R_blanksL (x.2 - a) a 100000 μ t.1 t.2.2.2.1 t.2.2.2.2 (Nat.le_refl _) (by have := t.1.2.2.1; omega)
  exact ⟨μ', e1, o1.mo (fun k hk => Or.inl hk) (fun k hk => hk), t.1.o o1 (by decide) (fun z => z), by rw [o1.2 5 (by decide)]; exact t.2.1, by rw [o1.2 6 (by decide)]; exact t.2.2.1, t1, sk_le t.2.2.2.2⟩
theorem R_blanksC {μ : Mem} {x : Txt} {c : Cur} (t : TmR μ x c) : ∃ μ' : Mem, LX12_blanks 125 μ = some ((), μ') ∧ OF tF nS μ μ' ∧ TmR μ' x c ∧ ∀ a, c = .inr a → TmA μ' x a := by
  cases c with
  | inl e =>
    obtain ⟨t1, t2, t3, t4, b, t5, t6⟩ := t.2
    unfold LX12_blanks
    rw [if_pos t.1.1.1]
    obtain ⟨μ', e1, o1, u1⟩ := R_blanksL (x.2 - b) b 100000 μ t.1 t6 t5 (Nat.le_refl _) (by have := t.1.2.2.1; omega)
    exact ⟨μ', e1, o1.mo (fun k hk => Or.inl hk) (fun k hk => hk), ⟨t.1.o o1 (by decide) (fun z => z), t1, t2, by rw [o1.2 5 (by decide)]; exact t3, by rw [o1.2 6 (by decide)]; exact t4, sk x b, sk_le t5, u1⟩, fun a ha => nomatch ha⟩
  | inr a =>
    obtain ⟨b, tb, hb⟩ := t.2
    obtain ⟨μ1, e1, o1, t1⟩ := R_blanks tb
    rw [hb] at t1
    exact ⟨μ1, e1, o1, t1.rs (by rw [← hb]; exact sk_sk), fun a' ha => by cases ha; exact t1⟩
/-- where no blank stands, none is passed over -/
theorem R_blanks0 {μ : Mem} {x : Txt} {a : Nat} (t : TmA μ x a) (h : sk x a = a) : LX12_blanks 125 μ = some ((), μ) := by
  have ha := t.2.2.2.2
  have hx := t.1.2.2.1
  have hn : ¬ chT x a = 32 := fun z => by
    have h2 := h
    rw [sk_eq, if_pos z] at h2
    have := sk_ge (x := x) (a := a + 1)
    omega
  unfold LX12_blanks
  rw [if_pos t.1.1.1, mX12_blanks_0, t.2.2.2.1, R_byte t.1 (by omega), ob, if_neg (show ¬ chI x a = (32 : Int32) from chI_ne (by decide) hn)]
/-- blanks, whatever the state is at (behind a FAULT they are passed over, too) -/
theorem TmB.err {μ : Mem} {x : Txt} {c : Cur} (t : TmR μ x c) {e : Nat × Nat} (h : c = .inl e) : g_I μ 125 5 = nI e.1 ∧ ¬ nI e.1 = 0 := by
  subst h
  obtain ⟨t1, t2, t3, t4, -⟩ := t.2
  exact ⟨t3, nI_ne0 t1 (by omega)⟩
theorem R_wrong {μ : Mem} {x : Txt} {c : Cur} {k p : Nat} (t : TmR μ x c) (h0 : 0 < k) (h10 : k < 10) : ∃ μ' : Mem, LX12_wrong 125 (nI k) (nI p) μ = some ((), μ') ∧ OF tF nS μ μ' ∧ TmR μ' x (failC k p c) := by
  unfold LX12_wrong
  rw [if_pos t.1.1.1]
  cases c with
  | inl e =>
    obtain ⟨e1, e2⟩ := TmB.err t rfl
    rw [e1, if_neg e2]
    exact ⟨μ, rfl, OF.rf, t⟩
  | inr a =>
    obtain ⟨b, tb, hb⟩ := t.2
    rw [tb.2.1, if_pos rfl]
    have o : OF tF nS μ (p_I (p_I μ 125 5 (nI k)) 125 6 (nI p)) := (OF.rf.p0 (Or.inr (Or.inl rfl))).p0 (Or.inr (Or.inr rfl))
    exact ⟨_, rfl, o, t.1.o o (by decide) (fun z => z), h0, h10, by rw [gI_k (by decide), gI_s], gI_s, b, tb.2.2.2.2, by rw [gI_k (by decide), gI_k (by decide)]; exact tb.2.2.2.1⟩
theorem R_isDigit {x : Txt} {a : Nat} {μ : Mem} : LX12_isDigit (chI x a) μ = some (if digT (chT x a) then 1 else 0, μ) := by
  unfold LX12_isDigit chI
  by_cases e : a < x.2
  · have h2 := chT_256 e
    rw [if_pos e]
    by_cases h : digT (chT x a)
    · obtain ⟨h3, h4⟩ := id h
      rw [if_pos h, if_neg (show ¬ nI (chT x a) < (48 : Int32) from nI_nlt (b := 48) h3 (by omega)), if_neg (show ¬ (57 : Int32) < nI (chT x a) from nI_nlt (a := 57) h4 (by decide))]
    · rw [if_neg h]
      by_cases h5 : chT x a < 48
      · rw [if_pos (show nI (chT x a) < (48 : Int32) from nI_lt h5 (by decide))]
      · rw [if_neg (show ¬ nI (chT x a) < (48 : Int32) from nI_nlt (b := 48) (by omega) (by omega)), if_pos (show (57 : Int32) < nI (chT x a) from nI_lt (a := 57) (by omega) (by omega))]
  · rw [if_neg e, chT_end e, if_pos (by decide), if_neg (by decide)]
theorem R_isSmall {x : Txt} {a : Nat} {μ : Mem} : LX12_isSmall (chI x a) μ = some (if letT (chT x a) then 1 else 0, μ) := by
  unfold LX12_isSmall chI
  by_cases e : a < x.2
  · have h2 := chT_256 e
    rw [if_pos e]
    by_cases h : letT (chT x a)
    · obtain ⟨h3, h4⟩ := id h
      rw [if_pos h, if_neg (show ¬ nI (chT x a) < (97 : Int32) from nI_nlt (b := 97) h3 (by omega)), if_neg (show ¬ (122 : Int32) < nI (chT x a) from nI_nlt (a := 122) h4 (by decide))]
    · rw [if_neg h]
      by_cases h5 : chT x a < 97
      · rw [if_pos (show nI (chT x a) < (97 : Int32) from nI_lt h5 (by decide))]
      · rw [if_neg (show ¬ nI (chT x a) < (97 : Int32) from nI_nlt (b := 97) (by omega) (by omega)), if_pos (show (122 : Int32) < nI (chT x a) from nI_lt (a := 122) (by omega) (by omega))]
  · rw [if_neg e, chT_end e, if_pos (by decide), if_neg (by decide)]
theorem R_in {v lo hi : Int32} {μ : Mem} : LX12_in v lo hi μ = some (if v < lo then 0 else if hi < v then 0 else 1, μ) := by
  unfold LX12_in
  repeat' split
  all_goals rfl
/-- the digits' loop: the FAULT, if there is one already, stays -/
theorem R_numberL {x : Txt} {most : Int32} {p : Nat} : ∀ (f a fu v : Nat) (μ : Mem), TmA μ x a → v ≤ 100000000 → x.2 - a = f → f < fu → ∃ μ' : Mem, mX12_number_44 fu 125 0 most (nI p) (nI v) μ = some (if nI (digs x f a v).1 ≤ most then nI (digs x f a v).1 else 0, μ') ∧ OF tF nS μ μ' ∧ (if nI (digs x f a v).1 ≤ most then TmA μ' x (digs x f a v).2 else TmR μ' x (.inl (2, p))) := by
  intro f
  have fin : ∀ (a fu v : Nat) (μ : Mem), TmA μ x a → v ≤ 100000000 → ¬ digT (chT x a) → ∃ μ' : Mem, mX12_number_44 (fu + 1) 125 0 most (nI p) (nI v) μ = some (if nI v ≤ most then nI v else 0, μ') ∧ OF tF nS μ μ' ∧ (if nI v ≤ most then TmA μ' x a else TmR μ' x (.inl (2, p))) := by
    intro a fu v μ t hv hd
    have ha := t.2.2.2.2
    have hx := t.1.2.2.1
    rw [mX12_number_44, t.2.2.2.1, R_byte t.1 (by omega), ob, R_isDigit, ob, if_neg hd, if_pos rfl, R_in, ob, if_neg (show ¬ nI v < (0 : Int32) from nI_nlt (b := 0) (by omega) (by omega))]
    by_cases h : nI v ≤ most
    · rw [if_neg (Int32.not_lt.mpr h), if_neg (by decide), if_pos h]
      simp only [if_pos h]
      unfold mX12_number_122
      rw [t.2.1, if_pos rfl]
      exact ⟨μ, rfl, OF.rf, t⟩
    · rw [if_pos (Int32.not_le.mp h), if_pos rfl, if_neg h]
      simp only [if_neg h]
      have t' : TmR μ x (.inr (sk x a)) := t.r
      obtain ⟨μ1, e1, o1, t1⟩ := R_wrong (k := 2) (p := p) t' (by decide) (by decide)
      have e1 : LX12_wrong 125 (2 : Int32) (nI p) μ = some ((), μ1) := e1
      have t1 : TmR μ1 x (.inl (2, p)) := t1
      rw [e1, ob]
      unfold mX12_number_122
      obtain ⟨q1, q2⟩ := TmB.err t1 rfl
      rw [q1, if_neg q2]
      exact ⟨μ1, rfl, o1, t1⟩
  induction f with
  | zero =>
    intro a fu v μ t hv hf h2
    obtain ⟨fu, rfl⟩ : ∃ q, fu = q + 1 := ⟨fu - 1, by omega⟩
    exact fin a fu v μ t hv (by rw [chT_end (by omega)]; decide)
  | succ f ih =>
    intro a fu v μ t hv hf h2
    obtain ⟨fu, rfl⟩ : ∃ q, fu = q + 1 := ⟨fu - 1, by omega⟩
    have eF : digs x (f + 1) a v = if digT (chT x a) then digs x f (a + 1) (if v * 10 + chT x a - 48 < 100000000 then v * 10 + chT x a - 48 else 100000000) else (v, a) := rfl
    rw [eF]
    by_cases hd : digT (chT x a)
    · have hl : a < x.2 := by omega
      have hx := t.1.2.2.1
      have hc : chI x a = nI (chT x a) := if_pos hl
      rw [if_pos hd]
      rw [mX12_number_44, t.2.2.2.1, R_byte t.1 (by omega), ob, R_isDigit, ob, if_pos hd, if_neg (by decide), t.2.2.2.1, R_byte t.1 (by omega), ob, hc]
      have ev : (((10 : Int32) * nI v) + nI (chT x a)) - (48 : Int32) = nI (v * 10 + chT x a - 48) := by
        rw [show (10 : Int32) = nI 10 from rfl, nI_mul, nI_add, show (48 : Int32) = nI 48 from rfl, nI_sub (by omega)]
        congr 1
        omega
      rw [ev]
      have step : ∀ w : Nat, w ≤ 100000000 → ∃ μ' : Mem, mX12_number_91 (fun l0 l1 l2 l3 l4 μ => mX12_number_44 fu l0 l1 l2 l3 l4 μ) 125 0 most (nI p) (nI w) μ = some (if nI (digs x f (a + 1) w).1 ≤ most then nI (digs x f (a + 1) w).1 else 0, μ') ∧ OF tF nS μ μ' ∧ (if nI (digs x f (a + 1) w).1 ≤ most then TmA μ' x (digs x f (a + 1) w).2 else TmR μ' x (.inl (2, p))) := by
        intro w hw
        unfold mX12_number_91
        rw [t.2.2.2.1, ← nI_succ]
        obtain ⟨μ', e1, o1, t1⟩ := ih (a + 1) fu w (p_I μ 125 4 (nI (a + 1))) (t.go (by omega)) hw (by omega) (by omega)
        exact ⟨μ', e1, (OF.rf.p0 (Or.inl rfl)).tr o1, t1⟩
      by_cases hw : v * 10 + chT x a - 48 < 100000000
      · rw [if_pos (show nI (v * 10 + chT x a - 48) ≤ (100000000 : Int32) from nI_le (b := 100000000) (by omega) (by decide)), if_pos hw]
        exact step _ (by omega)
      · by_cases hw2 : v * 10 + chT x a - 48 = 100000000
        · rw [if_pos (show nI (v * 10 + chT x a - 48) ≤ (100000000 : Int32) from nI_le (b := 100000000) (by omega) (by decide)), if_neg hw, hw2]
          exact step _ (Nat.le_refl _)
        · rw [if_neg (show ¬ nI (v * 10 + chT x a - 48) ≤ (100000000 : Int32) from nI_ge (a := 100000000) (by omega) (by omega)), if_neg hw]
          exact step 100000000 (Nat.le_refl _)
    · rw [if_neg hd]
      exact fin a fu v μ t hv hd
/-- what a NUMBER that is none leaves: 0 -/
def numV (c : (Nat × Nat) ⊕ (Nat × Nat)) : Int32 := match c with
  | .inl _ => 0
  | .inr v => nI v.1
theorem R_number44e {x : Txt} {most : Int32} {p a : Nat} {e : Nat × Nat} {fu : Nat} {μ : Mem} (t : TmR μ x (.inl e)) (h4 : g_I μ 125 4 = nI a) (ha : a < 2147483648) (hd : ¬ digT (chT x a)) : mX12_number_44 (fu + 1) 125 0 most (nI p) (0 : Int32) μ = some (0, μ) := by
  obtain ⟨q1, q2⟩ := TmB.err t rfl
  rw [mX12_number_44, h4, R_byte t.1 ha, ob, R_isDigit, ob, if_neg hd, if_pos rfl, R_in, ob, if_neg (show ¬ (0 : Int32) < 0 by decide)]
  have e2 : mX12_number_122 125 (0 : Int32) μ = some (0, μ) := by
    unfold mX12_number_122
    rw [q1, if_neg q2]
  by_cases h : most < 0
  · have ew : LX12_wrong 125 (2 : Int32) (nI p) μ = some ((), μ) := by
      unfold LX12_wrong
      rw [if_pos t.1.1.1, q1, if_neg q2]
    rw [if_pos h, if_pos rfl, ew, ob, e2]
  · rw [if_neg h, if_neg (by decide), e2]
theorem R_number {μ : Mem} {x : Txt} {most : Int32} {c : Cur} (t : TmR μ x c) : ∃ μ' : Mem, LX12_number 125 0 most μ = some (numV (numCur x most c), μ') ∧ OF tF nS μ μ' ∧ TmR μ' x (numC (numCur x most c)) := by
  unfold LX12_number
  rw [if_pos t.1.1.1]
  cases c with
  | inl e =>
    obtain ⟨q1, q2⟩ := TmB.err t rfl
    rw [q1, if_neg q2]
    exact ⟨μ, rfl, OF.rf, t⟩
  | inr a =>
    obtain ⟨b, tb, hb⟩ := t.2
    rw [tb.2.1, if_pos rfl]
    obtain ⟨μ1, e1, o1, t1⟩ := R_blanks tb
    rw [hb] at t1
    have ha := t1.2.2.2.2
    have hx := t1.1.2.2.1
    rw [e1, ob, t1.2.2.2.1, R_byte t1.1 (by omega), ob, R_isDigit, ob]
    show ∃ μ' : Mem, _ = some (numV (numF x most a), μ') ∧ OF tF nS μ μ' ∧ TmR μ' x (numC (numF x most a))
    unfold numF
    by_cases hd : digT (chT x a)
    · rw [if_pos hd, if_neg (by decide), if_pos hd]
      obtain ⟨μ2, e2, o2, t2⟩ := R_numberL (most := most) (p := a) (x.2 - a) a 100000 0 μ1 t1 (by decide) rfl (by omega)
      have e2 : mX12_number_44 100000 125 0 most (nI a) (0 : Int32) μ1 = _ := e2
      rw [e2]
      by_cases h : nI (digs x (x.2 - a) a 0).1 ≤ most
      · rw [if_pos h] at t2 ⊢
        rw [if_pos h]
        exact ⟨μ2, rfl, o1.tr o2, t2.r⟩
      · rw [if_neg h] at t2 ⊢
        rw [if_neg h]
        exact ⟨μ2, rfl, o1.tr o2, t2⟩
    · rw [if_neg hd, if_pos rfl, if_neg hd, t1.2.2.2.1]
      have t1' : TmR μ1 x (.inr (sk x a)) := t1.r
      obtain ⟨μ2, e2, o2, t2⟩ := R_wrong (k := 1) (p := a) t1' (by decide) (by decide)
      have e2 : LX12_wrong 125 (1 : Int32) (nI a) μ1 = some ((), μ2) := e2
      have t2 : TmR μ2 x (.inl (1, a)) := t2
      have h4 : g_I μ2 125 4 = nI a := by
        have e3 : LX12_wrong 125 (1 : Int32) (nI a) μ1 = some ((), p_I (p_I μ1 125 5 1) 125 6 (nI a)) := by
          unfold LX12_wrong
          rw [if_pos t1.1.1.1, t1.2.1, if_pos rfl]
        rw [e3] at e2
        have := (Prod.mk.inj (Option.some.inj e2)).2
        rw [← this, gI_k (by decide), gI_k (by decide)]
        exact t1.2.2.2.1
      rw [e2, ob, R_number44e t2 h4 (by omega) hd]
      exact ⟨μ2, rfl, o1.tr o2, t2⟩
/-- a sign that has to stand there -/
theorem R_sign {μ : Mem} {x : Txt} {c : Cur} {k : Nat} (t : TmR μ x c) (hk : k < 256) : ∃ μ' : Mem, LX12_sign 125 (nI k) μ = some ((), μ') ∧ OF tF nS μ μ' ∧ TmR μ' x (needF x k c) := by
  unfold LX12_sign
  rw [if_pos t.1.1.1]
  cases c with
  | inl e =>
    obtain ⟨q1, q2⟩ := TmB.err t rfl
    rw [q1, if_neg q2]
    exact ⟨μ, rfl, OF.rf, t⟩
  | inr a =>
    obtain ⟨b, tb, hb⟩ := t.2
    rw [tb.2.1, if_pos rfl]
    obtain ⟨μ1, e1, o1, t1⟩ := R_blanks tb
    rw [hb] at t1
    have ha := t1.2.2.2.2
    have hx := t1.1.2.2.1
    rw [e1, ob, t1.2.2.2.1, R_byte t1.1 (by omega), ob]
    by_cases h : chT x a = k
    · rw [if_pos ((chI_eq hk).mpr h), t1.2.2.2.1, ← nI_succ, show needF x k (.inr a) = .inr (sk x (a + 1)) from if_pos h]
      have hl := chT_lt h hk
      exact ⟨_, rfl, o1.tr (OF.rf.p0 (Or.inl rfl)), (t1.go (by omega)).r⟩
    · rw [if_neg (chI_ne hk h), t1.2.2.2.1, show needF x k (.inr a) = .inl (1, a) from if_neg h]
      have t1' : TmR μ1 x (.inr (sk x a)) := t1.r
      obtain ⟨μ2, e2, o2, t2⟩ := R_wrong (k := 1) (p := a) t1' (by decide) (by decide)
      have e2 : LX12_wrong 125 (1 : Int32) (nI a) μ1 = some ((), μ2) := e2
      rw [e2, ob]
      exact ⟨μ2, rfl, o1.tr o2, t2⟩
/-- a sign that may stand there: whether it does, and is read -/
def takeV (x : Txt) (k : Nat) (c : Cur) : Int32 := match c with
  | .inl _ => 0
  | .inr a => if chT x a = k then 1 else 0
def takeC (x : Txt) (k : Nat) (c : Cur) : Cur := match c with
  | .inl e => .inl e
  | .inr a => if chT x a = k then .inr (sk x (a + 1)) else .inr a
theorem R_takesSign {μ : Mem} {x : Txt} {c : Cur} {k : Nat} (t : TmR μ x c) (hk : k < 256) : ∃ μ' : Mem, LX12_takesSign 125 (nI k) μ = some (takeV x k c, μ') ∧ OF tF nS μ μ' ∧ TmR μ' x (takeC x k c) := by
  unfold LX12_takesSign
  rw [if_pos t.1.1.1]
  cases c with
  | inl e =>
    obtain ⟨q1, q2⟩ := TmB.err t rfl
    rw [q1, if_neg q2]
    exact ⟨μ, rfl, OF.rf, t⟩
  | inr a =>
    obtain ⟨b, tb, hb⟩ := t.2
    rw [tb.2.1, if_pos rfl]
    obtain ⟨μ1, e1, o1, t1⟩ := R_blanks tb
    rw [hb] at t1
    have ha := t1.2.2.2.2
    have hx := t1.1.2.2.1
    have hs : sk x a = a := by rw [← hb]; exact sk_sk
    rw [e1, ob, t1.2.2.2.1, R_byte t1.1 (by omega), ob]
    unfold mX12_takesSign_30
    by_cases h : chT x a = k
    · rw [if_pos ((chI_eq hk).mpr h), if_neg (show ¬ (1 : Int32) = 0 by decide), if_pos (show (1 : Int32) = 0 ∨ (1 : Int32) = 1 from Or.inr rfl), t1.2.2.2.1, ← nI_succ, show takeV x k (.inr a) = 1 from if_pos h, show takeC x k (.inr a) = .inr (sk x (a + 1)) from if_pos h]
      have hl := chT_lt h hk
      exact ⟨_, rfl, o1.tr (OF.rf.p0 (Or.inl rfl)), (t1.go (by omega)).r⟩
    · rw [if_neg (chI_ne hk h), if_pos rfl, if_pos (show (0 : Int32) = 0 ∨ (0 : Int32) = 1 from Or.inl rfl), show takeV x k (.inr a) = 0 from if_neg h, show takeC x k (.inr a) = .inr a from if_neg h]
      exact ⟨μ1, rfl, o1, t1.rs hs⟩
