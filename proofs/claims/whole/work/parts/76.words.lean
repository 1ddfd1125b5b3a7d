/-! ===== the TAPE (class): words ===== -/
abbrev letT (c : Nat) : Prop := 97 ≤ c ∧ c ≤ 122
def letE (x : Txt) : Nat → Nat → Nat
  | 0, a => a
  | f + 1, a => if letT (chT x a) then letE x f (a + 1) else a
/-- where the letters from a on end -/
def ltE (x : Txt) (a : Nat) : Nat := letE x (x.2 - a) a
theorem letE_le {x : Txt} : ∀ (f a : Nat), x.2 - a = f → a ≤ x.2 → a ≤ letE x f a ∧ letE x f a ≤ x.2 := by
  intro f
  induction f with
  | zero => intro a _ h; exact ⟨Nat.le_refl _, h⟩
  | succ f ih =>
    intro a h1 h2
    unfold letE
    by_cases e : letT (chT x a)
    · rw [if_pos e]
      have := ih (a + 1) (by omega) (by omega)
      omega
    · rw [if_neg e]; exact ⟨Nat.le_refl _, h2⟩
abbrev isW (x : Txt) (a e : Nat) (w : List Nat) : Prop := w.length = e - a ∧ ∀ i, i < w.length → chT x (a + i) = w.getD i 0
def wordIx (x : Txt) (a e : Nat) : List (List Nat) → Nat → Option Nat
  | [], _ => none
  | w :: r, i => if isW x a e w then some i else wordIx x a e r (i + 1)
/-- what comes of a word: its place among them, where one reads on -/
def wordO (x : Txt) (a e : Nat) (o : Option Nat) : (Nat × Nat) ⊕ (Nat × Nat) := match o with
  | some i => .inr (i, sk x e)
  | none => .inl (1, a)
def wordF (x : Txt) (ws : List (List Nat)) (a : Nat) : (Nat × Nat) ⊕ (Nat × Nat) := if a < x.2 then wordO x a (ltE x a) (wordIx x a (ltE x a) ws 0) else .inl (1, a)
def wordCur (x : Txt) (ws : List (List Nat)) (c : Cur) : (Nat × Nat) ⊕ (Nat × Nat) := match c with
  | .inl e => .inl e
  | .inr a => wordF x ws a
def flatW : List (List Nat) → List Nat
  | [] => []
  | w :: r => w ++ 32 :: flatW r
/-- the characters of a word list in the class -/
def StrW (j : Nat) (ws : List (List Nat)) : Prop := j < 10 ∧ sLen j = (flatW ws).length ∧ sLen j < 1000 ∧ (∀ i, i < sLen j → ((sChr j i &&& 255).toUInt32 % 65536).toInt32 = nI ((flatW ws).getD i 0)) ∧ ∀ w, w ∈ ws → ∀ c, c ∈ w → letT c
theorem J0_len {j : Nat} {ws : List (List Nat)} (h : StrW j ws) {μ : Mem} : LJ0_length j μ = some (nI (flatW ws).length, μ) := by
  unfold LJ0_length
  rw [if_pos h.1, h.2.1]
theorem J0_chr {j i : Nat} {ws : List (List Nat)} (h : StrW j ws) (hi : i < (flatW ws).length) {μ : Mem} : LJ0_charAt j (nI i) μ = some (nI ((flatW ws).getD i 0), μ) := by
  have h3 := h.2.2.1
  have h2 := h.2.1
  unfold LJ0_charAt
  rw [if_pos ⟨h.1, nI_pos (by omega), nI_lt (by omega) (by omega)⟩, nI_clamp (n := i) (by omega), h.2.2.2.1 i (by omega)]
/-- the TAPE at the end of a word: begun at a, ended at e -/
def TpW (μ : Mem) (tp : Nat) (x : Txt) (a e : Nat) : Prop := TpS μ tp ∧ TpB μ tp x ∧ g_I μ tp 2 = 0 ∧ g_I μ tp 3 = -1 ∧ g_I μ tp 4 = nI a ∧ g_I μ tp 5 = nI e ∧ a ≤ e ∧ e ≤ x.2
theorem getD_app {l r : List Nat} {i : Nat} (h : i < l.length) : (l ++ r).getD i 0 = l.getD i 0 := by
  rw [List.getD_eq_getElem?_getD, List.getD_eq_getElem?_getD, List.getElem?_append_left h]
theorem getD_app2 {l r : List Nat} {i : Nat} : (l ++ r).getD (l.length + i) 0 = r.getD i 0 := by
  rw [List.getD_eq_getElem?_getD, List.getD_eq_getElem?_getD, List.getElem?_append_right (by omega), show l.length + i - l.length = i by omega]
theorem letT_of {ws : List (List Nat)} {w : List Nat} {j i : Nat} (h : StrW j ws) (hw : w ∈ ws) (hi : i < w.length) : letT (w.getD i 0) := by
  have : w.getD i 0 = w[i] := by rw [List.getD_eq_getElem?_getD, List.getElem?_eq_getElem hi]; rfl
  rw [this]
  exact h.2.2.2.2 w hw _ (List.getElem_mem hi)
theorem X9_isRead {μ : Mem} {tp j a e : Nat} {x : Txt} {pre r : List (List Nat)} {w : List Nat} {ws : List (List Nat)} (hS : StrW j ws) (hpre : flatW ws = flatW pre ++ (w ++ 32 :: flatW r)) (hw : w ∈ ws) (t : TpW μ tp x a e) : LX9_isRead tp j (nI (flatW pre).length) (nI w.length) μ = some (if isW x a e w then 1 else 0, μ) := by
  obtain ⟨⟨s1, s2, s3, s4⟩, ⟨b1, b2, b3⟩, c1, c2, h4, h5, hae, he⟩ := t
  have hlen : (flatW ws).length = (flatW pre).length + (w.length + ((flatW r).length + 1)) := by rw [hpre, List.length_append, List.length_append, List.length_cons]
  have h3 := hS.2.2.1
  have h2 := hS.2.1
  have loop : ∀ (f i fu : Nat), w.length = e - a → f + i = w.length → f < fu → (∀ k, k < i → chT x (a + k) = w.getD k 0) → mX9_isRead_40 fu tp j (nI (flatW pre).length) (nI w.length) (nI i) μ = some (if isW x a e w then 1 else 0, μ) := by
    intro f
    induction f with
    | zero =>
      intro i fu hwl hi hfu hk
      obtain ⟨fu, rfl⟩ : ∃ q, fu = q + 1 := ⟨fu - 1, by omega⟩
      have hi : i = w.length := by omega
      subst hi
      rw [mX9_isRead_40, if_pos (nI_le (Nat.le_refl _) (by omega)), if_pos (show isW x a e w from ⟨hwl, hk⟩)]
    | succ f ih =>
      intro i fu hwl hi hfu hk
      obtain ⟨fu, rfl⟩ : ∃ q, fu = q + 1 := ⟨fu - 1, by omega⟩
      have hae' : a + i < x.2 := by omega
      rw [mX9_isRead_40, if_neg (nI_ge (show i < w.length by omega) (by omega)), h4, s2, nI_add, nI_add, if_pos (isK_p s3), if_pos (inA_n s3 s4 (by omega) (by decide)), if_pos hS.1, J0_chr hS (by omega), ob, nI_clamp (n := a + i) (by omega), b1 _ hae', ← nI_succ]
      have hg : (flatW ws).getD ((flatW pre).length + i) 0 = w.getD i 0 := by rw [hpre, getD_app2, getD_app (by omega)]
      have hl := letT_of hS hw (show i < w.length by omega)
      rw [hg]
      have hch : chT x (a + i) = (x.1 (a + i)).toUInt8.toNat := if_pos hae'
      by_cases e1 : chT x (a + i) = w.getD i 0
      · rw [if_pos ((byte_eq (by obtain ⟨l1, l2⟩ := hl; omega)).mpr (hch ▸ e1))]
        refine ih (i + 1) fu hwl (by omega) (by omega) fun k hk' => ?_
        by_cases ek : k = i
        · rw [ek]; exact e1
        · exact hk k (by omega)
      · rw [if_neg (fun z => e1 (hch.trans ((byte_eq (by obtain ⟨l1, l2⟩ := hl; omega)).mp z))), if_neg (show ¬ isW x a e w from fun z => e1 (z.2 i (by omega)))]
  unfold LX9_isRead
  rw [if_pos s1, h4, h5, nI_sub hae]
  by_cases hwl : w.length = e - a
  · rw [if_pos (by rw [hwl]), if_pos hS.1, J0_len hS, ob, nI_add, if_neg (nI_nlt (by omega) (by omega)), h4, nI_add, if_pos (show nI (a + w.length) ≤ (600 : Int32) from nI_le (b := 600) (by omega) (by decide))]
    exact loop w.length 0 100000 hwl rfl (by omega) (fun k hk => absurd hk (Nat.not_lt_zero _))
  · rw [if_neg (fun z => hwl ((nI_eq (by omega) (by omega)).mp z)), if_neg (show ¬ isW x a e w from fun z => hwl z.1)]
theorem TpW.r {μ : Mem} {tp a e : Nat} {x : Txt} (t : TpW μ tp x a e) : TpR μ tp x (.inr (sk x e)) := by
  obtain ⟨s, b, c1, c2, h4, h5, hae, he⟩ := t
  exact ⟨s, b, c1, c2, sk_sk, sk_le he, e, he, h5, rfl⟩
theorem X9_wordL {μ : Mem} {tp j a e : Nat} {x : Txt} {ws : List (List Nat)} (hS : StrW j ws) (t : TpW μ tp x a e) : ∀ (r pre : List (List Nat)), flatW ws = flatW pre ++ flatW r → (∀ w, w ∈ r → w ∈ ws) → ∀ (i fu : Nat), (flatW r).length < fu → i + r.length < 1000 →
    ∃ (μ' : Mem) (z : Int32), mX9_word_59 fu tp j (nI i) (nI (flatW pre).length) (nI (flatW pre).length) μ = some (z, μ') ∧ Out (fun h => h = tp) μ μ' ∧ TpR μ' tp x (numC (wordO x a e (wordIx x a e r i))) ∧ (match wordIx x a e r i with | some k => z = nI k ∧ g_I μ' tp 4 = nI a | none => z = -1) := by
  have h3 := hS.2.2.1
  have h2 := hS.2.1
  intro r
  induction r with
  | nil =>
    intro pre hpre hsub i fu hfu hir
    obtain ⟨fu, rfl⟩ : ∃ q, fu = q + 1 := ⟨fu - 1, by omega⟩
    have hl : (flatW ws).length = (flatW pre).length := by rw [hpre, List.length_append]; rfl
    rw [mX9_word_59, if_pos hS.1, J0_len hS, ob, if_pos (nI_le (by omega) (by omega)), t.2.2.2.2.1]
    obtain ⟨μ2, e2, o2, r2⟩ := X9_fail (k := 1) (p := a) t.r (by decide) (by decide)
    have e2 : LX9_fail tp (1 : Int32) (nI a) μ = some ((), μ2) := e2
    rw [e2, ob]
    exact ⟨μ2, -1, rfl, o2, r2, rfl⟩
  | cons w r ih =>
    intro pre hpre hsub i fu hfu hir
    have hw : w ∈ ws := hsub w (List.mem_cons_self ..)
    have hpre' : flatW ws = flatW pre ++ (w ++ 32 :: flatW r) := hpre
    have hlen : (flatW ws).length = (flatW pre).length + (w.length + ((flatW r).length + 1)) := by rw [hpre', List.length_append, List.length_append, List.length_cons]
    have hfr : (flatW (w :: r)).length = w.length + ((flatW r).length + 1) := by show (w ++ 32 :: flatW r).length = _; rw [List.length_append, List.length_cons]
    rw [hfr] at hfu
    -- along the word
    have walk : ∀ (f k fu : Nat), f + k = w.length → f + (flatW r).length + 1 < fu → ∃ (μ' : Mem) (z : Int32), mX9_word_59 fu tp j (nI i) (nI (flatW pre).length) (nI ((flatW pre).length + k)) μ = some (z, μ') ∧ Out (fun h => h = tp) μ μ' ∧ TpR μ' tp x (numC (wordO x a e (wordIx x a e (w :: r) i))) ∧ (match wordIx x a e (w :: r) i with | some k => z = nI k ∧ g_I μ' tp 4 = nI a | none => z = -1) := by
      intro f
      induction f with
      | zero =>
        intro k fu hk hfu
        obtain ⟨fu, rfl⟩ : ∃ q, fu = q + 1 := ⟨fu - 1, by omega⟩
        have hk : k = w.length := by omega
        subst hk
        have hg : (flatW ws).getD ((flatW pre).length + w.length) 0 = 32 := by
          have := getD_app2 (l := w) (r := 32 :: flatW r) (i := 0)
          rw [hpre', getD_app2]
          exact this
        rw [mX9_word_59, if_pos hS.1, J0_len hS, ob, if_neg (nI_ge (by omega) (by omega)), if_pos hS.1, J0_chr hS (by omega), ob, hg, if_pos (show nI 32 = (32 : Int32) from rfl), nI_sub (show (flatW pre).length ≤ (flatW pre).length + w.length by omega), Nat.add_sub_cancel_left, X9_isRead hS hpre' hw t, ob]
        unfold wordIx
        by_cases c : isW x a e w
        · rw [if_pos c, if_neg (by decide), if_pos c]
          exact ⟨μ, nI i, rfl, Out.rf, t.r, rfl, t.2.2.2.2.1⟩
        · rw [if_neg c, if_pos rfl, if_neg c, ← nI_succ, ← nI_succ]
          have hp2 : flatW (pre ++ [w]) = flatW pre ++ (w ++ [32]) := by
            clear ih hpre hpre' hlen hg
            induction pre with
            | nil => rfl
            | cons p q ihq =>
              show p ++ 32 :: flatW (q ++ [w]) = (p ++ 32 :: flatW q) ++ (w ++ [32])
              rw [ihq, List.append_assoc]
              rfl
          have hlp : (flatW (pre ++ [w])).length = (flatW pre).length + w.length + 1 := by rw [hp2, List.length_append, List.length_append]; rfl
          obtain ⟨μ', z, e3, o3, r3, g3⟩ := ih (pre ++ [w]) (by rw [hp2, hpre', List.append_assoc, List.append_assoc]; rfl) (fun v hv => hsub v (List.mem_cons_of_mem _ hv)) (i + 1) fu (by omega) (by rw [List.length_cons] at hir; omega)
          rw [hlp] at e3
          exact ⟨μ', z, e3, o3, r3, g3⟩
      | succ f ihf =>
        intro k fu hk hfu
        obtain ⟨fu, rfl⟩ : ∃ q, fu = q + 1 := ⟨fu - 1, by omega⟩
        have hl := letT_of hS hw (show k < w.length by omega)
        have hg : (flatW ws).getD ((flatW pre).length + k) 0 = w.getD k 0 := by rw [hpre', getD_app2, getD_app (by omega)]
        rw [mX9_word_59, if_pos hS.1, J0_len hS, ob, if_neg (nI_ge (by omega) (by omega)), if_pos hS.1, J0_chr hS (by omega), ob, hg, if_neg (show ¬ nI (w.getD k 0) = (32 : Int32) from fun z => by have := (nI_eq (b := 32) (by obtain ⟨l1, l2⟩ := hl; omega) (by decide)).mp z; obtain ⟨l1, l2⟩ := hl; omega), ← nI_succ, Nat.add_assoc]
        exact ihf (k + 1) fu (by omega) (by omega)
    have := walk w.length 0 fu rfl (by omega)
    rw [Nat.add_zero] at this
    exact this
theorem X9_isLetter {x : Txt} {a : Nat} {μ : Mem} : LX9_isLetter (chI x a) μ = some (if letT (chT x a) then 1 else 0, μ) := by
  unfold LX9_isLetter chI
  by_cases e : a < x.2
  · have h2 := chT_256 e
    rw [if_pos e]
    by_cases h : letT (chT x a)
    · obtain ⟨h3, h4⟩ := id h
      rw [if_pos h, if_neg (show ¬ nI (chT x a) < (97 : Int32) from nI_nlt (b := 97) h3 (by omega)), if_neg (show ¬ (122 : Int32) < nI (chT x a) from nI_nlt (a := 122) h4 (by decide))]
    · rw [if_neg h]
      by_cases h5 : chT x a < 97
      · rw [if_pos (show nI (chT x a) < (97 : Int32) from nI_lt h5 (by decide))]
      · rw [if_neg (show ¬ nI (chT x a) < (97 : Int32) from nI_nlt (b := 97) (by omega) (by omega)), if_pos (show (122 : Int32) < nI (chT x a) from nI_lt (a := 122) (by omega) (by omega))]
  · rw [if_neg e, chT_end e, if_pos (by decide), if_neg (by decide)]
theorem X9_word18 {tp j a : Nat} {x : Txt} {ws : List (List Nat)} (hS : StrW j ws) (hlen : ws.length < 900) : ∀ (f c fu : Nat) (μ : Mem), TpW μ tp x a c → x.2 - c = f → f < fu →
    ∃ (μ' : Mem) (z : Int32), mX9_word_18 fu tp j μ = some (z, μ') ∧ Out (fun h => h = tp) μ μ' ∧ TpR μ' tp x (numC (wordO x a (letE x f c) (wordIx x a (letE x f c) ws 0))) ∧ (match wordIx x a (letE x f c) ws 0 with | some k => z = nI k ∧ g_I μ' tp 4 = nI a | none => z = -1) := by
  have last : ∀ (c : Nat) (μ : Mem), TpW μ tp x a c → ∃ (μ' : Mem) (z : Int32), mX9_word_52 tp j μ = some (z, μ') ∧ Out (fun h => h = tp) μ μ' ∧ TpR μ' tp x (numC (wordO x a c (wordIx x a c ws 0))) ∧ (match wordIx x a c ws 0 with | some k => z = nI k ∧ g_I μ' tp 4 = nI a | none => z = -1) := by
    intro c μ t
    exact X9_wordL hS t ws [] rfl (fun _ h => h) 0 100000 (by have := hS.2.2.1; have := hS.2.1; omega) (by omega)
  intro f
  induction f with
  | zero =>
    intro c fu μ t hc hfu
    obtain ⟨fu, rfl⟩ : ∃ q, fu = q + 1 := ⟨fu - 1, by omega⟩
    obtain ⟨s, b, c1, c2, h4, h5, hae, he⟩ := id t
    have hN := b.2.2
    rw [mX9_word_18, b.2.1, h5, if_pos (nI_le (by omega) (by omega))]
    exact last c μ t
  | succ f ih =>
    intro c fu μ t hc hfu
    obtain ⟨fu, rfl⟩ : ∃ q, fu = q + 1 := ⟨fu - 1, by omega⟩
    obtain ⟨s, b, c1, c2, h4, h5, hae, he⟩ := id t
    have hN := b.2.2
    have hl : c < x.2 := by omega
    rw [mX9_word_18, b.2.1, h5, if_neg (nI_ge hl (by omega)), X9_byteHere s b h5 hl, ob, X9_isLetter, ob]
    by_cases e : letT (chT x c)
    · have hd : letE x (f + 1) c = letE x f (c + 1) := if_pos e
      rw [if_pos e, if_neg (by decide), h5, ← nI_succ, hd]
      have o : Out (fun h => h = tp) μ (p_I μ tp 5 (nI (c + 1))) := (Out.rf (S := fun h => h = tp)).pI rfl
      obtain ⟨s1, s2, s3, s4⟩ := id s
      obtain ⟨b1, b2, b3⟩ := id b
      obtain ⟨μ', z, e3, o3, r3, g3⟩ := ih (c + 1) fu (p_I μ tp 5 (nI (c + 1))) ⟨⟨s1, s2, s3, s4⟩, ⟨fun k hk => by rw [gI_h (by omega)]; exact b1 k hk, by rw [gI_k (by decide)]; exact b2, b3.1, by rw [gI_k (by decide)]; exact b3.2⟩, by rw [gI_k (by decide)]; exact c1, by rw [gI_k (by decide)]; exact c2, by rw [gI_k (by decide)]; exact h4, gI_s, by omega, by omega⟩ (by omega) (by omega)
      exact ⟨μ', z, e3, o.tr o3, r3, g3⟩
    · have hd : letE x (f + 1) c = c := if_neg e
      rw [if_neg e, if_pos rfl, hd]
      exact last c μ t
theorem X9_word {μ : Mem} {tp j : Nat} {x : Txt} {ws : List (List Nat)} {c : Cur} (hS : StrW j ws) (hlen : ws.length < 900) (r : TpR μ tp x c) : ∃ (μ' : Mem) (z : Int32), LX9_word tp j μ = some (z, μ') ∧ Out (fun h => h = tp) μ μ' ∧ TpR μ' tp x (numC (wordCur x ws c)) ∧ (match wordCur x ws c with | .inl _ => z = -1 | .inr v => z = nI v.1 ∧ ∀ a, c = .inr a → g_I μ' tp 4 = nI a) := by
  unfold LX9_word
  rw [if_pos r.1.1]
  obtain ⟨μ1, e1, o1, r1, g1⟩ := X9_more r
  rw [e1, ob]
  match c, r, r1, g1 with
  | .inl e, r, r1, g1 =>
    rw [if_pos (show moreF x (.inl e) = 0 from rfl)]
    obtain ⟨c1, c2, c3, c4⟩ := r1.2.2
    unfold LX9_fail
    rw [if_pos r1.1.1, c1, if_neg (nI_ne0 c2 (by omega)), ob]
    exact ⟨μ1, -1, rfl, o1, r1, rfl⟩
  | .inr a, r, r1, g1 =>
    obtain ⟨g4, g5⟩ := g1 a rfl
    obtain ⟨c1, c2, c3, c4, c5⟩ := r1.2.2
    by_cases e : a < x.2
    · rw [show moreF x (.inr a) = 1 from if_pos e, if_neg (by decide)]
      obtain ⟨μ', z, e2, o2, r2, g2⟩ := X9_word18 hS hlen (x.2 - a) a 100000 μ1 ⟨r1.1, r1.2.1, c1, c2, g4, g5, Nat.le_refl _, c4⟩ rfl (by have := r1.2.1.2.2; omega)
      have hw : wordCur x ws (.inr a) = wordO x a (ltE x a) (wordIx x a (ltE x a) ws 0) := if_pos e
      rw [hw]
      refine ⟨μ', z, e2, o1.tr o2, r2, ?_⟩
      unfold ltE
      revert g2
      cases wordIx x a (letE x (x.2 - a) a) ws 0 with
      | none => intro g2; exact g2
      | some k => intro g2; exact ⟨g2.1, fun b h => by cases h; exact g2.2⟩
    · rw [show moreF x (.inr a) = 0 from if_neg e, if_pos rfl, g4]
      have hw : wordCur x ws (.inr a) = .inl (1, a) := if_neg e
      rw [hw]
      obtain ⟨μ2, e2, o2, r2⟩ := X9_fail (k := 1) (p := a) r1 (by decide) (by decide)
      have e2 : LX9_fail tp (1 : Int32) (nI a) μ1 = some ((), μ2) := e2
      rw [e2, ob]
      exact ⟨μ2, -1, rfl, o1.tr o2, r2, rfl⟩
