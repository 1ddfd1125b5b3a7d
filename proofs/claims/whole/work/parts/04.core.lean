/-! ===== CORE: a world of numbered things ('handles'), pure, and its relation to the heap ===== -/
/-- ints, longs, doubles, references (0: none) by handle and place; kind of each handle, length; handles made, cells made, slots made -/
abbrev Mem : Type := (Nat → Nat → Int32) × (Nat → Nat → Int64) × (Nat → Nat → UInt64) × (Nat → Nat → Nat) × (Nat → Nat) × (Nat → Nat) × (Nat × Nat × Nat)
def g_I (μ : Mem) : Nat → Nat → Int32 := μ.1
def g_L (μ : Mem) : Nat → Nat → Int64 := μ.2.1
def g_D (μ : Mem) : Nat → Nat → UInt64 := μ.2.2.1
def g_R (μ : Mem) : Nat → Nat → Nat := μ.2.2.2.1
def g_K (μ : Mem) : Nat → Nat := μ.2.2.2.2.1
def g_N (μ : Mem) : Nat → Nat := μ.2.2.2.2.2.1
def g_n (μ : Mem) : Nat := μ.2.2.2.2.2.2.1
def g_c (μ : Mem) : Nat := μ.2.2.2.2.2.2.2.1
def g_w (μ : Mem) : Nat := μ.2.2.2.2.2.2.2.2
def up2 {α : Type} (f : Nat → Nat → α) (h k : Nat) (v : α) : Nat → Nat → α := fun a b => if a = h then (if b = k then v else f a b) else f a b
def up1 (f : Nat → Nat) (h v : Nat) : Nat → Nat := fun a => if a = h then v else f a
def p_I (μ : Mem) (h k : Nat) (v : Int32) : Mem := (up2 μ.1 h k v, μ.2)
def p_L (μ : Mem) (h k : Nat) (v : Int64) : Mem := (μ.1, up2 μ.2.1 h k v, μ.2.2)
def p_D (μ : Mem) (h k : Nat) (v : UInt64) : Mem := (μ.1, μ.2.1, up2 μ.2.2.1 h k v, μ.2.2.2)
def p_R (μ : Mem) (h k : Nat) (v : Nat) : Mem := (μ.1, μ.2.1, μ.2.2.1, up2 μ.2.2.2.1 h k v, μ.2.2.2.2)
/-- a new thing of kind c, length len, of so many slots -/
def p_new (μ : Mem) (c len slots : Nat) : Mem := (μ.1, μ.2.1, μ.2.2.1, μ.2.2.2.1, up1 μ.2.2.2.2.1 (μ.2.2.2.2.2.2.1 + 1) c, up1 μ.2.2.2.2.2.1 (μ.2.2.2.2.2.2.1 + 1) len, (μ.2.2.2.2.2.2.1 + 1, μ.2.2.2.2.2.2.2.1 + 1, μ.2.2.2.2.2.2.2.2 + slots))
/-- cells and slots that no handle has -/
def p_lost (μ : Mem) (c w : Nat) : Mem := (μ.1, μ.2.1, μ.2.2.1, μ.2.2.2.1, μ.2.2.2.2.1, μ.2.2.2.2.2.1, (μ.2.2.2.2.2.2.1, μ.2.2.2.2.2.2.2.1 + c, μ.2.2.2.2.2.2.2.2 + w))
def isK (μ : Mem) (h c : Nat) : Bool := decide (0 < h) && decide (h ≤ g_n μ) && decide (g_K μ h = c)
def inA (μ : Mem) (h c : Nat) (i : Int32) : Bool := isK μ h c && decide (0 ≤ i.toInt) && decide (i.toInt < (g_N μ h : Int))
theorem isK_iff {μ : Mem} {h c : Nat} : isK μ h c = true ↔ 0 < h ∧ h ≤ g_n μ ∧ g_K μ h = c := by simp [isK, and_assoc]
theorem inA_iff {μ : Mem} {h c : Nat} {i : Int32} : inA μ h c i = true ↔ isK μ h c = true ∧ vp_in i (g_N μ h) := by
  simp only [inA, Bool.and_eq_true, decide_eq_true_eq, vp_in_iff, and_assoc]
/-- what a run may do to the world -/
def Mono (μ μ' : Mem) : Prop := g_n μ ≤ g_n μ' ∧ g_c μ ≤ g_c μ' ∧ g_w μ ≤ g_w μ' ∧ ∀ h : Nat, h ≤ g_n μ → g_K μ' h = g_K μ h ∧ g_N μ' h = g_N μ h
theorem Mono.rf {μ : Mem} : Mono μ μ := ⟨Nat.le_refl _, Nat.le_refl _, Nat.le_refl _, fun _ _ => ⟨rfl, rfl⟩⟩
theorem Mono.tr {μ ν ρ : Mem} (h1 : Mono μ ν) (h2 : Mono ν ρ) : Mono μ ρ := ⟨Nat.le_trans h1.1 h2.1, Nat.le_trans h1.2.1 h2.2.1, Nat.le_trans h1.2.2.1 h2.2.2.1, fun h hh => ⟨(h2.2.2.2 h (Nat.le_trans hh h1.1)).1.trans (h1.2.2.2 h hh).1, (h2.2.2.2 h (Nat.le_trans hh h1.1)).2.trans (h1.2.2.2 h hh).2⟩⟩
theorem isK.mo {μ μ' : Mem} {h c : Nat} (hk : isK μ h c = true) (hm : Mono μ μ') : isK μ' h c = true := by
  obtain ⟨h1, h2, h3⟩ := isK_iff.mp hk
  exact isK_iff.mpr ⟨h1, Nat.le_trans h2 hm.1, (hm.2.2.2 h h2).1.trans h3⟩
theorem Mono.new {μ : Mem} {c len w : Nat} : Mono μ (p_new μ c len w) := by
  refine ⟨Nat.le_succ _, Nat.le_succ _, Nat.le_add_right _ _, fun h hh => ?_⟩
  have : ¬ h = μ.2.2.2.2.2.2.1 + 1 := by
    have : h ≤ μ.2.2.2.2.2.2.1 := hh
    omega
  exact ⟨if_neg this, if_neg this⟩
theorem Mono.lost {μ : Mem} {c w : Nat} : Mono μ (p_lost μ c w) := ⟨Nat.le_refl _, Nat.le_add_right _ _, Nat.le_add_right _ _, fun _ _ => ⟨rfl, rfl⟩⟩
/-- references are handles that were made; what wasn't made holds nothing -/
def Okm (μ : Mem) : Prop := (∀ h k, g_R μ h k ≤ g_n μ) ∧ (∀ h k, g_n μ < h → g_I μ h k = 0 ∧ g_L μ h k = 0 ∧ g_D μ h k = 0 ∧ g_R μ h k = 0) ∧ ∀ h k, g_K μ h = 13 → fits .byte (.int (g_I μ h k)) = true
theorem up2_z {α : Type} {f : Nat → Nat → α} {h k a b : Nat} {v z : α} {n : Nat} (hh : h ≤ n) (ha : n < a) (hf : f a b = z) : up2 f h k v a b = z := by
  have : ¬ a = h := by omega
  simp [up2, this, hf]
theorem Okm.pI {μ : Mem} {h k : Nat} {v : Int32} (ho : Okm μ) (hh : h ≤ g_n μ) (hb : g_K μ h = 13 → fits .byte (.int v) = true) : Okm (p_I μ h k v) := by
  refine ⟨ho.1, fun a b hl => ⟨up2_z hh hl (ho.2.1 a b hl).1, (ho.2.1 a b hl).2⟩, fun a b hk => ?_⟩
  show fits .byte (.int (up2 μ.1 h k v a b)) = true
  unfold up2
  split
  next e =>
    split
    · exact hb (e ▸ hk)
    · exact ho.2.2 a b hk
  next => exact ho.2.2 a b hk
theorem Okm.pL {μ : Mem} {h k : Nat} {v : Int64} (ho : Okm μ) (hh : h ≤ g_n μ) : Okm (p_L μ h k v) := ⟨ho.1, fun a b hl => ⟨(ho.2.1 a b hl).1, up2_z hh hl (ho.2.1 a b hl).2.1, (ho.2.1 a b hl).2.2⟩, ho.2.2⟩
theorem Okm.pD {μ : Mem} {h k : Nat} {v : UInt64} (ho : Okm μ) (hh : h ≤ g_n μ) : Okm (p_D μ h k v) := ⟨ho.1, fun a b hl => ⟨(ho.2.1 a b hl).1, (ho.2.1 a b hl).2.1, up2_z hh hl (ho.2.1 a b hl).2.2.1, (ho.2.1 a b hl).2.2.2⟩, ho.2.2⟩
theorem Okm.pR {μ : Mem} {h k v : Nat} (ho : Okm μ) (hh : h ≤ g_n μ) (hv : v ≤ g_n μ) : Okm (p_R μ h k v) := by
  refine ⟨fun a b => ?_, fun a b hl => ⟨(ho.2.1 a b hl).1, (ho.2.1 a b hl).2.1, (ho.2.1 a b hl).2.2.1, up2_z hh hl (ho.2.1 a b hl).2.2.2⟩, ho.2.2⟩
  show up2 μ.2.2.2.1 h k v a b ≤ g_n μ
  unfold up2
  split
  · split
    · exact hv
    · exact ho.1 a b
  · exact ho.1 a b
theorem Okm.new {μ : Mem} {c len w : Nat} (ho : Okm μ) : Okm (p_new μ c len w) := by
  refine ⟨fun a b => Nat.le_succ_of_le (ho.1 a b), fun a b hl => ho.2.1 a b (Nat.lt_of_succ_lt hl), fun a b hk => ?_⟩
  by_cases ha : a = g_n μ + 1
  · have : g_I (p_new μ c len w) a b = 0 := (ho.2.1 a b (by omega)).1
    rw [this]
    rfl
  · have h1 : g_K (p_new μ c len w) a = g_K μ a := if_neg ha
    exact ho.2.2 a b (h1 ▸ hk)
theorem Okm.lost {μ : Mem} {c w : Nat} (ho : Okm μ) : Okm (p_lost μ c w) := ho
-- the classes whose objects the worlds hold, by kind
abbrev clL : List vw_C := [(RX0, TX0, 3), (RX1, TX1, 2), (RX2, TX2, 6), (RX3, TX3, 8), (RX4, TX4, 5), (RX5, TX5, 8), (RX6, TX6, 7), (RX7, TX7, 2), (RX8, TX8, 5), (RX9, TX9, 7), (RX10, TX10, 9), (RX11, TX11, 18), (RX12, TX12, 47)]
/-- of each kind of object, which fields are references -/
def fko (c : Nat) : List Bool := match c with
  | 0 => [true, true, false]
  | 1 => [true, false]
  | 2 => [true, true, true, true, false, false]
  | 3 => [false, true, true, true, false, true, true, false]
  | 4 => [true, true, true, false, true]
  | 5 => [false, false, false, false, false, true, true, true]
  | 6 => [true, false, false, true, true, true, false]
  | 7 => [true, false]
  | 8 => [true, false, false, false, false]
  | 9 => [true, false, false, false, false, false, false]
  | 10 => [true, true, true, true, true, false, false, false, false]
  | 11 => [true, true, true, true, true, true, true, true, true, true, true, true, true, true, true, true, true, false]
  | 12 => [false, false, false, false, false, false, false, false, false, true, true, true, true, true, true, true, true, false, false, true, true, true, true, true, true, true, true, true, false, true, true, true, true, false, false, false, false, false, false, false, false, true, true, false, false, true, false]
  | _ => []
/-- the classes by kind, their slots, the array classes by kind, where the string constants lie -/
abbrev Gx : Type := (Nat → ClassId) × (Nat → Nat → Nat) × (Nat → ClassId) × (Nat → Nat)
abbrev gDI (g : Gx) : va_G := (g.1, g.2.1)
/-- the array classes: byte, double, int, long, Pen, State, int[] -/
abbrev tysL (g : Gx) : List (ClassId × FieldType) := [(g.2.2.1 13, .byte), (g.2.2.1 14, .double), (g.2.2.1 15, .int), (g.2.2.1 16, .long), (g.2.2.1 17, .object RX5), (g.2.2.1 18, .object RX8), (g.2.2.1 19, .array .int)]
def ro (ad : Nat → Nat) (r : Nat) : Option Nat := if r = 0 then none else some (ad r)
/-- a field's value -/
def fval (ad : Nat → Nat) (fI : Nat → Int32) (fR : Nat → Nat) (k : Nat) (b : Bool) : Value := if b = true then va_rf (ro ad (fR k)) else .int (fI k)
def fvs (ad : Nat → Nat) (fI : Nat → Int32) (fR : Nat → Nat) (c : Nat) : List Value := (fko c).zipIdx.map (fun q => fval ad fI fR q.2 q.1)
def enf (g : Gx) (ad : Nat → Nat) (K N : Nat) (fI : Nat → Int32) (fL : Nat → Int64) (fD : Nat → UInt64) (fR : Nat → Nat) : va_E :=
  if K = 13 then .inl (g.2.2.1 13, N, .inl fI)
  else if K = 14 then .inl (g.2.2.1 14, N, .inr (.inr (.inr (.inl fD))))
  else if K = 15 then .inl (g.2.2.1 15, N, .inl fI)
  else if K = 16 then .inl (g.2.2.1 16, N, .inr (.inl fL))
  else if 16 < K then .inl (g.2.2.1 K, N, .inr (.inr (.inr (.inr (fun j => ro ad (fR j))))))
  else .inr (K, fvs ad fI fR K)
/-- what stands at a handle -/
def en (g : Gx) (ad : Nat → Nat) (μ : Mem) (h : Nat) : va_E := enf g ad (g_K μ h) (g_N μ h) (g_I μ h) (g_L μ h) (g_D μ h) (g_R μ h)
def wl (g : Gx) (ad : Nat → Nat) (μ : Mem) : va_W := (List.range (g_n μ)).map (fun j => (ad (j + 1), en g ad μ (j + 1)))
theorem wl_at {g : Gx} {ad : Nat → Nat} {μ : Mem} {h : Nat} (h0 : 0 < h) (hn : h ≤ g_n μ) : (wl g ad μ)[h - 1]? = some (ad h, en g ad μ h) := by
  have h1 : h - 1 < g_n μ := by omega
  have h2 : h - 1 + 1 = h := by omega
  simp [wl, h1, h2]
theorem wl_set {g : Gx} {ad : Nat → Nat} {μ μ' : Mem} {h : Nat} {e : va_E} (h0 : 0 < h) (hn : g_n μ' = g_n μ) (he : en g ad μ' h = e) (ho : ∀ a, a ≠ h → en g ad μ' a = en g ad μ a) : (wl g ad μ).set (h - 1) (ad h, e) = wl g ad μ' := by
  apply List.ext_getElem?
  intro i
  rw [List.getElem?_set]
  have hl : (wl g ad μ).length = g_n μ := by simp [wl]
  rw [hl]
  by_cases hi : h - 1 = i
  · subst hi
    rw [if_pos rfl]
    have h2 : h - 1 + 1 = h := by omega
    by_cases hq : h - 1 < g_n μ
    · rw [if_pos hq]
      simp [wl, hn, hq, h2, he]
    · rw [if_neg hq]
      symm
      apply List.getElem?_eq_none
      simp only [wl, List.length_map, List.length_range, hn]
      omega
  · rw [if_neg hi]
    simp only [wl, List.getElem?_map, hn]
    by_cases hq : i < g_n μ
    · rw [List.getElem?_range hq]
      simp only [Option.map_some]
      rw [ho (i + 1) (by omega)]
    · rw [List.getElem?_eq_none (by simp; omega)]
      rfl
/-- with one thing more, at the address q -/
def ext1 (ad : Nat → Nat) (n q : Nat) : Nat → Nat := fun a => if a = n then q else ad a
theorem ro_ext {ad : Nat → Nat} {n q r : Nat} (h : r ≤ n) : ro (ext1 ad (n + 1) q) r = ro ad r := by
  have : ¬ r = n + 1 := by omega
  simp [ro, ext1, this]
theorem fvs_ext {ad : Nat → Nat} {n q c : Nat} {fI : Nat → Int32} {fR : Nat → Nat} (ho : ∀ k, fR k ≤ n) : fvs (ext1 ad (n + 1) q) fI fR c = fvs ad fI fR c := by
  unfold fvs
  apply List.map_congr_left
  intro x _
  unfold fval
  rw [ro_ext (ho _)]
theorem en_ext {g : Gx} {ad : Nat → Nat} {μ : Mem} {q h : Nat} (ho : Okm μ) : en g (ext1 ad (g_n μ + 1) q) μ h = en g ad μ h := by
  unfold en enf
  have e1 : (fun j => ro (ext1 ad (g_n μ + 1) q) (g_R μ h j)) = fun j => ro ad (g_R μ h j) := funext fun j => ro_ext (ho.1 _ _)
  rw [e1, fvs_ext (ho.1 h)]
theorem en_new {g : Gx} {ad : Nat → Nat} {μ : Mem} {c len w h : Nat} (hh : h ≤ g_n μ) : en g ad (p_new μ c len w) h = en g ad μ h := by
  have hne : ¬ h = μ.2.2.2.2.2.2.1 + 1 := by
    have : h ≤ μ.2.2.2.2.2.2.1 := hh
    omega
  have e1 : g_K (p_new μ c len w) h = g_K μ h := if_neg hne
  have e2 : g_N (p_new μ c len w) h = g_N μ h := if_neg hne
  unfold en
  rw [e1, e2]
  rfl
theorem wl_push {g : Gx} {ad : Nat → Nat} {μ : Mem} {q c len w : Nat} {e : va_E} (ho : Okm μ) (he : en g (ext1 ad (g_n μ + 1) q) (p_new μ c len w) (g_n μ + 1) = e) : wl g ad μ ++ [(q, e)] = wl g (ext1 ad (g_n μ + 1) q) (p_new μ c len w) := by
  have hn : g_n (p_new μ c len w) = g_n μ + 1 := rfl
  unfold wl
  rw [hn, List.range_succ, List.map_append]
  congr 1
  · apply List.map_congr_left
    intro j hj
    have hj : j < g_n μ := List.mem_range.mp hj
    have h1 : ¬ j = g_n μ := by omega
    rw [en_new (by omega), en_ext ho]
    simp [ext1, h1]
  · simp only [List.map_cons, List.map_nil]
    rw [he]
    simp [ext1]
theorem wl_lost {g : Gx} {ad : Nat → Nat} {μ : Mem} {c w : Nat} : wl g ad (p_lost μ c w) = wl g ad μ := rfl
theorem fvs_len {ad : Nat → Nat} {fI : Nat → Int32} {fR : Nat → Nat} {c : Nat} : (fvs ad fI fR c).length = (fko c).length := by simp [fvs]
theorem fvs_at {ad : Nat → Nat} {fI : Nat → Int32} {fR : Nat → Nat} {c k : Nat} {b : Bool} (hb : (fko c)[k]? = some b) : (fvs ad fI fR c)[k]? = some (fval ad fI fR k b) := by
  unfold fvs
  rw [List.getElem?_map, List.getElem?_zipIdx, hb]
  simp
theorem fvs_set {ad : Nat → Nat} {fI fI' : Nat → Int32} {fR fR' : Nat → Nat} {c k : Nat} {v : Value} (hv : ∀ b, (fko c)[k]? = some b → fval ad fI' fR' k b = v) (ho : ∀ j b, j ≠ k → fval ad fI' fR' j b = fval ad fI fR j b) : (fvs ad fI fR c).set k v = fvs ad fI' fR' c := by
  apply List.ext_getElem?
  intro i
  rw [List.getElem?_set, fvs_len]
  unfold fvs
  by_cases hi : k = i
  · subst hi
    rw [if_pos rfl]
    by_cases hq : k < (fko c).length
    · rw [if_pos hq, List.getElem?_map, List.getElem?_zipIdx, List.getElem?_eq_getElem hq]
      simp only [Option.map_some, Nat.zero_add]
      rw [hv _ (List.getElem?_eq_getElem hq)]
    · rw [if_neg hq, List.getElem?_map, List.getElem?_zipIdx, List.getElem?_eq_none (by omega)]
      rfl
  · rw [if_neg hi, List.getElem?_map, List.getElem?_map, List.getElem?_zipIdx]
    cases hx : (fko c)[i]? with
    | none => rfl
    | some b =>
      simp only [Option.map_some, Nat.zero_add]
      rw [ho i b (fun e => hi e.symm)]
theorem en_O {g : Gx} {ad : Nat → Nat} {μ : Mem} {h c : Nat} (hk : g_K μ h = c) (hc : c < 13) : en g ad μ h = .inr (c, fvs ad (g_I μ h) (g_R μ h) c) := by
  unfold en enf
  rw [hk, if_neg (by omega), if_neg (by omega), if_neg (by omega), if_neg (by omega), if_neg (by omega)]
theorem en_B {g : Gx} {ad : Nat → Nat} {μ : Mem} {h : Nat} (hk : g_K μ h = 13) : en g ad μ h = .inl (g.2.2.1 13, g_N μ h, .inl (g_I μ h)) := by
  unfold en enf
  rw [if_pos hk]
theorem en_D {g : Gx} {ad : Nat → Nat} {μ : Mem} {h : Nat} (hk : g_K μ h = 14) : en g ad μ h = .inl (g.2.2.1 14, g_N μ h, .inr (.inr (.inr (.inl (g_D μ h))))) := by
  unfold en enf
  rw [hk, if_neg (by omega), if_pos rfl]
theorem en_I {g : Gx} {ad : Nat → Nat} {μ : Mem} {h : Nat} (hk : g_K μ h = 15) : en g ad μ h = .inl (g.2.2.1 15, g_N μ h, .inl (g_I μ h)) := by
  unfold en enf
  rw [hk, if_neg (by omega), if_neg (by omega), if_pos rfl]
theorem en_L {g : Gx} {ad : Nat → Nat} {μ : Mem} {h : Nat} (hk : g_K μ h = 16) : en g ad μ h = .inl (g.2.2.1 16, g_N μ h, .inr (.inl (g_L μ h))) := by
  unfold en enf
  rw [hk, if_neg (by omega), if_neg (by omega), if_neg (by omega), if_pos rfl]
theorem en_R {g : Gx} {ad : Nat → Nat} {μ : Mem} {h c : Nat} (hk : g_K μ h = c) (hc : 16 < c) : en g ad μ h = .inl (g.2.2.1 c, g_N μ h, .inr (.inr (.inr (.inr (fun j => ro ad (g_R μ h j)))))) := by
  unfold en enf
  rw [hk, if_neg (by omega), if_neg (by omega), if_neg (by omega), if_neg (by omega), if_pos hc]
theorem up2_o {α : Type} {f : Nat → Nat → α} {h k a : Nat} {v : α} (ha : a ≠ h) : up2 f h k v a = f a := funext fun _ => if_neg ha
theorem up2_s {α : Type} {f : Nat → Nat → α} {h k : Nat} {v : α} : up2 f h k v h = fun b => if b = k then v else f h b := funext fun _ => if_pos rfl
theorem en_pI {g : Gx} {ad : Nat → Nat} {μ : Mem} {h k a : Nat} {v : Int32} (ha : a ≠ h) : en g ad (p_I μ h k v) a = en g ad μ a := by
  show enf g ad (g_K μ a) (g_N μ a) (up2 μ.1 h k v a) (g_L μ a) (g_D μ a) (g_R μ a) = _
  rw [up2_o ha]
  rfl
theorem en_pL {g : Gx} {ad : Nat → Nat} {μ : Mem} {h k a : Nat} {v : Int64} (ha : a ≠ h) : en g ad (p_L μ h k v) a = en g ad μ a := by
  show enf g ad (g_K μ a) (g_N μ a) (g_I μ a) (up2 μ.2.1 h k v a) (g_D μ a) (g_R μ a) = _
  rw [up2_o ha]
  rfl
theorem en_pD {g : Gx} {ad : Nat → Nat} {μ : Mem} {h k a : Nat} {v : UInt64} (ha : a ≠ h) : en g ad (p_D μ h k v) a = en g ad μ a := by
  show enf g ad (g_K μ a) (g_N μ a) (g_I μ a) (g_L μ a) (up2 μ.2.2.1 h k v a) (g_R μ a) = _
  rw [up2_o ha]
  rfl
theorem en_pR {g : Gx} {ad : Nat → Nat} {μ : Mem} {h k a : Nat} {v : Nat} (ha : a ≠ h) : en g ad (p_R μ h k v) a = en g ad μ a := by
  show enf g ad (g_K μ a) (g_N μ a) (g_I μ a) (g_L μ a) (g_D μ a) (up2 μ.2.2.2.1 h k v a) = _
  rw [up2_o ha]
  rfl
/-! the walk of a method, told by a pure answer -/
abbrev Outc : Type := Option Value ⊕ Nat
abbrev Fx : Type := (Program × Launch × Env × State × MethodId × Array Value × List Frame × Method × Code) × (Gx × (Nat → Prop) × (Nat → Nat)) × (Nat × Nat × Nat × Nat × Nat) × (Drawn → Prop) × (Nat → Nat → Room) × (Nat → Nat → Outc → Mem → State → Prop)
abbrev x_p (F : Fx) : Program := F.1.1
abbrev x_l (F : Fx) : Launch := F.1.2.1
abbrev x_e (F : Fx) : Env := F.1.2.2.1
abbrev x_s (F : Fx) : State := F.1.2.2.2.1
abbrev x_m (F : Fx) : MethodId := F.1.2.2.2.2.1
abbrev x_a (F : Fx) : Array Value := F.1.2.2.2.2.2.1
abbrev x_b (F : Fx) : List Frame := F.1.2.2.2.2.2.2.1
abbrev x_y (F : Fx) : Method := F.1.2.2.2.2.2.2.2.1
abbrev x_c (F : Fx) : Code := F.1.2.2.2.2.2.2.2.2
abbrev x_g (F : Fx) : Gx := F.2.1.1
abbrev x_A (F : Fx) : Nat → Prop := F.2.1.2.1
abbrev x_ad (F : Fx) : Nat → Nat := F.2.1.2.2
abbrev x_nL (F : Fx) : Nat := F.2.2.1.1
abbrev x_v (F : Fx) : Nat := F.2.2.1.2.1
abbrev x_n0 (F : Fx) : Nat := F.2.2.1.2.2.1
abbrev x_c0 (F : Fx) : Nat := F.2.2.1.2.2.2.1
abbrev x_w0 (F : Fx) : Nat := F.2.2.1.2.2.2.2
abbrev x_dp (F : Fx) : Drawn → Prop := F.2.2.2.1
abbrev x_R (F : Fx) : Nat → Nat → Room := F.2.2.2.2.1
abbrev x_Q (F : Fx) : Nat → Nat → Outc → Mem → State → Prop := F.2.2.2.2.2
def rmv (v mc ms : Nat) : Room := { frames := v, cells := mc, slots := ms, locals := 60 * v }
def tr (g : Gx) (ad : Nat → Nat) (v : Value) : Value := match v with
  | .ref h => .ref (ad h)
  | .retAddr k => .ref (g.2.2.2 k)
  | w => w
def trP (g : Gx) (ad : Nat → Nat) (pls : List (Nat × Value)) : List (Nat × Value) := pls.map (fun q => (q.1, tr g ad q.2))
def vok (n : Nat) (v : Value) : Prop := match v with
  | .ref h => h ≤ n
  | _ => True
def VOK (n : Nat) (pls : List (Nat × Value)) (st : List Value) : Prop := (∀ q ∈ pls, vok n q.2) ∧ ∀ v ∈ st, vok n v
def RelH (F : Fx) (ad : Nat → Nat) (μ : Mem) (H : Heap) (locs : List Loc) : Prop :=
  va_P (gDI (x_g F)) clL (wl (x_g F) ad μ) H ∧ va_D (x_A F) (wl (x_g F) ad μ) ∧ va_S (x_A F) (x_s F).heap H locs ∧ Okm μ ∧ (∀ h, h ≤ x_n0 F → ad h = x_ad F h) ∧ x_n0 F ≤ g_n μ ∧ x_c0 F ≤ g_c μ ∧ x_w0 F ≤ g_w μ
/-- the machine's goal at a point -/
abbrev Wg (F : Fx) (mc ms : Nat) (d : Drawn) (H : Heap) (locs : List Loc) (cells slots : Nat) (Q : State → Prop) (pc : Nat) (ls : Array Slot) (st : List Value) : Prop :=
  W (x_p F) (x_l F) (x_e F) (x_R F mc ms) ((x_s F).setDrawn d) (x_m F) (x_a F) (x_b F) (x_y F) (x_c F) H locs cells slots Q (F0 (x_m F) pc ls st)
/-- from this point, with this world, the method answers as o says -/
def Sim {α : Type} (F : Option Fx) (enc : α → Outc) (pc : Nat) (pls : List (Nat × Value)) (st : List Value) (μ : Mem) (o : Option (α × Mem)) : Prop :=
  ∀ (r : α) (μ' : Mem), o = some (r, μ') → Mono μ μ' ∧ ∀ (G : Fx), F = some G → ∀ (ad : Nat → Nat) (H : Heap) (locs : List Loc) (ls : Array Slot) (d : Drawn),
    RelH G ad μ H locs → x_dp G d → VOK (g_n μ) pls st → lv_has ls (x_nL G) (trP (x_g G) ad pls) →
    Wg G (g_c μ' - x_c0 G) (g_w μ' - x_w0 G) d H locs (g_c μ - x_c0 G) (g_w μ - x_w0 G) (x_Q G (g_c μ' - x_c0 G) (g_w μ' - x_w0 G) (enc r) μ') pc ls (st.map (tr (x_g G) ad))
def WA : List Cond := lw_tbl.filter goodWord
def FxOk (F : Fx) (own : String) (cc : ByteArray) (nL v : Nat) : Prop :=
  (x_p F).tables.exec = Jvm.exec ∧ (x_c F).code = cc ∧ (x_c F).maxLocals = x_nL F ∧ (∀ w ∈ WA, w.before (x_a F) (x_s F) = true) ∧ (x_s F).vm.findClass own = some (x_m F).cls ∧ va_K (gDI (x_g F)) clL (tysL (x_g F)) (x_s F) ∧ (∀ q, (x_s F).heap.size ≤ q → x_A F q) ∧ x_nL F = nL ∧ x_v F = v ∧ ∀ mc ms : Nat, v ≤ (x_R F mc ms).frames ∧ 60 * v ≤ (x_R F mc ms).locals ∧ mc ≤ (x_R F mc ms).cells ∧ ms ≤ (x_R F mc ms).slots
theorem FxOk.ht {F : Fx} {own : String} {cc : ByteArray} {nL v : Nat} (h : FxOk F own cc nL v) (d : Drawn) : ∀ w ∈ WA, w.before (x_a F) ((x_s F).setDrawn d) = true := dr_words h.2.2.2.1 d
theorem FxOk.hK {F : Fx} {own : String} {cc : ByteArray} {nL v : Nat} (h : FxOk F own cc nL v) (d : Drawn) : va_K (gDI (x_g F)) clL (tysL (x_g F)) ((x_s F).setDrawn d) := va_K.moved (Vm.Alike.refl _) h.2.2.2.2.2.1
/-- the frame, where there is one (without one a walk still tells what the world keeps) -/
def FxO (F : Option Fx) (own : String) (cc : ByteArray) (nL v : Nat) : Prop := ∀ G : Fx, F = some G → FxOk G own cc nL v
section SimRows
variable {α : Type} {F : Option Fx} {enc : α → Outc} {own : String} {cc : ByteArray} {nL v : Nat} {pc : Nat} {pls : List (Nat × Value)} {st : List Value} {μ : Mem} {o : Option (α × Mem)}
/-- a step that leaves the world -/
theorem sim_go {pc' : Nat} {pls' : List (Nat × Value)} {st' : List Value} (hv : Okm μ → VOK (g_n μ) pls st → VOK (g_n μ) pls' st')
    (h : ∀ (G : Fx), F = some G → ∀ (ad : Nat → Nat) (H : Heap) (locs : List Loc) (ls : Array Slot) (d : Drawn) (mc ms cells slots : Nat) (Q : State → Prop), RelH G ad μ H locs → lv_has ls (x_nL G) (trP (x_g G) ad pls) →
      (∀ ls' : Array Slot, lv_has ls' (x_nL G) (trP (x_g G) ad pls') → Wg G mc ms d H locs cells slots Q pc' ls' (st'.map (tr (x_g G) ad))) → Wg G mc ms d H locs cells slots Q pc ls (st.map (tr (x_g G) ad)))
    (k : Sim F enc pc' pls' st' μ o) : Sim F enc pc pls st μ o := by
  intro r μ' ho
  obtain ⟨hm, kk⟩ := k r μ' ho
  refine ⟨hm, fun G hG ad H locs ls d hR hd hV hl => ?_⟩
  exact h G hG ad H locs ls d _ _ _ _ _ hR hl fun ls' hl' => kk G hG ad H locs ls' d hR hd (hv hR.2.2.2.1 hV) hl'
theorem sim_if {c : Prop} [Decidable c] {a b : Option (α × Mem)} (h1 : c → Sim F enc pc pls st μ a) (h2 : ¬ c → Sim F enc pc pls st μ b) : Sim F enc pc pls st μ (if c then a else b) := by
  by_cases hc : c
  · rw [if_pos hc]
    exact h1 hc
  · rw [if_neg hc]
    exact h2 hc
/-- what the pure side stops at -/
theorem sim_none : Sim F enc pc pls st μ none := fun r μ' ho => by cases ho
theorem sim_gd {c : Prop} [Decidable c] {a : Option (α × Mem)} (h1 : c → Sim F enc pc pls st μ a) : Sim F enc pc pls st μ (if c then a else none) := sim_if h1 fun _ => sim_none
theorem VOK.tl {n : Nat} {v : Value} (h : VOK n pls (v :: st)) : VOK n pls st := ⟨h.1, fun w hw => h.2 w (List.mem_cons_of_mem _ hw)⟩
theorem VOK.cn {n : Nat} {v : Value} (h : VOK n pls st) (hv : vok n v) : VOK n pls (v :: st) := ⟨h.1, fun w hw => (List.mem_cons.mp hw).elim (fun e => e ▸ hv) (h.2 w)⟩
theorem VOK.hd {n : Nat} {v : Value} (h : VOK n pls (v :: st)) : vok n v := h.2 v List.mem_cons_self
theorem VOK.at {n k i : Nat} {v : Value} (h : VOK n pls st) (hk : pls[k]? = some (i, v)) : vok n v := h.1 (i, v) (List.mem_of_getElem? hk)
theorem trP_at {g : Gx} {ad : Nat → Nat} {k i : Nat} {v : Value} (hk : pls[k]? = some (i, v)) : (trP g ad pls)[k]? = some (i, tr g ad v) := by simp [trP, hk]
theorem tr_cat {g : Gx} {ad : Nat → Nat} {v : Value} : (tr g ad v).category = v.category := by cases v <;> rfl
abbrev st1 (i : Nat) (v : Value) (pls : List (Nat × Value)) : List (Nat × Value) := (i, v) :: pls.filter (fun q => !(q.1 == i) && !(q.1 + 1 == i && q.2.category == 2))
abbrev st2 (i : Nat) (v : Value) (pls : List (Nat × Value)) : List (Nat × Value) := (i, v) :: pls.filter (fun q => !(q.1 == i) && (!(q.1 == i + 1) && !(q.1 + 1 == i && q.2.category == 2)))
theorem trP_st1 {g : Gx} {ad : Nat → Nat} {i : Nat} {v : Value} {pls' : List (Nat × Value)} (h : st1 i v pls = pls') : st1 i (tr g ad v) (trP g ad pls) = trP g ad pls' := by
  subst h
  simp only [st1, trP, List.map_cons, List.filter_map]
  congr 2
  apply List.filter_congr
  intro q _
  simp [tr_cat]
theorem trP_st2 {g : Gx} {ad : Nat → Nat} {i : Nat} {v : Value} {pls' : List (Nat × Value)} (h : st2 i v pls = pls') : st2 i (tr g ad v) (trP g ad pls) = trP g ad pls' := by
  subst h
  simp only [st2, trP, List.map_cons, List.filter_map]
  congr 2
  apply List.filter_congr
  intro q _
  simp [tr_cat]
theorem VOK.st1 {n i : Nat} {v : Value} {pls' : List (Nat × Value)} (h : VOK n pls (v :: st)) (hp : st1 i v pls = pls') : VOK n pls' st := by
  subst hp
  refine ⟨fun q hq => ?_, h.tl.2⟩
  rcases List.mem_cons.mp hq with rfl | hq
  · exact h.hd
  · exact h.1 q (List.mem_filter.mp hq).1
theorem VOK.st2 {n i : Nat} {v : Value} {pls' : List (Nat × Value)} (h : VOK n pls (v :: st)) (hp : st2 i v pls = pls') : VOK n pls' st := by
  subst hp
  refine ⟨fun q hq => ?_, h.tl.2⟩
  rcases List.mem_cons.mp hq with rfl | hq
  · exact h.hd
  · exact h.1 q (List.mem_filter.mp hq).1
/-- the locals in another order, fewer -/
theorem s_sub {pls' : List (Nat × Value)} (ks : List Nat) (hp : lv_pick pls ks = pls') (k : Sim F enc pc pls' st μ o) : Sim F enc pc pls st μ o := by
  refine sim_go (fun _ h => ⟨fun q hq => ?_, h.2⟩) (fun G hG ad H locs ls d mc ms cells slots Q hR hl kk => kk ls (lv_sub hl ks ?_)) k
  · subst hp
    obtain ⟨k, -, hk⟩ := List.mem_filterMap.mp hq
    exact h.1 q (List.mem_of_getElem? hk)
  · subst hp
    simp only [lv_pick, trP, List.getElem?_map]
    rw [List.map_filterMap]
end SimRows
