/-! ===== THE MATHEMATICS: how to reckon with the pure world ===== -/
def Ok {α : Type} (o : Option (α × Mem)) (P : α → Mem → Prop) : Prop := ∃ (r : α) (μ' : Mem), o = some (r, μ') ∧ P r μ'
theorem Ok.rt {α : Type} {r : α} {μ : Mem} {P : α → Mem → Prop} (h : P r μ) : Ok (some (r, μ)) P := ⟨r, μ, rfl, h⟩
theorem Ok.bd {α β : Type} {q : Option (β × Mem)} {k : β → Mem → Option (α × Mem)} {Q : β → Mem → Prop} {P : α → Mem → Prop} (h : Ok q Q) (hk : ∀ r μ1, Q r μ1 → Ok (k r μ1) P) : Ok (obind q k) P := by
  obtain ⟨r, μ1, rfl, hq⟩ := h
  exact hk r μ1 hq
theorem Ok.mo {α : Type} {o : Option (α × Mem)} {P Q : α → Mem → Prop} (h : Ok o P) (hPQ : ∀ r μ, P r μ → Q r μ) : Ok o Q := by
  obtain ⟨r, μ1, e, hq⟩ := h
  exact ⟨r, μ1, e, hPQ _ _ hq⟩
theorem Ok.of {α : Type} {o o' : Option (α × Mem)} {P : α → Mem → Prop} (e : o = o') (h : Ok o' P) : Ok o P := e ▸ h
theorem ob {α β : Type} (r : β) (μ : Mem) (k : β → Mem → Option (α × Mem)) : obind (some (r, μ)) k = k r μ := rfl
theorem gd {α : Type} {c : Prop} [Decidable c] {a : Option (α × Mem)} (h : c) : (if c then a else none) = a := if_pos h
theorem Ok.gd {α : Type} {c : Prop} [Decidable c] {a : Option (α × Mem)} {P : α → Mem → Prop} (h : c) (k : Ok a P) : Ok (if c then a else none) P := by rw [if_pos h]; exact k
theorem Ok.ite {α : Type} {c : Prop} [Decidable c] {a b : Option (α × Mem)} {P : α → Mem → Prop} (h1 : c → Ok a P) (h2 : ¬ c → Ok b P) : Ok (if c then a else b) P := by
  by_cases h : c
  · rw [if_pos h]; exact h1 h
  · rw [if_neg h]; exact h2 h
-- reading through a write
theorem gI_pI {μ : Mem} {h k a b : Nat} {v : Int32} : g_I (p_I μ h k v) a b = if a = h then (if b = k then v else g_I μ a b) else g_I μ a b := rfl
theorem gI_s {μ : Mem} {h k : Nat} {v : Int32} : g_I (p_I μ h k v) h k = v := by rw [gI_pI, if_pos rfl, if_pos rfl]
theorem gI_k {μ : Mem} {h k b : Nat} {v : Int32} (hb : b ≠ k) : g_I (p_I μ h k v) h b = g_I μ h b := by rw [gI_pI, if_pos rfl, if_neg hb]
theorem gI_h {μ : Mem} {h k a b : Nat} {v : Int32} (ha : a ≠ h) : g_I (p_I μ h k v) a b = g_I μ a b := by rw [gI_pI, if_neg ha]
theorem gL_pL {μ : Mem} {h k a b : Nat} {v : Int64} : g_L (p_L μ h k v) a b = if a = h then (if b = k then v else g_L μ a b) else g_L μ a b := rfl
theorem gD_pD {μ : Mem} {h k a b : Nat} {v : UInt64} : g_D (p_D μ h k v) a b = if a = h then (if b = k then v else g_D μ a b) else g_D μ a b := rfl
theorem gR_pR {μ : Mem} {h k a b : Nat} {v : Nat} : g_R (p_R μ h k v) a b = if a = h then (if b = k then v else g_R μ a b) else g_R μ a b := rfl
theorem gI_pL {μ : Mem} {h k : Nat} {v : Int64} : g_I (p_L μ h k v) = g_I μ := rfl
theorem gI_pD {μ : Mem} {h k : Nat} {v : UInt64} : g_I (p_D μ h k v) = g_I μ := rfl
theorem gI_pR {μ : Mem} {h k : Nat} {v : Nat} : g_I (p_R μ h k v) = g_I μ := rfl
theorem gL_pI {μ : Mem} {h k : Nat} {v : Int32} : g_L (p_I μ h k v) = g_L μ := rfl
theorem gL_pD {μ : Mem} {h k : Nat} {v : UInt64} : g_L (p_D μ h k v) = g_L μ := rfl
theorem gL_pR {μ : Mem} {h k : Nat} {v : Nat} : g_L (p_R μ h k v) = g_L μ := rfl
theorem gD_pI {μ : Mem} {h k : Nat} {v : Int32} : g_D (p_I μ h k v) = g_D μ := rfl
theorem gD_pL {μ : Mem} {h k : Nat} {v : Int64} : g_D (p_L μ h k v) = g_D μ := rfl
theorem gD_pR {μ : Mem} {h k : Nat} {v : Nat} : g_D (p_R μ h k v) = g_D μ := rfl
theorem gR_pI {μ : Mem} {h k : Nat} {v : Int32} : g_R (p_I μ h k v) = g_R μ := rfl
theorem gR_pL {μ : Mem} {h k : Nat} {v : Int64} : g_R (p_L μ h k v) = g_R μ := rfl
theorem gR_pD {μ : Mem} {h k : Nat} {v : UInt64} : g_R (p_D μ h k v) = g_R μ := rfl
theorem gN_pI {μ : Mem} {h k : Nat} {v : Int32} : g_N (p_I μ h k v) = g_N μ := rfl
theorem gN_pL {μ : Mem} {h k : Nat} {v : Int64} : g_N (p_L μ h k v) = g_N μ := rfl
theorem gN_pD {μ : Mem} {h k : Nat} {v : UInt64} : g_N (p_D μ h k v) = g_N μ := rfl
theorem gN_pR {μ : Mem} {h k : Nat} {v : Nat} : g_N (p_R μ h k v) = g_N μ := rfl
theorem isK_pI {μ : Mem} {h k : Nat} {v : Int32} : isK (p_I μ h k v) = isK μ := rfl
theorem isK_pL {μ : Mem} {h k : Nat} {v : Int64} : isK (p_L μ h k v) = isK μ := rfl
theorem isK_pD {μ : Mem} {h k : Nat} {v : UInt64} : isK (p_D μ h k v) = isK μ := rfl
theorem isK_pR {μ : Mem} {h k : Nat} {v : Nat} : isK (p_R μ h k v) = isK μ := rfl
theorem inA_pI {μ : Mem} {h k : Nat} {v : Int32} : inA (p_I μ h k v) = inA μ := rfl
theorem inA_pL {μ : Mem} {h k : Nat} {v : Int64} : inA (p_L μ h k v) = inA μ := rfl
theorem inA_pD {μ : Mem} {h k : Nat} {v : UInt64} : inA (p_D μ h k v) = inA μ := rfl
theorem inA_pR {μ : Mem} {h k : Nat} {v : Nat} : inA (p_R μ h k v) = inA μ := rfl
-- what a run leaves: the shape as it was, all rows but those of S
def Sh (μ μ' : Mem) : Prop := μ'.2.2.2 = μ.2.2.2
theorem sh_isK {μ μ' : Mem} (h : Sh μ μ') : isK μ' = isK μ := by
  have h : μ'.2.2.2 = μ.2.2.2 := h
  funext a c
  unfold isK g_n g_K
  rw [h]
theorem sh_gR {μ μ' : Mem} (h : Sh μ μ') : g_R μ' = g_R μ := congrArg (fun q => q.1) (show μ'.2.2.2 = μ.2.2.2 from h)
theorem sh_gK {μ μ' : Mem} (h : Sh μ μ') : g_K μ' = g_K μ := congrArg (fun q => q.2.1) (show μ'.2.2.2 = μ.2.2.2 from h)
theorem sh_gN {μ μ' : Mem} (h : Sh μ μ') : g_N μ' = g_N μ := congrArg (fun q => q.2.2.1) (show μ'.2.2.2 = μ.2.2.2 from h)
theorem sh_gn {μ μ' : Mem} (h : Sh μ μ') : g_n μ' = g_n μ := congrArg (fun q => q.2.2.2.1) (show μ'.2.2.2 = μ.2.2.2 from h)
theorem sh_gc {μ μ' : Mem} (h : Sh μ μ') : g_c μ' = g_c μ := congrArg (fun q => q.2.2.2.2.1) (show μ'.2.2.2 = μ.2.2.2 from h)
theorem sh_gw {μ μ' : Mem} (h : Sh μ μ') : g_w μ' = g_w μ := congrArg (fun q => q.2.2.2.2.2) (show μ'.2.2.2 = μ.2.2.2 from h)
theorem sh_inA {μ μ' : Mem} (h : Sh μ μ') : inA μ' = inA μ := by
  funext a c i
  unfold inA
  rw [sh_isK h, sh_gN h]
def Out (S : Nat → Prop) (μ μ' : Mem) : Prop := Sh μ μ' ∧ ∀ a, ¬ S a → g_I μ' a = g_I μ a ∧ g_L μ' a = g_L μ a ∧ g_D μ' a = g_D μ a
theorem Out.rf {S : Nat → Prop} {μ : Mem} : Out S μ μ := ⟨rfl, fun _ _ => ⟨rfl, rfl, rfl⟩⟩
theorem Out.tr {S : Nat → Prop} {μ ν ρ : Mem} (h1 : Out S μ ν) (h2 : Out S ν ρ) : Out S μ ρ := ⟨h2.1.trans h1.1, fun a ha => ⟨((h2.2 a ha).1).trans (h1.2 a ha).1, ((h2.2 a ha).2.1).trans (h1.2 a ha).2.1, ((h2.2 a ha).2.2).trans (h1.2 a ha).2.2⟩⟩
theorem Out.mo {S S' : Nat → Prop} {μ ν : Mem} (h : Out S μ ν) (hS : ∀ a, S a → S' a) : Out S' μ ν := ⟨h.1, fun a ha => h.2 a (fun q => ha (hS a q))⟩
theorem Out.pI {S : Nat → Prop} {μ ν : Mem} {h k : Nat} {v : Int32} (h1 : Out S μ ν) (hS : S h) : Out S μ (p_I ν h k v) := by
  refine h1.tr ⟨rfl, fun a ha => ⟨funext fun b => gI_h (fun e => ha (e ▸ hS)), rfl, rfl⟩⟩
theorem Out.pL {S : Nat → Prop} {μ ν : Mem} {h k : Nat} {v : Int64} (h1 : Out S μ ν) (hS : S h) : Out S μ (p_L ν h k v) := by
  refine h1.tr ⟨rfl, fun a ha => ⟨rfl, funext fun b => if_neg (fun e : a = h => ha (e ▸ hS)), rfl⟩⟩
theorem Out.pD {S : Nat → Prop} {μ ν : Mem} {h k : Nat} {v : UInt64} (h1 : Out S μ ν) (hS : S h) : Out S μ (p_D ν h k v) := by
  refine h1.tr ⟨rfl, fun a ha => ⟨rfl, rfl, funext fun b => if_neg (fun e : a = h => ha (e ▸ hS))⟩⟩
-- guards
theorem inA_n {μ : Mem} {a c n N : Nat} (hk : isK μ a c = true) (hN : g_N μ a = N) (hn : n < N) (hb : N < 2147483648) : inA μ a c (nI n) = true := by
  unfold inA
  rw [hk, hN, nI_toInt (show n < 2 ^ 31 by omega)]
  simp
  omega
theorem isK_p {μ : Mem} {a c : Nat} (hk : isK μ a c = true) : 0 < a := (isK_iff.mp hk).1
def Bd (x : Int32) (a b : Int) : Prop := a ≤ x.toInt ∧ x.toInt ≤ b
theorem Bd.nat {x : Int32} {b : Int} (h : Bd x 0 b) (hb : b < 2147483648) : ∃ n : Nat, x = nI n ∧ (n : Int) ≤ b := by
  refine ⟨x.toInt.toNat, ?_, ?_⟩
  · apply Int32.toInt_inj.mp
    have h1 := h.1
    have h2 := h.2
    rw [nI_toInt (by omega)]
    omega
  · have h1 := h.1
    have h2 := h.2
    omega
theorem Bd.nI {n : Nat} {a b : Int} (h1 : a ≤ n) (h2 : (n : Int) ≤ b) (hb : n < 2147483648) : Bd (nI n) a b := by
  unfold Bd
  rw [nI_toInt hb]
  exact ⟨h1, h2⟩
theorem nI_lit0 : (0 : Int32) = nI 0 := rfl
theorem nI_z {n : Nat} (h : n < 2147483648) : nI n = 0 ↔ n = 0 := nI_eq h (by decide)
/-- one place of a row -/
def ru (ρ : Nat → Int32) (j : Nat) (v : Int32) : Nat → Int32 := fun a => if a = j then v else ρ a
theorem ru_s {ρ : Nat → Int32} {j : Nat} {v : Int32} : ru ρ j v j = v := if_pos rfl
theorem ru_o {ρ : Nat → Int32} {j a : Nat} {v : Int32} (h : a ≠ j) : ru ρ j v a = ρ a := if_neg h
theorem gI_row {μ : Mem} {h k : Nat} {v : Int32} : g_I (p_I μ h k v) h = ru (g_I μ h) k v := by
  funext b
  rw [gI_pI, if_pos rfl]
  rfl
theorem gI_rowo {μ : Mem} {h k a : Nat} {v : Int32} (ha : a ≠ h) : g_I (p_I μ h k v) a = g_I μ a := funext fun _ => gI_h ha
