/-! ===== the first world ===== -/
theorem getS {o : Option (Unit × Mem)} (h : o.isSome = true) : o = some ((), (o.getD ((), mem0)).2) := by
  cases o with
  | none => exact nomatch h
  | some q => rfl
def iA : Mem := p_new mem0 11 0 18
def iB : Mem := ((LX11_init 1 iA).getD ((), mem0)).2
def iC : Mem := p_new iB 12 0 47
def iD : Mem := ((LX12_init 125 iC).getD ((), mem0)).2
def wA : Mem := p_new iD 16 1 1
theorem iB_s : (LX11_init 1 iA).isSome = true := by decide +kernel
theorem iB_n : g_n iB = 124 := by decide +kernel
theorem iD_s : (LX12_init 125 iC).isSome = true := by decide +kernel
theorem iD_n : g_n iD = 628 := by decide +kernel
theorem law_init {Ls : Nat} {xs : Nat → Int32} : LL_law_ Ls xs mem0 = mL_law__23 Ls xs 100000 1 125 629 (nI (9 * 0)) wA := by
  unfold LL_law_
  have e1 : mk 11 0 18 mem0 = some (1, iA) := rfl
  have e2 : LX11_init 1 iA = some ((), iB) := getS iB_s
  have e3 : mk 12 0 47 iB = some (125, iC) := by
    show some (g_n iB + 1, iC) = _
    rw [iB_n]
  have e4 : LX12_init 125 iC = some ((), iD) := getS iD_s
  have e5 : mk 16 1 1 iD = some (629, wA) := by
    show some (g_n iD + 1, wA) = _
    rw [iD_n]
  rw [e1, ob, e2, ob, e3, ob, e4, ob, e5, ob]
  rfl
theorem wA_c : g_c wA + 600 * 512 ≤ 603072 ∧ g_w wA + 11120 * 512 ≤ 7215210 ∧ isK wA 629 16 = true ∧ g_N wA 629 = 1 := by decide +kernel
abbrev fl0 : Fl := (false, false, false, false)
theorem wA_N : ClN wA fl0 := by
  unfold ClN
  decide +kernel
theorem wA_R : RfS wA := by
  unfold RfS ArS TbS ArS
  decide +kernel
