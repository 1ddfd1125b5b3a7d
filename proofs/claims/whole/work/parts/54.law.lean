/-! ===== the LAW: what it answers; the class works it out ===== -/
def LawS (μ : Mem) (h : Nat) : Prop := isK μ h 4 = true ∧ g_R μ h 0 = h + 1 ∧ g_R μ h 1 = h + 2 ∧ g_R μ h 2 = h + 3 ∧ g_R μ h 4 = h + 4 ∧ isK μ (h + 1) 15 = true ∧ isK μ (h + 2) 15 = true ∧ isK μ (h + 3) 15 = true ∧ isK μ (h + 4) 15 = true ∧ g_N μ (h + 1) = 8 ∧ g_N μ (h + 2) = 150 ∧ g_N μ (h + 3) = 150 ∧ g_N μ (h + 4) = 150
theorem LawS.sh {μ μ' : Mem} {h : Nat} (s : LawS μ h) (e : Sh μ μ') : LawS μ' h := by
  unfold LawS
  rw [sh_isK e, sh_gR e, sh_gN e]
  exact s
/-- one of two put together -/
def byF (how u v : Int32) : Int32 := if how = 2 then u + v else if how = 3 then u - v else if how = 4 then u * v else if how = 5 then (if v = 0 then 0 else u / v) else if how = 6 then (if v = 0 then 0 else u - u / v * v) else if how = 7 then (if v < u then v else u) else (if u < v then v else u)
def lstep (kn : Nat → Int32) (q : Int32 × Int32) (st : List Int32) : List Int32 :=
  if q.1 = 0 then q.2 :: st else if q.1 = 1 then kn q.2.toNatClampNeg :: st else byF q.1 (st.getD 1 0) (st.getD 0 0) :: st.drop 2
def evL (kn : Nat → Int32) : List (Int32 × Int32) → List Int32 → List Int32
  | [], st => st
  | q :: r, st => evL kn r (lstep kn q st)
/-- a text that holds together: d values lie ahead of it -/
def wfL : List (Int32 × Int32) → Nat → Prop
  | [], d => 1 ≤ d
  | q :: r, d => (q.1 = 0 ∧ wfL r (d + 1)) ∨ (q.1 = 1 ∧ (∃ k : Nat, k < 8 ∧ q.2 = nI k) ∧ wfL r (d + 1)) ∨ ((∃ k : Nat, 2 ≤ k ∧ k ≤ 8 ∧ q.1 = nI k) ∧ 2 ≤ d ∧ wfL r (d - 1))
def lcode (q : Int32 × Int32) : Int32 := if q.1 = 0 then 15 else if q.1 = 1 then q.2 else if q.1 = 7 then 8 else if q.1 = 8 then 9 else q.1 + 8
def clL9 (x : Int32) : Int32 := if (0 : Int32) < (if x < (99 : Int32) then x else (99 : Int32)) then (if x < (99 : Int32) then x else (99 : Int32)) else (0 : Int32)
/-- the LEVEL -/
def lawV (ops : List (Int32 × Int32)) (kn : Nat → Int32) : Int32 := clL9 ((evL kn ops []).getD ((evL kn ops []).length - 1) 0)
def StkR (f : Nat → Int32) (st : List Int32) : Prop := ∀ j, j < st.length → f j = st.getD (st.length - 1 - j) 0
theorem StkR.push {f : Nat → Int32} {st : List Int32} {x : Int32} (h : StkR f st) : StkR (ru f st.length x) (x :: st) := by
  intro j hj
  rw [List.length_cons] at hj
  by_cases e : j = st.length
  · subst e
    rw [ru_s, List.length_cons, show st.length + 1 - 1 - st.length = 0 by omega]
    rfl
  · rw [ru_o e, h j (by omega), List.length_cons, show st.length + 1 - 1 - j = (st.length - 1 - j) + 1 by omega]
    rfl
theorem StkR.op {f : Nat → Int32} {x y z : Int32} {r : List Int32} (h : StkR f (y :: x :: r)) : StkR (ru f r.length z) (z :: r) ∧ f r.length = x ∧ f (r.length + 1) = y := by
  have h1 := h r.length (by simp only [List.length_cons]; omega)
  have h2 := h (r.length + 1) (by simp only [List.length_cons]; omega)
  rw [List.length_cons, List.length_cons, show r.length + 1 + 1 - 1 - r.length = 1 by omega] at h1
  rw [List.length_cons, List.length_cons, show r.length + 1 + 1 - 1 - (r.length + 1) = 0 by omega] at h2
  refine ⟨fun j hj => ?_, h1, h2⟩
  rw [List.length_cons] at hj
  by_cases e : j = r.length
  · subst e
    rw [ru_s, List.length_cons, show r.length + 1 - 1 - r.length = 0 by omega]
    rfl
  · rw [ru_o e, h j (by simp; omega), List.length_cons, List.length_cons, List.length_cons, show r.length + 1 + 1 - 1 - j = (r.length - 1 - j) + 1 + 1 by omega, show r.length + 1 - 1 - j = (r.length - 1 - j) + 1 by omega]
    rfl
theorem i32_div_m1 {u : Int32} : True := trivial
theorem X4_together {μ : Mem} {k : Nat} {u v : Int32} (h1 : 2 ≤ k) (h2 : k ≤ 8) : LX4_together (lcode (nI k, 0)) u v μ = some (byF (nI k) u v, μ) := by
  have hk : k = 2 ∨ k = 3 ∨ k = 4 ∨ k = 5 ∨ k = 6 ∨ k = 7 ∨ k = 8 := by omega
  rcases hk with rfl | rfl | rfl | rfl | rfl | rfl | rfl
  · rfl
  · rfl
  · rfl
  · show (if v = 0 then some (0, μ) else if ¬ v = 0 then some (u / v, μ) else none) = some (if v = 0 then 0 else u / v, μ)
    by_cases hv : v = 0
    · rw [if_pos hv, if_pos hv]
    · rw [if_neg hv, if_neg hv, if_pos hv]
  · show (if v = 0 then some (0, μ) else if ¬ v = 0 then some (u - u / v * v, μ) else none) = some (if v = 0 then 0 else u - u / v * v, μ)
    by_cases hv : v = 0
    · rw [if_pos hv, if_pos hv]
    · rw [if_neg hv, if_neg hv, if_pos hv]
  · rfl
  · rfl
theorem X4_loop {h n : Nat} {kn : Nat → Int32} : ∀ (ops : List (Int32 × Int32)) (i fu : Nat) (st : List Int32) (μ : Mem), LawS μ h → (∀ j q, ops[j]? = some q → g_I μ (h + 2) (i + j) = lcode q ∧ (q.1 = 0 → g_I μ (h + 3) (i + j) = q.2)) → g_I μ h 3 = nI n → (∀ k, k < 8 → g_I μ (h + 1) k = kn k) → i + ops.length = n → n ≤ 150 →
    StkR (g_I μ (h + 4)) st → st.length + ops.length ≤ 150 → wfL ops st.length → ops.length < fu →
    ∃ μ' : Mem, mX4_levelOfGiven_4 fu h (nI st.length) (nI i) μ = some (clL9 ((evL kn ops st).getD ((evL kn ops st).length - 1) 0), μ') ∧ Out (fun a => a = h + 4) μ μ' := by
  intro ops
  induction ops with
  | nil =>
    intro i fu st μ s hc hn hk hi h15 hst hl hw hf
    obtain ⟨fu, rfl⟩ : ∃ q, fu = q + 1 := ⟨fu - 1, by simp at hf; omega⟩
    obtain ⟨s0, s1, s2, s3, s4, k1, k2, k3, k4, n1, n2, n3, n4⟩ := id s
    have hd : 1 ≤ st.length := hw
    simp only [List.length_nil] at hi hl
    rw [mX4_levelOfGiven_4, hn, if_pos (nI_le (by omega) (by omega)), s4, if_pos (isK_p k4), if_pos (show inA μ (h + 4) 15 (0 : Int32) = true from inA_n (n := 0) k4 n4 (by decide) (by decide)), show ((0 : Int32).toNatClampNeg) = 0 from rfl, hst 0 (by omega)]
    exact ⟨μ, rfl, Out.rf⟩
  | cons q r ih =>
    intro i fu st μ s hc hn hk hi h15 hst hl hw hf
    obtain ⟨fu, rfl⟩ : ∃ q, fu = q + 1 := ⟨fu - 1, by simp at hf; omega⟩
    obtain ⟨s0, s1, s2, s3, s4, k1, k2, k3, k4, n1, n2, n3, n4⟩ := id s
    simp only [List.length_cons] at hi hl hf
    have ci : (nI i).toNatClampNeg = i := nI_clamp (by omega)
    have ct : (nI st.length).toNatClampNeg = st.length := nI_clamp (by omega)
    have hq1 : g_I μ (h + 2) i = lcode q := (hc 0 q rfl).1
    have hq2 : q.1 = 0 → g_I μ (h + 3) i = q.2 := (hc 0 q rfl).2
    rw [mX4_levelOfGiven_4, hn, if_neg (nI_ge (by omega) (by omega)), s2, if_pos (isK_p k2), if_pos (inA_n k2 n2 (by omega) (by decide)), ci, hq1]
    -- what follows a value
    have leaf : ∀ x : Int32, lstep kn q st = x :: st → wfL r (st.length + 1) → ∃ μ' : Mem, mX4_levelOfGiven_4 fu h (nI st.length + 1) (nI i + 1) (p_I μ (h + 4) st.length x) = some (clL9 ((evL kn (q :: r) st).getD ((evL kn (q :: r) st).length - 1) 0), μ') ∧ Out (fun a => a = h + 4) μ μ' := by
      intro x hx hw'
      have hx' : evL kn (q :: r) st = evL kn r (x :: st) := by show evL kn r (lstep kn q st) = _; rw [hx]
      obtain ⟨μ', e1, e2⟩ := ih (i + 1) fu (x :: st) (p_I μ (h + 4) st.length x) (s.sh rfl) (fun j z hz => by
        have := hc (j + 1) z hz
        rw [gI_h (show h + 2 ≠ h + 4 by omega), gI_h (show h + 3 ≠ h + 4 by omega), show i + 1 + j = i + (j + 1) by omega]
        exact this) (by rw [gI_h (show h ≠ h + 4 by omega)]; exact hn) (fun k hk8 => by rw [gI_h (show h + 1 ≠ h + 4 by omega)]; exact hk k hk8) (by omega) h15 (by rw [gI_row]; exact hst.push) (by simp only [List.length_cons]; omega) (by rw [List.length_cons]; exact hw') (by omega)
      rw [List.length_cons, nI_succ, nI_succ] at e1
      rw [hx']
      exact ⟨μ', e1, (Out.pI (S := fun a => a = h + 4) Out.rf rfl).tr e2⟩
    rcases hw with ⟨c0, hw'⟩ | ⟨c1, ⟨k, k8, e2⟩, hw'⟩ | ⟨⟨k, k1', k8, c2⟩, hd, hw'⟩
    · have hl15 : lcode q = 15 := if_pos c0
      rw [hl15, if_pos rfl]
      unfold mX4_levelOfGiven_35
      rw [if_neg (show ¬ (150 : Int32) ≤ nI st.length from nI_ge (b := 150) (by omega) (by decide)), s4, if_pos (isK_p k4), if_pos rfl, s3, if_pos (isK_p k3), if_pos (inA_n k3 n3 (by omega) (by decide)), if_pos (inA_n k4 n4 (by omega) (by decide)), ci, ct, hq2 c0]
      exact leaf q.2 (if_pos c0) hw'
    · have hlk : lcode q = nI k := by
        unfold lcode
        rw [c1, if_neg (by decide), if_pos rfl, e2]
      rw [hlk, if_neg (show ¬ nI k = 15 from fun z => by have := (nI_eq (by omega) (by decide)).mp (show nI k = nI 15 from z); omega), if_neg (nI_pos (by omega)), if_neg (show ¬ (8 : Int32) ≤ nI k from nI_ge (b := 8) (by omega) (by decide))]
      unfold mX4_levelOfGiven_35
      rw [if_neg (show ¬ (150 : Int32) ≤ nI st.length from nI_ge (b := 150) (by omega) (by decide)), s4, if_pos (isK_p k4), if_neg (show ¬ nI k = 15 from fun z => by have := (nI_eq (by omega) (by decide)).mp (show nI k = nI 15 from z); omega), s1, if_pos (isK_p k1), if_pos (inA_n k1 n1 k8 (by decide)), if_pos (inA_n k4 n4 (by omega) (by decide)), ct, nI_clamp (n := k) (by omega), hk k k8]
      refine leaf (kn k) ?_ hw'
      unfold lstep
      rw [c1, if_neg (by decide), if_pos rfl, e2, nI_clamp (by omega)]
    · obtain ⟨y, st1, rfl⟩ : ∃ y st1, st = y :: st1 := by
        cases st with
        | nil => simp at hd
        | cons y st1 => exact ⟨y, st1, rfl⟩
      obtain ⟨x, rr, rfl⟩ : ∃ x rr, st1 = x :: rr := by
        cases st1 with
        | nil => simp at hd
        | cons x rr => exact ⟨x, rr, rfl⟩
      obtain ⟨z1, z2, z3⟩ := StkR.op (z := byF (nI k) x y) hst
      simp only [List.length_cons] at hl hw' ⊢
      have hlc : lcode q = lcode (nI k, 0) := by
        have h0 : ¬ nI k = 1 := fun z => by have := (nI_eq (by omega) (by decide)).mp (show nI k = nI 1 from z); omega
        have h1 : ¬ nI k = 0 := nI_ne0 (by omega) (by omega)
        unfold lcode
        rw [c2, if_neg h1, if_neg h0]
        show _ = if nI k = 0 then _ else if nI k = 1 then _ else _
        rw [if_neg h1, if_neg h0]
      have hge : (8 : Int32) ≤ lcode (nI k, 0) ∧ ¬ lcode (nI k, 0) < 0 ∧ ¬ lcode (nI k, 0) = 15 := by
        have hk : k = 2 ∨ k = 3 ∨ k = 4 ∨ k = 5 ∨ k = 6 ∨ k = 7 ∨ k = 8 := by omega
        rcases hk with rfl | rfl | rfl | rfl | rfl | rfl | rfl <;> decide
      rw [hlc, if_neg hge.2.2, if_neg hge.2.1, if_pos hge.1]
      unfold mX4_levelOfGiven_75
      have et : nI (rr.length + 1 + 1) + -1 = nI (rr.length + 1) := by
        rw [show (-1 : Int32) = - nI 1 from rfl, ← Int32.sub_eq_add_neg, nI_sub (by omega), Nat.add_sub_cancel]
      have et2 : nI (rr.length + 1) - 1 = nI rr.length := nI_pred _
      have c3 : (nI rr.length).toNatClampNeg = rr.length := nI_clamp (by omega)
      have c4 : (nI (rr.length + 1)).toNatClampNeg = rr.length + 1 := nI_clamp (by omega)
      rw [if_neg (show ¬ nI (rr.length + 1 + 1) < (2 : Int32) from nI_nlt (b := 2) (by omega) (by omega)), s4, if_pos (isK_p k4), et, et2, if_pos (inA_n k4 n4 (by omega) (by decide)), if_pos (inA_n k4 n4 (by omega) (by decide)), c3, c4, z2, z3, X4_together k1' k8, ob, if_pos (inA_n k4 n4 (by omega) (by decide))]
      obtain ⟨μ', e1, e2⟩ := ih (i + 1) fu (byF (nI k) x y :: rr) (p_I μ (h + 4) rr.length (byF (nI k) x y)) (s.sh rfl) (fun j z hz => by
        have := hc (j + 1) z hz
        rw [gI_h (show h + 2 ≠ h + 4 by omega), gI_h (show h + 3 ≠ h + 4 by omega), show i + 1 + j = i + (j + 1) by omega]
        exact this) (by rw [gI_h (show h ≠ h + 4 by omega)]; exact hn) (fun k hk8 => by rw [gI_h (show h + 1 ≠ h + 4 by omega)]; exact hk k hk8) (by omega) h15 (by rw [gI_row]; exact z1) (by simp only [List.length_cons]; omega) (by rw [List.length_cons]; exact hw') (by omega)
      have hx' : evL kn (q :: r) (y :: x :: rr) = evL kn r (byF (nI k) x y :: rr) := by
        show evL kn r (lstep kn q (y :: x :: rr)) = _
        congr 1
        unfold lstep
        rw [c2, if_neg (nI_ne0 (by omega) (by omega)), if_neg (fun z => by have := (nI_eq (by omega) (by decide)).mp (show nI k = nI 1 from z); omega)]
        rfl
      rw [List.length_cons, nI_succ i] at e1
      rw [hx']
      exact ⟨μ', e1, (Out.pI (S := fun a => a = h + 4) Out.rf rfl).tr e2⟩
/-- the class's LAW at h is the text ops -/
def LawR (μ : Mem) (h : Nat) (ops : List (Int32 × Int32)) : Prop := g_I μ h 3 = nI ops.length ∧ ops.length ≤ 150 ∧ wfL ops 0 ∧ ∀ j q, ops[j]? = some q → g_I μ (h + 2) j = lcode q ∧ (q.1 = 0 → g_I μ (h + 3) j = q.2)
theorem LawR.fr {μ μ' : Mem} {h : Nat} {ops : List (Int32 × Int32)} (r : LawR μ h ops) (e : g_I μ' h = g_I μ h ∧ g_I μ' (h + 2) = g_I μ (h + 2) ∧ g_I μ' (h + 3) = g_I μ (h + 3)) : LawR μ' h ops := by
  unfold LawR
  rw [e.1, e.2.1, e.2.2]
  exact r
theorem X4_levelOfGiven {μ : Mem} {h : Nat} {kn : Nat → Int32} {ops : List (Int32 × Int32)} (s : LawS μ h) (r : LawR μ h ops) (hk : ∀ k, k < 8 → g_I μ (h + 1) k = kn k) : ∃ μ' : Mem, LX4_levelOfGiven h μ = some (lawV ops kn, μ') ∧ Out (fun a => a = h + 4) μ μ' := by
  unfold LX4_levelOfGiven
  rw [if_pos s.1]
  obtain ⟨r1, r2, r3, r4⟩ := r
  exact X4_loop (n := ops.length) (kn := kn) ops 0 100000 [] μ s (fun j q hq => by rw [Nat.zero_add]; exact r4 j q hq) r1 hk (Nat.zero_add _) r2 (fun j hj => absurd hj (Nat.not_lt_zero _)) (by simpa using r2) r3 (by omega)
