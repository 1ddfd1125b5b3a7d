/-! ===== the reference is asked: span; undo ===== -/
theorem al_read {ops : OpsT} {k v : Int32} {ρ : Nat → Int32} {p m : Nat} (hp : p < 8) (h : ρ 33 = nI m) : ∃ m' : Nat, sRead ops k ρ p v 33 = nI m' ∧ m' ≤ m + 1 := by
  unfold sRead
  rw [ru_o (by decide), sWr_far (by omega) (by omega) (by omega)]
  by_cases g : levF ops k ρ p v < 50
  · rw [if_pos g]; exact ⟨m, h, by omega⟩
  · rw [if_neg g, ru_s, h, ← nI_succ]; exact ⟨m + 1, rfl, by omega⟩
theorem al_try {ops : OpsT} {kf : Nat → Int32} {v : Int32} {ρ : Nat → Int32} {p m : Nat} (hp : p < 8) (h : ρ 33 = nI m) : ∃ m' : Nat, tryRead ops kf ρ p v 33 = nI m' ∧ m' ≤ m + 1 := by
  unfold tryRead
  by_cases g : canP (kf p) ρ p = 0
  · rw [if_pos g]; exact ⟨m, h, by omega⟩
  · rw [if_neg g]; exact al_read hp h
theorem al_hear {ops : OpsT} {kf : Nat → Int32} {np : Nat} {ρ : Nat → Int32} {x b m : Nat} (hb : b < 8) (h : ρ 33 = nI m) : ∃ m' : Nat, tryHear ops np kf ρ x b 33 = nI m' ∧ m' ≤ m + 1 := by
  unfold tryHear
  by_cases g : nOf ρ x = 0
  · rw [if_pos g]; exact ⟨m, h, by omega⟩
  · rw [if_neg g]; exact al_try hb h
theorem al_end {ρ : Nat → Int32} : ∀ j, j ≤ 8 → sEnd ρ j 33 = ρ 33 := by
  intro j
  induction j with
  | zero => intro _; rfl
  | succ j ih =>
    intro hj
    show (if nOf ρ j = 0 then sEnd ρ j else sUp (sEnd ρ j) j (nOf ρ j - 1)) 33 = _
    by_cases g : nOf ρ j = 0
    · rw [if_pos g]; exact ih (by omega)
    · rw [if_neg g]
      unfold sUp rbl
      show (if _ then (-1 : Int32) else if _ then sEnd ρ j (33 + 1) else if _ then nI (nOf ρ j - 1) else sEnd ρ j 33) = _
      rw [if_neg (by omega), if_neg (by omega), if_neg (by omega)]
      exact ih (by omega)
theorem al_sea {q : Int32} {t : HutT} {ops : OpsT} (ho : HutOk t) : ∀ (n : Nat) (x : Int32 × (Nat → Int32)) (m : Nat), x.2 33 = nI m → ∃ m' : Nat, (seaN ops t q n x).2 33 = nI m' ∧ m' ≤ m + 2 * n := by
  intro n
  have h8 := ho.1
  induction n with
  | zero => intro x m h; exact ⟨m, h, by omega⟩
  | succ n ih =>
    intro x m h
    have h1 : ∃ m1 : Nat, (sea1 ops t x).2 33 = nI m1 ∧ m1 ≤ m + 1 := by
      unfold sea1
      by_cases g : t.1 = 0
      · rw [if_pos g]; exact ⟨m, h, by omega⟩
      · rw [if_neg g]
        have hlt : drN (nxS x.1) t.1 < t.1 := Nat.mod_lt _ (by omega)
        exact al_try (Nat.lt_of_lt_of_le hlt h8) h
    obtain ⟨m1, a1, a2⟩ := h1
    obtain ⟨y, hy⟩ : ∃ y, y = sea1 ops t x := ⟨_, rfl⟩
    rw [← hy] at a1
    have h2 : ∃ m2 : Nat, (sea2 ops t q y).2 33 = nI m2 ∧ m2 ≤ m1 + 1 := by
      unfold sea2
      by_cases g : t.2.2.2.2.1 = 0
      · rw [if_pos g]; exact ⟨m1, a1, by omega⟩
      · rw [if_neg g]
        by_cases g2 : q ≤ nI (drN (nxS y.1) 16)
        · rw [if_pos g2]; exact ⟨m1, a1, by omega⟩
        · rw [if_neg g2]
          have hlt : drN (nxS (nxS y.1)) t.2.2.2.2.1 < t.2.2.2.2.1 := Nat.mod_lt _ (by omega)
          exact al_hear (Nat.lt_of_lt_of_le (ho.2.2.2.1 _ hlt).2 h8) a1
    obtain ⟨m2, b1, b2⟩ := h2
    have h3 : (seaD ops t q x).2 33 = nI m2 := by
      show sDay t.1 (sea2 ops t q (sea1 ops t x)).2 33 = _
      unfold sDay
      rw [ru_o (by decide), al_end _ h8, ← hy]
      exact b1
    obtain ⟨m', c1, c2⟩ := ih (seaD ops t q x) m2 h3
    exact ⟨m', c1, by omega⟩
theorem al_sp {a : ClT} (ho : HutOk (hutT a.2.2.2.1)) {seed q : Int32} {d : Nat} (hd : d ≤ 96) : ∃ m : Nat, seaA a seed d q 33 = nI m ∧ m ≤ 192 := by
  obtain ⟨m, h1, h2⟩ := al_sea (q := q) (ops := a.2.2.2.2.1) ho d (sea0 seed (rowOf a)) 0 (by show ru (ru (rowOf a) 33 0) 34 0 33 = nI 0; rw [ru_o (by decide), ru_s]; rfl)
  exact ⟨m, h1, by omega⟩
/-- one SEASON of the span -/
def spa1 (a : ClT) (seed q : Int32) (d p j : Nat) (z : Int32 × Int32 × Int32) : Int32 × Int32 × Int32 := (if seaA a (seed + nI j) d q 33 < z.1 then seaA a (seed + nI j) d q 33 else z.1, if z.2.1 < seaA a (seed + nI j) d q 33 then seaA a (seed + nI j) d q 33 else z.2.1, if seaA a (seed + nI j) d q (24 + p) ≤ 0 then z.2.2 + 0 else z.2.2 + 1)
theorem spaF_s {a : ClT} {seed q : Int32} {d p n j : Nat} {z : Int32 × Int32 × Int32} : spaF a seed q d p (n + 1) j z = spaF a seed q d p n (j + 1) (spa1 a seed q d p j z) := rfl
theorem R_span123 {ν : Mem} {a : ClT} {seed many d qq w l8 l9 al k0 : Int32} {p dd j : Nat} {σ : Nat → Int32} {q71 : Nat → Int32 → Int32 → Int32 → Int32 → Int32 → Int32 → Int32 → Int32 → Int32 → Int32 → Mem → Option (Int32 × Mem)} (c : RwC ν 604 (hutT a.2.2.2.1) a.2.2.2.2.1 σ) (hp : p < penN a) : mX12_span_123 q71 125 seed many d qq w (nI p) l8 l9 (nI j) al k0 ν = q71 125 seed many d qq w (nI p) k0 (if l8 < al then al else l8) (if σ (24 + p) ≤ 0 then l9 + 0 else l9 + 1) (nI (j + 1)) ν := by
  have h8 : penN a ≤ 8 := c.2.2.1.1
  obtain ⟨i1, i2, i3⟩ := c.at (j := 24 + p) (by omega)
  unfold mX12_span_123
  rw [R_more, ob, c.1.h30, if_pos q604, n24p, if_pos i1, i2, i3, ← nI_succ]
  split <;> rfl
theorem R_spanN {μ : Mem} {a : ClT} {seed qq w : Int32} {d p many j : Nat} {l7 l8 l9 : Int32} {fu : Nat} (q : RqR μ a) (hp : p < penN a) (hd : d ≤ 96) (hm : many ≤ 1000) (hj : j < many) : ∃ ν : Mem, OF wF wS μ ν ∧ mX12_span_71 (fu + 1) 125 seed (nI many) (nI d) qq w (nI p) l7 l8 l9 (nI j) μ = mX12_span_71 fu 125 seed (nI many) (nI d) qq w (nI p) (if l7 = -1 then seaA a (seed + nI j) d qq 33 else (if seaA a (seed + nI j) d qq 33 < l7 then seaA a (seed + nI j) d qq 33 else l7)) (if l8 < seaA a (seed + nI j) d qq 33 then seaA a (seed + nI j) d qq 33 else l8) (if seaA a (seed + nI j) d qq (24 + p) ≤ 0 then l9 + 0 else l9 + 1) (nI (j + 1)) ν := by
  obtain ⟨ν, e1, o1, c1⟩ := R_seasonBy (seed := seed + nI j) (q := qq) q (show d ≤ 1000 by omega)
  have qν := q.wS o1
  obtain ⟨s1, s2, s3⟩ := sea_sh (seed := seed + nI j) (q := qq) (d := d) q.ho
  obtain ⟨y1, y2, y3⟩ := c1.at (j := 33) (by decide)
  obtain ⟨v1, v2, v3⟩ := qν.at (j := 33) (by decide)
  have y1 : inA ν 604 15 (33 : Int32) = true := y1
  have v1 : inA ν 603 15 (33 : Int32) = true := v1
  refine ⟨ν, o1, ?_⟩
  rw [mX12_span_71, if_neg (nI_ge hj (by omega)), e1, ob, qν.s.h30, if_pos q604, if_pos y1, qν.s.h29, if_pos q603, if_pos v1, show (33 : Int32).toNatClampNeg = 33 from rfl, y3, v3, s2, Int32.add_sub_cancel]
  have h8 := q.n0.2
  have e24 := s1 (24 + p) (by omega) (by omega)
  by_cases h : l7 = -1
  · rw [if_pos h, if_pos h, R_span123 (dd := d) c1 hp, e24]
  · rw [if_neg h, if_neg h, R_less, ob, R_span123 (dd := d) c1 hp, e24]
theorem R_spanE {μ : Mem} {seed qq w d p l7 l8 l9 : Int32} {many j fu : Nat} (hj : many ≤ j) (hj2 : j < 2147483648) : mX12_span_71 (fu + 1) 125 seed (nI many) d qq w p l7 l8 l9 (nI j) μ = some (pick3 w (l7, l8, l9), μ) := by
  rw [mX12_span_71, if_pos (nI_le hj hj2)]
  unfold pick3
  repeat' split
  all_goals rfl
theorem R_spanL {a : ClT} {seed qq w : Int32} {d p many : Nat} (hp : p < penN a) (hd : d ≤ 96) (hm : many ≤ 1000) : ∀ (n j fu : Nat) (z : Int32 × Int32 × Int32) (μ : Mem), RqR μ a → n + j = many → n < fu → (∃ m : Nat, z.1 = nI m ∧ m ≤ 192) → ∃ ν : Mem, mX12_span_71 fu 125 seed (nI many) (nI d) qq w (nI p) z.1 z.2.1 z.2.2 (nI j) μ = some (pick3 w (spaF a seed qq d p n j z), ν) ∧ OF wF wS μ ν := by
  intro n
  induction n with
  | zero =>
    intro j fu z μ q hj hf hz
    obtain ⟨fu, rfl⟩ : ∃ q, fu = q + 1 := ⟨fu - 1, by omega⟩
    exact ⟨μ, R_spanE (by omega) (by omega), OF.rf⟩
  | succ n ih =>
    intro j fu z μ q hj hf hz
    obtain ⟨fu, rfl⟩ : ∃ q, fu = q + 1 := ⟨fu - 1, by omega⟩
    obtain ⟨ν, o1, e1⟩ := R_spanN (seed := seed) (qq := qq) (w := w) (l7 := z.1) (l8 := z.2.1) (l9 := z.2.2) (fu := fu) (j := j) (many := many) q hp hd hm (by omega)
    obtain ⟨m, hz1, hz2⟩ := hz
    obtain ⟨m2, ha1, ha2⟩ := al_sp (a := a) (seed := seed + nI j) (q := qq) q.ho hd
    have hne : ¬ z.1 = -1 := by rw [hz1]; exact nI_nm1 (by omega)
    rw [if_neg hne] at e1
    rw [e1, spaF_s]
    obtain ⟨ν2, e2, o2⟩ := ih (j + 1) fu (spa1 a seed qq d p j z) ν (q.wS o1) (by omega) (by omega) (by
      show ∃ m : Nat, (if seaA a (seed + nI j) d qq 33 < z.1 then seaA a (seed + nI j) d qq 33 else z.1) = nI m ∧ m ≤ 192
      split
      · exact ⟨m2, ha1, ha2⟩
      · exact ⟨m, hz1, hz2⟩)
    exact ⟨ν2, e2, o1.tr o2⟩
theorem M_span {μ : Mem} {a : ClT} {seed many d qq w pn : Int32} (r : RfR μ a) (k : ClK a) : AskM (fun _ => 1) μ (LX12_span 125 seed many d qq w pn μ) (if offB many 1 20 then (.inl 1, rfA a 1) else if offB d 1 96 then (.inl 1, rfA a 1) else if offB qq 0 16 then (.inl 1, rfA a 1) else if offB w 0 2 then (.inl 1, rfA a 1) else if offB pn 0 (nI (penN a) - 1) then (.inl 1, rfA a 1) else (.inr (pick3 w (spaF a seed qq d.toNatClampNeg pn.toNatClampNeg many.toNatClampNeg 0 (2147483647, 0, 0))), a)) := by
  obtain ⟨q, m0⟩ := r.q k
  unfold LX12_span mX12_span_49
  rw [if_pos r.1.1]
  refine AskM.tr m0 ?_
  generalize p_I μ 125 0 0 = μ0 at q
  have bad : ∀ K : Mem → Option (Int32 × Mem), AskM (fun _ => 1) μ0 (if isK μ0 125 12 = true then (obind (LX12_bad 125 1 1 1 μ0) (fun (r : Int32) (m : Mem) => if r = 0 then K m else (some ((0 : Int32), m)))) else none) (.inl 1, rfA a 1) := fun K => gate_1 q (k := 1) rfl (by decide) (by decide) rfl
  rw [R_in, ob, in_off]
  by_cases h1 : offB many 1 20
  · rw [if_pos h1, if_pos h1, if_pos rfl]; exact bad _
  rw [if_neg h1, if_neg h1, if_neg (by decide), R_isSeason, ob]
  by_cases h2 : offB d 1 96
  · rw [if_pos h2, if_pos h2, if_pos rfl]; exact bad _
  rw [if_neg h2, if_neg h2]
  by_cases h3 : offB qq 0 16
  · rw [if_pos h3, if_pos h3, if_pos rfl]; exact bad _
  rw [if_neg h3, if_neg h3, if_neg (by decide), R_in, ob, in_off]
  by_cases h4 : offB w 0 2
  · rw [if_pos h4, if_pos h4, if_pos rfl]; exact bad _
  have h8 := q.n0.2
  have ep := off_lt (v := pn) (n := penN a) (by omega)
  rw [if_neg h4, if_neg h4, if_neg (by decide), R_isPen q, ob]
  by_cases h5 : noPen a pn
  · rw [if_pos h5, if_pos rfl, if_pos (ep.mpr h5)]; exact bad _
  rw [if_neg h5, if_neg (by decide), if_neg (fun z => h5 (ep.mp z)), gate_0 q (c := 1) (k := 1) rfl (by decide) (by decide)]
  obtain ⟨p, hp, rfl⟩ := pen_of h5 h8
  obtain ⟨n, hn1, hn2, rfl⟩ := in_of1 (n := 20) h1 (by decide)
  obtain ⟨e, he1, he2, rfl⟩ := in_of1 (n := 96) h2 (by decide)
  have hp : p < penN a := hp
  rw [nI_clamp (show p < 2147483648 by omega), nI_clamp (show n < 2147483648 by omega), nI_clamp (show e < 2147483648 by omega)]
  obtain ⟨n', rfl⟩ : ∃ n', n = n' + 1 := ⟨n - 1, by omega⟩
  obtain ⟨ν, o1, e1⟩ := R_spanN (seed := seed) (qq := qq) (w := w) (l7 := -1) (l8 := 0) (l9 := 0) (fu := 99999) (j := 0) (many := n' + 1) q hp (show e ≤ 96 by omega) (by omega) (by omega)
  rw [if_pos rfl] at e1
  obtain ⟨m2, ha1, ha2⟩ := al_sp (a := a) (seed := seed + nI 0) (q := qq) q.ho (show e ≤ 96 by omega)
  have hz : spa1 a seed qq e p 0 (2147483647, 0, 0) = (seaA a (seed + nI 0) e qq 33, if (0 : Int32) < seaA a (seed + nI 0) e qq 33 then seaA a (seed + nI 0) e qq 33 else 0, if seaA a (seed + nI 0) e qq (24 + p) ≤ 0 then (0 : Int32) + 0 else 0 + 1) := by
    unfold spa1
    rw [if_pos (show seaA a (seed + nI 0) e qq 33 < (2147483647 : Int32) from by rw [ha1]; exact nI_lt (b := 2147483647) (by omega) (by decide))]
  obtain ⟨ν2, e2, o2⟩ := R_spanL (seed := seed) (qq := qq) (w := w) (many := n' + 1) hp (show e ≤ 96 by omega) (by omega) n' 1 99999 (spa1 a seed qq e p 0 (2147483647, 0, 0)) ν (q.wS o1) rfl (by omega) (by rw [hz]; exact ⟨m2, ha1, ha2⟩)
  rw [hz] at e2
  have e3 : mX12_span_71 100000 125 seed (nI (n' + 1)) (nI e) qq w (nI p) (-1) 0 0 0 μ0 = some (pick3 w (spaF a seed qq e p (n' + 1) 0 (2147483647, 0, 0)), ν2) := by
    rw [spaF_s, hz]
    exact Eq.trans e1 e2
  rw [e3]
  exact AskM.wS q (o1.tr o2)
/-! undo -/
theorem R_undo0 {μ : Mem} {a : ClT} (q : RqR μ a) : g_I μ 125 35 = nI (hisA a).1 ∧ (hisA a).1 ≤ 16 ∧ ∀ i, i < (hisA a).1 → RoR μ (606 + i) ((hisA a).2.1 i) := ⟨q.1.2.2.2.2.2.2.2.2.1.1.1, q.1.2.2.2.2.2.2.2.2.1.1.2, q.1.2.2.2.2.2.2.2.2.1.2.2.1⟩
theorem M_undo {μ : Mem} {a : ClT} (r : RfR μ a) (k : ClK a) : AskN μ (LX12_undo 125 μ) (sUndo a) := by
  obtain ⟨q, m0⟩ := r.q k
  unfold LX12_undo
  rw [if_pos r.1.1]
  refine AskN.tr m0 ?_
  obtain ⟨u1, u2, u3⟩ := R_undo0 q
  have s := r.1
  rw [u1]
  unfold sUndo
  by_cases h0 : (hisA a).1 = 0
  · rw [if_pos h0, h0, if_pos (show nI 0 = (0 : Int32) from rfl)]
    exact ⟨_, rfl, q.1, Out.rf⟩
  have hne : ¬ nI (hisA a).1 = (0 : Int32) := fun z => h0 ((nI_eq (a := (hisA a).1) (b := 0) (by omega) (by decide)).mp z)
  obtain ⟨t1, t2, t3, t4⟩ := s.t605.at (show (hisA a).1 - 1 < 16 by omega) (by decide)
  have e606 : 605 + 1 + ((hisA a).1 - 1) = 606 + ((hisA a).1 - 1) := by omega
  rw [e606] at t2 t3 t4
  rw [if_neg h0, if_neg hne, s.h31, if_pos q605, gI_s, show nI (hisA a).1 - 1 = nI ((hisA a).1 - 1) from nI_sub (b := 1) (by omega), if_pos t1, t2, if_pos t3, s.h29, if_pos q603]
  have o0 : OF (fun k => k = 35 ∨ k = 36) (fun x => x = 603) (p_I μ 125 0 0) (p_I (p_I μ 125 0 0) 125 35 (nI ((hisA a).1 - 1))) := (OF.rf (F := fun k => k = 35 ∨ k = 36) (S := fun x => x = 603)).p0 (Or.inl rfl)
  obtain ⟨m1, e1, o1, c1⟩ := R_row (μ := p_I (p_I μ 125 0 0) 125 35 (nI ((hisA a).1 - 1))) (h0 := 606 + ((hisA a).1 - 1)) (h1 := 603) (by omega) t4 s.a603
  rw [e1, ob]
  have o1' : OF (fun k => k = 35 ∨ k = 36) (fun x => x = 603) (p_I (p_I μ 125 0 0) 125 35 (nI ((hisA a).1 - 1))) m1 := ⟨o1.mo fun x hx => Or.inr hx, fun k hk => by rw [(o1.2 125 (by decide)).1]⟩
  have oo : OF (fun k => k = 35 ∨ k = 36) (fun x => x = 603) (p_I μ 125 0 0) (p_I m1 125 36 0) := (o0.tr o1').p0 (Or.inr rfl)
  have e35 : g_I (p_I m1 125 36 0) 125 35 = nI ((hisA a).1 - 1) := by rw [gI_k (by decide), (o1.2 125 (by decide)).1, gI_s]
  rw [e35]
  obtain ⟨y0, y1, y2, y3, y4, y5, y6, y7, ⟨⟨y8, y8'⟩, y9, y10, y11⟩, y12, y13, y14⟩ := q.1
  have ho := q.ho
  have g : ∀ x, x ≠ 125 → x ≠ 603 → g_I (p_I m1 125 36 0) x = g_I (p_I μ 125 0 0) x := fun x h1 h2 => oo.r h1 h2
  have f : ∀ k, k ≠ 35 → k ≠ 36 → g_I (p_I m1 125 36 0) 125 k = g_I (p_I μ 125 0 0) 125 k := fun k h1 h2 => oo.2 k (by omega)
  refine ⟨_, rfl, ⟨oo.s y0, fun j hj => by rw [g 126 (by decide) (by decide)]; exact y1 j hj, by rw [f 1 (by decide) (by decide)]; exact y2, by rw [f 3 (by decide) (by decide)]; exact y3, y4.fr ho (fun x hx => g x (by omega) (by omega)), y5.fr (f 17 (by decide) (by decide)) (fun x hx => g x (by omega) (by omega)), y6.fr (f 34 (by decide) (by decide)) (g 520 (by decide) (by decide)), y7.fr (f 33 (by decide) (by decide)) (fun x hx => g x (by omega) (by omega)), ⟨⟨e35, by show (hisA a).1 - 1 ≤ 16; omega⟩, ⟨by rw [f 37 (by decide) (by decide)]; exact y9.1, y9.2⟩, fun i hi => ?_, fun i hi => by rw [g (623 + i) (by omega) (by omega)]; exact y11 i hi⟩, fun j hj => ?_, gI_s, fun j hj => by rw [g 127 (by decide) (by decide)]; exact y14 j hj⟩, oo.mf fun x hx => by omega⟩
  · have hi : i < (hisA a).1 - 1 := hi
    intro j hj
    rw [g (606 + i) (by omega) (by omega)]
    exact y10 i (by show i < (hisA a).1; omega) j hj
  · rw [gI_rowo (by decide), c1 j hj, gI_rowo (by omega)]
    exact u3 ((hisA a).1 - 1) (by omega) j hj
