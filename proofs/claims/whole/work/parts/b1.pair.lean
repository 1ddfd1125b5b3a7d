/-! ===== the class and the reference, asked the same ===== -/
theorem RfS.le {μ : Mem} (s : RfS μ) : 628 ≤ g_n μ := isK_le s.a628.1
/-- a call of the class leaves the reference as it is -/
theorem RfR.call {μ ν : Mem} {a : ClT} (r : RfR μ a) (ho : HutOk (hutT a.2.2.2.1)) (o : CallO 630 μ ν) : RfR ν a := by
  obtain ⟨r0, r1, r2, r3, r4, r5, r6, r7, r8, r9, r10, r11⟩ := r
  obtain ⟨o1, o2, o3, o4⟩ := o
  have hl := r0.le
  have e : ∀ x, 125 ≤ x → x < 629 → g_I ν x = g_I μ x := fun x h1 h2 => (o4 x h1 (by omega) (by omega)).2.2.2.1
  have f : g_I ν 125 = g_I μ 125 := e 125 (by decide) (by decide)
  refine ⟨r0.fr o1 fun x h1 h2 h3 => ?_, fun k hk => by rw [e 126 (by decide) (by decide)]; exact r1 k hk, by rw [f]; exact r2, by rw [f]; exact r3, r4.fr ho (fun x hx => e x (by omega) (by omega)), r5.fr (by rw [f]) (fun x hx => e x (by omega) (by omega)), r6.fr (by rw [f]) (e 520 (by decide) (by decide)), r7.fr (by rw [f]) (fun x hx => e x (by omega) (by omega)), r8.fr (by rw [f]) (by rw [f]) (fun x hx => e x (by omega) (by omega)), fun k hk => by rw [e 603 (by decide) (by decide)]; exact r9 k hk, by rw [f]; exact r10, fun k hk => by rw [e 127 (by decide) (by decide)]; exact r11 k hk⟩
  obtain ⟨q1, q2, q3, -⟩ := o4 x h1 (by omega) h3
  exact ⟨q1, q2, q3⟩
/-- the whole world between two calls, n of them done -/
def Wst (c0 w0 : Nat) (μ : Mem) (f : Fl) (a : ClT) (n : Nat) : Prop := ClR μ f 630 a ∧ RfR μ a ∧ g_c μ ≤ c0 + 600 * n ∧ g_w μ ≤ w0 + 11120 * n ∧ isK μ 629 16 = true ∧ g_N μ 629 = 1
theorem ClR.mf {μ ν : Mem} {f : Fl} {a : ClT} (c : ClR μ f 630 a) (o : MF μ ν) : ClR ν f 630 a := c.out o fun x hx z => by
  have hu := hu_or f
  have hl := la_or f
  have hc := ch_or f
  have hb := bk_or f
  unfold usd at hx
  omega
theorem addC {x y c k n : Nat} (h1 : x ≤ y + k) (h2 : y ≤ c + k * n) : x ≤ c + k * (n + 1) := by
  rw [Nat.mul_succ]
  omega
/-- behind the class's call -/
theorem Wst.cl {c0 w0 : Nat} {μ ν : Mem} {f f' : Fl} {a b : ClT} {n : Nat} (w : Wst c0 w0 μ f a n) (c : ClR ν f' 630 b) (o : CallO 630 μ ν) : RfR ν a ∧ g_c ν ≤ c0 + 600 * (n + 1) ∧ g_w ν ≤ w0 + 11120 * (n + 1) ∧ isK ν 629 16 = true ∧ g_N ν 629 = 1 := by
  obtain ⟨w1, w2, w3, w4, w5, w6⟩ := w
  have hk := isK_le w5
  obtain ⟨o1, o2, o3, o4⟩ := id o
  obtain ⟨q1, q2, q3, -⟩ := o4 629 (by decide) (by decide) hk
  obtain ⟨k1, k2, k3⟩ := isK_iff.mp w5
  exact ⟨w2.call (RfR.hu w1.2.2.2.1) o, addC o2 w3, addC o3 w4, isK_iff.mpr ⟨k1, by omega, by rw [q1]; exact k3⟩, by rw [q2]; exact w6⟩
/-- behind the reference's -/
theorem Wst.rf {c0 w0 : Nat} {μ ν : Mem} {f : Fl} {b : ClT} {n : Nat} (c : ClR μ f 630 b) (r : RfR ν b) (o : MF μ ν) (h : g_c μ ≤ c0 + 600 * n ∧ g_w μ ≤ w0 + 11120 * n ∧ isK μ 629 16 = true ∧ g_N μ 629 = 1) : Wst c0 w0 ν f b n := by
  obtain ⟨h1, h2, h3, h4⟩ := h
  refine ⟨c.mf o, r, by rw [sh_gc o.1]; exact h1, by rw [sh_gw o.1]; exact h2, by rw [sh_isK o.1]; exact h3, by rw [sh_gN o.1]; exact h4⟩
theorem pairI {c0 w0 : Nat} {μ : Mem} {f : Fl} {a : ClT} {n : Nat} {clo : Option (Int32 × Mem)} {S : Int32 × ClT} {rf : Mem → Option (Int32 × Mem)} {K : Mem → Option (Unit × Mem)} {Q : Mem → Prop} (w : Wst c0 w0 μ f a n) (hC : AskI 630 f μ clo S) (hR : ∀ ν, RfR ν a → ClK a → AskN ν (rf ν) S) (hK : ∀ ν f' b, Wst c0 w0 ν f' b (n + 1) → ∃ μ' : Mem, K ν = some ((), μ') ∧ Q μ') : ∃ μ' : Mem, (obind clo (fun (r : Int32) (m : Mem) => obind (rf m) (fun (r' : Int32) (m' : Mem) => if r = r' then K m' else none))) = some ((), μ') ∧ Q μ' := by
  obtain ⟨ν, e1, c1, o1⟩ := hC
  obtain ⟨x1, x2⟩ := w.cl c1 o1
  obtain ⟨ν2, e2, r2, m2⟩ := hR ν x1 w.1.2.2.2.1
  rw [e1, ob, e2, ob, if_pos rfl]
  exact hK ν2 f S.2 (Wst.rf c1 r2 m2 x2)
theorem pairX {c0 w0 : Nat} {μ : Mem} {f : Fl} {a : ClT} {n : Nat} {hc : Nat → Option Int32} {ix : Nat → Nat} {clo : Option ((Nat ⊕ Int32) × Mem)} {S : (Nat ⊕ Int32) × ClT} {rf : Mem → Option (Int32 × Mem)} {K : Mem → Option (Unit × Mem)} {Q : Mem → Prop} (w : Wst c0 w0 μ f a n) (hC : AskT 630 μ clo S) (hR : ∀ ν, RfR ν a → ClK a → AskM ix ν (rf ν) S) (hk : ∀ j, S.1 = .inl j → hc j = some (nI (ix j)) ∧ ¬ nI (ix j) = 0) (hK : ∀ ν f' b, Wst c0 w0 ν f' b (n + 1) → ∃ μ' : Mem, K ν = some ((), μ') ∧ Q μ') :
    ∃ μ' : Mem, (obind (if isK μ 1 11 = true then (if isK μ 629 16 = true then (obindH hc clo (fun (r1 : Int32) (m2 : Mem) => if inA m2 629 16 (0 : Int32) = true then (some ((0 : Int32), (p_L m2 629 (0 : Int32).toNatClampNeg r1.toInt64))) else none)) else none) else none) (fun (r772 : Int32) (m773 : Mem) => obind (rf m773) (fun (r777 : Int32) (m778 : Mem) => obind (LX12_thrown 125 m778) (fun (r781 : Int32) (m782 : Mem) => if r781 = r772 then (if r772 = 0 then (if inA m782 629 16 (0 : Int32) = true then (if (lg_cmp (g_L m782 629 (0 : Int32).toNatClampNeg) r777.toInt64) = 0 then K m782 else none) else none) else K m782) else none)))) = some ((), μ') ∧ Q μ' := by
  obtain ⟨ν, f', e1, c1, o1⟩ := hC
  obtain ⟨x1, x2, x3, x4, x5⟩ := w.cl c1 o1
  have i0 : ∀ m : Mem, isK m 629 16 = true → g_N m 629 = 1 → inA m 629 16 (0 : Int32) = true := fun m h1 h2 => inA_n (n := 0) h1 h2 (by decide) (by decide)
  rw [if_pos w.1.1.1, if_pos w.2.2.2.2.1, e1]
  cases hS : S.1 with
  | inl j =>
    obtain ⟨y1, y2⟩ := hk j hS
    obtain ⟨v2, ν2, e2, a2, r2, m2⟩ := hR ν x1 w.1.2.2.2.1
    rw [hS] at a2
    have a2 : g_I ν2 125 0 = nI (ix j) := a2
    show ∃ μ' : Mem, obind ((hc j).map (fun c => (c, ν))) _ = _ ∧ _
    rw [y1, show Option.map (fun c => (c, ν)) (some (nI (ix j))) = some (nI (ix j), ν) from rfl, ob, e2, ob]
    unfold LX12_thrown
    rw [if_pos r2.1.1, ob, a2, if_pos rfl, if_neg y2]
    exact hK ν2 f' S.2 (Wst.rf c1 r2 m2 ⟨x2, x3, x4, x5⟩)
  | inr v =>
    show ∃ μ' : Mem, obind (if inA ν 629 16 (0 : Int32) = true then (some ((0 : Int32), (p_L ν 629 (0 : Int32).toNatClampNeg v.toInt64))) else none) _ = _ ∧ _
    rw [if_pos (i0 ν x4 x5), ob]
    obtain ⟨m0, hm0⟩ : ∃ m0, m0 = p_L ν 629 (0 : Int32).toNatClampNeg v.toInt64 := ⟨_, rfl⟩
    have oL : Out (fun x => x = 629) ν m0 := by rw [hm0]; exact (Out.rf (S := fun x => x = 629)).pL rfl
    have gL : g_L m0 629 0 = v.toInt64 := by rw [hm0, gL_pL, if_pos rfl, if_pos (show 0 = Int32.toNatClampNeg 0 from rfl)]
    rw [← hm0]
    have c2 : ClR m0 f' 630 S.2 := c1.out oL fun x hx z => by
      have hu := hu_or f'
      have hl := la_or f'
      have hc := ch_or f'
      have hb := bk_or f'
      unfold usd at hx
      omega
    have r2 : RfR m0 a := by
      obtain ⟨y0, y1, y2, y3, y4, y5, y6, y7, y8, y9, y10, y11⟩ := x1
      have ho := RfR.hu w.1.2.2.2.1
      have e : ∀ x, x ≠ 629 → g_I m0 x = g_I ν x := fun x hx => (oL.2 x hx).1
      exact ⟨y0.sh oL.1, fun k hk => by rw [e 126 (by decide)]; exact y1 k hk, by rw [e 125 (by decide)]; exact y2, by rw [e 125 (by decide)]; exact y3, y4.fr ho (fun x hx => e x (by omega)), y5.fr (by rw [e 125 (by decide)]) (fun x hx => e x (by omega)), y6.fr (by rw [e 125 (by decide)]) (e 520 (by decide)), y7.fr (by rw [e 125 (by decide)]) (fun x hx => e x (by omega)), y8.fr (by rw [e 125 (by decide)]) (by rw [e 125 (by decide)]) (fun x hx => e x (by omega)), fun k hk => by rw [e 603 (by decide)]; exact y9 k hk, by rw [e 125 (by decide)]; exact y10, fun k hk => by rw [e 127 (by decide)]; exact y11 k hk⟩
    have h4 : isK m0 629 16 = true := by rw [sh_isK oL.1]; exact x4
    have h5 : g_N m0 629 = 1 := by rw [sh_gN oL.1]; exact x5
    obtain ⟨v2, ν2, e2, a2, r3, m2⟩ := hR m0 r2 w.1.2.2.2.1
    rw [hS] at a2
    obtain ⟨a3, a4⟩ := a2
    have h4' : isK ν2 629 16 = true := by rw [sh_isK m2.1]; exact h4
    have h5' : g_N ν2 629 = 1 := by rw [sh_gN m2.1]; exact h5
    have gL2 : g_L ν2 629 (0 : Int32).toNatClampNeg = v.toInt64 := by
      rw [(m2.2 629 (by decide)).2.1]
      exact gL
    rw [e2, ob]
    unfold LX12_thrown
    rw [if_pos r3.1.1, ob, a3, if_pos rfl, if_pos rfl, if_pos (i0 ν2 h4' h5'), gL2, a4, if_pos (show lg_cmp v.toInt64 v.toInt64 = 0 from by
      unfold lg_cmp
      rw [if_neg (fun z => absurd (Int64.lt_iff_toInt_lt.mp z) (by omega)), if_pos rfl])]
    exact hK ν2 f' S.2 (Wst.rf c2 r3 m2 ⟨by rw [sh_gc oL.1]; exact x2, by rw [sh_gw oL.1]; exact x3, h4, h5⟩)
