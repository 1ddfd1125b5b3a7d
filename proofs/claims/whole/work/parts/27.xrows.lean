/-! ===== ROWS of the class: new things under fresh names, arraycopy, exact floats, String ===== -/
def mk (c len w : Nat) (μ : Mem) : Option (Nat × Mem) := some (g_n μ + 1, p_new μ c len w)
theorem isK_new {μ : Mem} {c len w : Nat} : isK (p_new μ c len w) (g_n μ + 1) c = true := isK_iff.mpr ⟨Nat.succ_pos _, Nat.le_refl _, by show up1 _ _ _ _ = _; unfold up1; exact if_pos rfl⟩
def inC (μ : Mem) (h0 h1 c : Nat) (sp dp n : Int32) : Bool := isK μ h0 c && isK μ h1 c && decide (¬ sp < 0) && decide (¬ dp < 0) && decide (¬ n < 0) && decide (sp.toNatClampNeg + n.toNatClampNeg ≤ g_N μ h0) && decide (dp.toNatClampNeg + n.toNatClampNeg ≤ g_N μ h1)
theorem inC_iff {μ : Mem} {h0 h1 c : Nat} {sp dp n : Int32} : inC μ h0 h1 c sp dp n = true ↔ isK μ h0 c = true ∧ isK μ h1 c = true ∧ ¬ sp < 0 ∧ ¬ dp < 0 ∧ ¬ n < 0 ∧ sp.toNatClampNeg + n.toNatClampNeg ≤ g_N μ h0 ∧ dp.toNatClampNeg + n.toNatClampNeg ≤ g_N μ h1 := by
  simp only [inC, Bool.and_eq_true, decide_eq_true_eq, and_assoc]
def cp2 {α : Type} (f : Nat → Nat → α) (h0 h1 sp dp n : Nat) : Nat → Nat → α := fun a => if a = h1 then va_cpy (f h0) (f h1) sp dp n else f a
def p_cpI (μ : Mem) (h0 h1 sp dp n : Nat) : Mem := (cp2 μ.1 h0 h1 sp dp n, μ.2)
def p_cpL (μ : Mem) (h0 h1 sp dp n : Nat) : Mem := (μ.1, cp2 μ.2.1 h0 h1 sp dp n, μ.2.2)
def p_cpD (μ : Mem) (h0 h1 sp dp n : Nat) : Mem := (μ.1, μ.2.1, cp2 μ.2.2.1 h0 h1 sp dp n, μ.2.2.2)
theorem cp2_s {α : Type} {f : Nat → Nat → α} {h0 h1 sp dp n : Nat} : cp2 f h0 h1 sp dp n h1 = va_cpy (f h0) (f h1) sp dp n := if_pos rfl
theorem cp2_o {α : Type} {f : Nat → Nat → α} {h0 h1 sp dp n a : Nat} (h : a ≠ h1) : cp2 f h0 h1 sp dp n a = f a := if_neg h
theorem cpw : nativeFrameWords "java/lang/System" "arraycopy" 5 + 11 ≤ 40 := by decide
theorem al64_nn {y r : UInt64} (h : alike64 y r = true) (hn : vf_n64 r) : y = r := by
  simp only [alike64, Bool.or_eq_true, beq_iff_eq, Bool.and_eq_true, decide_eq_true_eq] at h
  rcases h with h | ⟨-, h⟩
  · exact h
  · exfalso
    unfold vf_n64 at hn
    revert h
    simp [isNaN64, hn]
section SXR
variable {α : Type} {F : Option Fx} {enc : α → Outc} {own : String} {cc : ByteArray} {nL v : Nat} {pc : Nat} {pls : List (Nat × Value)} {st : List Value} {μ : Mem} {o : Option (α × Mem)} {ret : Option FieldType} {kf : Nat → Mem → Option (α × Mem)}
theorem s_newN {idx c N : Nat} {C : String} (hF : FxO F own cc nL v) (hd : decode cc pc = .ok (.new idx, 3)) (hcl : Cond.classLink own idx C ∈ WA) (hins : Cond.instantiable C N ∈ WA) (hini : Cond.initialized C ∈ WA) (hck : CK c C N) (k : ∀ (r : Nat) (m : Mem), isK m r c = true → Mono μ m → Sim F enc (pc + 3) pls (.ref r :: st) m (kf r m)) : Sim F enc pc pls st μ (obind (mk c 0 N μ) kf) :=
  s_new hF hd hcl hins hini hck (k _ _ isK_new Mono.new)
theorem s_newIN {n : Int32} (N : Nat) (hF : FxO F own cc nL v) (hd : decode cc pc = .ok (.newarray .int, 2)) (hw : Cond.arrayClass .int ∈ WA) (hn : ¬ n < 0) (hN : n.toNatClampNeg = N) (hb : N * 8 ≤ 536870912) (k : ∀ (r : Nat) (m : Mem), isK m r 15 = true → Mono μ m → Sim F enc (pc + 2) pls (.ref r :: st) m (kf r m)) : Sim F enc pc pls (.int n :: st) μ (obind (mk 15 N N μ) kf) := s_newaI hF hd hw hn hN hb (k _ _ isK_new Mono.new)
theorem s_newLN {n : Int32} (N : Nat) (hF : FxO F own cc nL v) (hd : decode cc pc = .ok (.newarray .long, 2)) (hw : Cond.arrayClass .long ∈ WA) (hn : ¬ n < 0) (hN : n.toNatClampNeg = N) (hb : N * 8 ≤ 536870912) (k : ∀ (r : Nat) (m : Mem), isK m r 16 = true → Mono μ m → Sim F enc (pc + 2) pls (.ref r :: st) m (kf r m)) : Sim F enc pc pls (.int n :: st) μ (obind (mk 16 N N μ) kf) := s_newaL hF hd hw hn hN hb (k _ _ isK_new Mono.new)
theorem s_newDN {n : Int32} (N : Nat) (hF : FxO F own cc nL v) (hd : decode cc pc = .ok (.newarray .double, 2)) (hw : Cond.arrayClass .double ∈ WA) (hn : ¬ n < 0) (hN : n.toNatClampNeg = N) (hb : N * 8 ≤ 536870912) (k : ∀ (r : Nat) (m : Mem), isK m r 14 = true → Mono μ m → Sim F enc (pc + 2) pls (.ref r :: st) m (kf r m)) : Sim F enc pc pls (.int n :: st) μ (obind (mk 14 N N μ) kf) := s_newaD hF hd hw hn hN hb (k _ _ isK_new Mono.new)
theorem s_newBN {n : Int32} (N : Nat) (hF : FxO F own cc nL v) (hd : decode cc pc = .ok (.newarray .byte, 2)) (hw : Cond.arrayClass .byte ∈ WA) (hn : ¬ n < 0) (hN : n.toNatClampNeg = N) (hb : N * 8 ≤ 536870912) (k : ∀ (r : Nat) (m : Mem), isK m r 13 = true → Mono μ m → Sim F enc (pc + 2) pls (.ref r :: st) m (kf r m)) : Sim F enc pc pls (.int n :: st) μ (obind (mk 13 N N μ) kf) := s_newaB hF hd hw hn hN hb (k _ _ isK_new Mono.new)
theorem s_newRN {idx c t0 : Nat} {n : Int32} (N : Nat) {C : String} (hF : FxO F own cc nL v) (hD : FxXO F ret) (hd : decode cc pc = .ok (.anewarray idx, 3)) (hcl : Cond.classLink own idx C ∈ WA) (hov : Cond.arrayOver (.object C) ∈ WX) (hc16 : 16 < c) (htc : ∀ g : Gx, (tysL g)[t0]? = some (g.2.2.1 c, .object C)) (ht7 : t0 < 7) (hn : ¬ n < 0) (hN : n.toNatClampNeg = N) (hb : N * 4 ≤ 536870912) (k : ∀ (r : Nat) (m : Mem), isK m r c = true → Mono μ m → Sim F enc (pc + 3) pls (.ref r :: st) m (kf r m)) : Sim F enc pc pls (.int n :: st) μ (obind (mk c N N μ) kf) := s_newr hF hD hd hcl hov hc16 htc ht7 hn hN hb (k _ _ isK_new Mono.new)
theorem s_fmulX {x y : UInt32} (hF : FxO F own cc nL v) (hd : decode cc pc = .ok (.fmul, 1)) (hne : vf_n32 (FP.fmul x y)) (k : Sim F enc (pc + 1) pls (.float (FP.fmul x y) :: st) μ o) : Sim F enc pc pls (.float y :: .float x :: st) μ o :=
  sim_go (fun _ h => h.tl.tl.cn (v := Value.float _) trivial) (fun G hG ad H locs ls d mc ms cells slots Q hR hl kk => lv_fmul (hF G hG).1 (hF G hG).2.1 hd hne (kk ls hl)) k
theorem s_fdivX {x y : UInt32} (hF : FxO F own cc nL v) (hd : decode cc pc = .ok (.fdiv, 1)) (hne : vf_n32 (FP.fdiv x y)) (k : Sim F enc (pc + 1) pls (.float (FP.fdiv x y) :: st) μ o) : Sim F enc pc pls (.float y :: .float x :: st) μ o :=
  sim_go (fun _ h => h.tl.tl.cn (v := Value.float _) trivial) (fun G hG ad H locs ls d mc ms cells slots Q hR hl kk => lv_fdiv (hF G hG).1 (hF G hG).2.1 hd hne (kk ls hl)) k
theorem s_dmulX {x y : UInt64} (hF : FxO F own cc nL v) (hd : decode cc pc = .ok (.dmul, 1)) (hne : vf_n64 (FP.dmul x y)) (k : Sim F enc (pc + 1) pls (.double (FP.dmul x y) :: st) μ o) : Sim F enc pc pls (.double y :: .double x :: st) μ o :=
  sim_go (fun _ h => h.tl.tl.cn (v := Value.double _) trivial) (fun G hG ad H locs ls d mc ms cells slots Q hR hl kk => lv_dmul (hF G hG).1 (hF G hG).2.1 hd hne (kk ls hl)) k
theorem s_ddivX {x y : UInt64} (hF : FxO F own cc nL v) (hd : decode cc pc = .ok (.ddiv, 1)) (hne : vf_n64 (FP.ddiv x y)) (k : Sim F enc (pc + 1) pls (.double (FP.ddiv x y) :: st) μ o) : Sim F enc pc pls (.double y :: .double x :: st) μ o :=
  sim_go (fun _ h => h.tl.tl.cn (v := Value.double _) trivial) (fun G hG ad H locs ls d mc ms cells slots Q hR hl kk => lv_ddiv (hF G hG).1 (hF G hG).2.1 hd hne (kk ls hl)) k
theorem s_f2dX {x : UInt32} (hF : FxO F own cc nL v) (hd : decode cc pc = .ok (.f2d, 1)) (hne : vf_n64 (FP.f2d x)) (k : Sim F enc (pc + 1) pls (.double (FP.f2d x) :: st) μ o) : Sim F enc pc pls (.float x :: st) μ o :=
  sim_go (fun _ h => h.tl.cn (v := Value.double _) trivial) (fun G hG ad H locs ls d mc ms cells slots Q hR hl kk => lv_f2d (hF G hG).1 (hF G hG).2.1 hd hne (kk ls hl)) k
theorem Okm.cpI {h0 h1 sp dp n : Nat} (ho : Okm μ) (hn : h1 ≤ g_n μ) (hb : g_K μ h1 = 13 → ∀ k, fits .byte (.int (g_I μ h0 k)) = true) : Okm (p_cpI μ h0 h1 sp dp n) := by
  refine ⟨ho.1, fun a b hl => ⟨?_, (ho.2.1 a b hl).2⟩, fun a b hk => ?_⟩
  · have : a ≠ h1 := fun e => by subst e; exact absurd hl (Nat.not_lt.mpr hn)
    show cp2 μ.1 h0 h1 sp dp n a b = 0
    rw [cp2_o this]
    exact (ho.2.1 a b hl).1
  · show fits .byte (.int (cp2 μ.1 h0 h1 sp dp n a b)) = true
    by_cases e : a = h1
    · subst e
      rw [cp2_s]
      unfold va_cpy
      split
      · exact hb hk _
      · exact ho.2.2 a b hk
    · rw [cp2_o e]
      exact ho.2.2 a b hk
theorem Okm.cpL {h0 h1 sp dp n : Nat} (ho : Okm μ) (hn : h1 ≤ g_n μ) : Okm (p_cpL μ h0 h1 sp dp n) := by
  refine ⟨ho.1, fun a b hl => ⟨(ho.2.1 a b hl).1, ?_, (ho.2.1 a b hl).2.2⟩, ho.2.2⟩
  have : a ≠ h1 := fun e => by subst e; exact absurd hl (Nat.not_lt.mpr hn)
  show cp2 μ.2.1 h0 h1 sp dp n a b = 0
  rw [cp2_o this]
  exact (ho.2.1 a b hl).2.1
theorem Okm.cpD {h0 h1 sp dp n : Nat} (ho : Okm μ) (hn : h1 ≤ g_n μ) : Okm (p_cpD μ h0 h1 sp dp n) := by
  refine ⟨ho.1, fun a b hl => ⟨(ho.2.1 a b hl).1, (ho.2.1 a b hl).2.1, ?_, (ho.2.1 a b hl).2.2.2⟩, ho.2.2⟩
  have : a ≠ h1 := fun e => by subst e; exact absurd hl (Nat.not_lt.mpr hn)
  show cp2 μ.2.2.1 h0 h1 sp dp n a b = 0
  rw [cp2_o this]
  exact (ho.2.1 a b hl).2.2.1
theorem s_cpI {idx h0 h1 : Nat} {sp dp n : Int32} (hF : FxO F own cc nL v) (hd : decode cc pc = .ok (.invokestatic idx, 3)) (hl : Cond.methodLink own idx arraycopyName ∈ WA) (hnt : Cond.native arraycopyName ∈ WA) (hs : Cond.static arraycopyName ∈ WA) (hi : Cond.initialized "java/lang/System" ∈ WA) (hv1 : 1 ≤ v) (hcat : (st.map fun v => v.category).sum ≤ 8) (hg : inC μ h0 h1 15 sp dp n = true) (k : Sim F enc (pc + 3) pls st (p_cpI μ h0 h1 sp.toNatClampNeg dp.toNatClampNeg n.toNatClampNeg) o) : Sim F enc pc pls (.int n :: .int dp :: .ref h1 :: .int sp :: .ref h0 :: st) μ o := by
  obtain ⟨k0, k1, g1, g2, g3, g4, g5⟩ := inC_iff.mp hg
  obtain ⟨h00, hn0, hK0⟩ := isK_iff.mp k0
  obtain ⟨h01, hn1, hK1⟩ := isK_iff.mp k1
  intro r μ' ho
  have k9 := k
  obtain ⟨hm', kk⟩ := k r μ' ho
  refine ⟨(show Mono μ (p_cpI μ h0 h1 sp.toNatClampNeg dp.toNatClampNeg n.toNatClampNeg) from ⟨Nat.le_refl _, Nat.le_refl _, Nat.le_refl _, fun _ _ => ⟨rfl, rfl⟩⟩).tr hm', fun G hG ad H locs ls d hR hdp hV hl9 => ?_⟩
  obtain ⟨r1, r2, r3, r4⟩ := (hF G hG).2.2.2.2.2.2.2.2.2 (g_c μ' - x_c0 G) (g_w μ' - x_w0 G)
  have hfr : 1 ≤ (x_R G (g_c μ' - x_c0 G) (g_w μ' - x_w0 G)).frames := by omega
  have hlo : ((st.map (tr (x_g G) ad)).map fun v => v.category).sum + (nativeFrameWords "java/lang/System" "arraycopy" 5 + 11) ≤ (x_R G (g_c μ' - x_c0 G) (g_w μ' - x_w0 G)).locals := by
    rw [cat_tr]
    exact Nat.le_trans (Nat.add_le_add hcat cpw) (by omega)
  refine va_copyi (s := (x_s G).setDrawn d) (hF G hG).1 (hF G hG).2.1 ((hF G hG).2.2.1.trans hl9.1.symm) (hF G hG).2.2.2.2.1 ((hF G hG).ht d _ hl) ((hF G hG).ht d _ hnt) ((hF G hG).ht d _ hs) ((hF G hG).ht d _ hi) ((hF G hG).hK d) hR.1 hR.2.1 hR.2.2.1 (h0 - 1) (h1 - 1) 2 2 (en_at h00 hn0 (en_I hK0)) (en_at h01 hn1 (en_I hK1)) rfl rfl rfl g1 g2 g3 g4 g5 (fun i _ => rfl) hfr hlo hd (fun H1 locs1 hP hD hS => ?_)
  have e1 : (wl (x_g G) ad μ).set (h1 - 1) (ad h1, .inl ((x_g G).2.2.1 15, g_N μ h1, .inl (va_cpy (g_I μ h0) (g_I μ h1) sp.toNatClampNeg dp.toNatClampNeg n.toNatClampNeg))) = wl (x_g G) ad (p_cpI μ h0 h1 sp.toNatClampNeg dp.toNatClampNeg n.toNatClampNeg) :=
    wl_set h01 rfl ((en_I (show g_K (p_cpI μ h0 h1 sp.toNatClampNeg dp.toNatClampNeg n.toNatClampNeg) h1 = 15 from hK1)).trans (by show Sum.inl (_, _, Sum.inl (cp2 μ.1 h0 h1 sp.toNatClampNeg dp.toNatClampNeg n.toNatClampNeg h1)) = _; rw [cp2_s]; rfl)) (fun a ha => by show enf _ _ _ _ (cp2 μ.1 h0 h1 sp.toNatClampNeg dp.toNatClampNeg n.toNatClampNeg a) _ _ _ = enf _ _ _ _ _ _ _ _; rw [cp2_o ha]; rfl)
  rw [e1] at hP hD
  exact kk G hG ad H1 locs1 ls d ⟨hP, hD, hS, hR.2.2.2.1.cpI hn1 (fun e => absurd (hK1.symm.trans e) (by omega)), hR.2.2.2.2.1, hR.2.2.2.2.2.1, hR.2.2.2.2.2.2.1, hR.2.2.2.2.2.2.2⟩ hdp hV.tl.tl.tl.tl.tl hl9
theorem s_cpB {idx h0 h1 : Nat} {sp dp n : Int32} (hF : FxO F own cc nL v) (hd : decode cc pc = .ok (.invokestatic idx, 3)) (hl : Cond.methodLink own idx arraycopyName ∈ WA) (hnt : Cond.native arraycopyName ∈ WA) (hs : Cond.static arraycopyName ∈ WA) (hi : Cond.initialized "java/lang/System" ∈ WA) (hv1 : 1 ≤ v) (hcat : (st.map fun v => v.category).sum ≤ 8) (hg : inC μ h0 h1 13 sp dp n = true) (k : Sim F enc (pc + 3) pls st (p_cpI μ h0 h1 sp.toNatClampNeg dp.toNatClampNeg n.toNatClampNeg) o) : Sim F enc pc pls (.int n :: .int dp :: .ref h1 :: .int sp :: .ref h0 :: st) μ o := by
  obtain ⟨k0, k1, g1, g2, g3, g4, g5⟩ := inC_iff.mp hg
  obtain ⟨h00, hn0, hK0⟩ := isK_iff.mp k0
  obtain ⟨h01, hn1, hK1⟩ := isK_iff.mp k1
  intro r μ' ho
  have k9 := k
  obtain ⟨hm', kk⟩ := k r μ' ho
  refine ⟨(show Mono μ (p_cpI μ h0 h1 sp.toNatClampNeg dp.toNatClampNeg n.toNatClampNeg) from ⟨Nat.le_refl _, Nat.le_refl _, Nat.le_refl _, fun _ _ => ⟨rfl, rfl⟩⟩).tr hm', fun G hG ad H locs ls d hR hdp hV hl9 => ?_⟩
  obtain ⟨r1, r2, r3, r4⟩ := (hF G hG).2.2.2.2.2.2.2.2.2 (g_c μ' - x_c0 G) (g_w μ' - x_w0 G)
  have hfr : 1 ≤ (x_R G (g_c μ' - x_c0 G) (g_w μ' - x_w0 G)).frames := by omega
  have hlo : ((st.map (tr (x_g G) ad)).map fun v => v.category).sum + (nativeFrameWords "java/lang/System" "arraycopy" 5 + 11) ≤ (x_R G (g_c μ' - x_c0 G) (g_w μ' - x_w0 G)).locals := by
    rw [cat_tr]
    exact Nat.le_trans (Nat.add_le_add hcat cpw) (by omega)
  refine va_copyi (s := (x_s G).setDrawn d) (hF G hG).1 (hF G hG).2.1 ((hF G hG).2.2.1.trans hl9.1.symm) (hF G hG).2.2.2.2.1 ((hF G hG).ht d _ hl) ((hF G hG).ht d _ hnt) ((hF G hG).ht d _ hs) ((hF G hG).ht d _ hi) ((hF G hG).hK d) hR.1 hR.2.1 hR.2.2.1 (h0 - 1) (h1 - 1) 0 0 (en_at h00 hn0 (en_B hK0)) (en_at h01 hn1 (en_B hK1)) rfl rfl rfl g1 g2 g3 g4 g5 (fun i _ => hR.2.2.2.1.2.2 _ _ hK0) hfr hlo hd (fun H1 locs1 hP hD hS => ?_)
  have e1 : (wl (x_g G) ad μ).set (h1 - 1) (ad h1, .inl ((x_g G).2.2.1 13, g_N μ h1, .inl (va_cpy (g_I μ h0) (g_I μ h1) sp.toNatClampNeg dp.toNatClampNeg n.toNatClampNeg))) = wl (x_g G) ad (p_cpI μ h0 h1 sp.toNatClampNeg dp.toNatClampNeg n.toNatClampNeg) :=
    wl_set h01 rfl ((en_B (show g_K (p_cpI μ h0 h1 sp.toNatClampNeg dp.toNatClampNeg n.toNatClampNeg) h1 = 13 from hK1)).trans (by show Sum.inl (_, _, Sum.inl (cp2 μ.1 h0 h1 sp.toNatClampNeg dp.toNatClampNeg n.toNatClampNeg h1)) = _; rw [cp2_s]; rfl)) (fun a ha => by show enf _ _ _ _ (cp2 μ.1 h0 h1 sp.toNatClampNeg dp.toNatClampNeg n.toNatClampNeg a) _ _ _ = enf _ _ _ _ _ _ _ _; rw [cp2_o ha]; rfl)
  rw [e1] at hP hD
  exact kk G hG ad H1 locs1 ls d ⟨hP, hD, hS, hR.2.2.2.1.cpI hn1 (fun _ k => hR.2.2.2.1.2.2 _ k hK0), hR.2.2.2.2.1, hR.2.2.2.2.2.1, hR.2.2.2.2.2.2.1, hR.2.2.2.2.2.2.2⟩ hdp hV.tl.tl.tl.tl.tl hl9
theorem s_cpL {idx h0 h1 : Nat} {sp dp n : Int32} (hF : FxO F own cc nL v) (hd : decode cc pc = .ok (.invokestatic idx, 3)) (hl : Cond.methodLink own idx arraycopyName ∈ WA) (hnt : Cond.native arraycopyName ∈ WA) (hs : Cond.static arraycopyName ∈ WA) (hi : Cond.initialized "java/lang/System" ∈ WA) (hv1 : 1 ≤ v) (hcat : (st.map fun v => v.category).sum ≤ 8) (hg : inC μ h0 h1 16 sp dp n = true) (k : Sim F enc (pc + 3) pls st (p_cpL μ h0 h1 sp.toNatClampNeg dp.toNatClampNeg n.toNatClampNeg) o) : Sim F enc pc pls (.int n :: .int dp :: .ref h1 :: .int sp :: .ref h0 :: st) μ o := by
  obtain ⟨k0, k1, g1, g2, g3, g4, g5⟩ := inC_iff.mp hg
  obtain ⟨h00, hn0, hK0⟩ := isK_iff.mp k0
  obtain ⟨h01, hn1, hK1⟩ := isK_iff.mp k1
  intro r μ' ho
  have k9 := k
  obtain ⟨hm', kk⟩ := k r μ' ho
  refine ⟨(show Mono μ (p_cpL μ h0 h1 sp.toNatClampNeg dp.toNatClampNeg n.toNatClampNeg) from ⟨Nat.le_refl _, Nat.le_refl _, Nat.le_refl _, fun _ _ => ⟨rfl, rfl⟩⟩).tr hm', fun G hG ad H locs ls d hR hdp hV hl9 => ?_⟩
  obtain ⟨r1, r2, r3, r4⟩ := (hF G hG).2.2.2.2.2.2.2.2.2 (g_c μ' - x_c0 G) (g_w μ' - x_w0 G)
  have hfr : 1 ≤ (x_R G (g_c μ' - x_c0 G) (g_w μ' - x_w0 G)).frames := by omega
  have hlo : ((st.map (tr (x_g G) ad)).map fun v => v.category).sum + (nativeFrameWords "java/lang/System" "arraycopy" 5 + 11) ≤ (x_R G (g_c μ' - x_c0 G) (g_w μ' - x_w0 G)).locals := by
    rw [cat_tr]
    exact Nat.le_trans (Nat.add_le_add hcat cpw) (by omega)
  refine va_copyl (s := (x_s G).setDrawn d) (hF G hG).1 (hF G hG).2.1 ((hF G hG).2.2.1.trans hl9.1.symm) (hF G hG).2.2.2.2.1 ((hF G hG).ht d _ hl) ((hF G hG).ht d _ hnt) ((hF G hG).ht d _ hs) ((hF G hG).ht d _ hi) ((hF G hG).hK d) hR.1 hR.2.1 hR.2.2.1 (h0 - 1) (h1 - 1) 3 3 (en_at h00 hn0 (en_L hK0)) (en_at h01 hn1 (en_L hK1)) rfl rfl rfl g1 g2 g3 g4 g5 (fun i _ => rfl) hfr hlo hd (fun H1 locs1 hP hD hS => ?_)
  have e1 : (wl (x_g G) ad μ).set (h1 - 1) (ad h1, .inl ((x_g G).2.2.1 16, g_N μ h1, .inr (.inl (va_cpy (g_L μ h0) (g_L μ h1) sp.toNatClampNeg dp.toNatClampNeg n.toNatClampNeg)))) = wl (x_g G) ad (p_cpL μ h0 h1 sp.toNatClampNeg dp.toNatClampNeg n.toNatClampNeg) :=
    wl_set h01 rfl ((en_L (show g_K (p_cpL μ h0 h1 sp.toNatClampNeg dp.toNatClampNeg n.toNatClampNeg) h1 = 16 from hK1)).trans (by show Sum.inl (_, _, Sum.inr (Sum.inl (cp2 μ.2.1 h0 h1 sp.toNatClampNeg dp.toNatClampNeg n.toNatClampNeg h1))) = _; rw [cp2_s]; rfl)) (fun a ha => by show enf _ _ _ _ _ (cp2 μ.2.1 h0 h1 sp.toNatClampNeg dp.toNatClampNeg n.toNatClampNeg a) _ _ = enf _ _ _ _ _ _ _ _; rw [cp2_o ha]; rfl)
  rw [e1] at hP hD
  exact kk G hG ad H1 locs1 ls d ⟨hP, hD, hS, hR.2.2.2.1.cpL hn1, hR.2.2.2.2.1, hR.2.2.2.2.2.1, hR.2.2.2.2.2.2.1, hR.2.2.2.2.2.2.2⟩ hdp hV.tl.tl.tl.tl.tl hl9
theorem s_cpD {idx h0 h1 : Nat} {sp dp n : Int32} (hF : FxO F own cc nL v) (hd : decode cc pc = .ok (.invokestatic idx, 3)) (hl : Cond.methodLink own idx arraycopyName ∈ WA) (hnt : Cond.native arraycopyName ∈ WA) (hs : Cond.static arraycopyName ∈ WA) (hi : Cond.initialized "java/lang/System" ∈ WA) (hv1 : 1 ≤ v) (hcat : (st.map fun v => v.category).sum ≤ 8) (hg : inC μ h0 h1 14 sp dp n = true) (k : Sim F enc (pc + 3) pls st (p_cpD μ h0 h1 sp.toNatClampNeg dp.toNatClampNeg n.toNatClampNeg) o) : Sim F enc pc pls (.int n :: .int dp :: .ref h1 :: .int sp :: .ref h0 :: st) μ o := by
  obtain ⟨k0, k1, g1, g2, g3, g4, g5⟩ := inC_iff.mp hg
  obtain ⟨h00, hn0, hK0⟩ := isK_iff.mp k0
  obtain ⟨h01, hn1, hK1⟩ := isK_iff.mp k1
  intro r μ' ho
  have k9 := k
  obtain ⟨hm', kk⟩ := k r μ' ho
  refine ⟨(show Mono μ (p_cpD μ h0 h1 sp.toNatClampNeg dp.toNatClampNeg n.toNatClampNeg) from ⟨Nat.le_refl _, Nat.le_refl _, Nat.le_refl _, fun _ _ => ⟨rfl, rfl⟩⟩).tr hm', fun G hG ad H locs ls d hR hdp hV hl9 => ?_⟩
  obtain ⟨r1, r2, r3, r4⟩ := (hF G hG).2.2.2.2.2.2.2.2.2 (g_c μ' - x_c0 G) (g_w μ' - x_w0 G)
  have hfr : 1 ≤ (x_R G (g_c μ' - x_c0 G) (g_w μ' - x_w0 G)).frames := by omega
  have hlo : ((st.map (tr (x_g G) ad)).map fun v => v.category).sum + (nativeFrameWords "java/lang/System" "arraycopy" 5 + 11) ≤ (x_R G (g_c μ' - x_c0 G) (g_w μ' - x_w0 G)).locals := by
    rw [cat_tr]
    exact Nat.le_trans (Nat.add_le_add hcat cpw) (by omega)
  refine va_copyd (s := (x_s G).setDrawn d) (hF G hG).1 (hF G hG).2.1 ((hF G hG).2.2.1.trans hl9.1.symm) (hF G hG).2.2.2.2.1 ((hF G hG).ht d _ hl) ((hF G hG).ht d _ hnt) ((hF G hG).ht d _ hs) ((hF G hG).ht d _ hi) ((hF G hG).hK d) hR.1 hR.2.1 hR.2.2.1 (h0 - 1) (h1 - 1) 1 1 (en_at h00 hn0 (en_D hK0)) (en_at h01 hn1 (en_D hK1)) rfl rfl rfl g1 g2 g3 g4 g5 (fun i _ => rfl) hfr hlo hd (fun H1 locs1 hP hD hS => ?_)
  have e1 : (wl (x_g G) ad μ).set (h1 - 1) (ad h1, .inl ((x_g G).2.2.1 14, g_N μ h1, .inr (.inr (.inr (.inl (va_cpy (g_D μ h0) (g_D μ h1) sp.toNatClampNeg dp.toNatClampNeg n.toNatClampNeg)))))) = wl (x_g G) ad (p_cpD μ h0 h1 sp.toNatClampNeg dp.toNatClampNeg n.toNatClampNeg) :=
    wl_set h01 rfl ((en_D (show g_K (p_cpD μ h0 h1 sp.toNatClampNeg dp.toNatClampNeg n.toNatClampNeg) h1 = 14 from hK1)).trans (by show Sum.inl (_, _, Sum.inr (Sum.inr (Sum.inr (Sum.inl (cp2 μ.2.2.1 h0 h1 sp.toNatClampNeg dp.toNatClampNeg n.toNatClampNeg h1))))) = _; rw [cp2_s]; rfl)) (fun a ha => by show enf _ _ _ _ _ _ (cp2 μ.2.2.1 h0 h1 sp.toNatClampNeg dp.toNatClampNeg n.toNatClampNeg a) _ = enf _ _ _ _ _ _ _ _; rw [cp2_o ha]; rfl)
  rw [e1] at hP hD
  exact kk G hG ad H1 locs1 ls d ⟨hP, hD, hS, hR.2.2.2.1.cpD hn1, hR.2.2.2.2.1, hR.2.2.2.2.2.1, hR.2.2.2.2.2.2.1, hR.2.2.2.2.2.2.2⟩ hdp hV.tl.tl.tl.tl.tl hl9
end SXR
def LJ0_length (j : Nat) (μ : Mem) : Option (Int32 × Mem) := if j < 10 then some (nI (sLen j), μ) else none
theorem ctLJ0_length (j : Nat) (μ : Mem) : ∀ (r : Int32) (μ' : Mem), LJ0_length j μ = some (r, μ') → CtX yJ0_length_8abf5 cJ0_length_8abf5 1 (some .int) 1 [.retAddr j] μ (encI r) μ' := by
  intro r μ' h
  unfold LJ0_length at h
  split at h
  · rename_i hj
    cases h
    have := ctJ0_length hj μ
    have e : nI (sLen j) >>> ((0 : Int32) &&& 31) = nI (sLen j) := by simp
    rw [e] at this
    exact this
  · cases h
def LJ0_charAt (j : Nat) (i : Int32) (μ : Mem) : Option (Int32 × Mem) := if j < 10 ∧ ¬ i < 0 ∧ i < nI (sLen j) then some (((sChr j i.toNatClampNeg &&& 255).toUInt32 % 65536).toInt32, μ) else none
theorem nar_ch (y : UInt32) : narrow .char (.int (y % 65536).toInt32) = .int (y % 65536).toInt32 := by
  have e : y % 65536 % 65536 = y % 65536 := UInt32.toNat_inj.mp (by simp)
  show Value.int (((y % 65536).toInt32.toUInt32 % 65536).toInt32) = _
  simp [e]
theorem ctLJ0_charAt (j : Nat) (i : Int32) (μ : Mem) : ∀ (r : Int32) (μ' : Mem), LJ0_charAt j i μ = some (r, μ') → CtX yJ0_charAt_5068e cJ0_charAt_5068e 2 (some .char) 3 [.retAddr j, .int i] μ (encI r) μ' := by
  intro r μ' h
  unfold LJ0_charAt at h
  split at h
  · rename_i hj
    cases h
    exact ctJ0_charAt hj.1 hj.2.1 hj.2.2 (nar_ch _) μ
  · cases h
def FLq (own : String) (idx c k : Nat) (b fin : Bool) : Prop := ∃ (C : String) (T : u_T) (N : Nat) (ty0 : Nat → FieldType), clL[c]? = some (C, T, N) ∧ c < 13 ∧ k < N ∧ (∀ w ∈ u_ws C T N, w ∈ WA) ∧ Cond.fieldLink own idx (T k).1 (T k).2.1 (T k).2.2.1 ∈ WA ∧ (fko c)[k]? = some b ∧
  (∀ j, j < N → parseFieldDescriptor (T j).2.2.1 = some (ty0 j)) ∧ (∀ a, a < N → ∀ b, b < N → a ≠ b → (T a).2.1 ≠ (T b).2.1) ∧ (T k).2.2.2 = fin ∧ True ∧ (b = false → ty0 k = .int) ∧ (b = true → (∃ n, ty0 k = .object n) ∨ ∃ t, ty0 k = .array t)
section SXQ
variable {α : Type} {F : Option Fx} {enc : α → Outc} {own : String} {cc : ByteArray} {nL v : Nat} {pc : Nat} {pls pls' : List (Nat × Value)} {st : List Value} {μ : Mem} {o : Option (α × Mem)}
theorem s_getIq (hF : FxO F own cc nL v) {h c f idx : Nat} {fin : Bool} (hd : decode cc pc = .ok (.getfield idx, 3)) (hL : FLq own idx c f false fin) (hk : isK μ h c = true) {x : Int32} (hx : g_I μ h f = x) (k : Sim F enc (pc + 3) pls (.int x :: st) μ o) : Sim F enc pc pls (.ref h :: st) μ o := by
  subst hx
  obtain ⟨C, T, N, ty0, hc, hc13, hkN, hin, hl, hb, -⟩ := hL
  obtain ⟨h0, hn, hK⟩ := isK_iff.mp hk
  refine sim_go (fun _ h => h.tl.cn (v := Value.int _) trivial) (fun G hG ad H locs ls d mc ms cells slots Q hR hl9 kk => ?_) k
  have he : (wl (x_g G) ad μ)[h - 1]? = some (ad h, .inr (c, fvs ad (g_I μ h) (g_R μ h) c)) := by rw [wl_at h0 hn, en_O hK hc13]
  exact va_get (v := .int (g_I μ h f)) (hF G hG).1 (hF G hG).2.1 ((hF G hG).ht d) hin (hF G hG).2.2.2.2.1 ((hF G hG).hK d) hR.1 (h - 1) he hc f hkN ((hF G hG).ht d _ hl) (fun _ q => q) (fvs_at hb) hd (kk ls hl9)
theorem s_getRq (hF : FxO F own cc nL v) {h c f idx : Nat} {fin : Bool} (hd : decode cc pc = .ok (.getfield idx, 3)) (hL : FLq own idx c f true fin) (hk : isK μ h c = true) (hz : 0 < g_R μ h f) {x : Nat} (hx : g_R μ h f = x) (k : Sim F enc (pc + 3) pls (.ref x :: st) μ o) : Sim F enc pc pls (.ref h :: st) μ o := by
  subst hx
  obtain ⟨C, T, N, ty0, hc, hc13, hkN, hin, hl, hb, -⟩ := hL
  obtain ⟨h0, hn, hK⟩ := isK_iff.mp hk
  refine sim_go (fun ho h9 => h9.tl.cn (v := Value.ref _) (ho.1 h f)) (fun G hG ad H locs ls d mc ms cells slots Q hR hl9 kk => ?_) k
  have he : (wl (x_g G) ad μ)[h - 1]? = some (ad h, .inr (c, fvs ad (g_I μ h) (g_R μ h) c)) := by rw [wl_at h0 hn, en_O hK hc13]
  exact va_get (v := .ref (ad (g_R μ h f))) (hF G hG).1 (hF G hG).2.1 ((hF G hG).ht d) hin (hF G hG).2.2.2.2.1 ((hF G hG).hK d) hR.1 (h - 1) he hc f hkN ((hF G hG).ht d _ hl) (fun _ q => q) ((fvs_at hb).trans (congrArg some (fval_r hz))) hd (kk ls hl9)
theorem s_getNq (hF : FxO F own cc nL v) {h c f idx : Nat} {fin : Bool} (hd : decode cc pc = .ok (.getfield idx, 3)) (hL : FLq own idx c f true fin) (hk : isK μ h c = true) (hz : g_R μ h f = 0) (k : Sim F enc (pc + 3) pls (.null :: st) μ o) : Sim F enc pc pls (.ref h :: st) μ o := by
  obtain ⟨C, T, N, ty0, hc, hc13, hkN, hin, hl, hb, -⟩ := hL
  obtain ⟨h0, hn, hK⟩ := isK_iff.mp hk
  refine sim_go (fun ho h9 => h9.tl.cn (v := Value.null) trivial) (fun G hG ad H locs ls d mc ms cells slots Q hR hl9 kk => ?_) k
  have he : (wl (x_g G) ad μ)[h - 1]? = some (ad h, .inr (c, fvs ad (g_I μ h) (g_R μ h) c)) := by rw [wl_at h0 hn, en_O hK hc13]
  exact va_get (v := .null) (hF G hG).1 (hF G hG).2.1 ((hF G hG).ht d) hin (hF G hG).2.2.2.2.1 ((hF G hG).hK d) hR.1 (h - 1) he hc f hkN ((hF G hG).ht d _ hl) (fun _ q => q) ((fvs_at hb).trans (congrArg some (fval_n hz))) hd (kk ls hl9)
theorem s_putIq (hF : FxO F own cc nL v) {h c f idx : Nat} {x : Int32} (hd : decode cc pc = .ok (.putfield idx, 3)) (hL : FLq own idx c f false false) (hk : isK μ h c = true) (k : Sim F enc (pc + 3) pls st (p_I μ h f x) o) : Sim F enc pc pls (.int x :: .ref h :: st) μ o := by
  obtain ⟨C, T, N, ty0, hc, hc13, hkN, hin, hl, hb, hty, hnm, hfin, hdc, hti, -⟩ := hL
  obtain ⟨h0, hn, hK⟩ := isK_iff.mp hk
  refine sim_wr (μ1 := p_I μ h f x) rfl rfl rfl Mono.pI (fun ho _ => ho.pI hn fun e => absurd (hK.symm.trans e) (by omega)) (fun h9 => h9.tl.tl) (fun G hG ad H locs ls d mc ms cells slots Q hR _ hl9 kk => ?_) k
  have he : (wl (x_g G) ad μ)[h - 1]? = some (ad h, .inr (c, fvs ad (g_I μ h) (g_R μ h) c)) := by rw [wl_at h0 hn, en_O hK hc13]
  have e1 : (wl (x_g G) ad μ).set (h - 1) (ad h, .inr (c, (fvs ad (g_I μ h) (g_R μ h) c).set f (.int x))) = wl (x_g G) ad (p_I μ h f x) := by
    rw [fvs_pI hb]
    exact wl_set h0 rfl (en_O (show g_K (p_I μ h f x) h = c from hK) hc13) (fun a ha => en_pI ha)
  have hty1 := hti rfl
  refine va_put (v := .int x) (ty := .int) (hF G hG).1 (hF G hG).2.1 ((hF G hG).ht d) hin ty0 hty hnm (hF G hG).2.2.2.2.1 ((hF G hG).hK d) hR.1 hR.2.1 hR.2.2.1 (h - 1) he hc f hkN ((hF G hG).ht d _ hl) (fun _ q => q) hfin (by rw [hty f hkN, hty1]) rfl rfl (by rw [fvs_len]; exact (List.getElem?_eq_some_iff.mp hb).1) hd (fun H1 locs1 hP hD hS => ?_)
  rw [e1] at hP hD
  exact kk H1 locs1 hP hD hS ls hl9
theorem s_putRq (hF : FxO F own cc nL v) {h c f idx : Nat} {x : Nat} (hd : decode cc pc = .ok (.putfield idx, 3)) (hL : FLq own idx c f true false) (hk : isK μ h c = true) (hx : 0 < x) (k : Sim F enc (pc + 3) pls st (p_R μ h f x) o) : Sim F enc pc pls (.ref x :: .ref h :: st) μ o := by
  obtain ⟨C, T, N, ty0, hc, hc13, hkN, hin, hl, hb, hty, hnm, hfin, hdc, -, htr⟩ := hL
  obtain ⟨h0, hn, hK⟩ := isK_iff.mp hk
  refine sim_wr (μ1 := p_R μ h f x) rfl rfl rfl Mono.pR (fun ho h9 => ho.pR hn h9.hd) (fun h9 => h9.tl.tl) (fun G hG ad H locs ls d mc ms cells slots Q hR _ hl9 kk => ?_) k
  have he : (wl (x_g G) ad μ)[h - 1]? = some (ad h, .inr (c, fvs ad (g_I μ h) (g_R μ h) c)) := by rw [wl_at h0 hn, en_O hK hc13]
  have e1 : (wl (x_g G) ad μ).set (h - 1) (ad h, .inr (c, (fvs ad (g_I μ h) (g_R μ h) c).set f (.ref (ad x)))) = wl (x_g G) ad (p_R μ h f x) := by
    rw [fvs_pR hx hb]
    exact wl_set h0 rfl (en_O (show g_K (p_R μ h f x) h = c from hK) hc13) (fun a ha => en_pR ha)
  refine va_put (v := .ref (ad x)) (ty := ty0 f) (hF G hG).1 (hF G hG).2.1 ((hF G hG).ht d) hin ty0 hty hnm (hF G hG).2.2.2.2.1 ((hF G hG).hK d) hR.1 hR.2.1 hR.2.2.1 (h - 1) he hc f hkN ((hF G hG).ht d _ hl) (fun _ q => q) hfin (hty f hkN) (nar_ref (htr rfl)).1 (nar_ref (htr rfl)).2 (by rw [fvs_len]; exact (List.getElem?_eq_some_iff.mp hb).1) hd (fun H1 locs1 hP hD hS => ?_)
  rw [e1] at hP hD
  exact kk H1 locs1 hP hD hS ls hl9
end SXQ
