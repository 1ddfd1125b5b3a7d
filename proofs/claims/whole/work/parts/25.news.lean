/-! ===== ROWS: throws, new things, the JDK's own ===== -/
def isRT (t : FieldType) : Bool := match t with
  | .object _ => true
  | .array _ => true
  | _ => false
/-- kind c is the class C, its fields as told -/
def CK (c : Nat) (C : String) (N : Nat) : Prop := ∃ (T : u_T) (ty0 : Nat → FieldType), clL[c]? = some (C, T, N) ∧ c < 13 ∧ (∀ w ∈ u_ws C T N, w ∈ WA) ∧ (∀ j, j < N → parseFieldDescriptor (T j).2.2.1 = some (ty0 j)) ∧ (∀ j, j < N → (fko c)[j]? = some (isRT (ty0 j))) ∧ ∀ j, j < N → isRT (ty0 j) = false → ty0 j = .int
section SN1
variable {α : Type} {F : Option Fx} {enc : α → Outc} {own : String} {cc : ByteArray} {nL v : Nat} {pc : Nat} {pls : List (Nat × Value)} {st : List Value} {μ : Mem} {o : Option (α × Mem)} {ret : Option FieldType}
theorem s_throwW {r : α} {k ik is ic : Nat} {text : String} {names : List String} (hF : FxO F own cc nL v) (hD : FxXO F ret) (hv : names.length + 4 ≤ v) (he : enc r = .inr k) (d0 : decode cc pc = .ok (.new ik, 3)) (d3 : decode cc (pc + 3) = .ok (.dup, 1)) (d4 : decode cc (pc + 4) = .ok (.ldc_w is, 3)) (d7 : decode cc (pc + 7) = .ok (.invokespecial ic, 3)) (d10 : decode cc (pc + 10) = .ok (.athrow, 1))
    (hcl : Cond.classLink own ik (exN k) ∈ WA) (hini : Cond.initialized (exN k) ∈ WA) (hfit : Bundle.fit (exN k) = true) (hnames : ∀ n ∈ names, Bundle.fit n = true) (hstr : ∃ j : Nat, strL[j]? = some (own, is, text)) (ha1 : ∀ w ∈ (vx_atS own ic (exN k) names).filter goodWord, w ∈ WA) (ha2 : ∀ w ∈ (vx_atS own ic (exN k) names).filter (fun w => !goodWord w), w ∈ WX)
    (hgood : ∀ w ∈ Cond.classLink own ik (exN k) :: Cond.initialized (exN k) :: vx_atS own ic (exN k) names, vx_ot w = true) (hcat : (st.map fun v => v.category).sum ≤ 8) : Sim F enc pc pls st μ (some (r, p_lost μ 1 6)) := by
  intro r' μ' ho
  cases ho
  refine ⟨Mono.lost, fun G hG ad H locs ls d hR hdp hV hl => ?_⟩
  have hFG := hF G hG
  obtain ⟨hr, hlk, e1, e2, htab, e3, hst, hN, hZ, hX⟩ := hD G hG
  rw [e1] at hdp
  subst hdp
  obtain ⟨j, hj⟩ := hstr
  have hsr := hX.1 j _ hj
  obtain ⟨h1, h2, h3, h4, h5, h6, h7, h8⟩ := id hR
  obtain ⟨r1, r2, r3, r4⟩ := hFG.2.2.2.2.2.2.2.2.2 (g_c (p_lost μ 1 6) - x_c0 G) (g_w (p_lost μ 1 6) - x_w0 G)
  have ec : g_c (p_lost μ 1 6) = g_c μ + 1 := rfl
  have ew : g_w (p_lost μ 1 6) = g_w μ + 6 := rfl
  rw [ec, ew] at r3 r4 ⊢
  rw [ec, ew] at r1 r2
  have hWX : ∀ w ∈ WX, w.before (x_a G) (x_s G) = true := hN.use
  rw [e3, he]
  refine vx_throwSW (names := names) hFG.1 hFG.2.1 hst hFG.2.2.2.2.1 hfit hnames (hFG.2.2.2.1 _ hcl) (hFG.2.2.2.1 _ hini) hsr (vx_hat (fun w hw => hFG.2.2.2.1 w (ha1 w hw)) ha2 hWX) hgood hZ.1 hZ.2 h3 (by rw [hFG.2.2.1]; exact hl.1) d0 d3 d4 d7 d10 (fun x hx => (htab x hx).elim) (by omega) ?_ (by omega) (by omega) hlk (fun t ha hz hq => ?_) (fun z hz => ?_) (by omega) (by omega)
  · rw [cat_tr]
    omega
  · refine ⟨k, ad, rfl, rfl, h5, ?_, ?_, h4.lost, va_K.moved ha hFG.2.2.2.2.2.1, ?_⟩
    · rw [wl_lost]
      exact h1.kept fun i q hq' => hq q.1 ((h1 i q hq').lt)
    · rw [wl_lost, ← e2]
      exact h2
    · rw [← e2]
      refine ⟨Nat.le_trans h3.1 hz, fun q q1 q2 => ?_⟩
      rw [hq q (Nat.lt_of_lt_of_le q1 h3.1)]
      exact h3.2.1 q q1 q2
  · have := h3.2.2 z hz
    rw [e2] at this
    exact this
/-- a step that makes one thing -/
theorem sim_new {c len w pc' : Nat} {st0 : List Value} (hsp : ∀ q ∈ st, q ∈ st0)
    (h : ∀ (G : Fx), F = some G → ∀ (ad : Nat → Nat) (H : Heap) (locs : List Loc) (ls : Array Slot) (d : Drawn) (mc ms cells slots : Nat) (Q : State → Prop), RelH G ad μ H locs → lv_has ls (x_nL G) (trP (x_g G) ad pls) → cells + 1 ≤ (x_R G mc ms).cells → slots + w ≤ (x_R G mc ms).slots →
      (∀ (q : Nat) (e : va_E) (H1 : Heap), en (x_g G) (ext1 ad (g_n μ + 1) q) (p_new μ c len w) (g_n μ + 1) = e → va_P (gDI (x_g G)) clL (wl (x_g G) ad μ ++ [(q, e)]) H1 → va_D (x_A G) (wl (x_g G) ad μ ++ [(q, e)]) → va_S (x_A G) (x_s G).heap H1 locs → Wg G mc ms d H1 locs (cells + 1) (slots + w) Q pc' ls (.ref q :: st.map (tr (x_g G) ad))) →
      Wg G mc ms d H locs cells slots Q pc ls (st0.map (tr (x_g G) ad)))
    (k : Sim F enc pc' pls (.ref (g_n μ + 1) :: st) (p_new μ c len w) o) (hF : FxO F own cc nL v) : Sim F enc pc pls st0 μ o := by
  intro r μ' ho
  obtain ⟨hm', kk⟩ := k r μ' ho
  refine ⟨Mono.new.tr hm', fun G hG ad H locs ls d hR hd hV hl => ?_⟩
  have c2 := hm'.2.1
  have w2 := hm'.2.2.1
  have ec : g_c (p_new μ c len w) = g_c μ + 1 := rfl
  have ew : g_w (p_new μ c len w) = g_w μ + w := rfl
  rw [ec] at c2
  rw [ew] at w2
  obtain ⟨h1, h2, h3, h4, h5, h6, h7, h8⟩ := id hR
  obtain ⟨r1, r2, r3, r4⟩ := (hF G hG).2.2.2.2.2.2.2.2.2 (g_c μ' - x_c0 G) (g_w μ' - x_w0 G)
  refine h G hG ad H locs ls d _ _ _ _ _ hR hl (by omega) (by omega) fun q e H1 he hP hD hS => ?_
  rw [wl_push h4 he] at hP hD
  have hag : ∀ a, a ≤ g_n μ → ext1 ad (g_n μ + 1) q a = ad a := fun a ha => if_neg (by omega)
  have hR' : RelH G (ext1 ad (g_n μ + 1) q) (p_new μ c len w) H1 locs := ⟨hP, hD, hS, h4.new, fun h hh => (hag h (Nat.le_trans hh h6)).trans (h5 h hh), Nat.le_trans h6 (Nat.le_succ _), by rw [ec]; omega, by rw [ew]; omega⟩
  have hV' : VOK (g_n (p_new μ c len w)) pls (.ref (g_n μ + 1) :: st) := by
    refine ⟨fun q hq => vok_mono (Nat.le_succ _) (hV.1 q hq), fun q hq => ?_⟩
    rcases List.mem_cons.mp hq with rfl | hq
    · exact Nat.le_refl _
    · exact vok_mono (Nat.le_succ _) (hV.2 q (hsp q hq))
  have := kk G hG (ext1 ad (g_n μ + 1) q) H1 locs ls d hR' hd hV' (by rw [trP_ext hag hV.1]; exact hl)
  rw [ec, ew, show g_c μ + 1 - x_c0 G = g_c μ - x_c0 G + 1 by omega, show g_w μ + w - x_w0 G = g_w μ - x_w0 G + w by omega] at this
  have e8 : (Value.ref (g_n μ + 1) :: st).map (tr (x_g G) (ext1 ad (g_n μ + 1) q)) = .ref q :: st.map (tr (x_g G) ad) := by
    rw [List.map_cons, trS_ext hag (fun q hq => hV.2 q (hsp q hq))]
    show Value.ref (ext1 ad (g_n μ + 1) q (g_n μ + 1)) :: _ = _
    rw [show ext1 ad (g_n μ + 1) q (g_n μ + 1) = q from if_pos rfl]
  rw [e8] at this
  exact this
theorem new_z {c len w : Nat} (ho : Okm μ) : g_I (p_new μ c len w) (g_n μ + 1) = (fun _ => 0) ∧ g_L (p_new μ c len w) (g_n μ + 1) = (fun _ => 0) ∧ g_D (p_new μ c len w) (g_n μ + 1) = (fun _ => 0) ∧ g_R (p_new μ c len w) (g_n μ + 1) = (fun _ => 0) ∧ g_K (p_new μ c len w) (g_n μ + 1) = c ∧ g_N (p_new μ c len w) (g_n μ + 1) = len :=
  ⟨funext fun k => (ho.2.1 _ k (Nat.lt_succ_self _)).1, funext fun k => (ho.2.1 _ k (Nat.lt_succ_self _)).2.1, funext fun k => (ho.2.1 _ k (Nat.lt_succ_self _)).2.2.1, funext fun k => (ho.2.1 _ k (Nat.lt_succ_self _)).2.2.2, if_pos rfl, if_pos rfl⟩
theorem s_new {idx c N : Nat} {C : String} (hF : FxO F own cc nL v) (hd : decode cc pc = .ok (.new idx, 3)) (hcl : Cond.classLink own idx C ∈ WA) (hins : Cond.instantiable C N ∈ WA) (hini : Cond.initialized C ∈ WA) (hck : CK c C N) (k : Sim F enc (pc + 3) pls (.ref (g_n μ + 1) :: st) (p_new μ c 0 N) o) : Sim F enc pc pls st μ o := by
  obtain ⟨T, ty0, hc, hc13, hin, hty, hfk, hti⟩ := hck
  refine sim_new (fun q hq => hq) (fun G hG ad H locs ls d mc ms cells slots Q hR hl hc1 hs1 kk => ?_) k hF
  have hFG := hF G hG
  obtain ⟨z1, z2, z3, z4, z5, z6⟩ := new_z (μ := μ) (c := c) (len := 0) (w := N) hR.2.2.2.1
  refine va_new (ci := c) (fs := fvs ad (fun _ => 0) (fun _ => 0) c) hFG.1 hFG.2.1 (hFG.ht d) hin ty0 hty hFG.2.2.2.2.1 (hFG.ht d _ hcl) (hFG.ht d _ hins) (hFG.ht d _ hini) (hFG.hK d) hR.1 hR.2.1 hR.2.2.1 hFG.2.2.2.2.2.2.1 hc (fun j hj => ?_) hc1 hs1 hd (fun q H1 hP hD hS => kk q _ H1 ?_ hP hD hS)
  · unfold vp_V
    rw [List.getD_eq_getElem?_getD, fvs_at (hfk j hj)]
    cases hb : isRT (ty0 j) with
    | false => rw [hti j hj hb]; rfl
    | true =>
      generalize ty0 j = t at hb
      cases t <;> first | rfl | cases hb
  · rw [en_O z5 hc13, z1, z4]
    rfl

theorem s_newaI {n : Int32} {N : Nat} (hF : FxO F own cc nL v) (hd : decode cc pc = .ok (.newarray .int, 2)) (hw : Cond.arrayClass .int ∈ WA) (hn : ¬ n < 0) (hN : n.toNatClampNeg = N) (hb : N * 8 ≤ 536870912) (k : Sim F enc (pc + 2) pls (.ref (g_n μ + 1) :: st) (p_new μ 15 N N) o) : Sim F enc pc pls (.int n :: st) μ o := by
  refine sim_new (fun q hq => List.mem_cons_of_mem _ hq) (fun G hG ad H locs ls d mc ms cells slots Q hR hl hc1 hs1 kk => ?_) k hF
  have hFG := hF G hG
  obtain ⟨z1, z2, z3, z4, z5, z6⟩ := new_z (μ := μ) (c := 15) (len := N) (w := N) hR.2.2.2.1
  refine va_newa (atype := .int) (ty := .int) (N' := N) (a0 := (N, .inl (fun _ => 0))) hFG.1 hFG.2.1 (hFG.ht d _ hw) rfl (hFG.hK d) hR.1 hR.2.1 hR.2.2.1 hFG.2.2.2.2.2.2.1 (fun cA => rfl) hn hN (by simp only [componentBytes]; omega) hc1 hs1 hd (fun q cA H1 hK hP hD hS => kk q _ H1 ?_ hP hD hS)
  have e1 : cA = (x_g G).2.2.1 15 := by
    have h1 := (hK.2 7 (cA, .int) rfl).2
    have h2 := (hK.2 2 ((x_g G).2.2.1 15, .int) rfl).2
    exact Option.some.inj (h1.symm.trans h2)
  rw [en_I z5, z1, z6, e1]
theorem s_newaL {n : Int32} {N : Nat} (hF : FxO F own cc nL v) (hd : decode cc pc = .ok (.newarray .long, 2)) (hw : Cond.arrayClass .long ∈ WA) (hn : ¬ n < 0) (hN : n.toNatClampNeg = N) (hb : N * 8 ≤ 536870912) (k : Sim F enc (pc + 2) pls (.ref (g_n μ + 1) :: st) (p_new μ 16 N N) o) : Sim F enc pc pls (.int n :: st) μ o := by
  refine sim_new (fun q hq => List.mem_cons_of_mem _ hq) (fun G hG ad H locs ls d mc ms cells slots Q hR hl hc1 hs1 kk => ?_) k hF
  have hFG := hF G hG
  obtain ⟨z1, z2, z3, z4, z5, z6⟩ := new_z (μ := μ) (c := 16) (len := N) (w := N) hR.2.2.2.1
  refine va_newa (atype := .long) (ty := .long) (N' := N) (a0 := (N, .inr (.inl (fun _ => 0)))) hFG.1 hFG.2.1 (hFG.ht d _ hw) rfl (hFG.hK d) hR.1 hR.2.1 hR.2.2.1 hFG.2.2.2.2.2.2.1 (fun cA => rfl) hn hN (by simp only [componentBytes]; omega) hc1 hs1 hd (fun q cA H1 hK hP hD hS => kk q _ H1 ?_ hP hD hS)
  have e1 : cA = (x_g G).2.2.1 16 := by
    have h1 := (hK.2 7 (cA, .long) rfl).2
    have h2 := (hK.2 3 ((x_g G).2.2.1 16, .long) rfl).2
    exact Option.some.inj (h1.symm.trans h2)
  rw [en_L z5, z2, z6, e1]
theorem s_newaD {n : Int32} {N : Nat} (hF : FxO F own cc nL v) (hd : decode cc pc = .ok (.newarray .double, 2)) (hw : Cond.arrayClass .double ∈ WA) (hn : ¬ n < 0) (hN : n.toNatClampNeg = N) (hb : N * 8 ≤ 536870912) (k : Sim F enc (pc + 2) pls (.ref (g_n μ + 1) :: st) (p_new μ 14 N N) o) : Sim F enc pc pls (.int n :: st) μ o := by
  refine sim_new (fun q hq => List.mem_cons_of_mem _ hq) (fun G hG ad H locs ls d mc ms cells slots Q hR hl hc1 hs1 kk => ?_) k hF
  have hFG := hF G hG
  obtain ⟨z1, z2, z3, z4, z5, z6⟩ := new_z (μ := μ) (c := 14) (len := N) (w := N) hR.2.2.2.1
  refine va_newa (atype := .double) (ty := .double) (N' := N) (a0 := (N, .inr (.inr (.inr (.inl (fun _ => 0)))))) hFG.1 hFG.2.1 (hFG.ht d _ hw) rfl (hFG.hK d) hR.1 hR.2.1 hR.2.2.1 hFG.2.2.2.2.2.2.1 (fun cA => rfl) hn hN (by simp only [componentBytes]; omega) hc1 hs1 hd (fun q cA H1 hK hP hD hS => kk q _ H1 ?_ hP hD hS)
  have e1 : cA = (x_g G).2.2.1 14 := by
    have h1 := (hK.2 7 (cA, .double) rfl).2
    have h2 := (hK.2 1 ((x_g G).2.2.1 14, .double) rfl).2
    exact Option.some.inj (h1.symm.trans h2)
  rw [en_D z5, z3, z6, e1]
theorem s_newaB {n : Int32} {N : Nat} (hF : FxO F own cc nL v) (hd : decode cc pc = .ok (.newarray .byte, 2)) (hw : Cond.arrayClass .byte ∈ WA) (hn : ¬ n < 0) (hN : n.toNatClampNeg = N) (hb : N * 8 ≤ 536870912) (k : Sim F enc (pc + 2) pls (.ref (g_n μ + 1) :: st) (p_new μ 13 N N) o) : Sim F enc pc pls (.int n :: st) μ o := by
  refine sim_new (fun q hq => List.mem_cons_of_mem _ hq) (fun G hG ad H locs ls d mc ms cells slots Q hR hl hc1 hs1 kk => ?_) k hF
  have hFG := hF G hG
  obtain ⟨z1, z2, z3, z4, z5, z6⟩ := new_z (μ := μ) (c := 13) (len := N) (w := N) hR.2.2.2.1
  refine va_newa (atype := .byte) (ty := .byte) (N' := N) (a0 := (N, .inl (fun _ => 0))) hFG.1 hFG.2.1 (hFG.ht d _ hw) rfl (hFG.hK d) hR.1 hR.2.1 hR.2.2.1 hFG.2.2.2.2.2.2.1 (fun cA => rfl) hn hN (by simp only [componentBytes]; omega) hc1 hs1 hd (fun q cA H1 hK hP hD hS => kk q _ H1 ?_ hP hD hS)
  have e1 : cA = (x_g G).2.2.1 13 := by
    have h1 := (hK.2 7 (cA, .byte) rfl).2
    have h2 := (hK.2 0 ((x_g G).2.2.1 13, .byte) rfl).2
    exact Option.some.inj (h1.symm.trans h2)
  rw [en_B z5, z1, z6, e1]
theorem ro0 (ad : Nat → Nat) : (fun _ : Nat => ro ad 0) = fun _ => none := rfl
theorem s_newr {idx c t0 : Nat} {n : Int32} {N : Nat} {C : String} (hF : FxO F own cc nL v) (hD : FxXO F ret) (hd : decode cc pc = .ok (.anewarray idx, 3)) (hcl : Cond.classLink own idx C ∈ WA) (hov : Cond.arrayOver (.object C) ∈ WX) (hc16 : 16 < c) (htc : ∀ g : Gx, (tysL g)[t0]? = some (g.2.2.1 c, .object C)) (ht7 : t0 < 7) (hn : ¬ n < 0) (hN : n.toNatClampNeg = N) (hb : N * 4 ≤ 536870912) (k : Sim F enc (pc + 3) pls (.ref (g_n μ + 1) :: st) (p_new μ c N N) o) : Sim F enc pc pls (.int n :: st) μ o := by
  refine sim_new (fun q hq => List.mem_cons_of_mem _ hq) (fun G hG ad H locs ls d mc ms cells slots Q hR hl hc1 hs1 kk => ?_) k hF
  have hFG := hF G hG
  obtain ⟨z1, z2, z3, z4, z5, z6⟩ := new_z (μ := μ) (c := c) (len := N) (w := N) hR.2.2.2.1
  refine va_newq (s := (x_s G).setDrawn d) (C := C) (N' := N) hFG.1 hFG.2.1 hFG.2.2.2.2.1 (hFG.ht d _ hcl) (va_AO.moved (u := x_s G) (Vm.Alike.refl _) ((hD G hG).2.2.2.2.2.2.2.1 _ hov)) (hFG.hK d) hR.1 hR.2.1 hR.2.2.1 hFG.2.2.2.2.2.2.1 hn hN hb hc1 hs1 hd (fun q cA H1 hK hP hD hS => kk q _ H1 ?_ hP hD hS)
  have e1 : cA = (x_g G).2.2.1 c := by
    obtain ⟨-, k1, c1, -, -, -, h1⟩ := hK.2 7 (cA, .object C) rfl
    obtain ⟨-, k2, c2, -, -, -, h2⟩ := hK.2 t0 ((x_g G).2.2.1 c, .object C) (by rw [List.getElem?_append_left (by simpa using ht7)]; exact htc _)
    exact Option.some.inj (h1.symm.trans h2)
  rw [en_R z5 hc16, z4, z6, e1]
  rfl
theorem s_objInit {idx : Nat} {h : Nat} (hF : FxO F own cc nL v) (hd : decode cc pc = .ok (.invokespecial idx, 3)) (hl : Cond.methodLink own idx objectInit ∈ WA) (hi : Cond.instanceMethod objectInit ∈ WA) (hc : Cond.code objectInit ⟨#[0xb1]⟩ 1 none ∈ WA) (hv : 1 ≤ v) (hcat : (st.map fun v => v.category).sum ≤ 8) (k : Sim F enc (pc + 3) pls st μ o) : Sim F enc pc pls (.ref h :: st) μ o := by
  intro r μ' ho
  obtain ⟨hm, kk⟩ := k r μ' ho
  refine ⟨hm, fun G hG ad H locs ls d hR hdp hV hl9 => ?_⟩
  have hFG := hF G hG
  obtain ⟨r1, r2, r3, r4⟩ := hFG.2.2.2.2.2.2.2.2.2 (g_c μ' - x_c0 G) (g_w μ' - x_w0 G)
  refine W.objInit (s := (x_s G).setDrawn d) hFG.1 hFG.2.1 hFG.2.2.2.2.1 (hFG.ht d _ hl) (hFG.ht d _ hi) (hFG.ht d _ hc) (g := F0 (x_m G) pc ls (.ref (ad h) :: st.map (tr (x_g G) ad))) rfl (by rw [hFG.2.2.1]; exact hl9.1) rfl hd (Nat.le_trans hv r1) ?_ (kk G hG ad H locs ls d hR hdp hV.tl hl9)
  show 2 * 0 + ((st.map (tr (x_g G) ad)).map fun v => v.category).sum + 12 ≤ _
  rw [cat_tr]
  omega
/-- a step of the JDK's that leaves the world -/
theorem sim_go2 {pc' : Nat} {st0 : List Value} (hv1 : 1 ≤ v) (hF : FxO F own cc nL v) (hv : VOK (g_n μ) pls st0 → VOK (g_n μ) pls st)
    (h : ∀ (G : Fx), F = some G → ∀ (ad : Nat → Nat) (H : Heap) (locs : List Loc) (ls : Array Slot) (d : Drawn) (R : Room) (cells slots : Nat) (Q : State → Prop), FxOk G own cc nL v → RelH G ad μ H locs → lv_has ls (x_nL G) (trP (x_g G) ad pls) → 1 ≤ R.frames → 60 ≤ R.locals → cells ≤ R.cells → slots ≤ R.slots →
      W (x_p G) (x_l G) (x_e G) R ((x_s G).setDrawn d) (x_m G) (x_a G) (x_b G) (x_y G) (x_c G) H locs cells slots Q (F0 (x_m G) pc' ls (st.map (tr (x_g G) ad))) → W (x_p G) (x_l G) (x_e G) R ((x_s G).setDrawn d) (x_m G) (x_a G) (x_b G) (x_y G) (x_c G) H locs cells slots Q (F0 (x_m G) pc ls (st0.map (tr (x_g G) ad))))
    (k : Sim F enc pc' pls st μ o) : Sim F enc pc pls st0 μ o := by
  intro r μ' ho
  obtain ⟨hm, kk⟩ := k r μ' ho
  refine ⟨hm, fun G hG ad H locs ls d hR hd hV hl => ?_⟩
  have hFG := hF G hG
  obtain ⟨r1, r2, r3, r4⟩ := hFG.2.2.2.2.2.2.2.2.2 (g_c μ' - x_c0 G) (g_w μ' - x_w0 G)
  have c1 := hm.2.1
  have w1 := hm.2.2.1
  exact h G hG ad H locs ls d _ _ _ _ hFG hR hl (by omega) (by omega) (by omega) (by omega) (kk G hG ad H locs ls d hR hd (hv hV) hl)

theorem s_min {idx : Nat} {x y : Int32} (hF : FxO F own cc nL v) (hd : decode cc pc = .ok (.invokestatic idx, 3)) (hl : Cond.methodLink own idx Lib.Math.min.name ∈ WA) (hs : Cond.static Lib.Math.min.name ∈ WA) (hi : Cond.initialized "java/lang/Math" ∈ WA) (hc : Cond.code Lib.Math.min.name Lib.Math.min.code 2 (some .int) ∈ WA) (hv : 1 ≤ v) (hcat : (st.map fun v => v.category).sum ≤ 8) (k : Sim F enc (pc + 3) pls (.int (if y < x then y else x) :: st) μ o) : Sim F enc pc pls (.int y :: .int x :: st) μ o :=
  sim_go2 hv hF (fun h => h.tl.tl.cn (v := Value.int _) trivial) (fun G hG ad H locs ls d R cells slots Q hFG hR hl9 r1 r2 r3 r4 kk => va_mmin (s := (x_s G).setDrawn d) (rest := st.map (tr (x_g G) ad)) hFG.1 hFG.2.1 (hFG.2.2.1.trans hl9.1.symm) hFG.2.2.2.2.1 (hFG.ht d _ hl) (hFG.ht d _ hs) (hFG.ht d _ hi) (hFG.ht d _ hc) r1 (by rw [cat_tr]; omega) r3 r4 hd kk) k
theorem s_max {idx : Nat} {x y : Int32} (hF : FxO F own cc nL v) (hd : decode cc pc = .ok (.invokestatic idx, 3)) (hl : Cond.methodLink own idx Lib.Math.max.name ∈ WA) (hs : Cond.static Lib.Math.max.name ∈ WA) (hi : Cond.initialized "java/lang/Math" ∈ WA) (hc : Cond.code Lib.Math.max.name Lib.Math.max.code 2 (some .int) ∈ WA) (hv : 1 ≤ v) (hcat : (st.map fun v => v.category).sum ≤ 8) (k : Sim F enc (pc + 3) pls (.int (if x < y then y else x) :: st) μ o) : Sim F enc pc pls (.int y :: .int x :: st) μ o :=
  sim_go2 hv hF (fun h => h.tl.tl.cn (v := Value.int _) trivial) (fun G hG ad H locs ls d R cells slots Q hFG hR hl9 r1 r2 r3 r4 kk => va_mmax (s := (x_s G).setDrawn d) (rest := st.map (tr (x_g G) ad)) hFG.1 hFG.2.1 (hFG.2.2.1.trans hl9.1.symm) hFG.2.2.2.2.1 (hFG.ht d _ hl) (hFG.ht d _ hs) (hFG.ht d _ hi) (hFG.ht d _ hc) r1 (by rw [cat_tr]; omega) r3 r4 hd kk) k
theorem s_minL {idx : Nat} {x y : Int64} (hF : FxO F own cc nL v) (hd : decode cc pc = .ok (.invokestatic idx, 3)) (hl : Cond.methodLink own idx Lib.MathLoose.min_long.x ∈ WA) (hs : Cond.static Lib.MathLoose.min_long.x ∈ WA) (hi : Cond.initialized "java/lang/Math" ∈ WA) (hc : Cond.code Lib.MathLoose.min_long.x Lib.MathLoose.min_long.code 4 (some .long) ∈ WA) (hv : 1 ≤ v) (hcat : (st.map fun v => v.category).sum ≤ 8) (k : Sim F enc (pc + 3) pls (.long (if y < x then y else x) :: st) μ o) : Sim F enc pc pls (.long y :: .long x :: st) μ o :=
  sim_go2 hv hF (fun h => h.tl.tl.cn (v := Value.long _) trivial) (fun G hG ad H locs ls d R cells slots Q hFG hR hl9 r1 r2 r3 r4 kk => va_mmin_long (s := (x_s G).setDrawn d) (rest := st.map (tr (x_g G) ad)) hFG.1 hFG.2.1 (hFG.2.2.1.trans hl9.1.symm) hFG.2.2.2.2.1 (hFG.ht d _ hl) (hFG.ht d _ hs) (hFG.ht d _ hi) (hFG.ht d _ hc) r1 (by rw [cat_tr]; omega) r3 r4 hd kk) k
theorem s_absL {idx : Nat} {x : Int64} (hF : FxO F own cc nL v) (hd : decode cc pc = .ok (.invokestatic idx, 3)) (hl : Cond.methodLink own idx Lib.MathLoose.abs_long.x ∈ WA) (hs : Cond.static Lib.MathLoose.abs_long.x ∈ WA) (hi : Cond.initialized "java/lang/Math" ∈ WA) (hc : Cond.code Lib.MathLoose.abs_long.x Lib.MathLoose.abs_long.code 2 (some .long) ∈ WA) (hv : 1 ≤ v) (hcat : (st.map fun v => v.category).sum ≤ 8) (k : Sim F enc (pc + 3) pls (.long (if 0 < x then x else -x) :: st) μ o) : Sim F enc pc pls (.long x :: st) μ o :=
  sim_go2 hv hF (fun h => h.tl.cn (v := Value.long _) trivial) (fun G hG ad H locs ls d R cells slots Q hFG hR hl9 r1 r2 r3 r4 kk => va_mabs_long (s := (x_s G).setDrawn d) (rest := st.map (tr (x_g G) ad)) hFG.1 hFG.2.1 (hFG.2.2.1.trans hl9.1.symm) hFG.2.2.2.2.1 (hFG.ht d _ hl) (hFG.ht d _ hs) (hFG.ht d _ hi) (hFG.ht d _ hc) r1 (by rw [cat_tr]; omega) r3 r4 hd kk) k
end SN1
