/-! ===== methods that catch: a frame with a table of handlers ===== -/
def ncP : List (Nat × Nat) := [(0, 1), (0, 2), (0, 3), (0, 4), (1, 0), (1, 2), (1, 3), (1, 4), (2, 0), (2, 1), (2, 3), (2, 4), (3, 0), (3, 1), (3, 2), (3, 4), (4, 0), (4, 1), (4, 2), (4, 3)]
/-- no exception is another's kind -/
def NCX (U : State) : Prop := ∀ q ∈ ncP, va_Nc (exN q.1) (exN q.2) U
def HCode (cc : ByteArray) (nL h : Nat) (c' : Int32) : Prop := ∃ n : Int, Int32.ofInt n = c' ∧ ((∃ i : Fin 4, (i : Nat) < nL ∧ decode cc h = .ok (.astore_n i, 1) ∧ decode cc (h + 1) = .ok (.iconst n, 1) ∧ decode cc (h + 1 + 1) = .ok (.ireturn, 1)) ∨ (∃ i : Nat, i < nL ∧ decode cc h = .ok (.astore i, 2) ∧ decode cc (h + 2) = .ok (.iconst n, 1) ∧ decode cc (h + 2 + 1) = .ok (.ireturn, 1)))
def HOK (own : String) (cc : ByteArray) (pc : Nat) (hh : List (Nat × Nat × Nat × Nat)) (nL k : Nat) (c' : Int32) : Prop :=
  ∃ (pre : List ExceptionTableEntry) (x : ExceptionTableEntry) (suf : List ExceptionTableEntry), tableOf hh = pre ++ x :: suf ∧ (∀ z ∈ pre, covers z pc = false ∨ (z.catchType ≠ 0 ∧ ∃ j : Nat, Cond.classLink own z.catchType (exN j) ∈ WA ∧ (k, j) ∈ ncP)) ∧ covers x pc = true ∧ x.catchType ≠ 0 ∧ Cond.classLink own x.catchType (exN k) ∈ WA ∧ Cond.castable (exN k) (exN k) ∈ WX ∧ HCode cc nL x.handlerPc c'
def FxH (F : Fx) (ret : Option FieldType) (hh : List (Nat × Nat × Nat × Nat)) : Prop :=
  (x_y F).sig.returnType = ret ∧ (x_y F).locks = false ∧ x_dp F = (fun d => d = (x_s F).drawn) ∧ x_A F = AA (x_ad F) (x_n0 F) (x_s F).heap.size ∧ (x_c F).exceptionTable.toList = tableOf hh ∧
    x_Q F = (fun mc ms out μ' => vx_MQ (x_b F) (QRd (x_g F) (x_ad F) (x_n0 F) (x_s F).heap.size out μ') (XCx (x_g F) (x_ad F) (x_n0 F) (x_s F).heap.size out μ') (x_a F) (x_s F) mc ms (AA (x_ad F) (x_n0 F) (x_s F).heap.size)) ∧ FxC F ∧ NCX (x_s F)
def FxHO (F : Option Fx) (ret : Option FieldType) (hh : List (Nat × Nat × Nat × Nat)) : Prop := ∀ G, F = some G → FxH G ret hh
def CtH (y : MethodName) (cc : ByteArray) (maxL : Nat) (ret : Option FieldType) (hh : List (Nat × Nat × Nat × Nat)) (v : Nat) (args : List Value) (μ : Mem) (out : Outc) (μ' : Mem) : Prop :=
  Mono μ μ' ∧ ∀ (l : Launch) (g : Gx) (ad : Nat → Nat) (sz : Nat), l.stackTraces = false → (∀ a ∈ args, vok (g_n μ) a) →
    vx_Met l y (.codeWith y cc maxL ret hh :: WA) (rmv v (g_c μ' - g_c μ) (g_w μ' - g_w μ)) (va_Pc (args.map (tr g ad)) (fun U => PRx g ad μ sz U ∧ NCX U)) (QRd g ad (g_n μ) sz out μ') (XCx g ad (g_n μ) sz out μ') (g_c μ' - g_c μ) (g_w μ' - g_w μ) (AA ad (g_n μ) sz)
section SH1
variable {α β : Type} {F : Option Fx} {enc : α → Outc} {own : String} {cc : ByteArray} {nL v : Nat} {pc : Nat} {pls : List (Nat × Value)} {st : List Value} {μ : Mem} {o : Option (α × Mem)} {ret : Option FieldType} {hh : List (Nat × Nat × Nat × Nat)}
theorem ct_enterH {y : MethodName} {maxL : Nat} {args : List Value} (hy : plainName y.cls = true) (hsl : (lg_sl args).length ≤ maxL)
    (body : ∀ F : Option Fx, FxO F y.cls cc maxL v → FxHO F ret hh → Sim F enc 0 (lv_args 0 args) [] μ o) : ∀ (r : α) (μ' : Mem), o = some (r, μ') → CtH y cc maxL ret hh v args μ (enc r) μ' := by
  intro r μ' ho
  refine ⟨(body none (fun G h => by cases h) (fun G h => by cases h) r μ' ho).1, fun l g ad sz hst hargs => ?_⟩
  refine vx_ofWH (hh := hh) (cc := cc) (maxL := maxL) (ret := ret) hy rfl ?_
  intro p e s m args9 below meth c s₁ B hml hv
  obtain ⟨rfl, ⟨⟨hsz, hP, hD, hO, hK⟩, hN, hZ, hX⟩, hNC⟩ := hv
  subst hsz
  have hts := atoms_spec (ws := .codeWith y cc maxL ret hh :: WA) B.pre
  have htab : c.exceptionTable.toList = tableOf hh := vx_table (x := y) B (hts _ List.mem_cons_self)
  have hts : ∀ w ∈ WA, w.before _ s = true := fun w h => hts w (List.mem_cons_of_mem _ h)
  let G : Fx := ((p, l, e, s, m, (args.map (tr g ad)).toArray, below, meth, c), (g, AA ad (g_n μ) s.heap.size, ad), (maxL, v, g_n μ, g_c μ, g_w μ), (fun d => d = s.drawn), (fun mc ms => rmv v mc ms), fun mc ms out μ' => vx_MQ below (QRd g ad (g_n μ) s.heap.size out μ') (XCx g ad (g_n μ) s.heap.size out μ') (args.map (tr g ad)).toArray s mc ms (AA ad (g_n μ) s.heap.size))
  have hFo : FxO (some G) y.cls cc maxL v := fun G' h => by
    cases h
    exact ⟨B.exec, B.bytes, hml, hts, findClass_of_methodNamed B.named, hK, fun q h => Or.inr h, rfl, rfl, fun mc ms => ⟨Nat.le_refl _, Nat.le_refl _, Nat.le_refl _, Nat.le_refl _⟩⟩
  have hFd : FxHO (some G) ret hh := fun G' h => by
    cases h
    exact ⟨B.returns, B.notSynchronized, rfl, rfl, htab, rfl, ⟨hst, hN, hZ, hX⟩, hNC⟩
  obtain ⟨-, kk⟩ := body (some G) hFo hFd r μ' ho
  rw [lg_entry_eq]
  have hl := lv_entry (args.map (tr g ad)) (n := maxL) (by rw [lg_sl_tr]; exact hsl)
  generalize (lg_sl (args.map (tr g ad)) ++ List.replicate (maxL - (lg_sl (args.map (tr g ad))).length) Slot.unset).toArray = ls at hl ⊢
  rw [lv_args_tr] at hl
  have hV : VOK (g_n μ) (lv_args 0 args) [] := ⟨lv_args_ok args 0 hargs, fun _ h => by cases h⟩
  have := kk G rfl ad s.heap [] ls s.drawn ⟨hP, hD, va_S.rf, hO, fun _ _ => rfl, Nat.le_refl _, Nat.le_refl _, Nat.le_refl _⟩ rfl hV hl
  have e1 : g_c μ - x_c0 G = 0 := Nat.sub_self _
  have e2 : g_w μ - x_w0 G = 0 := Nat.sub_self _
  rw [e1, e2] at this
  exact this
theorem qrh_of {G : Fx} {ad : Nat → Nat} {H : Heap} {locs : List Loc} {x : Int32} (hF : FxOk G own cc nL v) (hD : FxH G ret hh) (hR : RelH G ad μ H locs) :
    ∀ t : State, t.heap = H → (x_s G).WarmedH t.vm → QRd (x_g G) (x_ad G) (x_n0 G) (x_s G).heap.size (.inl (some (.int x))) μ (x_a G) (x_s G) (.returned (some (.int x))) t := by
  intro t ht hW
  obtain ⟨-, -, -, hA, -⟩ := hD
  obtain ⟨h1, h2, h3, h4, h5, h6, h7, h8⟩ := hR
  refine ⟨some (.int x), some (.int x), ad, rfl, rfl, rfl, h5, by rw [ht]; exact h1, by rw [← hA]; exact h2, h4, trivial, va_K.moved hW.alike hF.2.2.2.2.2.1, ?_⟩
  rw [← hA]
  exact va_S.F h3 ht
theorem s_iretH {r : α} {x : Int32} (hF : FxO F own cc nL v) (hD : FxHO F (some .int) hh) (hd : decode cc pc = .ok (.ireturn, 1)) (he : enc r = .inl (some (.int x))) : Sim F enc pc pls [.int x] μ (some (r, μ)) := by
  intro r' μ' ho
  cases ho
  refine ⟨Mono.rf, fun G hG ad H locs ls d hR hdp hV hl => ?_⟩
  have hF := hF G hG
  have hD := hD G hG
  have hq := qrh_of (x := x) hF hD hR
  obtain ⟨hr, hlk, e1, e2, -, e3, -⟩ := hD
  rw [e1] at hdp
  subst hdp
  rw [e3, he]
  refine vx_ret ?_
  rw [← e2]
  exact W.iret (v := x) hF.1 hF.2.1 hr hq hR.2.2.1.2.2 hd hlk
/-- from a handler's place to the end -/
theorem w_hand {G : Fx} {ad : Nat → Nat} {H : Heap} {locs : List Loc} {ls : Array Slot} {h q : Nat} {c' : Int32} {cells slots : Nat} {R : Room} (hF : FxOk G own cc nL v) (hD : FxH G (some .int) hh) (hR : RelH G ad μ H locs) (hl : lv_has ls (x_nL G) (trP (x_g G) ad pls)) (hc : HCode cc nL h c') :
    W (x_p G) (x_l G) (x_e G) R (x_s G) (x_m G) (x_a G) (x_b G) (x_y G) (x_c G) H locs cells slots (vx_MQ (x_b G) (QRd (x_g G) (x_ad G) (x_n0 G) (x_s G).heap.size (.inl (some (.int c'))) μ) (XCx (x_g G) (x_ad G) (x_n0 G) (x_s G).heap.size (.inl (some (.int c'))) μ) (x_a G) (x_s G) cells slots (AA (x_ad G) (x_n0 G) (x_s G).heap.size)) (F0 (x_m G) h ls [.ref q]) := by
  have hq := qrh_of (x := c') hF hD hR
  obtain ⟨hr, hlk, e1, e2, -⟩ := hD
  have hfr : ∀ z ∈ locs, AA (x_ad G) (x_n0 G) (x_s G).heap.size z.base := by rw [← e2]; exact hR.2.2.1.2.2
  obtain ⟨n, hn, ⟨i, hi, d0, d1, d2⟩ | ⟨i, hi, d0, d1, d2⟩⟩ := hc
  · refine lv_astore_n hF.1 hF.2.1 d0 rfl hl (by rw [hF.2.2.2.2.2.2.2.1]; exact hi) rfl (fun ls' hl' => ?_)
    refine lv_iconst hF.1 hF.2.1 d1 hn ?_
    refine vx_ret ?_
    exact W.iret (v := c') hF.1 hF.2.1 hr hq hfr d2 hlk
  · refine lv_astore hF.1 hF.2.1 d0 hl (by rw [hF.2.2.2.2.2.2.2.1]; exact hi) rfl (fun ls' hl' => ?_)
    refine lv_iconst hF.1 hF.2.1 d1 hn ?_
    refine vx_ret ?_
    exact W.iret (v := c') hF.1 hF.2.1 hr hq hfr d2 hlk
theorem s_callH {encβ : β → Outc} {lift : Option (β × Mem)} {kf : β → Mem → Option (α × Mem)} {stk : List Value} {v' : Nat} {y : MethodName} {cc' : ByteArray} {maxL' : Nat} {ret' : Option FieldType} {args' : List Value} (hF : FxO F own cc nL v) (hD : FxHO F (some .int) hh)
    (hC : ∀ (r : β) (μ1 : Mem), lift = some (r, μ1) → CtX y cc' maxL' ret' v' args' μ (encβ r) μ1) (hsp : ∀ w ∈ st, w ∈ stk) (hargs : ∀ w ∈ args', w ∈ stk)
    (hrun : ∀ (G : Fx), F = some G → ∀ (ad : Nat → Nat) (H : Heap) (locs : List Loc) (ls : Array Slot) (Qc : Array Value → State → Outcome → State → Prop) (XC : String → State → State → Prop) (mc ms cells slots : Nat) (R : Room), FxOk G own cc nL v → FxC G → RelH G ad μ H locs → lv_has ls (x_nL G) (trP (x_g G) ad pls) → v ≤ R.frames → 60 * v ≤ R.locals → cells + mc ≤ R.cells → slots + ms ≤ R.slots →
      vx_Met (x_l G) y (.code y cc' maxL' ret' :: WA) (rmv v' mc ms) (va_Pc (args'.map (tr (x_g G) ad)) (PRx (x_g G) ad μ H.size)) Qc XC mc ms (AA ad (g_n μ) H.size) →
      ∃ a9, vx_Run (x_p G) (x_l G) (x_e G) R (x_s G) (x_m G) (x_a G) (x_b G) (x_y G) (x_c G) H locs cells slots mc ms (F0 (x_m G) pc ls (stk.map (tr (x_g G) ad))) (st.map (tr (x_g G) ad)) (Qc a9) XC (AA ad (g_n μ) H.size))
    (hx : ∀ (r : β) (μ1 : Mem) (k : Nat), lift = some (r, μ1) → encβ r = .inr k → ∃ (rr : α) (c' : Int32), kf r μ1 = some (rr, μ1) ∧ enc rr = .inl (some (.int c')) ∧ HOK own cc pc hh nL k c')
    (kk : ∀ (r : β) (μ1 : Mem) (v0 w : Option Value), lift = some (r, μ1) → Mono μ μ1 → encβ r = .inl v0 → rvp v0 w → Sim F enc (pc + 3) pls (w.toList ++ st) μ1 (kf r μ1)) : Sim F enc pc pls stk μ (obind lift kf) := by
  intro r μ' ho
  cases hl : lift with
  | none => rw [hl] at ho; cases ho
  | some x =>
  obtain ⟨x, μ1⟩ := x
  rw [hl] at ho
  have ho : kf x μ1 = some (r, μ') := ho
  obtain ⟨hm1, hM⟩ := hC x μ1 hl
  have hm2 : Mono μ1 μ' := by
    cases he : encβ x with
    | inl v1 => exact (kk x μ1 v1 v1 hl hm1 he (rvp_self _) r μ' ho).1
    | inr k =>
      obtain ⟨rr, -, h1, -⟩ := hx x μ1 k hl he
      rw [h1] at ho
      cases ho
      exact Mono.rf
  refine ⟨hm1.tr hm2, fun G hG ad H locs ls d hR hd hV hlv => ?_⟩
  have hFG := hF G hG
  have hDG := hD G hG
  have hDD := hDG
  obtain ⟨hdr, hdl, hd1, hd2, hd3, hd4, hd5, hdn⟩ := hDD
  rw [hd1] at hd
  subst hd
  have hRR := hR
  obtain ⟨-, -, -, -, h5, h6, h7, h8⟩ := hRR
  obtain ⟨r1, r2, r3, r4⟩ := hFG.2.2.2.2.2.2.2.2.2 (g_c μ' - x_c0 G) (g_w μ' - x_w0 G)
  have c1 := hm1.2.1
  have c2 := hm2.2.1
  have w1 := hm1.2.2.1
  have w2 := hm2.2.2.1
  have ec : g_c μ - x_c0 G + (g_c μ1 - g_c μ) = g_c μ1 - x_c0 G := by omega
  have ew : g_w μ - x_w0 G + (g_w μ1 - g_w μ) = g_w μ1 - x_w0 G := by omega
  obtain ⟨a9, hrn⟩ := hrun G hG ad H locs ls _ _ _ _ (g_c μ - x_c0 G) (g_w μ - x_w0 G) _ hFG hd5 hR hlv r1 r2 (by omega) (by omega) (hM (x_l G) (x_g G) ad H.size hd5.1 (fun a ha => hV.2 a (hargs a ha)))
  intro T hT X
  rcases hrn T hT X with ⟨vres, st₀, t, T', L, h0, X', hL, e1, e2, ⟨v0, w, ad', hv0, hw, hrv, hag, hP', hD', hO', hok', hK', hFf⟩, hst⟩ | ⟨q, st₀, t, T', L, E, ce, h0, X', hL, e1, e2, ⟨k, ad', hk0, hE, hag, hP', hD', hO', hK', hFf⟩, hce, hcv, hcl, hst⟩
  · cases hw
    obtain ⟨wp, hwp, rfl⟩ := rv_split hrv
    obtain ⟨-, kk2⟩ := kk x μ1 v0 wp hl hm1 hv0 hwp r μ' ho
    have hR' := rel_after hFG hR hm1 h0 e1 hL hag hP' hD' hO' hFf
    have hpl := trP_ext (g := x_g G) hag hV.1
    have hstp := trS_ext (g := x_g G) hag (fun q hq => hV.2 q (hsp q hq))
    have hV' : VOK (g_n μ1) pls (wp.toList ++ st) := by
      refine ⟨fun q hq => vok_mono hm1.1 (hV.1 q hq), fun q hq => ?_⟩
      rcases List.mem_append.mp hq with hq | hq
      · cases wp with
        | none => cases hq
        | some z =>
          rcases List.mem_singleton.mp hq with rfl
          cases v0 with
          | none => cases hwp
          | some u =>
            cases u with
            | double u =>
              obtain ⟨y, hy, -⟩ := hwp
              cases hy
              trivial
            | ref u => cases hwp; exact hok'.2
            | _ => cases hwp; trivial
      · exact vok_mono hm1.1 (hV.2 q (hsp q hq))
    have := kk2 G hG ad' T'.heap (locs ++ L) ls (x_s G).drawn hR' (by rw [hd1]) hV' (by rw [hpl]; exact hlv)
    rw [← ec, ← ew] at this
    obtain ⟨t2, a1, b1⟩ := this T' rfl X'
    rw [List.map_append, hstp] at a1
    have e9 : (wp.map (tr (x_g G) ad')).toList = wp.toList.map (tr (x_g G) ad') := by cases wp <;> rfl
    rw [e9] at hst
    exact ⟨t2, hst t2 a1, b1⟩
  · obtain ⟨rr, c', hrr, her, pre, z, suf, hsp, hpass, hcov, hz0, hlink, hcast, hcode⟩ := hx x μ1 k hl hk0
    rw [hrr] at ho
    cases ho
    have hR' := rel_after hFG hR hm1 h0 e1 hL hag hP' hD' hO' hFf
    have hpl := trP_ext (g := x_g G) hag hV.1
    have hout : vx_W (x_p G) (x_l G) (x_e G) (x_R G (g_c μ' - x_c0 G) (g_w μ' - x_w0 G)) (x_s G) (x_m G) (x_a G) (x_b G) (x_y G) (x_c G) T'.heap (locs ++ L) (g_c μ - x_c0 G + (g_c μ' - g_c μ)) (g_w μ - x_w0 G + (g_w μ' - g_w μ)) (x_Q G (g_c μ' - x_c0 G) (g_w μ' - x_w0 G) (enc r) μ') (F0 (x_m G) pc ls (st.map (tr (x_g G) ad))) q := by
      rw [hd4, her, ec, ew]
      subst hE
      refine vx_catch (name := exN k) hFG.2.2.2.2.1 pre z suf (hd3.trans hsp) (fun y hy => ?_) hcov hz0 (hFG.2.2.2.1 _ hlink) (hd5.2.1.use _ hcast) (by rw [e1]; exact hce) hcv hcl ?_
      · rcases hpass y hy with h | ⟨h1, j, h2, h3⟩
        · exact Or.inl h
        · exact Or.inr ⟨h1, exN j, hFG.2.2.2.1 _ h2, hdn _ h3⟩
      · exact w_hand (v := v) hFG hDG hR' (by rw [hpl]; exact hlv) hcode
    obtain ⟨t2, a1, b1⟩ := hout T' rfl X'
    exact ⟨t2, hst.trans a1, b1⟩
theorem s_callHV {encβ : β → Outc} {lift : Option (β × Mem)} {kf : β → Mem → Option (α × Mem)} {stk : List Value} {v' idx n : Nat} {y : MethodName} {cc' : ByteArray} {maxL' : Nat} {ret' : Option FieldType} {As : List Value} {ci b : Nat} {q : vw_C} (hF : FxO F own cc nL v) (hD : FxHO F (some .int) hh) (hd : decode cc pc = .ok (.invokevirtual idx, 3)) (hcw : CWV own idx y cc' maxL' ret' n)
    (hvv : v' + 1 ≤ v) (hml : maxL' ≤ 41) (hq : clL[ci]? = some q) (hqy : q.1 = y.cls) (hci : ci < 13) (hb : isK μ b ci = true) (hst : stk = As.reverse ++ .ref b :: st) (hn : As.length = n) (hcat : (st.map fun v => v.category).sum ≤ 8)
    (hC : ∀ (r : β) (μ1 : Mem), lift = some (r, μ1) → CtX y cc' maxL' ret' v' (.ref b :: As) μ (encβ r) μ1)
    (hx : ∀ (r : β) (μ1 : Mem) (k : Nat), lift = some (r, μ1) → encβ r = .inr k → ∃ (rr : α) (c' : Int32), kf r μ1 = some (rr, μ1) ∧ enc rr = .inl (some (.int c')) ∧ HOK own cc pc hh nL k c')
    (kk : ∀ (r : β) (μ1 : Mem) (v0 w : Option Value), lift = some (r, μ1) → Mono μ μ1 → encβ r = .inl v0 → rvp v0 w → Sim F enc (pc + 3) pls (w.toList ++ st) μ1 (kf r μ1)) : Sim F enc pc pls stk μ (obind lift kf) := by
  subst hst
  refine s_callH hF hD hC (fun w hw => by simp [hw]) (fun w hw => ?_) (fun G hG ad H locs ls Qc XC mc ms cells slots R hFG hFC hR hlv r1 r2 r3 r4 hM => ?_) hx kk
  · rcases List.mem_cons.mp hw with rfl | hw <;> simp [*]
  · refine ⟨_, vx_runV (C := y.cls) (As := As.map (tr (x_g G) ad)) (rest := st.map (tr (x_g G) ad)) ⟨hFG.1, hFG.2.1, hFG.2.2.1, hFG.2.2.2.2.1, hFG.2.2.2.1⟩ hM (cwV n hFG.2.2.2.1 hcw.1 rfl rfl rfl ⟨rfl, hcw.2.1, hcw.2.2.1, hcw.2.2.2⟩ ⟨(by show v' + 1 ≤ R.frames; omega), (by show 8 + (maxL' + 11) + 60 * v' ≤ R.locals; omega)⟩) ⟨blindPRx, ?_, fun U hU hW => ⟨rfl, prx_of hFG hFC hR U hU hW⟩⟩ rfl (by simpa using hn) hlv.1 (by simp; rfl) (lv_room (by rw [cat_tr]; exact hcat)) hd ⟨r3, r4⟩⟩
    obtain ⟨h0, hnn, hK⟩ := isK_iff.mp hb
    rw [← hqy]
    exact va_recv hFG.2.2.2.2.2.1 hR.1 hq (en_at h0 hnn (en_O hK hci))
def obindH (hc : Nat → Option Int32) (q : Option ((Nat ⊕ Int32) × Mem)) (k : Int32 → Mem → Option (Int32 × Mem)) : Option (Int32 × Mem) := obind q (fun r μ1 => r.elim (fun j => (hc j).map (fun c => (c, μ1))) (fun x => k x μ1))
theorem s_hVi {lift : Option ((Nat ⊕ Int32) × Mem)} {kf : Int32 → Mem → Option (Int32 × Mem)} {hc : Nat → Option Int32} {stk : List Value} {v' idx n : Nat} {y : MethodName} {cc' : ByteArray} {maxL' : Nat} {ret' : Option FieldType} (As : List Value) {ci b : Nat} {q : vw_C} (hF : FxO F own cc nL v) (hD : FxHO F (some .int) hh) (hd : decode cc pc = .ok (.invokevirtual idx, 3)) (hcw : CWV own idx y cc' maxL' ret' n)
    (hvv : v' + 1 ≤ v) (hml : maxL' ≤ 41) (hq : clL[ci]? = some q) (hqy : q.1 = y.cls) (hci : ci < 13) (hb : isK μ b ci = true) (hst : stk = As.reverse ++ .ref b :: st) (hn : As.length = n) (hcat : (st.map fun v => v.category).sum ≤ 8)
    (hC : ∀ (r : Nat ⊕ Int32) (μ1 : Mem), lift = some (r, μ1) → CtX y cc' maxL' ret' v' (.ref b :: As) μ (encX encI r) μ1) (hok : ∀ (k : Nat) (c : Int32), hc k = some c → HOK own cc pc hh nL k c)
    (kk : ∀ (r : Int32) (μ1 : Mem), lift = some (.inr r, μ1) → Mono μ μ1 → Sim F encI (pc + 3) pls (.int r :: st) μ1 (kf r μ1)) : Sim F encI pc pls stk μ (obindH hc lift kf) := by
  cases hl : lift with
  | none => exact sim_none
  | some z =>
    obtain ⟨z, μ1⟩ := z
    subst hl
    cases z with
    | inl k =>
      cases hk : hc k with
      | none =>
        have e : obindH hc (some (.inl k, μ1)) kf = none := by
          show (hc k).map _ = none
          rw [hk]
          rfl
        rw [e]
        exact sim_none
      | some c =>
        refine s_callHV hF hD hd hcw hvv hml hq hqy hci hb hst hn hcat hC (fun r m j h1 h2 => ?_) (fun r m v0 w h1 h2 h3 h4 => ?_)
        · cases h1
          cases h2
          refine ⟨c, c, ?_, rfl, hok _ _ hk⟩
          show (hc _).map _ = _
          rw [hk]
          rfl
        · cases h1
          cases h3
    | inr x =>
      refine s_callHV hF hD hd hcw hvv hml hq hqy hci hb hst hn hcat hC (fun r m j h1 h2 => ?_) (fun r m v0 w h1 h2 h3 h4 => ?_)
      · cases h1
        cases h2
      · cases h1
        cases h3
        cases h4
        exact kk _ _ rfl h2
end SH1
