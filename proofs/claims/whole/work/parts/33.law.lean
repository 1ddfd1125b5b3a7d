/-! ===== the law's own frame: it may draw, and calls the class's methods ===== -/
def FxLO (F : Option Fx) : Prop := ∀ G, F = some G → FxC G ∧ NCX (x_s G)
section SL1
variable {α β : Type} {F : Option Fx} {enc : α → Outc} {own : String} {cc : ByteArray} {nL v : Nat} {pc : Nat} {pls : List (Nat × Value)} {st : List Value} {μ : Mem} {o : Option (α × Mem)} {ret : Option FieldType}
theorem NCX.moved {s U : State} (hvm : s.vm.Alike U.vm) (h : NCX s) : NCX U := fun q hq => va_Nc.moved hvm (h q hq)
theorem blindPRh {g : Gx} {ad : Nat → Nat} {av : List Value} {sz : Nat} : FrameBlind (va_Pc av (fun U => PRx g ad μ sz U ∧ NCX U)) := by
  intro a U g9 mk q
  have h := blindPRx (g := g) (ad := ad) (av := av) (sz := sz) (μ := μ) a U g9 mk ⟨q.1, q.2.1⟩
  exact ⟨h.1, h.2, NCX.moved (s := U) (U := U.calling g9 mk a) (Vm.Alike.refl _) q.2.2⟩
theorem s_callL {encβ : β → Outc} {lift : Option (β × Mem)} {kf : β → Mem → Option (α × Mem)} {stk : List Value} {v' : Nat} {y : MethodName} {cc' : ByteArray} {maxL' : Nat} {ret' : Option FieldType} {args' : List Value} (hF : FxO F own cc nL v) (hD : FxLO F)
    (hC : ∀ (r : β) (μ1 : Mem), lift = some (r, μ1) → CtX y cc' maxL' ret' v' args' μ (encβ r) μ1) (hsp : ∀ w ∈ st, w ∈ stk) (hargs : ∀ w ∈ args', w ∈ stk)
    (hrun : ∀ (G : Fx), F = some G → ∀ (ad : Nat → Nat) (H : Heap) (locs : List Loc) (ls : Array Slot) (d : Drawn) (Qc : Array Value → State → Outcome → State → Prop) (XC : String → State → State → Prop) (mc ms cells slots : Nat) (R : Room), FxOk G own cc nL v → FxC G → NCX (x_s G) → RelH G ad μ H locs → lv_has ls (x_nL G) (trP (x_g G) ad pls) → v ≤ R.frames → 60 * v ≤ R.locals → cells + mc ≤ R.cells → slots + ms ≤ R.slots →
      vx_Met (x_l G) y (.code y cc' maxL' ret' :: WA) (rmv v' mc ms) (va_Pc (args'.map (tr (x_g G) ad)) (PRx (x_g G) ad μ H.size)) Qc XC mc ms (AA ad (g_n μ) H.size) →
      ∃ a9, vx_Run (x_p G) (x_l G) (x_e G) R ((x_s G).setDrawn d) (x_m G) (x_a G) (x_b G) (x_y G) (x_c G) H locs cells slots mc ms (F0 (x_m G) pc ls (stk.map (tr (x_g G) ad))) (st.map (tr (x_g G) ad)) (Qc a9) XC (AA ad (g_n μ) H.size))
    (hx : ∀ (r : β) (μ1 : Mem), lift = some (r, μ1) → ∃ v0, encβ r = .inl v0)
    (kk : ∀ (r : β) (μ1 : Mem) (v0 w : Option Value), lift = some (r, μ1) → Mono μ μ1 → encβ r = .inl v0 → rvp v0 w → Sim F enc (pc + 3) pls (w.toList ++ st) μ1 (kf r μ1)) : Sim F enc pc pls stk μ (obind lift kf) := by
  intro r μ' ho
  cases hl : lift with
  | none => rw [hl] at ho; cases ho
  | some x =>
  obtain ⟨x, μ1⟩ := x
  rw [hl] at ho
  have ho : kf x μ1 = some (r, μ') := ho
  obtain ⟨hm1, hM⟩ := hC x μ1 hl
  have hm2 : Mono μ1 μ' := by
    cases he : encβ x with
    | inl v1 => exact (kk x μ1 v1 v1 hl hm1 he (rvp_self _) r μ' ho).1
    | inr k =>
      obtain ⟨v9, h9⟩ := hx x μ1 hl
      rw [h9] at he
      cases he
  refine ⟨hm1.tr hm2, fun G hG ad H locs ls d hR hd hV hlv => ?_⟩
  have hFG := hF G hG
  have hDG := hD G hG
  obtain ⟨hd5, hd6⟩ := hDG
  have hRR := hR
  obtain ⟨-, -, -, -, h5, h6, h7, h8⟩ := hRR
  obtain ⟨r1, r2, r3, r4⟩ := hFG.2.2.2.2.2.2.2.2.2 (g_c μ' - x_c0 G) (g_w μ' - x_w0 G)
  have c1 := hm1.2.1
  have c2 := hm2.2.1
  have w1 := hm1.2.2.1
  have w2 := hm2.2.2.1
  have ec : g_c μ - x_c0 G + (g_c μ1 - g_c μ) = g_c μ1 - x_c0 G := by omega
  have ew : g_w μ - x_w0 G + (g_w μ1 - g_w μ) = g_w μ1 - x_w0 G := by omega
  obtain ⟨a9, hrn⟩ := hrun G hG ad H locs ls d _ _ _ _ (g_c μ - x_c0 G) (g_w μ - x_w0 G) _ hFG hd5 hd6 hR hlv r1 r2 (by omega) (by omega) (hM (x_l G) (x_g G) ad H.size hd5.1 (fun a ha => hV.2 a (hargs a ha)))
  intro T hT X
  rcases hrn T hT X with ⟨vres, st₀, t, T', L, h0, X', hL, e1, e2, ⟨v0, w, ad', hv0, hw, hrv, hag, hP', hD', hO', hok', hK', hFf⟩, hst⟩ | ⟨q, st₀, t, T', L, E, ce, h0, X', hL, e1, e2, ⟨k, ad', hk0, hE, hag, hP', hD', hO', hK', hFf⟩, hce, hcv, hcl, hst⟩
  · cases hw
    obtain ⟨wp, hwp, rfl⟩ := rv_split hrv
    obtain ⟨-, kk2⟩ := kk x μ1 v0 wp hl hm1 hv0 hwp r μ' ho
    have hR' := rel_after hFG hR hm1 h0 e1 hL hag hP' hD' hO' hFf
    have hpl := trP_ext (g := x_g G) hag hV.1
    have hstp := trS_ext (g := x_g G) hag (fun q hq => hV.2 q (hsp q hq))
    have hV' : VOK (g_n μ1) pls (wp.toList ++ st) := by
      refine ⟨fun q hq => vok_mono hm1.1 (hV.1 q hq), fun q hq => ?_⟩
      rcases List.mem_append.mp hq with hq | hq
      · cases wp with
        | none => cases hq
        | some z =>
          rcases List.mem_singleton.mp hq with rfl
          cases v0 with
          | none => cases hwp
          | some u =>
            cases u with
            | double u =>
              obtain ⟨y, hy, -⟩ := hwp
              cases hy
              trivial
            | ref u => cases hwp; exact hok'.2
            | _ => cases hwp; trivial
      · exact vok_mono hm1.1 (hV.2 q (hsp q hq))
    have := kk2 G hG ad' T'.heap (locs ++ L) ls d hR' hd hV' (by rw [hpl]; exact hlv)
    rw [← ec, ← ew] at this
    obtain ⟨t2, a1, b1⟩ := this T' rfl X'
    rw [List.map_append, hstp] at a1
    have e9 : (wp.map (tr (x_g G) ad')).toList = wp.toList.map (tr (x_g G) ad') := by cases wp <;> rfl
    rw [e9] at hst
    exact ⟨t2, hst t2 a1, b1⟩
  · obtain ⟨v9, h9⟩ := hx x μ1 hl
    rw [h9] at hk0
    cases hk0
theorem s_callLH {hh : List (Nat × Nat × Nat × Nat)} {encβ : β → Outc} {lift : Option (β × Mem)} {kf : β → Mem → Option (α × Mem)} {stk : List Value} {v' : Nat} {y : MethodName} {cc' : ByteArray} {maxL' : Nat} {ret' : Option FieldType} {args' : List Value} (hF : FxO F own cc nL v) (hD : FxLO F)
    (hC : ∀ (r : β) (μ1 : Mem), lift = some (r, μ1) → CtH y cc' maxL' ret' hh v' args' μ (encβ r) μ1) (hsp : ∀ w ∈ st, w ∈ stk) (hargs : ∀ w ∈ args', w ∈ stk)
    (hrun : ∀ (G : Fx), F = some G → ∀ (ad : Nat → Nat) (H : Heap) (locs : List Loc) (ls : Array Slot) (d : Drawn) (Qc : Array Value → State → Outcome → State → Prop) (XC : String → State → State → Prop) (mc ms cells slots : Nat) (R : Room), FxOk G own cc nL v → FxC G → NCX (x_s G) → RelH G ad μ H locs → lv_has ls (x_nL G) (trP (x_g G) ad pls) → v ≤ R.frames → 60 * v ≤ R.locals → cells + mc ≤ R.cells → slots + ms ≤ R.slots →
      vx_Met (x_l G) y (.codeWith y cc' maxL' ret' hh :: WA) (rmv v' mc ms) (va_Pc (args'.map (tr (x_g G) ad)) (fun U => PRx (x_g G) ad μ H.size U ∧ NCX U)) Qc XC mc ms (AA ad (g_n μ) H.size) →
      ∃ a9, vx_Run (x_p G) (x_l G) (x_e G) R ((x_s G).setDrawn d) (x_m G) (x_a G) (x_b G) (x_y G) (x_c G) H locs cells slots mc ms (F0 (x_m G) pc ls (stk.map (tr (x_g G) ad))) (st.map (tr (x_g G) ad)) (Qc a9) XC (AA ad (g_n μ) H.size))
    (hx : ∀ (r : β) (μ1 : Mem), lift = some (r, μ1) → ∃ v0, encβ r = .inl v0)
    (kk : ∀ (r : β) (μ1 : Mem) (v0 w : Option Value), lift = some (r, μ1) → Mono μ μ1 → encβ r = .inl v0 → rvp v0 w → Sim F enc (pc + 3) pls (w.toList ++ st) μ1 (kf r μ1)) : Sim F enc pc pls stk μ (obind lift kf) := by
  intro r μ' ho
  cases hl : lift with
  | none => rw [hl] at ho; cases ho
  | some x =>
  obtain ⟨x, μ1⟩ := x
  rw [hl] at ho
  have ho : kf x μ1 = some (r, μ') := ho
  obtain ⟨hm1, hM⟩ := hC x μ1 hl
  have hm2 : Mono μ1 μ' := by
    cases he : encβ x with
    | inl v1 => exact (kk x μ1 v1 v1 hl hm1 he (rvp_self _) r μ' ho).1
    | inr k =>
      obtain ⟨v9, h9⟩ := hx x μ1 hl
      rw [h9] at he
      cases he
  refine ⟨hm1.tr hm2, fun G hG ad H locs ls d hR hd hV hlv => ?_⟩
  have hFG := hF G hG
  have hDG := hD G hG
  obtain ⟨hd5, hd6⟩ := hDG
  have hRR := hR
  obtain ⟨-, -, -, -, h5, h6, h7, h8⟩ := hRR
  obtain ⟨r1, r2, r3, r4⟩ := hFG.2.2.2.2.2.2.2.2.2 (g_c μ' - x_c0 G) (g_w μ' - x_w0 G)
  have c1 := hm1.2.1
  have c2 := hm2.2.1
  have w1 := hm1.2.2.1
  have w2 := hm2.2.2.1
  have ec : g_c μ - x_c0 G + (g_c μ1 - g_c μ) = g_c μ1 - x_c0 G := by omega
  have ew : g_w μ - x_w0 G + (g_w μ1 - g_w μ) = g_w μ1 - x_w0 G := by omega
  obtain ⟨a9, hrn⟩ := hrun G hG ad H locs ls d _ _ _ _ (g_c μ - x_c0 G) (g_w μ - x_w0 G) _ hFG hd5 hd6 hR hlv r1 r2 (by omega) (by omega) (hM (x_l G) (x_g G) ad H.size hd5.1 (fun a ha => hV.2 a (hargs a ha)))
  intro T hT X
  rcases hrn T hT X with ⟨vres, st₀, t, T', L, h0, X', hL, e1, e2, ⟨v0, w, ad', hv0, hw, hrv, hag, hP', hD', hO', hok', hK', hFf⟩, hst⟩ | ⟨q, st₀, t, T', L, E, ce, h0, X', hL, e1, e2, ⟨k, ad', hk0, hE, hag, hP', hD', hO', hK', hFf⟩, hce, hcv, hcl, hst⟩
  · cases hw
    obtain ⟨wp, hwp, rfl⟩ := rv_split hrv
    obtain ⟨-, kk2⟩ := kk x μ1 v0 wp hl hm1 hv0 hwp r μ' ho
    have hR' := rel_after hFG hR hm1 h0 e1 hL hag hP' hD' hO' hFf
    have hpl := trP_ext (g := x_g G) hag hV.1
    have hstp := trS_ext (g := x_g G) hag (fun q hq => hV.2 q (hsp q hq))
    have hV' : VOK (g_n μ1) pls (wp.toList ++ st) := by
      refine ⟨fun q hq => vok_mono hm1.1 (hV.1 q hq), fun q hq => ?_⟩
      rcases List.mem_append.mp hq with hq | hq
      · cases wp with
        | none => cases hq
        | some z =>
          rcases List.mem_singleton.mp hq with rfl
          cases v0 with
          | none => cases hwp
          | some u =>
            cases u with
            | double u =>
              obtain ⟨y, hy, -⟩ := hwp
              cases hy
              trivial
            | ref u => cases hwp; exact hok'.2
            | _ => cases hwp; trivial
      · exact vok_mono hm1.1 (hV.2 q (hsp q hq))
    have := kk2 G hG ad' T'.heap (locs ++ L) ls d hR' hd hV' (by rw [hpl]; exact hlv)
    rw [← ec, ← ew] at this
    obtain ⟨t2, a1, b1⟩ := this T' rfl X'
    rw [List.map_append, hstp] at a1
    have e9 : (wp.map (tr (x_g G) ad')).toList = wp.toList.map (tr (x_g G) ad') := by cases wp <;> rfl
    rw [e9] at hst
    exact ⟨t2, hst t2 a1, b1⟩
  · obtain ⟨v9, h9⟩ := hx x μ1 hl
    rw [h9] at hk0
    cases hk0
theorem s_callLV {encβ : β → Outc} {lift : Option (β × Mem)} {kf : β → Mem → Option (α × Mem)} {stk : List Value} {v' idx n : Nat} {y : MethodName} {cc' : ByteArray} {maxL' : Nat} {ret' : Option FieldType} {As : List Value} {ci b : Nat} {q : vw_C} (hF : FxO F own cc nL v) (hD : FxLO F) (hd : decode cc pc = .ok (.invokevirtual idx, 3)) (hcw : CWV own idx y cc' maxL' ret' n)
    (hvv : v' + 1 ≤ v) (hml : maxL' ≤ 41) (hq : clL[ci]? = some q) (hqy : q.1 = y.cls) (hci : ci < 13) (hb : isK μ b ci = true) (hst : stk = As.reverse ++ .ref b :: st) (hn : As.length = n) (hcat : (st.map fun v => v.category).sum ≤ 8)
    (hC : ∀ (r : β) (μ1 : Mem), lift = some (r, μ1) → CtX y cc' maxL' ret' v' (.ref b :: As) μ (encβ r) μ1)
    (hx : ∀ (r : β) (μ1 : Mem), lift = some (r, μ1) → ∃ v0, encβ r = .inl v0)
    (kk : ∀ (r : β) (μ1 : Mem) (v0 w : Option Value), lift = some (r, μ1) → Mono μ μ1 → encβ r = .inl v0 → rvp v0 w → Sim F enc (pc + 3) pls (w.toList ++ st) μ1 (kf r μ1)) : Sim F enc pc pls stk μ (obind lift kf) := by
  subst hst
  refine s_callL hF hD hC (fun w hw => by simp [hw]) (fun w hw => ?_) (fun G hG ad H locs ls d Qc XC mc ms cells slots R hFG hFC hNC hR hlv r1 r2 r3 r4 hM => ?_) hx kk
  · rcases List.mem_cons.mp hw with rfl | hw <;> simp [*]
  · refine ⟨_, vx_runV (C := y.cls) (As := As.map (tr (x_g G) ad)) (rest := st.map (tr (x_g G) ad)) ⟨hFG.1, hFG.2.1, hFG.2.2.1, hFG.2.2.2.2.1, hFG.ht d⟩ hM (cwV n (hFG.ht d) hcw.1 rfl rfl rfl ⟨rfl, hcw.2.1, hcw.2.2.1, hcw.2.2.2⟩ ⟨(by show v' + 1 ≤ R.frames; omega), (by show 8 + (maxL' + 11) + 60 * v' ≤ R.locals; omega)⟩) ⟨blindPRx, ?_, fun U hU hW => ⟨rfl, prx_of hFG hFC hR U hU hW⟩⟩ rfl (by simpa using hn) hlv.1 (by simp; rfl) (lv_room (by rw [cat_tr]; exact hcat)) hd ⟨r3, r4⟩⟩
    obtain ⟨h0, hnn, hK⟩ := isK_iff.mp hb
    rw [← hqy]
    exact va_recv (hFG.hK d) hR.1 hq (en_at h0 hnn (en_O hK hci))
theorem s_callLI {encβ : β → Outc} {lift : Option (β × Mem)} {kf : β → Mem → Option (α × Mem)} {stk : List Value} {v' idx n : Nat} {y : MethodName} {cc' : ByteArray} {maxL' : Nat} {As : List Value} {b : Nat} (hF : FxO F own cc nL v) (hD : FxLO F) (hd : decode cc pc = .ok (.invokespecial idx, 3)) (hcw : CWI own idx y cc' maxL' n)
    (hvv : v' + 1 ≤ v) (hml : maxL' ≤ 41) (hst : stk = As.reverse ++ .ref b :: st) (hn : As.length = n) (hcat : (st.map fun v => v.category).sum ≤ 8)
    (hC : ∀ (r : β) (μ1 : Mem), lift = some (r, μ1) → CtX y cc' maxL' none v' (.ref b :: As) μ (encβ r) μ1)
    (hx : ∀ (r : β) (μ1 : Mem), lift = some (r, μ1) → ∃ v0, encβ r = .inl v0)
    (kk : ∀ (r : β) (μ1 : Mem) (v0 w : Option Value), lift = some (r, μ1) → Mono μ μ1 → encβ r = .inl v0 → rvp v0 w → Sim F enc (pc + 3) pls (w.toList ++ st) μ1 (kf r μ1)) : Sim F enc pc pls stk μ (obind lift kf) := by
  subst hst
  refine s_callL hF hD hC (fun w hw => by simp [hw]) (fun w hw => ?_) (fun G hG ad H locs ls d Qc XC mc ms cells slots R hFG hFC hNC hR hlv r1 r2 r3 r4 hM => ?_) hx kk
  · rcases List.mem_cons.mp hw with rfl | hw <;> simp [*]
  · refine ⟨_, vx_runI (As := As.map (tr (x_g G) ad)) (rest := st.map (tr (x_g G) ad)) ⟨hFG.1, hFG.2.1, hFG.2.2.1, hFG.2.2.2.2.1, hFG.ht d⟩ hM (cwI n (hFG.ht d) (goodC hcw.2.2.2.1) rfl rfl rfl (hFG.ht d _ hcw.2.2.1) (hFG.ht d _ hcw.1) (hFG.ht d _ hcw.2.1) hcw.2.2.2.2.1 hcw.2.2.2.2.2 ⟨(by show v' + 1 ≤ R.frames; omega), (by show 8 + (maxL' + 11) + 60 * v' ≤ R.locals; omega)⟩) ⟨blindPRx, fun U hU hW => ⟨rfl, prx_of hFG hFC hR U hU hW⟩⟩ rfl (by simpa using hn) hlv.1 (by simp; rfl) (lv_room (by rw [cat_tr]; exact hcat)) hd ⟨r3, r4⟩⟩
def CWH (own : String) (idx : Nat) (y : MethodName) (cc' : ByteArray) (maxL' : Nat) (ret' : Option FieldType) (hh : List (Nat × Nat × Nat × Nat)) (n : Nat) : Prop := GoodIn WA (va_wsS own idx y (.codeWith y cc' maxL' ret' hh :: WA)) ∧ MHs y n
theorem s_callLSH {encβ : β → Outc} {lift : Option (β × Mem)} {kf : β → Mem → Option (α × Mem)} {stk : List Value} {v' idx n : Nat} {y : MethodName} {cc' : ByteArray} {maxL' : Nat} {ret' : Option FieldType} {hh : List (Nat × Nat × Nat × Nat)} {As : List Value} (hF : FxO F own cc nL v) (hD : FxLO F) (hd : decode cc pc = .ok (.invokestatic idx, 3)) (hcw : CWH own idx y cc' maxL' ret' hh n)
    (hvv : v' + 1 ≤ v) (hml : maxL' ≤ 41) (hst : stk = As.reverse ++ st) (hn : As.length = n) (hcat : (st.map fun v => v.category).sum ≤ 8)
    (hC : ∀ (r : β) (μ1 : Mem), lift = some (r, μ1) → CtH y cc' maxL' ret' hh v' As μ (encβ r) μ1) (hx : ∀ (r : β) (μ1 : Mem), lift = some (r, μ1) → ∃ v0, encβ r = .inl v0)
    (kk : ∀ (r : β) (μ1 : Mem) (v0 w : Option Value), lift = some (r, μ1) → Mono μ μ1 → encβ r = .inl v0 → rvp v0 w → Sim F enc (pc + 3) pls (w.toList ++ st) μ1 (kf r μ1)) : Sim F enc pc pls stk μ (obind lift kf) := by
  subst hst
  refine s_callLH hF hD hC (fun w hw => by simp [hw]) (fun w hw => by simp [hw]) (fun G hG ad H locs ls d Qc XC mc ms cells slots R hFG hFC hNC hR hlv r1 r2 r3 r4 hM => ?_) hx kk
  exact ⟨_, vx_runSX (hh := hh) (As := As.map (tr (x_g G) ad)) (rest := st.map (tr (x_g G) ad)) ⟨hFG.1, hFG.2.1, hFG.2.2.1, hFG.2.2.2.2.1, hFG.ht d⟩ hM (vx_cwSW n (hFG.ht d) hcw.1 rfl rfl rfl hcw.2 ⟨(by show v' + 1 ≤ R.frames; omega), (by show 8 + (maxL' + 11) + 60 * v' ≤ R.locals; omega)⟩) ⟨blindPRh, fun U hU hW => ⟨rfl, prx_of hFG hFC hR U hU hW, NCX.moved (s := x_s G) hW.alike hNC⟩⟩ rfl (by simpa using hn) hlv.1 (by simp) (lv_room (by rw [cat_tr]; exact hcat)) hd ⟨r3, r4⟩⟩
end SL1
section SL2
variable {α : Type} {F : Option Fx} {enc : α → Outc} {own : String} {cc : ByteArray} {nL v : Nat} {pc : Nat} {pls : List (Nat × Value)} {st : List Value} {μ : Mem} {o : Option (α × Mem)}
/-- the script: Ls ints xs, at the address of the string 300 -/
def FxS (F : Option Fx) (Ls : Nat) (xs : Nat → Int32) : Prop := ∀ G, F = some G → va_X ((x_g G).2.2.2 300) Ls xs (x_s G) (x_s G).heap ∧ (x_g G).2.2.2 300 < (x_s G).heap.size ∧ ¬ x_A G ((x_g G).2.2.2 300)
theorem s_scl {Ls : Nat} {xs : Nat → Int32} (hF : FxO F own cc nL v) (hSc : FxS F Ls xs) (hd : decode cc pc = .ok (.arraylength, 1)) (k : Sim F enc (pc + 1) pls (.int (Int32.ofNat Ls) :: st) μ o) : Sim F enc pc pls (.retAddr 300 :: st) μ o := by
  refine sim_go (fun _ h => h.tl.cn (v := Value.int _) trivial) (fun G hG ad H locs ls d mc ms cells slots Q hR hl kk => ?_) k
  obtain ⟨h1, h2, h3⟩ := hSc G hG
  exact va_slen (s := (x_s G).setDrawn d) (A := x_A G) (hF G hG).1 (hF G hG).2.1 (va_X.moved (u := x_s G) (Vm.Alike.refl _) h1) h2 h3 hR.2.2.1 hd (kk ls hl)
theorem s_sca {Ls : Nat} {xs : Nat → Int32} {i x : Int32} (hF : FxO F own cc nL v) (hSc : FxS F Ls xs) (hd : decode cc pc = .ok (.iaload, 1)) (h0 : 0 ≤ i.toInt ∧ i.toInt < (Ls : Int)) (hx : xs i.toNatClampNeg = x) (k : Sim F enc (pc + 1) pls (.int x :: st) μ o) : Sim F enc pc pls (.int i :: .retAddr 300 :: st) μ o := by
  subst hx
  refine sim_go (fun _ h => h.tl.tl.cn (v := Value.int _) trivial) (fun G hG ad H locs ls d mc ms cells slots Q hR hl kk => ?_) k
  obtain ⟨h1, h2, h3⟩ := hSc G hG
  exact va_sld (s := (x_s G).setDrawn d) (A := x_A G) (hF G hG).1 (hF G hG).2.1 (va_X.moved (u := x_s G) (Vm.Alike.refl _) h1) h2 h3 hR.2.2.1 ((vp_in_iff).mpr h0) hd (kk ls hl)
theorem s_lVi {lift : Option (Int32 × Mem)} {kf : Int32 → Mem → Option (α × Mem)} {stk : List Value} {v' idx n : Nat} {y : MethodName} {cc' : ByteArray} {maxL' : Nat} {ret' : Option FieldType} {ci b : Nat} {q : vw_C} (As : List Value) (hF : FxO F own cc nL v) (hD : FxLO F) (hd : decode cc pc = .ok (.invokevirtual idx, 3)) (hcw : CWV own idx y cc' maxL' ret' n)
    (hvv : v' + 1 ≤ v) (hml : maxL' ≤ 41) (hq : clL[ci]? = some q) (hqy : q.1 = y.cls) (hci : ci < 13) (hb : isK μ b ci = true) (hst : stk = As.reverse ++ .ref b :: st) (hn : As.length = n) (hcat : (st.map fun v => v.category).sum ≤ 8)
    (hC : ∀ (r : Int32) (μ1 : Mem), lift = some (r, μ1) → CtX y cc' maxL' ret' v' (.ref b :: As) μ (encI r) μ1) (kk : ∀ (r : Int32) (μ1 : Mem), lift = some (r, μ1) → Mono μ μ1 → Sim F enc (pc + 3) pls (.int r :: st) μ1 (kf r μ1)) : Sim F enc pc pls stk μ (obind lift kf) :=
  s_callLV hF hD hd hcw hvv hml hq hqy hci hb hst hn hcat hC (fun r _ _ => ⟨_, rfl⟩) (fun r μ1 v0 w hl hm he hw => by cases he; cases hw; exact kk r μ1 hl hm)
theorem s_lVl {lift : Option (Int64 × Mem)} {kf : Int64 → Mem → Option (α × Mem)} {stk : List Value} {v' idx n : Nat} {y : MethodName} {cc' : ByteArray} {maxL' : Nat} {ret' : Option FieldType} {ci b : Nat} {q : vw_C} (As : List Value) (hF : FxO F own cc nL v) (hD : FxLO F) (hd : decode cc pc = .ok (.invokevirtual idx, 3)) (hcw : CWV own idx y cc' maxL' ret' n)
    (hvv : v' + 1 ≤ v) (hml : maxL' ≤ 41) (hq : clL[ci]? = some q) (hqy : q.1 = y.cls) (hci : ci < 13) (hb : isK μ b ci = true) (hst : stk = As.reverse ++ .ref b :: st) (hn : As.length = n) (hcat : (st.map fun v => v.category).sum ≤ 8)
    (hC : ∀ (r : Int64) (μ1 : Mem), lift = some (r, μ1) → CtX y cc' maxL' ret' v' (.ref b :: As) μ (encL r) μ1) (kk : ∀ (r : Int64) (μ1 : Mem), lift = some (r, μ1) → Mono μ μ1 → Sim F enc (pc + 3) pls (.long r :: st) μ1 (kf r μ1)) : Sim F enc pc pls stk μ (obind lift kf) :=
  s_callLV hF hD hd hcw hvv hml hq hqy hci hb hst hn hcat hC (fun r _ _ => ⟨_, rfl⟩) (fun r μ1 v0 w hl hm he hw => by cases he; cases hw; exact kk r μ1 hl hm)
theorem s_lVv {lift : Option (Unit × Mem)} {kf : Unit → Mem → Option (α × Mem)} {stk : List Value} {v' idx n : Nat} {y : MethodName} {cc' : ByteArray} {maxL' : Nat} {ret' : Option FieldType} {ci b : Nat} {q : vw_C} (As : List Value) (hF : FxO F own cc nL v) (hD : FxLO F) (hd : decode cc pc = .ok (.invokevirtual idx, 3)) (hcw : CWV own idx y cc' maxL' ret' n)
    (hvv : v' + 1 ≤ v) (hml : maxL' ≤ 41) (hq : clL[ci]? = some q) (hqy : q.1 = y.cls) (hci : ci < 13) (hb : isK μ b ci = true) (hst : stk = As.reverse ++ .ref b :: st) (hn : As.length = n) (hcat : (st.map fun v => v.category).sum ≤ 8)
    (hC : ∀ (r : Unit) (μ1 : Mem), lift = some (r, μ1) → CtX y cc' maxL' ret' v' (.ref b :: As) μ (encV r) μ1) (kk : ∀ (r : Unit) (μ1 : Mem), lift = some (r, μ1) → Mono μ μ1 → Sim F enc (pc + 3) pls (st) μ1 (kf r μ1)) : Sim F enc pc pls stk μ (obind lift kf) :=
  s_callLV hF hD hd hcw hvv hml hq hqy hci hb hst hn hcat hC (fun r _ _ => ⟨_, rfl⟩) (fun r μ1 v0 w hl hm he hw => by cases he; cases hw; exact kk r μ1 hl hm)
theorem s_lIv {lift : Option (Unit × Mem)} {kf : Unit → Mem → Option (α × Mem)} {stk : List Value} {v' idx n : Nat} {y : MethodName} {cc' : ByteArray} {maxL' : Nat} {b : Nat} (As : List Value) (hF : FxO F own cc nL v) (hD : FxLO F) (hd : decode cc pc = .ok (.invokespecial idx, 3)) (hcw : CWI own idx y cc' maxL' n)
    (hvv : v' + 1 ≤ v) (hml : maxL' ≤ 41) (hst : stk = As.reverse ++ .ref b :: st) (hn : As.length = n) (hcat : (st.map fun v => v.category).sum ≤ 8)
    (hC : ∀ (r : Unit) (μ1 : Mem), lift = some (r, μ1) → CtX y cc' maxL' none v' (.ref b :: As) μ (encV r) μ1) (kk : ∀ (r : Unit) (μ1 : Mem), lift = some (r, μ1) → Mono μ μ1 → Sim F enc (pc + 3) pls (st) μ1 (kf r μ1)) : Sim F enc pc pls stk μ (obind lift kf) :=
  s_callLI hF hD hd hcw hvv hml hst hn hcat hC (fun r _ _ => ⟨_, rfl⟩) (fun r μ1 v0 w hl hm he hw => by cases he; cases hw; exact kk r μ1 hl hm)
theorem s_lSi {lift : Option (Int32 × Mem)} {kf : Int32 → Mem → Option (α × Mem)} {stk : List Value} {v' idx n : Nat} {y : MethodName} {cc' : ByteArray} {maxL' : Nat} {ret' : Option FieldType} {hh : List (Nat × Nat × Nat × Nat)} (As : List Value) (hF : FxO F own cc nL v) (hD : FxLO F) (hd : decode cc pc = .ok (.invokestatic idx, 3)) (hcw : CWH own idx y cc' maxL' ret' hh n)
    (hvv : v' + 1 ≤ v) (hml : maxL' ≤ 41) (hst : stk = As.reverse ++ st) (hn : As.length = n) (hcat : (st.map fun v => v.category).sum ≤ 8)
    (hC : ∀ (r : Int32) (μ1 : Mem), lift = some (r, μ1) → CtH y cc' maxL' ret' hh v' As μ (encI r) μ1) (kk : ∀ (r : Int32) (μ1 : Mem), lift = some (r, μ1) → Mono μ μ1 → Sim F enc (pc + 3) pls (.int r :: st) μ1 (kf r μ1)) : Sim F enc pc pls stk μ (obind lift kf) :=
  s_callLSH hF hD hd hcw hvv hml hst hn hcat hC (fun r _ _ => ⟨_, rfl⟩) (fun r μ1 v0 w hl hm he hw => by cases he; cases hw; exact kk r μ1 hl hm)
end SL2
