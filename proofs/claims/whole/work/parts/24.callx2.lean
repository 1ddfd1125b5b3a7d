/-! ===== CALLS of methods that may throw; throws ===== -/
theorem va_D_AA {g : Gx} {ad : Nat → Nat} {μ : Mem} {A : Nat → Prop} {sz : Nat} (h : va_D A (wl g ad μ)) : va_D (AA ad (g_n μ) sz) (wl g ad μ) :=
  ⟨h.1, fun k q hk => Or.inl ⟨k + 1, by omega, by have := (List.getElem?_eq_some_iff.mp hk).1; simp [wl] at this; omega, by simp [wl] at hk; obtain ⟨a, ha, rfl⟩ := hk; rw [List.getElem?_eq_some_iff] at ha; obtain ⟨_, ha⟩ := ha; simp at ha; subst ha; rfl⟩⟩
section SX2
variable {α β : Type} {F : Option Fx} {enc : α → Outc} {own : String} {cc : ByteArray} {nL v : Nat} {pc : Nat} {pls : List (Nat × Value)} {st : List Value} {μ : Mem} {o : Option (α × Mem)} {ret : Option FieldType}
theorem AA_in {G : Fx} {ad : Nat → Nat} {H : Heap} {locs : List Loc} (hF : FxOk G own cc nL v) (hR : RelH G ad μ H locs) : ∀ q, AA ad (g_n μ) H.size q → x_A G q := by
  intro q hq
  rcases hq with ⟨h, g0, g1, rfl⟩ | hq
  · exact hR.2.1.2 (h - 1) _ (wl_at g0 g1)
  · exact hF.2.2.2.2.2.2.1 q (Nat.le_trans hR.2.2.1.1 hq)
theorem blindPRx {g : Gx} {ad : Nat → Nat} {av : List Value} {sz : Nat} : FrameBlind (va_Pc av (PRx g ad μ sz)) := by
  intro a U g9 mk q
  obtain ⟨q0, ⟨q1, qP, qD, qO, qK⟩, qN, qZ, qX⟩ := q
  refine ⟨q0, ⟨q1, qP, qD, qO, va_K.moved (u := U) (U := U.calling g9 mk a) (Vm.Alike.refl U.vm) qK⟩, NX.same (s := U) (U := U.calling g9 mk a) rfl qN, ⟨vx_Zq.moved (u := U) (U := U.calling g9 mk a) (Vm.Alike.refl U.vm) qZ.1, vx_Zq.moved (u := U) (U := U.calling g9 mk a) (Vm.Alike.refl U.vm) qZ.2⟩, fun k q hq => vk_R.same (u := U) (U := U.calling g9 mk a) rfl (qX.1 k q hq), vk_S.moved (u := U) (U := U.calling g9 mk a) (Vm.Alike.refl U.vm) qX.2.1, va_Z.moved (u := U) (U := U.calling g9 mk a) (Vm.Alike.refl U.vm) qX.2.2.1, qX.2.2.2.elim (fun z => Or.inl (va_Z.moved (u := U) (U := U.calling g9 mk a) (Vm.Alike.refl U.vm) z)) (fun z => Or.inr (va_Z.moved (u := U) (U := U.calling g9 mk a) (Vm.Alike.refl U.vm) z))⟩
/-- a call of a method that may throw, by whatever row makes the call run -/
theorem s_callX {encβ : β → Outc} {lift : Option (β × Mem)} {kf : β → Mem → Option (α × Mem)} {stk : List Value} {v' : Nat} {y : MethodName} {cc' : ByteArray} {maxL' : Nat} {ret' : Option FieldType} {args' : List Value} (hF : FxO F own cc nL v) (hD : FxXO F ret)
    (hC : ∀ (r : β) (μ1 : Mem), lift = some (r, μ1) → CtX y cc' maxL' ret' v' args' μ (encβ r) μ1) (hsp : ∀ w ∈ st, w ∈ stk) (hargs : ∀ w ∈ args', w ∈ stk)
    (hrun : ∀ (G : Fx), F = some G → ∀ (ad : Nat → Nat) (H : Heap) (locs : List Loc) (ls : Array Slot) (Qc : Array Value → State → Outcome → State → Prop) (XC : String → State → State → Prop) (mc ms cells slots : Nat) (R : Room), FxOk G own cc nL v → FxC G → RelH G ad μ H locs → lv_has ls (x_nL G) (trP (x_g G) ad pls) → v ≤ R.frames → 60 * v ≤ R.locals → cells + mc ≤ R.cells → slots + ms ≤ R.slots →
      vx_Met (x_l G) y (.code y cc' maxL' ret' :: WA) (rmv v' mc ms) (va_Pc (args'.map (tr (x_g G) ad)) (PRx (x_g G) ad μ H.size)) Qc XC mc ms (AA ad (g_n μ) H.size) →
      ∃ a9, vx_Run (x_p G) (x_l G) (x_e G) R (x_s G) (x_m G) (x_a G) (x_b G) (x_y G) (x_c G) H locs cells slots mc ms (F0 (x_m G) pc ls (stk.map (tr (x_g G) ad))) (st.map (tr (x_g G) ad)) (Qc a9) XC (AA ad (g_n μ) H.size))
    (hx : ∀ (r : β) (μ1 : Mem) (k : Nat), lift = some (r, μ1) → encβ r = .inr k → ∃ rr, kf r μ1 = some (rr, μ1) ∧ enc rr = .inr k)
    (kk : ∀ (r : β) (μ1 : Mem) (v0 w : Option Value), lift = some (r, μ1) → Mono μ μ1 → encβ r = .inl v0 → rvp v0 w → Sim F enc (pc + 3) pls (w.toList ++ st) μ1 (kf r μ1)) : Sim F enc pc pls stk μ (obind lift kf) := by
  intro r μ' ho
  cases hl : lift with
  | none => rw [hl] at ho; cases ho
  | some x =>
  obtain ⟨x, μ1⟩ := x
  rw [hl] at ho
  have ho : kf x μ1 = some (r, μ') := ho
  obtain ⟨hm1, hM⟩ := hC x μ1 hl
  have hm2 : Mono μ1 μ' := by
    cases he : encβ x with
    | inl v1 => exact (kk x μ1 v1 v1 hl hm1 he (rvp_self _) r μ' ho).1
    | inr k =>
      obtain ⟨rr, h1, -⟩ := hx x μ1 k hl he
      rw [h1] at ho
      cases ho
      exact Mono.rf
  refine ⟨hm1.tr hm2, fun G hG ad H locs ls d hR hd hV hlv => ?_⟩
  have hFG := hF G hG
  have hDG := hD G hG
  have hDD := hDG
  obtain ⟨hdr, hdl, hd1, hd2, hd3, hd4, hd5⟩ := hDD
  rw [hd1] at hd
  subst hd
  have hRR := hR
  obtain ⟨-, -, -, -, h5, h6, h7, h8⟩ := hRR
  obtain ⟨r1, r2, r3, r4⟩ := hFG.2.2.2.2.2.2.2.2.2 (g_c μ' - x_c0 G) (g_w μ' - x_w0 G)
  have c1 := hm1.2.1
  have c2 := hm2.2.1
  have w1 := hm1.2.2.1
  have w2 := hm2.2.2.1
  have ec : g_c μ - x_c0 G + (g_c μ1 - g_c μ) = g_c μ1 - x_c0 G := by omega
  have ew : g_w μ - x_w0 G + (g_w μ1 - g_w μ) = g_w μ1 - x_w0 G := by omega
  obtain ⟨a9, hrn⟩ := hrun G hG ad H locs ls _ _ _ _ (g_c μ - x_c0 G) (g_w μ - x_w0 G) _ hFG hd5 hR hlv r1 r2 (by omega) (by omega) (hM (x_l G) (x_g G) ad H.size hd5.1 (fun a ha => hV.2 a (hargs a ha)))
  intro T hT X
  rcases hrn T hT X with ⟨vres, st₀, t, T', L, h0, X', hL, e1, e2, ⟨v0, w, ad', hv0, hw, hrv, hag, hP', hD', hO', hok', hK', hFf⟩, hst⟩ | ⟨q, st₀, t, T', L, E, ce, h0, X', hL, e1, e2, ⟨k, ad', hk0, hE, hag, hP', hD', hO', hK', hFf⟩, hce, hcv, hcl, hst⟩
  · cases hw
    obtain ⟨wp, hwp, rfl⟩ := rv_split hrv
    obtain ⟨-, kk2⟩ := kk x μ1 v0 wp hl hm1 hv0 hwp r μ' ho
    have hR' := rel_after hFG hR hm1 h0 e1 hL hag hP' hD' hO' hFf
    have hpl := trP_ext (g := x_g G) hag hV.1
    have hstp := trS_ext (g := x_g G) hag (fun q hq => hV.2 q (hsp q hq))
    have hV' : VOK (g_n μ1) pls (wp.toList ++ st) := by
      refine ⟨fun q hq => vok_mono hm1.1 (hV.1 q hq), fun q hq => ?_⟩
      rcases List.mem_append.mp hq with hq | hq
      · cases wp with
        | none => cases hq
        | some z =>
          rcases List.mem_singleton.mp hq with rfl
          cases v0 with
          | none => cases hwp
          | some u =>
            cases u with
            | double u =>
              obtain ⟨y, hy, -⟩ := hwp
              cases hy
              trivial
            | ref u => cases hwp; exact hok'.2
            | _ => cases hwp; trivial
      · exact vok_mono hm1.1 (hV.2 q (hsp q hq))
    have := kk2 G hG ad' T'.heap (locs ++ L) ls (x_s G).drawn hR' (by rw [hd1]) hV' (by rw [hpl]; exact hlv)
    rw [← ec, ← ew] at this
    obtain ⟨t2, a1, b1⟩ := this T' rfl X'
    rw [List.map_append, hstp] at a1
    have e9 : (wp.map (tr (x_g G) ad')).toList = wp.toList.map (tr (x_g G) ad') := by cases wp <;> rfl
    rw [e9] at hst
    exact ⟨t2, hst t2 a1, b1⟩
  · obtain ⟨rr, hrr, her⟩ := hx x μ1 k hl hk0
    rw [hrr] at ho
    cases ho
    have hR' := rel_after hFG hR hm1 h0 e1 hL hag hP' hD' hO' hFf
    have hout : vx_W (x_p G) (x_l G) (x_e G) (x_R G (g_c μ' - x_c0 G) (g_w μ' - x_w0 G)) (x_s G) (x_m G) (x_a G) (x_b G) (x_y G) (x_c G) T'.heap (locs ++ L) (g_c μ - x_c0 G + (g_c μ' - g_c μ)) (g_w μ - x_w0 G + (g_w μ' - g_w μ)) (x_Q G (g_c μ' - x_c0 G) (g_w μ' - x_w0 G) (enc r) μ') (F0 (x_m G) pc ls (st.map (tr (x_g G) ad))) q := by
      rw [hd4]
      refine vx_out (E := E) (ce := ce) (fun x hx => (hd3 x hx).elim) hdl (by rw [e1]; exact hce) hcv hcl (fun t2 ht2 ha2 => ?_) (fun z hz => ?_) (by omega) (by omega)
      · refine ⟨k, ad', her, hE, hR'.2.2.2.2.1, by rw [ht2]; exact hR'.1, by rw [← hd2]; exact hR'.2.1, hR'.2.2.2.1, va_K.moved ha2 hFG.2.2.2.2.2.1, ?_⟩
        rw [← hd2]
        exact va_S.F hR'.2.2.1 ht2
      · have := hR'.2.2.1.2.2 z hz
        rw [hd2] at this
        exact this
    obtain ⟨t2, a1, b1⟩ := hout T' rfl X'
    exact ⟨t2, hst.trans a1, b1⟩
/-- what a called method is given -/
theorem prx_of {G : Fx} {ad : Nat → Nat} {H : Heap} {locs : List Loc} (hF : FxOk G own cc nL v) (hC : FxC G) (hR : RelH G ad μ H locs) : ∀ U : State, U.heap = H → (x_s G).WarmedH U.vm → PRx (x_g G) ad μ H.size U := by
  intro U hU hW
  have hA := AA_in hF hR
  refine ⟨⟨by rw [hU], by rw [hU]; exact hR.1, va_D_AA hR.2.1, hR.2.2.2.1, va_K.moved hW.alike hF.2.2.2.2.2.1⟩, hC.2.1.warm hW, ?_, ?_⟩
  · rw [hU]
    exact hC.2.2.1.go hW hR.2.2.1 hA
  · rw [hU]
    exact hC.2.2.2.go hW hR.2.2.1 hA

def MHs (y : MethodName) (n : Nat) : Prop := y.cls ≠ "java/lang/invoke/MethodHandle" ∧ y.cls ≠ "java/lang/invoke/VarHandle" ∧ (parseMethodDescriptor y.desc).map (fun d => d.parameters.length) = some n
def CWI (own : String) (idx : Nat) (y : MethodName) (cc' : ByteArray) (maxL' : Nat) (n : Nat) : Prop := Cond.methodLink own idx y ∈ WA ∧ Cond.instanceMethod y ∈ WA ∧ Cond.initialized y.cls ∈ WA ∧ Cond.code y cc' maxL' none ∈ WA ∧ y.name = "<init>" ∧ MHs y n
def CNV (own : String) (idx : Nat) (y : MethodName) (cc' : ByteArray) (maxL' : Nat) (ret' : Option FieldType) (n : Nat) : Prop := (∃ host, Cond.methodLinkNest own idx y host ∈ WX) ∧ Cond.instanceMethod y ∈ WA ∧ Cond.selects y.cls y y ∈ WA ∧ Cond.initialized y.cls ∈ WA ∧ Cond.code y cc' maxL' ret' ∈ WA ∧ MHs y n
def CNS (own : String) (idx : Nat) (y : MethodName) (cc' : ByteArray) (maxL' : Nat) (ret' : Option FieldType) (n : Nat) : Prop := (∃ host, Cond.methodLinkNest own idx y host ∈ WX) ∧ Cond.static y ∈ WA ∧ Cond.initialized y.cls ∈ WA ∧ Cond.code y cc' maxL' ret' ∈ WA ∧ MHs y n
def CNI (own : String) (idx : Nat) (y : MethodName) (cc' : ByteArray) (maxL' : Nat) (n : Nat) : Prop := (∃ host, Cond.methodLinkNest own idx y host ∈ WX) ∧ Cond.instanceMethod y ∈ WA ∧ Cond.initialized y.cls ∈ WA ∧ Cond.code y cc' maxL' none ∈ WA ∧ y.name = "<init>" ∧ MHs y n
theorem goodC {y : MethodName} {cc' : ByteArray} {maxL' : Nat} {ret' : Option FieldType} (h5 : Cond.code y cc' maxL' ret' ∈ WA) : GoodIn WA (.code y cc' maxL' ret' :: WA) := by
  intro w hw
  have hm : w ∈ WA := by
    rcases List.mem_cons.mp hw with rfl | hw <;> assumption
  exact ⟨hm, good_of_word (List.mem_filter.mp hm).2⟩
theorem s_callXV {encβ : β → Outc} {lift : Option (β × Mem)} {kf : β → Mem → Option (α × Mem)} {stk : List Value} {v' idx n : Nat} {y : MethodName} {cc' : ByteArray} {maxL' : Nat} {ret' : Option FieldType} {As : List Value} {ci b : Nat} {q : vw_C} (hF : FxO F own cc nL v) (hD : FxXO F ret) (hd : decode cc pc = .ok (.invokevirtual idx, 3)) (hcw : CWV own idx y cc' maxL' ret' n)
    (hvv : v' + 1 ≤ v) (hml : maxL' ≤ 41) (hq : clL[ci]? = some q) (hqy : q.1 = y.cls) (hci : ci < 13) (hb : isK μ b ci = true) (hst : stk = As.reverse ++ .ref b :: st) (hn : As.length = n) (hcat : (st.map fun v => v.category).sum ≤ 8)
    (hC : ∀ (r : β) (μ1 : Mem), lift = some (r, μ1) → CtX y cc' maxL' ret' v' (.ref b :: As) μ (encβ r) μ1)
    (hx : ∀ (r : β) (μ1 : Mem) (k : Nat), lift = some (r, μ1) → encβ r = .inr k → ∃ rr, kf r μ1 = some (rr, μ1) ∧ enc rr = .inr k)
    (kk : ∀ (r : β) (μ1 : Mem) (v0 w : Option Value), lift = some (r, μ1) → Mono μ μ1 → encβ r = .inl v0 → rvp v0 w → Sim F enc (pc + 3) pls (w.toList ++ st) μ1 (kf r μ1)) : Sim F enc pc pls stk μ (obind lift kf) := by
  subst hst
  refine s_callX hF hD hC (fun w hw => by simp [hw]) (fun w hw => ?_) (fun G hG ad H locs ls Qc XC mc ms cells slots R hFG hFC hR hlv r1 r2 r3 r4 hM => ?_) hx kk
  · rcases List.mem_cons.mp hw with rfl | hw <;> simp [*]
  · refine ⟨_, vx_runV (C := y.cls) (As := As.map (tr (x_g G) ad)) (rest := st.map (tr (x_g G) ad)) ⟨hFG.1, hFG.2.1, hFG.2.2.1, hFG.2.2.2.2.1, hFG.2.2.2.1⟩ hM (cwV n hFG.2.2.2.1 hcw.1 rfl rfl rfl ⟨rfl, hcw.2.1, hcw.2.2.1, hcw.2.2.2⟩ ⟨(by show v' + 1 ≤ R.frames; omega), (by show 8 + (maxL' + 11) + 60 * v' ≤ R.locals; omega)⟩) ⟨blindPRx, ?_, fun U hU hW => ⟨rfl, prx_of hFG hFC hR U hU hW⟩⟩ rfl (by simpa using hn) hlv.1 (by simp; rfl) (lv_room (by rw [cat_tr]; exact hcat)) hd ⟨r3, r4⟩⟩
    obtain ⟨h0, hnn, hK⟩ := isK_iff.mp hb
    rw [← hqy]
    exact va_recv hFG.2.2.2.2.2.1 hR.1 hq (en_at h0 hnn (en_O hK hci))
theorem s_callXS {encβ : β → Outc} {lift : Option (β × Mem)} {kf : β → Mem → Option (α × Mem)} {stk : List Value} {v' idx n : Nat} {y : MethodName} {cc' : ByteArray} {maxL' : Nat} {ret' : Option FieldType} {As : List Value} (hF : FxO F own cc nL v) (hD : FxXO F ret) (hd : decode cc pc = .ok (.invokestatic idx, 3)) (hcw : CWS own idx y cc' maxL' ret' n)
    (hvv : v' + 1 ≤ v) (hml : maxL' ≤ 41) (hst : stk = As.reverse ++ st) (hn : As.length = n) (hcat : (st.map fun v => v.category).sum ≤ 8)
    (hC : ∀ (r : β) (μ1 : Mem), lift = some (r, μ1) → CtX y cc' maxL' ret' v' As μ (encβ r) μ1)
    (hx : ∀ (r : β) (μ1 : Mem) (k : Nat), lift = some (r, μ1) → encβ r = .inr k → ∃ rr, kf r μ1 = some (rr, μ1) ∧ enc rr = .inr k)
    (kk : ∀ (r : β) (μ1 : Mem) (v0 w : Option Value), lift = some (r, μ1) → Mono μ μ1 → encβ r = .inl v0 → rvp v0 w → Sim F enc (pc + 3) pls (w.toList ++ st) μ1 (kf r μ1)) : Sim F enc pc pls stk μ (obind lift kf) := by
  subst hst
  refine s_callX hF hD hC (fun w hw => by simp [hw]) (fun w hw => ?_) (fun G hG ad H locs ls Qc XC mc ms cells slots R hFG hFC hR hlv r1 r2 r3 r4 hM => ?_) hx kk
  · simp [hw]
  · refine ⟨_, vx_runS (As := As.map (tr (x_g G) ad)) (rest := st.map (tr (x_g G) ad)) ⟨hFG.1, hFG.2.1, hFG.2.2.1, hFG.2.2.2.2.1, hFG.2.2.2.1⟩ hM (va_cwS n hFG.2.2.2.1 hcw.1 rfl rfl rfl ⟨hcw.2.1, hcw.2.2.1, hcw.2.2.2⟩ ⟨(by show v' + 1 ≤ R.frames; omega), (by show 8 + (maxL' + 11) + 60 * v' ≤ R.locals; omega)⟩) ⟨blindPRx, fun U hU hW => ⟨rfl, prx_of hFG hFC hR U hU hW⟩⟩ rfl (by simpa using hn) hlv.1 (by simp) (lv_room (by rw [cat_tr]; exact hcat)) hd ⟨r3, r4⟩⟩

theorem s_callXI {encβ : β → Outc} {lift : Option (β × Mem)} {kf : β → Mem → Option (α × Mem)} {stk : List Value} {v' idx n : Nat} {y : MethodName} {cc' : ByteArray} {maxL' : Nat} {As : List Value} {b : Nat} (hF : FxO F own cc nL v) (hD : FxXO F ret) (hd : decode cc pc = .ok (.invokespecial idx, 3)) (hcw : CWI own idx y cc' maxL' n)
    (hvv : v' + 1 ≤ v) (hml : maxL' ≤ 41) (hst : stk = As.reverse ++ .ref b :: st) (hn : As.length = n) (hcat : (st.map fun v => v.category).sum ≤ 8)
    (hC : ∀ (r : β) (μ1 : Mem), lift = some (r, μ1) → CtX y cc' maxL' none v' (.ref b :: As) μ (encβ r) μ1)
    (hx : ∀ (r : β) (μ1 : Mem) (k : Nat), lift = some (r, μ1) → encβ r = .inr k → ∃ rr, kf r μ1 = some (rr, μ1) ∧ enc rr = .inr k)
    (kk : ∀ (r : β) (μ1 : Mem) (v0 w : Option Value), lift = some (r, μ1) → Mono μ μ1 → encβ r = .inl v0 → rvp v0 w → Sim F enc (pc + 3) pls (w.toList ++ st) μ1 (kf r μ1)) : Sim F enc pc pls stk μ (obind lift kf) := by
  subst hst
  refine s_callX hF hD hC (fun w hw => by simp [hw]) (fun w hw => ?_) (fun G hG ad H locs ls Qc XC mc ms cells slots R hFG hFC hR hlv r1 r2 r3 r4 hM => ?_) hx kk
  · rcases List.mem_cons.mp hw with rfl | hw <;> simp [*]
  · refine ⟨_, vx_runI (As := As.map (tr (x_g G) ad)) (rest := st.map (tr (x_g G) ad)) ⟨hFG.1, hFG.2.1, hFG.2.2.1, hFG.2.2.2.2.1, hFG.2.2.2.1⟩ hM (cwI n hFG.2.2.2.1 (goodC hcw.2.2.2.1) rfl rfl rfl (hFG.2.2.2.1 _ hcw.2.2.1) (hFG.2.2.2.1 _ hcw.1) (hFG.2.2.2.1 _ hcw.2.1) hcw.2.2.2.2.1 hcw.2.2.2.2.2 ⟨(by show v' + 1 ≤ R.frames; omega), (by show 8 + (maxL' + 11) + 60 * v' ≤ R.locals; omega)⟩) ⟨blindPRx, fun U hU hW => ⟨rfl, prx_of hFG hFC hR U hU hW⟩⟩ rfl (by simpa using hn) hlv.1 (by simp; rfl) (lv_room (by rw [cat_tr]; exact hcat)) hd ⟨r3, r4⟩⟩

theorem s_callXVN {encβ : β → Outc} {lift : Option (β × Mem)} {kf : β → Mem → Option (α × Mem)} {stk : List Value} {v' idx n : Nat} {y : MethodName} {cc' : ByteArray} {maxL' : Nat} {ret' : Option FieldType} {As : List Value} {ci b : Nat} {q : vw_C} (hF : FxO F own cc nL v) (hD : FxXO F ret) (hd : decode cc pc = .ok (.invokevirtual idx, 3)) (hcw : CNV own idx y cc' maxL' ret' n)
    (hvv : v' + 1 ≤ v) (hml : maxL' ≤ 41) (hq : clL[ci]? = some q) (hqy : q.1 = y.cls) (hci : ci < 13) (hb : isK μ b ci = true) (hst : stk = As.reverse ++ .ref b :: st) (hn : As.length = n) (hcat : (st.map fun v => v.category).sum ≤ 8)
    (hC : ∀ (r : β) (μ1 : Mem), lift = some (r, μ1) → CtX y cc' maxL' ret' v' (.ref b :: As) μ (encβ r) μ1)
    (hx : ∀ (r : β) (μ1 : Mem) (k : Nat), lift = some (r, μ1) → encβ r = .inr k → ∃ rr, kf r μ1 = some (rr, μ1) ∧ enc rr = .inr k)
    (kk : ∀ (r : β) (μ1 : Mem) (v0 w : Option Value), lift = some (r, μ1) → Mono μ μ1 → encβ r = .inl v0 → rvp v0 w → Sim F enc (pc + 3) pls (w.toList ++ st) μ1 (kf r μ1)) : Sim F enc pc pls stk μ (obind lift kf) := by
  subst hst
  refine s_callX hF hD hC (fun w hw => by simp [hw]) (fun w hw => ?_) (fun G hG ad H locs ls Qc XC mc ms cells slots R hFG hFC hR hlv r1 r2 r3 r4 hM => ?_) hx kk
  · rcases List.mem_cons.mp hw with rfl | hw <;> simp [*]
  · refine ⟨_, vx_runVN (C := y.cls) (As := As.map (tr (x_g G) ad)) (rest := st.map (tr (x_g G) ad)) ⟨hFG.1, hFG.2.1, hFG.2.2.1, hFG.2.2.2.2.1, hFG.2.2.2.1⟩ hM ⟨va_cnB n hFG.2.2.2.1 (goodC hcw.2.2.2.2.1) rfl rfl rfl (hFC.2.1 _ hcw.1.choose_spec) (hFG.2.2.2.1 _ hcw.2.2.2.1) hcw.2.2.2.2.2 ⟨(by show v' + 1 ≤ R.frames; omega), (by show 8 + (maxL' + 11) + 60 * v' ≤ R.locals; omega)⟩, hFG.2.2.2.1 _ hcw.2.1, hFG.2.2.2.1 _ hcw.2.2.1⟩ ⟨blindPRx, ?_, fun U hU hW => ⟨rfl, prx_of hFG hFC hR U hU hW⟩⟩ rfl (by simpa using hn) hlv.1 (by simp; rfl) (lv_room (by rw [cat_tr]; exact hcat)) hd ⟨r3, r4⟩⟩
    obtain ⟨h0, hnn, hK⟩ := isK_iff.mp hb
    rw [← hqy]
    exact va_recv hFG.2.2.2.2.2.1 hR.1 hq (en_at h0 hnn (en_O hK hci))
theorem s_callXSN {encβ : β → Outc} {lift : Option (β × Mem)} {kf : β → Mem → Option (α × Mem)} {stk : List Value} {v' idx n : Nat} {y : MethodName} {cc' : ByteArray} {maxL' : Nat} {ret' : Option FieldType} {As : List Value} (hF : FxO F own cc nL v) (hD : FxXO F ret) (hd : decode cc pc = .ok (.invokestatic idx, 3)) (hcw : CNS own idx y cc' maxL' ret' n)
    (hvv : v' + 1 ≤ v) (hml : maxL' ≤ 41) (hst : stk = As.reverse ++ st) (hn : As.length = n) (hcat : (st.map fun v => v.category).sum ≤ 8)
    (hC : ∀ (r : β) (μ1 : Mem), lift = some (r, μ1) → CtX y cc' maxL' ret' v' As μ (encβ r) μ1)
    (hx : ∀ (r : β) (μ1 : Mem) (k : Nat), lift = some (r, μ1) → encβ r = .inr k → ∃ rr, kf r μ1 = some (rr, μ1) ∧ enc rr = .inr k)
    (kk : ∀ (r : β) (μ1 : Mem) (v0 w : Option Value), lift = some (r, μ1) → Mono μ μ1 → encβ r = .inl v0 → rvp v0 w → Sim F enc (pc + 3) pls (w.toList ++ st) μ1 (kf r μ1)) : Sim F enc pc pls stk μ (obind lift kf) := by
  subst hst
  refine s_callX hF hD hC (fun w hw => by simp [hw]) (fun w hw => ?_) (fun G hG ad H locs ls Qc XC mc ms cells slots R hFG hFC hR hlv r1 r2 r3 r4 hM => ?_) hx kk
  · simp [hw]
  · refine ⟨_, vx_runSN (As := As.map (tr (x_g G) ad)) (rest := st.map (tr (x_g G) ad)) ⟨hFG.1, hFG.2.1, hFG.2.2.1, hFG.2.2.2.2.1, hFG.2.2.2.1⟩ hM ⟨va_cnB n hFG.2.2.2.1 (goodC hcw.2.2.2.1) rfl rfl rfl (hFC.2.1 _ hcw.1.choose_spec) (hFG.2.2.2.1 _ hcw.2.2.1) hcw.2.2.2.2 ⟨(by show v' + 1 ≤ R.frames; omega), (by show 8 + (maxL' + 11) + 60 * v' ≤ R.locals; omega)⟩, hFG.2.2.2.1 _ hcw.2.1, trivial⟩ ⟨blindPRx, fun U hU hW => ⟨rfl, prx_of hFG hFC hR U hU hW⟩⟩ rfl (by simpa using hn) hlv.1 (by simp) (lv_room (by rw [cat_tr]; exact hcat)) hd ⟨r3, r4⟩⟩

theorem s_callXIN {encβ : β → Outc} {lift : Option (β × Mem)} {kf : β → Mem → Option (α × Mem)} {stk : List Value} {v' idx n : Nat} {y : MethodName} {cc' : ByteArray} {maxL' : Nat} {As : List Value} {b : Nat} (hF : FxO F own cc nL v) (hD : FxXO F ret) (hd : decode cc pc = .ok (.invokespecial idx, 3)) (hcw : CNI own idx y cc' maxL' n)
    (hvv : v' + 1 ≤ v) (hml : maxL' ≤ 41) (hst : stk = As.reverse ++ .ref b :: st) (hn : As.length = n) (hcat : (st.map fun v => v.category).sum ≤ 8)
    (hC : ∀ (r : β) (μ1 : Mem), lift = some (r, μ1) → CtX y cc' maxL' none v' (.ref b :: As) μ (encβ r) μ1)
    (hx : ∀ (r : β) (μ1 : Mem) (k : Nat), lift = some (r, μ1) → encβ r = .inr k → ∃ rr, kf r μ1 = some (rr, μ1) ∧ enc rr = .inr k)
    (kk : ∀ (r : β) (μ1 : Mem) (v0 w : Option Value), lift = some (r, μ1) → Mono μ μ1 → encβ r = .inl v0 → rvp v0 w → Sim F enc (pc + 3) pls (w.toList ++ st) μ1 (kf r μ1)) : Sim F enc pc pls stk μ (obind lift kf) := by
  subst hst
  refine s_callX hF hD hC (fun w hw => by simp [hw]) (fun w hw => ?_) (fun G hG ad H locs ls Qc XC mc ms cells slots R hFG hFC hR hlv r1 r2 r3 r4 hM => ?_) hx kk
  · rcases List.mem_cons.mp hw with rfl | hw <;> simp [*]
  · refine ⟨_, vx_runIN (As := As.map (tr (x_g G) ad)) (rest := st.map (tr (x_g G) ad)) ⟨hFG.1, hFG.2.1, hFG.2.2.1, hFG.2.2.2.2.1, hFG.2.2.2.1⟩ hM ⟨va_cnB n hFG.2.2.2.1 (goodC hcw.2.2.2.1) rfl rfl rfl (hFC.2.1 _ hcw.1.choose_spec) (hFG.2.2.2.1 _ hcw.2.2.1) hcw.2.2.2.2.2 ⟨(by show v' + 1 ≤ R.frames; omega), (by show 8 + (maxL' + 11) + 60 * v' ≤ R.locals; omega)⟩, hcw.2.2.2.2.1, hFG.2.2.2.1 _ hcw.2.1⟩ ⟨blindPRx, fun U hU hW => ⟨rfl, prx_of hFG hFC hR U hU hW⟩⟩ rfl (by simpa using hn) hlv.1 (by simp; rfl) (lv_room (by rw [cat_tr]; exact hcat)) hd ⟨r3, r4⟩⟩

theorem s_xVi {lift : Option (Int32 × Mem)} {kf : Int32 → Mem → Option (α × Mem)} {stk : List Value} {v' idx n : Nat} {y : MethodName} {cc' : ByteArray} {maxL' : Nat} {ret' : Option FieldType} (As : List Value) {ci b : Nat} {q : vw_C} (hF : FxO F own cc nL v) (hD : FxXO F ret) (hd : decode cc pc = .ok (.invokevirtual idx, 3)) (hcw : CWV own idx y cc' maxL' ret' n)
    (hvv : v' + 1 ≤ v) (hml : maxL' ≤ 41) (hq : clL[ci]? = some q) (hqy : q.1 = y.cls) (hci : ci < 13) (hb : isK μ b ci = true) (hst : stk = As.reverse ++ .ref b :: st) (hn : As.length = n) (hcat : (st.map fun v => v.category).sum ≤ 8)
    (hC : ∀ (r : Int32) (μ1 : Mem), lift = some (r, μ1) → CtX y cc' maxL' ret' v' (.ref b :: As) μ (encI r) μ1)
    (kk : ∀ (r : Int32) (μ1 : Mem), lift = some (r, μ1) → Mono μ μ1 → Sim F enc (pc + 3) pls (.int r :: st) μ1 (kf r μ1)) : Sim F enc pc pls stk μ (obind lift kf) :=
  s_callXV hF hD hd hcw hvv hml hq hqy hci hb hst hn hcat hC (fun _ _ _ _ h => by cases h) (fun r μ1 v0 w hl hm he hw => by cases he; cases hw; exact kk r μ1 hl hm)
theorem s_xVl {lift : Option (Int64 × Mem)} {kf : Int64 → Mem → Option (α × Mem)} {stk : List Value} {v' idx n : Nat} {y : MethodName} {cc' : ByteArray} {maxL' : Nat} {ret' : Option FieldType} (As : List Value) {ci b : Nat} {q : vw_C} (hF : FxO F own cc nL v) (hD : FxXO F ret) (hd : decode cc pc = .ok (.invokevirtual idx, 3)) (hcw : CWV own idx y cc' maxL' ret' n)
    (hvv : v' + 1 ≤ v) (hml : maxL' ≤ 41) (hq : clL[ci]? = some q) (hqy : q.1 = y.cls) (hci : ci < 13) (hb : isK μ b ci = true) (hst : stk = As.reverse ++ .ref b :: st) (hn : As.length = n) (hcat : (st.map fun v => v.category).sum ≤ 8)
    (hC : ∀ (r : Int64) (μ1 : Mem), lift = some (r, μ1) → CtX y cc' maxL' ret' v' (.ref b :: As) μ (encL r) μ1)
    (kk : ∀ (r : Int64) (μ1 : Mem), lift = some (r, μ1) → Mono μ μ1 → Sim F enc (pc + 3) pls (.long r :: st) μ1 (kf r μ1)) : Sim F enc pc pls stk μ (obind lift kf) :=
  s_callXV hF hD hd hcw hvv hml hq hqy hci hb hst hn hcat hC (fun _ _ _ _ h => by cases h) (fun r μ1 v0 w hl hm he hw => by cases he; cases hw; exact kk r μ1 hl hm)
theorem s_xVv {lift : Option (Unit × Mem)} {kf : Unit → Mem → Option (α × Mem)} {stk : List Value} {v' idx n : Nat} {y : MethodName} {cc' : ByteArray} {maxL' : Nat} {ret' : Option FieldType} (As : List Value) {ci b : Nat} {q : vw_C} (hF : FxO F own cc nL v) (hD : FxXO F ret) (hd : decode cc pc = .ok (.invokevirtual idx, 3)) (hcw : CWV own idx y cc' maxL' ret' n)
    (hvv : v' + 1 ≤ v) (hml : maxL' ≤ 41) (hq : clL[ci]? = some q) (hqy : q.1 = y.cls) (hci : ci < 13) (hb : isK μ b ci = true) (hst : stk = As.reverse ++ .ref b :: st) (hn : As.length = n) (hcat : (st.map fun v => v.category).sum ≤ 8)
    (hC : ∀ (r : Unit) (μ1 : Mem), lift = some (r, μ1) → CtX y cc' maxL' ret' v' (.ref b :: As) μ (encV r) μ1)
    (kk : ∀ (r : Unit) (μ1 : Mem), lift = some (r, μ1) → Mono μ μ1 → Sim F enc (pc + 3) pls st μ1 (kf r μ1)) : Sim F enc pc pls stk μ (obind lift kf) :=
  s_callXV hF hD hd hcw hvv hml hq hqy hci hb hst hn hcat hC (fun _ _ _ _ h => by cases h) (fun r μ1 v0 w hl hm he hw => by cases he; cases hw; exact kk r μ1 hl hm)
theorem s_xVd {lift : Option (UInt64 × Mem)} {kf : UInt64 → Mem → Option (α × Mem)} {stk : List Value} {v' idx n : Nat} {y : MethodName} {cc' : ByteArray} {maxL' : Nat} {ret' : Option FieldType} (As : List Value) {ci b : Nat} {q : vw_C} (hF : FxO F own cc nL v) (hD : FxXO F ret) (hd : decode cc pc = .ok (.invokevirtual idx, 3)) (hcw : CWV own idx y cc' maxL' ret' n)
    (hvv : v' + 1 ≤ v) (hml : maxL' ≤ 41) (hq : clL[ci]? = some q) (hqy : q.1 = y.cls) (hci : ci < 13) (hb : isK μ b ci = true) (hst : stk = As.reverse ++ .ref b :: st) (hn : As.length = n) (hcat : (st.map fun v => v.category).sum ≤ 8)
    (hC : ∀ (r : UInt64) (μ1 : Mem), lift = some (r, μ1) → CtX y cc' maxL' ret' v' (.ref b :: As) μ (encD r) μ1)
    (kk : ∀ (r : UInt64) (μ1 : Mem) (y9 : UInt64), lift = some (r, μ1) → Mono μ μ1 → alike64 y9 r = true → Sim F enc (pc + 3) pls (.double y9 :: st) μ1 (kf r μ1)) : Sim F enc pc pls stk μ (obind lift kf) :=
  s_callXV hF hD hd hcw hvv hml hq hqy hci hb hst hn hcat hC (fun _ _ _ _ h => by cases h) (fun r μ1 v0 w hl hm he hw => by cases he; obtain ⟨y9, rfl, hal⟩ := hw; exact kk r μ1 y9 hl hm hal)
theorem s_xVr {lift : Option (Nat × Mem)} {kf : Nat → Mem → Option (α × Mem)} {stk : List Value} {v' idx n : Nat} {y : MethodName} {cc' : ByteArray} {maxL' : Nat} {ret' : Option FieldType} (As : List Value) {ci b : Nat} {q : vw_C} (hF : FxO F own cc nL v) (hD : FxXO F ret) (hd : decode cc pc = .ok (.invokevirtual idx, 3)) (hcw : CWV own idx y cc' maxL' ret' n)
    (hvv : v' + 1 ≤ v) (hml : maxL' ≤ 41) (hq : clL[ci]? = some q) (hqy : q.1 = y.cls) (hci : ci < 13) (hb : isK μ b ci = true) (hst : stk = As.reverse ++ .ref b :: st) (hn : As.length = n) (hcat : (st.map fun v => v.category).sum ≤ 8)
    (hC : ∀ (r : Nat) (μ1 : Mem), lift = some (r, μ1) → CtX y cc' maxL' ret' v' (.ref b :: As) μ (encR r) μ1)
    (kk : ∀ (r : Nat) (μ1 : Mem), lift = some (r, μ1) → Mono μ μ1 → Sim F enc (pc + 3) pls (.ref r :: st) μ1 (kf r μ1)) : Sim F enc pc pls stk μ (obind lift kf) :=
  s_callXV hF hD hd hcw hvv hml hq hqy hci hb hst hn hcat hC (fun _ _ _ _ h => by cases h) (fun r μ1 v0 w hl hm he hw => by cases he; cases hw; exact kk r μ1 hl hm)
theorem s_tVv {enc : α → Outc} {lift : Option ((Nat ⊕ Unit) × Mem)} {kf : Unit → Mem → Option ((Nat ⊕ α) × Mem)} {stk : List Value} {v' idx n : Nat} {y : MethodName} {cc' : ByteArray} {maxL' : Nat} {ret' : Option FieldType} (As : List Value) {ci b : Nat} {q : vw_C} (hF : FxO F own cc nL v) (hD : FxXO F ret) (hd : decode cc pc = .ok (.invokevirtual idx, 3)) (hcw : CWV own idx y cc' maxL' ret' n)
    (hvv : v' + 1 ≤ v) (hml : maxL' ≤ 41) (hq : clL[ci]? = some q) (hqy : q.1 = y.cls) (hci : ci < 13) (hb : isK μ b ci = true) (hst : stk = As.reverse ++ .ref b :: st) (hn : As.length = n) (hcat : (st.map fun v => v.category).sum ≤ 8)
    (hC : ∀ (r : Nat ⊕ Unit) (μ1 : Mem), lift = some (r, μ1) → CtX y cc' maxL' ret' v' (.ref b :: As) μ (encX encV r) μ1)
    (kk : ∀ (r : Unit) (μ1 : Mem), lift = some (.inr r, μ1) → Mono μ μ1 → Sim F (encX enc) (pc + 3) pls st μ1 (kf r μ1)) : Sim F (encX enc) pc pls stk μ (obindX lift kf) :=
  s_callXV hF hD hd hcw hvv hml hq hqy hci hb hst hn hcat hC (fun r μ1 k hl he => by
    cases r with
    | inl k' => cases he; exact ⟨.inl k, rfl, rfl⟩
    | inr x => cases he) (fun r μ1 v0 w hl hm he hw => by
    cases r with
    | inl k' => cases he
    | inr x => cases he; cases hw; exact kk x μ1 hl hm)
theorem s_tVi {enc : α → Outc} {lift : Option ((Nat ⊕ Int32) × Mem)} {kf : Int32 → Mem → Option ((Nat ⊕ α) × Mem)} {stk : List Value} {v' idx n : Nat} {y : MethodName} {cc' : ByteArray} {maxL' : Nat} {ret' : Option FieldType} (As : List Value) {ci b : Nat} {q : vw_C} (hF : FxO F own cc nL v) (hD : FxXO F ret) (hd : decode cc pc = .ok (.invokevirtual idx, 3)) (hcw : CWV own idx y cc' maxL' ret' n)
    (hvv : v' + 1 ≤ v) (hml : maxL' ≤ 41) (hq : clL[ci]? = some q) (hqy : q.1 = y.cls) (hci : ci < 13) (hb : isK μ b ci = true) (hst : stk = As.reverse ++ .ref b :: st) (hn : As.length = n) (hcat : (st.map fun v => v.category).sum ≤ 8)
    (hC : ∀ (r : Nat ⊕ Int32) (μ1 : Mem), lift = some (r, μ1) → CtX y cc' maxL' ret' v' (.ref b :: As) μ (encX encI r) μ1)
    (kk : ∀ (r : Int32) (μ1 : Mem), lift = some (.inr r, μ1) → Mono μ μ1 → Sim F (encX enc) (pc + 3) pls (.int r :: st) μ1 (kf r μ1)) : Sim F (encX enc) pc pls stk μ (obindX lift kf) :=
  s_callXV hF hD hd hcw hvv hml hq hqy hci hb hst hn hcat hC (fun r μ1 k hl he => by
    cases r with
    | inl k' => cases he; exact ⟨.inl k, rfl, rfl⟩
    | inr x => cases he) (fun r μ1 v0 w hl hm he hw => by
    cases r with
    | inl k' => cases he
    | inr x => cases he; cases hw; exact kk x μ1 hl hm)
theorem s_xSi {lift : Option (Int32 × Mem)} {kf : Int32 → Mem → Option (α × Mem)} {stk : List Value} {v' idx n : Nat} {y : MethodName} {cc' : ByteArray} {maxL' : Nat} {ret' : Option FieldType} (As : List Value) (hF : FxO F own cc nL v) (hD : FxXO F ret) (hd : decode cc pc = .ok (.invokestatic idx, 3)) (hcw : CWS own idx y cc' maxL' ret' n)
    (hvv : v' + 1 ≤ v) (hml : maxL' ≤ 41) (hst : stk = As.reverse ++ st) (hn : As.length = n) (hcat : (st.map fun v => v.category).sum ≤ 8)
    (hC : ∀ (r : Int32) (μ1 : Mem), lift = some (r, μ1) → CtX y cc' maxL' ret' v' As μ (encI r) μ1)
    (kk : ∀ (r : Int32) (μ1 : Mem), lift = some (r, μ1) → Mono μ μ1 → Sim F enc (pc + 3) pls (.int r :: st) μ1 (kf r μ1)) : Sim F enc pc pls stk μ (obind lift kf) :=
  s_callXS hF hD hd hcw hvv hml hst hn hcat hC (fun _ _ _ _ h => by cases h) (fun r μ1 v0 w hl hm he hw => by cases he; cases hw; exact kk r μ1 hl hm)
theorem s_xSl {lift : Option (Int64 × Mem)} {kf : Int64 → Mem → Option (α × Mem)} {stk : List Value} {v' idx n : Nat} {y : MethodName} {cc' : ByteArray} {maxL' : Nat} {ret' : Option FieldType} (As : List Value) (hF : FxO F own cc nL v) (hD : FxXO F ret) (hd : decode cc pc = .ok (.invokestatic idx, 3)) (hcw : CWS own idx y cc' maxL' ret' n)
    (hvv : v' + 1 ≤ v) (hml : maxL' ≤ 41) (hst : stk = As.reverse ++ st) (hn : As.length = n) (hcat : (st.map fun v => v.category).sum ≤ 8)
    (hC : ∀ (r : Int64) (μ1 : Mem), lift = some (r, μ1) → CtX y cc' maxL' ret' v' As μ (encL r) μ1)
    (kk : ∀ (r : Int64) (μ1 : Mem), lift = some (r, μ1) → Mono μ μ1 → Sim F enc (pc + 3) pls (.long r :: st) μ1 (kf r μ1)) : Sim F enc pc pls stk μ (obind lift kf) :=
  s_callXS hF hD hd hcw hvv hml hst hn hcat hC (fun _ _ _ _ h => by cases h) (fun r μ1 v0 w hl hm he hw => by cases he; cases hw; exact kk r μ1 hl hm)
theorem s_xSv {lift : Option (Unit × Mem)} {kf : Unit → Mem → Option (α × Mem)} {stk : List Value} {v' idx n : Nat} {y : MethodName} {cc' : ByteArray} {maxL' : Nat} {ret' : Option FieldType} (As : List Value) (hF : FxO F own cc nL v) (hD : FxXO F ret) (hd : decode cc pc = .ok (.invokestatic idx, 3)) (hcw : CWS own idx y cc' maxL' ret' n)
    (hvv : v' + 1 ≤ v) (hml : maxL' ≤ 41) (hst : stk = As.reverse ++ st) (hn : As.length = n) (hcat : (st.map fun v => v.category).sum ≤ 8)
    (hC : ∀ (r : Unit) (μ1 : Mem), lift = some (r, μ1) → CtX y cc' maxL' ret' v' As μ (encV r) μ1)
    (kk : ∀ (r : Unit) (μ1 : Mem), lift = some (r, μ1) → Mono μ μ1 → Sim F enc (pc + 3) pls st μ1 (kf r μ1)) : Sim F enc pc pls stk μ (obind lift kf) :=
  s_callXS hF hD hd hcw hvv hml hst hn hcat hC (fun _ _ _ _ h => by cases h) (fun r μ1 v0 w hl hm he hw => by cases he; cases hw; exact kk r μ1 hl hm)
theorem s_xSd {lift : Option (UInt64 × Mem)} {kf : UInt64 → Mem → Option (α × Mem)} {stk : List Value} {v' idx n : Nat} {y : MethodName} {cc' : ByteArray} {maxL' : Nat} {ret' : Option FieldType} (As : List Value) (hF : FxO F own cc nL v) (hD : FxXO F ret) (hd : decode cc pc = .ok (.invokestatic idx, 3)) (hcw : CWS own idx y cc' maxL' ret' n)
    (hvv : v' + 1 ≤ v) (hml : maxL' ≤ 41) (hst : stk = As.reverse ++ st) (hn : As.length = n) (hcat : (st.map fun v => v.category).sum ≤ 8)
    (hC : ∀ (r : UInt64) (μ1 : Mem), lift = some (r, μ1) → CtX y cc' maxL' ret' v' As μ (encD r) μ1)
    (kk : ∀ (r : UInt64) (μ1 : Mem) (y9 : UInt64), lift = some (r, μ1) → Mono μ μ1 → alike64 y9 r = true → Sim F enc (pc + 3) pls (.double y9 :: st) μ1 (kf r μ1)) : Sim F enc pc pls stk μ (obind lift kf) :=
  s_callXS hF hD hd hcw hvv hml hst hn hcat hC (fun _ _ _ _ h => by cases h) (fun r μ1 v0 w hl hm he hw => by cases he; obtain ⟨y9, rfl, hal⟩ := hw; exact kk r μ1 y9 hl hm hal)
theorem s_xSr {lift : Option (Nat × Mem)} {kf : Nat → Mem → Option (α × Mem)} {stk : List Value} {v' idx n : Nat} {y : MethodName} {cc' : ByteArray} {maxL' : Nat} {ret' : Option FieldType} (As : List Value) (hF : FxO F own cc nL v) (hD : FxXO F ret) (hd : decode cc pc = .ok (.invokestatic idx, 3)) (hcw : CWS own idx y cc' maxL' ret' n)
    (hvv : v' + 1 ≤ v) (hml : maxL' ≤ 41) (hst : stk = As.reverse ++ st) (hn : As.length = n) (hcat : (st.map fun v => v.category).sum ≤ 8)
    (hC : ∀ (r : Nat) (μ1 : Mem), lift = some (r, μ1) → CtX y cc' maxL' ret' v' As μ (encR r) μ1)
    (kk : ∀ (r : Nat) (μ1 : Mem), lift = some (r, μ1) → Mono μ μ1 → Sim F enc (pc + 3) pls (.ref r :: st) μ1 (kf r μ1)) : Sim F enc pc pls stk μ (obind lift kf) :=
  s_callXS hF hD hd hcw hvv hml hst hn hcat hC (fun _ _ _ _ h => by cases h) (fun r μ1 v0 w hl hm he hw => by cases he; cases hw; exact kk r μ1 hl hm)
theorem s_xIv {lift : Option (Unit × Mem)} {kf : Unit → Mem → Option (α × Mem)} {stk : List Value} {v' idx n : Nat} {y : MethodName} {cc' : ByteArray} {maxL' : Nat} (As : List Value) {b : Nat} (hF : FxO F own cc nL v) (hD : FxXO F ret) (hd : decode cc pc = .ok (.invokespecial idx, 3)) (hcw : CWI own idx y cc' maxL' n)
    (hvv : v' + 1 ≤ v) (hml : maxL' ≤ 41) (hst : stk = As.reverse ++ .ref b :: st) (hn : As.length = n) (hcat : (st.map fun v => v.category).sum ≤ 8)
    (hC : ∀ (r : Unit) (μ1 : Mem), lift = some (r, μ1) → CtX y cc' maxL' none v' (.ref b :: As) μ (encV r) μ1)
    (kk : ∀ (r : Unit) (μ1 : Mem), lift = some (r, μ1) → Mono μ μ1 → Sim F enc (pc + 3) pls st μ1 (kf r μ1)) : Sim F enc pc pls stk μ (obind lift kf) :=
  s_callXI hF hD hd hcw hvv hml hst hn hcat hC (fun _ _ _ _ h => by cases h) (fun r μ1 v0 w hl hm he hw => by cases he; cases hw; exact kk r μ1 hl hm)
theorem s_xVNi {lift : Option (Int32 × Mem)} {kf : Int32 → Mem → Option (α × Mem)} {stk : List Value} {v' idx n : Nat} {y : MethodName} {cc' : ByteArray} {maxL' : Nat} {ret' : Option FieldType} (As : List Value) {ci b : Nat} {q : vw_C} (hF : FxO F own cc nL v) (hD : FxXO F ret) (hd : decode cc pc = .ok (.invokevirtual idx, 3)) (hcw : CNV own idx y cc' maxL' ret' n)
    (hvv : v' + 1 ≤ v) (hml : maxL' ≤ 41) (hq : clL[ci]? = some q) (hqy : q.1 = y.cls) (hci : ci < 13) (hb : isK μ b ci = true) (hst : stk = As.reverse ++ .ref b :: st) (hn : As.length = n) (hcat : (st.map fun v => v.category).sum ≤ 8)
    (hC : ∀ (r : Int32) (μ1 : Mem), lift = some (r, μ1) → CtX y cc' maxL' ret' v' (.ref b :: As) μ (encI r) μ1)
    (kk : ∀ (r : Int32) (μ1 : Mem), lift = some (r, μ1) → Mono μ μ1 → Sim F enc (pc + 3) pls (.int r :: st) μ1 (kf r μ1)) : Sim F enc pc pls stk μ (obind lift kf) :=
  s_callXVN hF hD hd hcw hvv hml hq hqy hci hb hst hn hcat hC (fun _ _ _ _ h => by cases h) (fun r μ1 v0 w hl hm he hw => by cases he; cases hw; exact kk r μ1 hl hm)
theorem s_xVNl {lift : Option (Int64 × Mem)} {kf : Int64 → Mem → Option (α × Mem)} {stk : List Value} {v' idx n : Nat} {y : MethodName} {cc' : ByteArray} {maxL' : Nat} {ret' : Option FieldType} (As : List Value) {ci b : Nat} {q : vw_C} (hF : FxO F own cc nL v) (hD : FxXO F ret) (hd : decode cc pc = .ok (.invokevirtual idx, 3)) (hcw : CNV own idx y cc' maxL' ret' n)
    (hvv : v' + 1 ≤ v) (hml : maxL' ≤ 41) (hq : clL[ci]? = some q) (hqy : q.1 = y.cls) (hci : ci < 13) (hb : isK μ b ci = true) (hst : stk = As.reverse ++ .ref b :: st) (hn : As.length = n) (hcat : (st.map fun v => v.category).sum ≤ 8)
    (hC : ∀ (r : Int64) (μ1 : Mem), lift = some (r, μ1) → CtX y cc' maxL' ret' v' (.ref b :: As) μ (encL r) μ1)
    (kk : ∀ (r : Int64) (μ1 : Mem), lift = some (r, μ1) → Mono μ μ1 → Sim F enc (pc + 3) pls (.long r :: st) μ1 (kf r μ1)) : Sim F enc pc pls stk μ (obind lift kf) :=
  s_callXVN hF hD hd hcw hvv hml hq hqy hci hb hst hn hcat hC (fun _ _ _ _ h => by cases h) (fun r μ1 v0 w hl hm he hw => by cases he; cases hw; exact kk r μ1 hl hm)
theorem s_xVNv {lift : Option (Unit × Mem)} {kf : Unit → Mem → Option (α × Mem)} {stk : List Value} {v' idx n : Nat} {y : MethodName} {cc' : ByteArray} {maxL' : Nat} {ret' : Option FieldType} (As : List Value) {ci b : Nat} {q : vw_C} (hF : FxO F own cc nL v) (hD : FxXO F ret) (hd : decode cc pc = .ok (.invokevirtual idx, 3)) (hcw : CNV own idx y cc' maxL' ret' n)
    (hvv : v' + 1 ≤ v) (hml : maxL' ≤ 41) (hq : clL[ci]? = some q) (hqy : q.1 = y.cls) (hci : ci < 13) (hb : isK μ b ci = true) (hst : stk = As.reverse ++ .ref b :: st) (hn : As.length = n) (hcat : (st.map fun v => v.category).sum ≤ 8)
    (hC : ∀ (r : Unit) (μ1 : Mem), lift = some (r, μ1) → CtX y cc' maxL' ret' v' (.ref b :: As) μ (encV r) μ1)
    (kk : ∀ (r : Unit) (μ1 : Mem), lift = some (r, μ1) → Mono μ μ1 → Sim F enc (pc + 3) pls st μ1 (kf r μ1)) : Sim F enc pc pls stk μ (obind lift kf) :=
  s_callXVN hF hD hd hcw hvv hml hq hqy hci hb hst hn hcat hC (fun _ _ _ _ h => by cases h) (fun r μ1 v0 w hl hm he hw => by cases he; cases hw; exact kk r μ1 hl hm)
theorem s_xVNd {lift : Option (UInt64 × Mem)} {kf : UInt64 → Mem → Option (α × Mem)} {stk : List Value} {v' idx n : Nat} {y : MethodName} {cc' : ByteArray} {maxL' : Nat} {ret' : Option FieldType} (As : List Value) {ci b : Nat} {q : vw_C} (hF : FxO F own cc nL v) (hD : FxXO F ret) (hd : decode cc pc = .ok (.invokevirtual idx, 3)) (hcw : CNV own idx y cc' maxL' ret' n)
    (hvv : v' + 1 ≤ v) (hml : maxL' ≤ 41) (hq : clL[ci]? = some q) (hqy : q.1 = y.cls) (hci : ci < 13) (hb : isK μ b ci = true) (hst : stk = As.reverse ++ .ref b :: st) (hn : As.length = n) (hcat : (st.map fun v => v.category).sum ≤ 8)
    (hC : ∀ (r : UInt64) (μ1 : Mem), lift = some (r, μ1) → CtX y cc' maxL' ret' v' (.ref b :: As) μ (encD r) μ1)
    (kk : ∀ (r : UInt64) (μ1 : Mem) (y9 : UInt64), lift = some (r, μ1) → Mono μ μ1 → alike64 y9 r = true → Sim F enc (pc + 3) pls (.double y9 :: st) μ1 (kf r μ1)) : Sim F enc pc pls stk μ (obind lift kf) :=
  s_callXVN hF hD hd hcw hvv hml hq hqy hci hb hst hn hcat hC (fun _ _ _ _ h => by cases h) (fun r μ1 v0 w hl hm he hw => by cases he; obtain ⟨y9, rfl, hal⟩ := hw; exact kk r μ1 y9 hl hm hal)
theorem s_xVNr {lift : Option (Nat × Mem)} {kf : Nat → Mem → Option (α × Mem)} {stk : List Value} {v' idx n : Nat} {y : MethodName} {cc' : ByteArray} {maxL' : Nat} {ret' : Option FieldType} (As : List Value) {ci b : Nat} {q : vw_C} (hF : FxO F own cc nL v) (hD : FxXO F ret) (hd : decode cc pc = .ok (.invokevirtual idx, 3)) (hcw : CNV own idx y cc' maxL' ret' n)
    (hvv : v' + 1 ≤ v) (hml : maxL' ≤ 41) (hq : clL[ci]? = some q) (hqy : q.1 = y.cls) (hci : ci < 13) (hb : isK μ b ci = true) (hst : stk = As.reverse ++ .ref b :: st) (hn : As.length = n) (hcat : (st.map fun v => v.category).sum ≤ 8)
    (hC : ∀ (r : Nat) (μ1 : Mem), lift = some (r, μ1) → CtX y cc' maxL' ret' v' (.ref b :: As) μ (encR r) μ1)
    (kk : ∀ (r : Nat) (μ1 : Mem), lift = some (r, μ1) → Mono μ μ1 → Sim F enc (pc + 3) pls (.ref r :: st) μ1 (kf r μ1)) : Sim F enc pc pls stk μ (obind lift kf) :=
  s_callXVN hF hD hd hcw hvv hml hq hqy hci hb hst hn hcat hC (fun _ _ _ _ h => by cases h) (fun r μ1 v0 w hl hm he hw => by cases he; cases hw; exact kk r μ1 hl hm)
theorem s_xSNi {lift : Option (Int32 × Mem)} {kf : Int32 → Mem → Option (α × Mem)} {stk : List Value} {v' idx n : Nat} {y : MethodName} {cc' : ByteArray} {maxL' : Nat} {ret' : Option FieldType} (As : List Value) (hF : FxO F own cc nL v) (hD : FxXO F ret) (hd : decode cc pc = .ok (.invokestatic idx, 3)) (hcw : CNS own idx y cc' maxL' ret' n)
    (hvv : v' + 1 ≤ v) (hml : maxL' ≤ 41) (hst : stk = As.reverse ++ st) (hn : As.length = n) (hcat : (st.map fun v => v.category).sum ≤ 8)
    (hC : ∀ (r : Int32) (μ1 : Mem), lift = some (r, μ1) → CtX y cc' maxL' ret' v' As μ (encI r) μ1)
    (kk : ∀ (r : Int32) (μ1 : Mem), lift = some (r, μ1) → Mono μ μ1 → Sim F enc (pc + 3) pls (.int r :: st) μ1 (kf r μ1)) : Sim F enc pc pls stk μ (obind lift kf) :=
  s_callXSN hF hD hd hcw hvv hml hst hn hcat hC (fun _ _ _ _ h => by cases h) (fun r μ1 v0 w hl hm he hw => by cases he; cases hw; exact kk r μ1 hl hm)
theorem s_xSNl {lift : Option (Int64 × Mem)} {kf : Int64 → Mem → Option (α × Mem)} {stk : List Value} {v' idx n : Nat} {y : MethodName} {cc' : ByteArray} {maxL' : Nat} {ret' : Option FieldType} (As : List Value) (hF : FxO F own cc nL v) (hD : FxXO F ret) (hd : decode cc pc = .ok (.invokestatic idx, 3)) (hcw : CNS own idx y cc' maxL' ret' n)
    (hvv : v' + 1 ≤ v) (hml : maxL' ≤ 41) (hst : stk = As.reverse ++ st) (hn : As.length = n) (hcat : (st.map fun v => v.category).sum ≤ 8)
    (hC : ∀ (r : Int64) (μ1 : Mem), lift = some (r, μ1) → CtX y cc' maxL' ret' v' As μ (encL r) μ1)
    (kk : ∀ (r : Int64) (μ1 : Mem), lift = some (r, μ1) → Mono μ μ1 → Sim F enc (pc + 3) pls (.long r :: st) μ1 (kf r μ1)) : Sim F enc pc pls stk μ (obind lift kf) :=
  s_callXSN hF hD hd hcw hvv hml hst hn hcat hC (fun _ _ _ _ h => by cases h) (fun r μ1 v0 w hl hm he hw => by cases he; cases hw; exact kk r μ1 hl hm)
theorem s_xSNv {lift : Option (Unit × Mem)} {kf : Unit → Mem → Option (α × Mem)} {stk : List Value} {v' idx n : Nat} {y : MethodName} {cc' : ByteArray} {maxL' : Nat} {ret' : Option FieldType} (As : List Value) (hF : FxO F own cc nL v) (hD : FxXO F ret) (hd : decode cc pc = .ok (.invokestatic idx, 3)) (hcw : CNS own idx y cc' maxL' ret' n)
    (hvv : v' + 1 ≤ v) (hml : maxL' ≤ 41) (hst : stk = As.reverse ++ st) (hn : As.length = n) (hcat : (st.map fun v => v.category).sum ≤ 8)
    (hC : ∀ (r : Unit) (μ1 : Mem), lift = some (r, μ1) → CtX y cc' maxL' ret' v' As μ (encV r) μ1)
    (kk : ∀ (r : Unit) (μ1 : Mem), lift = some (r, μ1) → Mono μ μ1 → Sim F enc (pc + 3) pls st μ1 (kf r μ1)) : Sim F enc pc pls stk μ (obind lift kf) :=
  s_callXSN hF hD hd hcw hvv hml hst hn hcat hC (fun _ _ _ _ h => by cases h) (fun r μ1 v0 w hl hm he hw => by cases he; cases hw; exact kk r μ1 hl hm)
theorem s_xSNd {lift : Option (UInt64 × Mem)} {kf : UInt64 → Mem → Option (α × Mem)} {stk : List Value} {v' idx n : Nat} {y : MethodName} {cc' : ByteArray} {maxL' : Nat} {ret' : Option FieldType} (As : List Value) (hF : FxO F own cc nL v) (hD : FxXO F ret) (hd : decode cc pc = .ok (.invokestatic idx, 3)) (hcw : CNS own idx y cc' maxL' ret' n)
    (hvv : v' + 1 ≤ v) (hml : maxL' ≤ 41) (hst : stk = As.reverse ++ st) (hn : As.length = n) (hcat : (st.map fun v => v.category).sum ≤ 8)
    (hC : ∀ (r : UInt64) (μ1 : Mem), lift = some (r, μ1) → CtX y cc' maxL' ret' v' As μ (encD r) μ1)
    (kk : ∀ (r : UInt64) (μ1 : Mem) (y9 : UInt64), lift = some (r, μ1) → Mono μ μ1 → alike64 y9 r = true → Sim F enc (pc + 3) pls (.double y9 :: st) μ1 (kf r μ1)) : Sim F enc pc pls stk μ (obind lift kf) :=
  s_callXSN hF hD hd hcw hvv hml hst hn hcat hC (fun _ _ _ _ h => by cases h) (fun r μ1 v0 w hl hm he hw => by cases he; obtain ⟨y9, rfl, hal⟩ := hw; exact kk r μ1 y9 hl hm hal)
theorem s_xSNr {lift : Option (Nat × Mem)} {kf : Nat → Mem → Option (α × Mem)} {stk : List Value} {v' idx n : Nat} {y : MethodName} {cc' : ByteArray} {maxL' : Nat} {ret' : Option FieldType} (As : List Value) (hF : FxO F own cc nL v) (hD : FxXO F ret) (hd : decode cc pc = .ok (.invokestatic idx, 3)) (hcw : CNS own idx y cc' maxL' ret' n)
    (hvv : v' + 1 ≤ v) (hml : maxL' ≤ 41) (hst : stk = As.reverse ++ st) (hn : As.length = n) (hcat : (st.map fun v => v.category).sum ≤ 8)
    (hC : ∀ (r : Nat) (μ1 : Mem), lift = some (r, μ1) → CtX y cc' maxL' ret' v' As μ (encR r) μ1)
    (kk : ∀ (r : Nat) (μ1 : Mem), lift = some (r, μ1) → Mono μ μ1 → Sim F enc (pc + 3) pls (.ref r :: st) μ1 (kf r μ1)) : Sim F enc pc pls stk μ (obind lift kf) :=
  s_callXSN hF hD hd hcw hvv hml hst hn hcat hC (fun _ _ _ _ h => by cases h) (fun r μ1 v0 w hl hm he hw => by cases he; cases hw; exact kk r μ1 hl hm)
theorem s_xINv {lift : Option (Unit × Mem)} {kf : Unit → Mem → Option (α × Mem)} {stk : List Value} {v' idx n : Nat} {y : MethodName} {cc' : ByteArray} {maxL' : Nat} (As : List Value) {b : Nat} (hF : FxO F own cc nL v) (hD : FxXO F ret) (hd : decode cc pc = .ok (.invokespecial idx, 3)) (hcw : CNI own idx y cc' maxL' n)
    (hvv : v' + 1 ≤ v) (hml : maxL' ≤ 41) (hst : stk = As.reverse ++ .ref b :: st) (hn : As.length = n) (hcat : (st.map fun v => v.category).sum ≤ 8)
    (hC : ∀ (r : Unit) (μ1 : Mem), lift = some (r, μ1) → CtX y cc' maxL' none v' (.ref b :: As) μ (encV r) μ1)
    (kk : ∀ (r : Unit) (μ1 : Mem), lift = some (r, μ1) → Mono μ μ1 → Sim F enc (pc + 3) pls st μ1 (kf r μ1)) : Sim F enc pc pls stk μ (obind lift kf) :=
  s_callXIN hF hD hd hcw hvv hml hst hn hcat hC (fun _ _ _ _ h => by cases h) (fun r μ1 v0 w hl hm he hw => by cases he; cases hw; exact kk r μ1 hl hm)
end SX2
