/-! ===== CALLS of methods that may draw ===== -/
def rvp (v w : Option Value) : Prop := match v with
  | some (.double x) => ∃ y, w = some (.double y) ∧ alike64 y x = true
  | v => w = v
theorem al64 (x : UInt64) : alike64 x x = true := by simp [alike64]
theorem rvp_self (v : Option Value) : rvp v v := by
  rcases v with _ | v
  · rfl
  · cases v <;> first | rfl | exact ⟨_, rfl, al64 _⟩
theorem rv_split {g : Gx} {ad : Nat → Nat} {v w : Option Value} (h : rv g ad v w) : ∃ wp, rvp v wp ∧ w = wp.map (tr g ad) := by
  rcases v with _ | v
  · exact ⟨none, rfl, h⟩
  · cases v with
    | double x =>
      obtain ⟨y, hy, hal⟩ := h
      exact ⟨some (.double y), ⟨y, rfl, hal⟩, hy⟩
    | _ => exact ⟨some _, rfl, h⟩
theorem tr_ext {g : Gx} {ad ad' : Nat → Nat} {n : Nat} {v : Value} (h : ∀ a, a ≤ n → ad' a = ad a) (hv : vok n v) : tr g ad' v = tr g ad v := by
  cases v with
  | ref a => exact congrArg Value.ref (h a hv)
  | _ => rfl
theorem trP_ext {g : Gx} {ad ad' : Nat → Nat} {n : Nat} {pls : List (Nat × Value)} (h : ∀ a, a ≤ n → ad' a = ad a) (hv : ∀ q ∈ pls, vok n q.2) : trP g ad' pls = trP g ad pls := by
  unfold trP
  apply List.map_congr_left
  intro q hq
  rw [tr_ext h (hv q hq)]
theorem trS_ext {g : Gx} {ad ad' : Nat → Nat} {n : Nat} {st : List Value} (h : ∀ a, a ≤ n → ad' a = ad a) (hv : ∀ q ∈ st, vok n q) : st.map (tr g ad') = st.map (tr g ad) := by
  apply List.map_congr_left
  intro q hq
  exact tr_ext h (hv q hq)
theorem vok_mono {n m : Nat} {v : Value} (h : n ≤ m) (hv : vok n v) : vok m v := by
  cases v with
  | ref a => exact Nat.le_trans hv h
  | _ => trivial
/-- the record of draws may move -/
def DrO (F : Option Fx) : Prop := ∀ G, F = some G → ∀ d d' : Drawn, x_dp G d → ((x_s G).setDrawn d).drawn.sameBut d' lw_cs → x_dp G d'
theorem FxDO.dr {F : Option Fx} {ret : Option FieldType} (h : FxDO F ret) : DrO F := by
  intro G hG d d' h1 h2
  obtain ⟨-, -, e, -⟩ := h G hG
  rw [e] at h1 ⊢
  exact Drawn.sameBut.trans h1 h2
/-- a call, then the rest -/
def obind {α β : Type} (q : Option (β × Mem)) (k : β → Mem → Option (α × Mem)) : Option (α × Mem) := match q with
  | none => none
  | some q => k q.1 q.2
abbrev encI (x : Int32) : Outc := .inl (some (.int x))
abbrev encL (x : Int64) : Outc := .inl (some (.long x))
abbrev encD (x : UInt64) : Outc := .inl (some (.double x))
abbrev encR (x : Nat) : Outc := .inl (some (.ref x))
abbrev encV (_ : Unit) : Outc := .inl none
section SCD
variable {α β : Type} {F : Option Fx} {enc : α → Outc} {own : String} {cc : ByteArray} {nL v : Nat} {pc : Nat} {pls : List (Nat × Value)} {st : List Value} {μ : Mem} {o : Option (α × Mem)}
theorem s_callD {encβ : β → Outc} {lift : Option (β × Mem)} {kf : β → Mem → Option (α × Mem)} {stk : List Value} {v' : Nat} {y : MethodName} {cc' : ByteArray} {maxL' : Nat} {ret' : Option FieldType} {args' : List Value} (hF : FxO F own cc nL v) (hdr : DrO F)
    (hC : ∀ (r : β) (μ1 : Mem), lift = some (r, μ1) → CtD y cc' maxL' ret' v' args' μ (encβ r) μ1) (hsp : ∀ w ∈ st, w ∈ stk) (hargs : ∀ w ∈ args', w ∈ stk) (hinl : ∀ (r : β) (μ1 : Mem), lift = some (r, μ1) → ∃ v0, encβ r = .inl v0)
    (hrun : ∀ (G : Fx), F = some G → ∀ (ad : Nat → Nat) (H : Heap) (locs : List Loc) (ls : Array Slot) (d : Drawn) (Qc : Array Value → State → Outcome → State → Prop) (mc ms cells slots : Nat) (R : Room), FxOk G own cc nL v → RelH G ad μ H locs → lv_has ls (x_nL G) (trP (x_g G) ad pls) → v ≤ R.frames → 60 * v ≤ R.locals → cells + mc ≤ R.cells → slots + ms ≤ R.slots →
      MetD lw_cs (x_l G) y (.code y cc' maxL' ret' :: WA) (rmv v' mc ms) (va_Pc (args'.map (tr (x_g G) ad)) (PRd (x_g G) ad μ H.size)) Qc mc ms (AA ad (g_n μ) H.size) →
      ∃ a9, va_RunD lw_cs (x_p G) (x_l G) (x_e G) R ((x_s G).setDrawn d) (x_m G) (x_a G) (x_b G) (x_y G) (x_c G) H locs cells slots mc ms (F0 (x_m G) pc ls (stk.map (tr (x_g G) ad))) (st.map (tr (x_g G) ad)) (Qc a9) (AA ad (g_n μ) H.size))
    (kk : ∀ (r : β) (μ1 : Mem) (v0 w : Option Value), lift = some (r, μ1) → Mono μ μ1 → encβ r = .inl v0 → rvp v0 w → Sim F enc (pc + 3) pls (w.toList ++ st) μ1 (kf r μ1)) : Sim F enc pc pls stk μ (obind lift kf) := by
  intro r μ' ho
  cases hl : lift with
  | none => rw [hl] at ho; cases ho
  | some x =>
  obtain ⟨x, μ1⟩ := x
  rw [hl] at ho
  have ho : kf x μ1 = some (r, μ') := ho
  obtain ⟨hm1, hM⟩ := hC x μ1 hl
  obtain ⟨v1, hv1⟩ := hinl x μ1 hl
  obtain ⟨hm2, -⟩ := kk x μ1 v1 v1 hl hm1 hv1 (rvp_self _) r μ' ho
  refine ⟨hm1.tr hm2, fun G hG ad H locs ls d hR hd hV hlv => ?_⟩
  have hFG := hF G hG
  have hRR := hR
  obtain ⟨-, -, -, -, h5, h6, h7, h8⟩ := hRR
  obtain ⟨r1, r2, r3, r4⟩ := hFG.2.2.2.2.2.2.2.2.2 (g_c μ' - x_c0 G) (g_w μ' - x_w0 G)
  have c1 := hm1.2.1
  have c2 := hm2.2.1
  have w1 := hm1.2.2.1
  have w2 := hm2.2.2.1
  have ec : g_c μ - x_c0 G + (g_c μ1 - g_c μ) = g_c μ1 - x_c0 G := by omega
  have ew : g_w μ - x_w0 G + (g_w μ1 - g_w μ) = g_w μ1 - x_w0 G := by omega
  obtain ⟨a9, hrn⟩ := hrun G hG ad H locs ls d _ _ _ (g_c μ - x_c0 G) (g_w μ - x_w0 G) _ hFG hR hlv r1 r2 (by omega) (by omega) (hM (x_l G) (x_g G) ad H.size (fun a ha => hV.2 a (hargs a ha)))
  intro T hT X
  obtain ⟨vres, st₀, t, T', L, d', hd', h0, X', hL, e1, e2, ⟨v0, w, ad', hv0, hw, hrv, hag, hP', hD', hO', hok', hK', hFf⟩, hst⟩ := hrn T hT X
  cases hw
  obtain ⟨wp, hwp, rfl⟩ := rv_split hrv
  obtain ⟨-, kk2⟩ := kk x μ1 v0 wp hl hm1 hv0 hwp r μ' ho
  have hR' := rel_after hFG hR hm1 h0 e1 hL hag hP' hD' hO' hFf
  have hpl := trP_ext (g := x_g G) hag hV.1
  have hstp := trS_ext (g := x_g G) hag (fun q hq => hV.2 q (hsp q hq))
  have hV' : VOK (g_n μ1) pls (wp.toList ++ st) := by
    refine ⟨fun q hq => vok_mono hm1.1 (hV.1 q hq), fun q hq => ?_⟩
    rcases List.mem_append.mp hq with hq | hq
    · cases wp with
      | none => cases hq
      | some z =>
        rcases List.mem_singleton.mp hq with rfl
        cases v0 with
        | none => cases hwp
        | some u =>
          cases u with
          | double u =>
            obtain ⟨y, hy, -⟩ := hwp
            cases hy
            trivial
          | ref u => cases hwp; exact hok'.2
          | _ => cases hwp; trivial
    · exact vok_mono hm1.1 (hV.2 q (hsp q hq))
  have := kk2 G hG ad' T'.heap (locs ++ L) ls d' hR' (hdr G hG d d' hd hd') hV' (by rw [hpl]; exact hlv)
  rw [← ec, ← ew] at this
  obtain ⟨t2, a1, b1⟩ := this T' rfl X'
  rw [List.map_append, hstp] at a1
  have e9 : (wp.map (tr (x_g G) ad')).toList = wp.toList.map (tr (x_g G) ad') := by cases wp <;> rfl
  rw [e9] at hst
  exact ⟨t2, hst t2 a1, b1⟩
/-- the words of a call site -/
def CWV (own : String) (idx : Nat) (y : MethodName) (cc' : ByteArray) (maxL' : Nat) (ret' : Option FieldType) (n : Nat) : Prop := GoodIn WA (wsV own idx y.cls y (.code y cc' maxL' ret' :: WA)) ∧ y.cls ≠ "java/lang/invoke/MethodHandle" ∧ y.cls ≠ "java/lang/invoke/VarHandle" ∧ (parseMethodDescriptor y.desc).map (fun d => d.parameters.length) = some n
def CWS (own : String) (idx : Nat) (y : MethodName) (cc' : ByteArray) (maxL' : Nat) (ret' : Option FieldType) (n : Nat) : Prop := GoodIn WA (va_wsS own idx y (.code y cc' maxL' ret' :: WA)) ∧ y.cls ≠ "java/lang/invoke/MethodHandle" ∧ y.cls ≠ "java/lang/invoke/VarHandle" ∧ (parseMethodDescriptor y.desc).map (fun d => d.parameters.length) = some n
theorem blindPRd {g : Gx} {ad : Nat → Nat} {av : List Value} {sz : Nat} : FrameBlind (va_Pc av (PRd g ad μ sz)) := by
  intro a U g9 mk q
  obtain ⟨q0, q1, qP, qD, qO, qK⟩ := q
  exact ⟨q0, q1, qP, qD, qO, va_K.moved (u := U) (U := U.calling g9 mk a) (Vm.Alike.refl U.vm) qK⟩
theorem s_callVD {encβ : β → Outc} {lift : Option (β × Mem)} {kf : β → Mem → Option (α × Mem)} {stk : List Value} {v' idx n ci b : Nat} {y : MethodName} {cc' : ByteArray} {maxL' : Nat} {ret' : Option FieldType} {As : List Value} {q : vw_C} (hF : FxO F own cc nL v) (hdr : DrO F) (hd : decode cc pc = .ok (.invokevirtual idx, 3)) (hcw : CWV own idx y cc' maxL' ret' n)
    (hvv : v' + 1 ≤ v) (hml : maxL' ≤ 41) (hq : clL[ci]? = some q) (hqy : q.1 = y.cls) (hci : ci < 13) (hb : isK μ b ci = true) (hst : stk = As.reverse ++ .ref b :: st) (hn : As.length = n) (hcat : (st.map fun v => v.category).sum ≤ 8)
    (hC : ∀ (r : β) (μ1 : Mem), lift = some (r, μ1) → CtD y cc' maxL' ret' v' (.ref b :: As) μ (encβ r) μ1) (hinl : ∀ (r : β) (μ1 : Mem), lift = some (r, μ1) → ∃ v0, encβ r = .inl v0)
    (kk : ∀ (r : β) (μ1 : Mem) (v0 w : Option Value), lift = some (r, μ1) → Mono μ μ1 → encβ r = .inl v0 → rvp v0 w → Sim F enc (pc + 3) pls (w.toList ++ st) μ1 (kf r μ1)) : Sim F enc pc pls stk μ (obind lift kf) := by
  subst hst
  refine s_callD hF hdr hC (fun w hw => by simp [hw]) (fun w hw => ?_) hinl (fun G hG ad H locs ls d Qc mc ms cells slots R hFG hR hlv r1 r2 r3 r4 hM => ?_) kk
  · rcases List.mem_cons.mp hw with rfl | hw <;> simp [*]
  · obtain ⟨h0, hnn, hK⟩ := isK_iff.mp hb
    obtain ⟨hg, hy1, hy2, hyn⟩ := hcw
    refine ⟨_, va_runV_D (C := y.cls) (As := As.map (tr (x_g G) ad)) (rest := st.map (tr (x_g G) ad)) ⟨hFG.1, hFG.2.1, hFG.2.2.1, hFG.2.2.2.2.1, hFG.ht d⟩ hM (cwV n (hFG.ht d) hg rfl rfl rfl ⟨rfl, hy1, hy2, hyn⟩ ⟨?_, ?_⟩) ⟨blindPRd, ?_, fun U hU hW => ⟨rfl, by rw [hU], by rw [hU]; exact hR.1, ?_, hR.2.2.2.1, va_K.moved hW.alike (hFG.hK d)⟩⟩ rfl (by simpa using hn) hlv.1 (by simp; rfl) (lv_room (by rw [cat_tr]; exact hcat)) hd ⟨r3, r4⟩⟩
    · show v' + 1 ≤ R.frames
      omega
    · show 8 + (maxL' + 11) + 60 * v' ≤ R.locals
      omega
    · rw [← hqy]
      exact va_recv (hFG.hK d) hR.1 hq (en_at h0 hnn (en_O hK hci))
    · exact ⟨hR.2.1.1, fun k q hk => Or.inl ⟨k + 1, by omega, by have := (List.getElem?_eq_some_iff.mp hk).1; simp [wl] at this; omega, by simp [wl] at hk; obtain ⟨a, ha, rfl⟩ := hk; rw [List.getElem?_eq_some_iff] at ha; obtain ⟨_, ha⟩ := ha; simp at ha; subst ha; rfl⟩⟩
theorem s_callSD {encβ : β → Outc} {lift : Option (β × Mem)} {kf : β → Mem → Option (α × Mem)} {stk : List Value} {v' idx n : Nat} {y : MethodName} {cc' : ByteArray} {maxL' : Nat} {ret' : Option FieldType} {As : List Value} (hF : FxO F own cc nL v) (hdr : DrO F) (hd : decode cc pc = .ok (.invokestatic idx, 3)) (hcw : CWS own idx y cc' maxL' ret' n)
    (hvv : v' + 1 ≤ v) (hml : maxL' ≤ 41) (hst : stk = As.reverse ++ st) (hn : As.length = n) (hcat : (st.map fun v => v.category).sum ≤ 8)
    (hC : ∀ (r : β) (μ1 : Mem), lift = some (r, μ1) → CtD y cc' maxL' ret' v' As μ (encβ r) μ1) (hinl : ∀ (r : β) (μ1 : Mem), lift = some (r, μ1) → ∃ v0, encβ r = .inl v0)
    (kk : ∀ (r : β) (μ1 : Mem) (v0 w : Option Value), lift = some (r, μ1) → Mono μ μ1 → encβ r = .inl v0 → rvp v0 w → Sim F enc (pc + 3) pls (w.toList ++ st) μ1 (kf r μ1)) : Sim F enc pc pls stk μ (obind lift kf) := by
  subst hst
  refine s_callD hF hdr hC (fun w hw => by simp [hw]) (fun w hw => by simp [hw]) hinl (fun G hG ad H locs ls d Qc mc ms cells slots R hFG hR hlv r1 r2 r3 r4 hM => ?_) kk
  obtain ⟨hg, hy1, hy2, hyn⟩ := hcw
  refine ⟨_, va_runS_D (As := As.map (tr (x_g G) ad)) (rest := st.map (tr (x_g G) ad)) ⟨hFG.1, hFG.2.1, hFG.2.2.1, hFG.2.2.2.2.1, hFG.ht d⟩ hM (va_cwS n (hFG.ht d) hg rfl rfl rfl ⟨hy1, hy2, hyn⟩ ⟨?_, ?_⟩) ⟨blindPRd, fun U hU hW => ⟨rfl, by rw [hU], by rw [hU]; exact hR.1, ?_, hR.2.2.2.1, va_K.moved hW.alike (hFG.hK d)⟩⟩ rfl (by simpa using hn) hlv.1 (by simp) (lv_room (by rw [cat_tr]; exact hcat)) hd ⟨r3, r4⟩⟩
  · show v' + 1 ≤ R.frames
    omega
  · show 8 + (maxL' + 11) + 60 * v' ≤ R.locals
    omega
  · exact ⟨hR.2.1.1, fun k q hk => Or.inl ⟨k + 1, by omega, by have := (List.getElem?_eq_some_iff.mp hk).1; simp [wl] at this; omega, by simp [wl] at hk; obtain ⟨a, ha, rfl⟩ := hk; rw [List.getElem?_eq_some_iff] at ha; obtain ⟨_, ha⟩ := ha; simp at ha; subst ha; rfl⟩⟩
theorem s_cVi {lift : Option (Int32 × Mem)} {kf : Int32 → Mem → Option (α × Mem)} {stk : List Value} {v' idx n ci b : Nat} {y : MethodName} {cc' : ByteArray} {maxL' : Nat} {ret' : Option FieldType} (As : List Value) {q : vw_C} (hF : FxO F own cc nL v) (hdr : DrO F) (hd : decode cc pc = .ok (.invokevirtual idx, 3)) (hcw : CWV own idx y cc' maxL' ret' n)
    (hvv : v' + 1 ≤ v) (hml : maxL' ≤ 41) (hq : clL[ci]? = some q) (hqy : q.1 = y.cls) (hci : ci < 13) (hb : isK μ b ci = true) (hst : stk = As.reverse ++ .ref b :: st) (hn : As.length = n) (hcat : (st.map fun v => v.category).sum ≤ 8)
    (hC : ∀ (r : Int32) (μ1 : Mem), lift = some (r, μ1) → CtD y cc' maxL' ret' v' (.ref b :: As) μ (encI r) μ1)
    (kk : ∀ (r : Int32) (μ1 : Mem), lift = some (r, μ1) → Mono μ μ1 → Sim F enc (pc + 3) pls (.int r :: st) μ1 (kf r μ1)) : Sim F enc pc pls stk μ (obind lift kf) :=
  s_callVD hF hdr hd hcw hvv hml hq hqy hci hb hst hn hcat hC (fun _ _ _ => ⟨_, rfl⟩) (fun r μ1 v0 w hl hm he hw => by cases he; cases hw; exact kk r μ1 hl hm)
theorem s_cSi {lift : Option (Int32 × Mem)} {kf : Int32 → Mem → Option (α × Mem)} {stk : List Value} {v' idx n : Nat} {y : MethodName} {cc' : ByteArray} {maxL' : Nat} {ret' : Option FieldType} (As : List Value) (hF : FxO F own cc nL v) (hdr : DrO F) (hd : decode cc pc = .ok (.invokestatic idx, 3)) (hcw : CWS own idx y cc' maxL' ret' n)
    (hvv : v' + 1 ≤ v) (hml : maxL' ≤ 41) (hst : stk = As.reverse ++ st) (hn : As.length = n) (hcat : (st.map fun v => v.category).sum ≤ 8)
    (hC : ∀ (r : Int32) (μ1 : Mem), lift = some (r, μ1) → CtD y cc' maxL' ret' v' As μ (encI r) μ1)
    (kk : ∀ (r : Int32) (μ1 : Mem), lift = some (r, μ1) → Mono μ μ1 → Sim F enc (pc + 3) pls (.int r :: st) μ1 (kf r μ1)) : Sim F enc pc pls stk μ (obind lift kf) :=
  s_callSD hF hdr hd hcw hvv hml hst hn hcat hC (fun _ _ _ => ⟨_, rfl⟩) (fun r μ1 v0 w hl hm he hw => by cases he; cases hw; exact kk r μ1 hl hm)
theorem s_cVl {lift : Option (Int64 × Mem)} {kf : Int64 → Mem → Option (α × Mem)} {stk : List Value} {v' idx n ci b : Nat} {y : MethodName} {cc' : ByteArray} {maxL' : Nat} {ret' : Option FieldType} (As : List Value) {q : vw_C} (hF : FxO F own cc nL v) (hdr : DrO F) (hd : decode cc pc = .ok (.invokevirtual idx, 3)) (hcw : CWV own idx y cc' maxL' ret' n)
    (hvv : v' + 1 ≤ v) (hml : maxL' ≤ 41) (hq : clL[ci]? = some q) (hqy : q.1 = y.cls) (hci : ci < 13) (hb : isK μ b ci = true) (hst : stk = As.reverse ++ .ref b :: st) (hn : As.length = n) (hcat : (st.map fun v => v.category).sum ≤ 8)
    (hC : ∀ (r : Int64) (μ1 : Mem), lift = some (r, μ1) → CtD y cc' maxL' ret' v' (.ref b :: As) μ (encL r) μ1)
    (kk : ∀ (r : Int64) (μ1 : Mem), lift = some (r, μ1) → Mono μ μ1 → Sim F enc (pc + 3) pls (.long r :: st) μ1 (kf r μ1)) : Sim F enc pc pls stk μ (obind lift kf) :=
  s_callVD hF hdr hd hcw hvv hml hq hqy hci hb hst hn hcat hC (fun _ _ _ => ⟨_, rfl⟩) (fun r μ1 v0 w hl hm he hw => by cases he; cases hw; exact kk r μ1 hl hm)
theorem s_cSl {lift : Option (Int64 × Mem)} {kf : Int64 → Mem → Option (α × Mem)} {stk : List Value} {v' idx n : Nat} {y : MethodName} {cc' : ByteArray} {maxL' : Nat} {ret' : Option FieldType} (As : List Value) (hF : FxO F own cc nL v) (hdr : DrO F) (hd : decode cc pc = .ok (.invokestatic idx, 3)) (hcw : CWS own idx y cc' maxL' ret' n)
    (hvv : v' + 1 ≤ v) (hml : maxL' ≤ 41) (hst : stk = As.reverse ++ st) (hn : As.length = n) (hcat : (st.map fun v => v.category).sum ≤ 8)
    (hC : ∀ (r : Int64) (μ1 : Mem), lift = some (r, μ1) → CtD y cc' maxL' ret' v' As μ (encL r) μ1)
    (kk : ∀ (r : Int64) (μ1 : Mem), lift = some (r, μ1) → Mono μ μ1 → Sim F enc (pc + 3) pls (.long r :: st) μ1 (kf r μ1)) : Sim F enc pc pls stk μ (obind lift kf) :=
  s_callSD hF hdr hd hcw hvv hml hst hn hcat hC (fun _ _ _ => ⟨_, rfl⟩) (fun r μ1 v0 w hl hm he hw => by cases he; cases hw; exact kk r μ1 hl hm)
theorem s_cVv {lift : Option (Unit × Mem)} {kf : Unit → Mem → Option (α × Mem)} {stk : List Value} {v' idx n ci b : Nat} {y : MethodName} {cc' : ByteArray} {maxL' : Nat} {ret' : Option FieldType} (As : List Value) {q : vw_C} (hF : FxO F own cc nL v) (hdr : DrO F) (hd : decode cc pc = .ok (.invokevirtual idx, 3)) (hcw : CWV own idx y cc' maxL' ret' n)
    (hvv : v' + 1 ≤ v) (hml : maxL' ≤ 41) (hq : clL[ci]? = some q) (hqy : q.1 = y.cls) (hci : ci < 13) (hb : isK μ b ci = true) (hst : stk = As.reverse ++ .ref b :: st) (hn : As.length = n) (hcat : (st.map fun v => v.category).sum ≤ 8)
    (hC : ∀ (r : Unit) (μ1 : Mem), lift = some (r, μ1) → CtD y cc' maxL' ret' v' (.ref b :: As) μ (encV r) μ1)
    (kk : ∀ (r : Unit) (μ1 : Mem), lift = some (r, μ1) → Mono μ μ1 → Sim F enc (pc + 3) pls st μ1 (kf r μ1)) : Sim F enc pc pls stk μ (obind lift kf) :=
  s_callVD hF hdr hd hcw hvv hml hq hqy hci hb hst hn hcat hC (fun _ _ _ => ⟨_, rfl⟩) (fun r μ1 v0 w hl hm he hw => by cases he; cases hw; exact kk r μ1 hl hm)
theorem s_cSv {lift : Option (Unit × Mem)} {kf : Unit → Mem → Option (α × Mem)} {stk : List Value} {v' idx n : Nat} {y : MethodName} {cc' : ByteArray} {maxL' : Nat} {ret' : Option FieldType} (As : List Value) (hF : FxO F own cc nL v) (hdr : DrO F) (hd : decode cc pc = .ok (.invokestatic idx, 3)) (hcw : CWS own idx y cc' maxL' ret' n)
    (hvv : v' + 1 ≤ v) (hml : maxL' ≤ 41) (hst : stk = As.reverse ++ st) (hn : As.length = n) (hcat : (st.map fun v => v.category).sum ≤ 8)
    (hC : ∀ (r : Unit) (μ1 : Mem), lift = some (r, μ1) → CtD y cc' maxL' ret' v' As μ (encV r) μ1)
    (kk : ∀ (r : Unit) (μ1 : Mem), lift = some (r, μ1) → Mono μ μ1 → Sim F enc (pc + 3) pls st μ1 (kf r μ1)) : Sim F enc pc pls stk μ (obind lift kf) :=
  s_callSD hF hdr hd hcw hvv hml hst hn hcat hC (fun _ _ _ => ⟨_, rfl⟩) (fun r μ1 v0 w hl hm he hw => by cases he; cases hw; exact kk r μ1 hl hm)
theorem s_cVd {lift : Option (UInt64 × Mem)} {kf : UInt64 → Mem → Option (α × Mem)} {stk : List Value} {v' idx n ci b : Nat} {y : MethodName} {cc' : ByteArray} {maxL' : Nat} {ret' : Option FieldType} (As : List Value) {q : vw_C} (hF : FxO F own cc nL v) (hdr : DrO F) (hd : decode cc pc = .ok (.invokevirtual idx, 3)) (hcw : CWV own idx y cc' maxL' ret' n)
    (hvv : v' + 1 ≤ v) (hml : maxL' ≤ 41) (hq : clL[ci]? = some q) (hqy : q.1 = y.cls) (hci : ci < 13) (hb : isK μ b ci = true) (hst : stk = As.reverse ++ .ref b :: st) (hn : As.length = n) (hcat : (st.map fun v => v.category).sum ≤ 8)
    (hC : ∀ (r : UInt64) (μ1 : Mem), lift = some (r, μ1) → CtD y cc' maxL' ret' v' (.ref b :: As) μ (encD r) μ1)
    (kk : ∀ (r : UInt64) (μ1 : Mem) (y9 : UInt64), lift = some (r, μ1) → Mono μ μ1 → alike64 y9 r = true → Sim F enc (pc + 3) pls (.double y9 :: st) μ1 (kf r μ1)) : Sim F enc pc pls stk μ (obind lift kf) :=
  s_callVD hF hdr hd hcw hvv hml hq hqy hci hb hst hn hcat hC (fun _ _ _ => ⟨_, rfl⟩) (fun r μ1 v0 w hl hm he hw => by cases he; obtain ⟨y9, rfl, hal⟩ := hw; exact kk r μ1 y9 hl hm hal)
theorem s_cSd {lift : Option (UInt64 × Mem)} {kf : UInt64 → Mem → Option (α × Mem)} {stk : List Value} {v' idx n : Nat} {y : MethodName} {cc' : ByteArray} {maxL' : Nat} {ret' : Option FieldType} (As : List Value) (hF : FxO F own cc nL v) (hdr : DrO F) (hd : decode cc pc = .ok (.invokestatic idx, 3)) (hcw : CWS own idx y cc' maxL' ret' n)
    (hvv : v' + 1 ≤ v) (hml : maxL' ≤ 41) (hst : stk = As.reverse ++ st) (hn : As.length = n) (hcat : (st.map fun v => v.category).sum ≤ 8)
    (hC : ∀ (r : UInt64) (μ1 : Mem), lift = some (r, μ1) → CtD y cc' maxL' ret' v' As μ (encD r) μ1)
    (kk : ∀ (r : UInt64) (μ1 : Mem) (y9 : UInt64), lift = some (r, μ1) → Mono μ μ1 → alike64 y9 r = true → Sim F enc (pc + 3) pls (.double y9 :: st) μ1 (kf r μ1)) : Sim F enc pc pls stk μ (obind lift kf) :=
  s_callSD hF hdr hd hcw hvv hml hst hn hcat hC (fun _ _ _ => ⟨_, rfl⟩) (fun r μ1 v0 w hl hm he hw => by cases he; obtain ⟨y9, rfl, hal⟩ := hw; exact kk r μ1 y9 hl hm hal)
theorem s_cVr {lift : Option (Nat × Mem)} {kf : Nat → Mem → Option (α × Mem)} {stk : List Value} {v' idx n ci b : Nat} {y : MethodName} {cc' : ByteArray} {maxL' : Nat} {ret' : Option FieldType} (As : List Value) {q : vw_C} (hF : FxO F own cc nL v) (hdr : DrO F) (hd : decode cc pc = .ok (.invokevirtual idx, 3)) (hcw : CWV own idx y cc' maxL' ret' n)
    (hvv : v' + 1 ≤ v) (hml : maxL' ≤ 41) (hq : clL[ci]? = some q) (hqy : q.1 = y.cls) (hci : ci < 13) (hb : isK μ b ci = true) (hst : stk = As.reverse ++ .ref b :: st) (hn : As.length = n) (hcat : (st.map fun v => v.category).sum ≤ 8)
    (hC : ∀ (r : Nat) (μ1 : Mem), lift = some (r, μ1) → CtD y cc' maxL' ret' v' (.ref b :: As) μ (encR r) μ1)
    (kk : ∀ (r : Nat) (μ1 : Mem), lift = some (r, μ1) → Mono μ μ1 → Sim F enc (pc + 3) pls (.ref r :: st) μ1 (kf r μ1)) : Sim F enc pc pls stk μ (obind lift kf) :=
  s_callVD hF hdr hd hcw hvv hml hq hqy hci hb hst hn hcat hC (fun _ _ _ => ⟨_, rfl⟩) (fun r μ1 v0 w hl hm he hw => by cases he; cases hw; exact kk r μ1 hl hm)
theorem s_cSr {lift : Option (Nat × Mem)} {kf : Nat → Mem → Option (α × Mem)} {stk : List Value} {v' idx n : Nat} {y : MethodName} {cc' : ByteArray} {maxL' : Nat} {ret' : Option FieldType} (As : List Value) (hF : FxO F own cc nL v) (hdr : DrO F) (hd : decode cc pc = .ok (.invokestatic idx, 3)) (hcw : CWS own idx y cc' maxL' ret' n)
    (hvv : v' + 1 ≤ v) (hml : maxL' ≤ 41) (hst : stk = As.reverse ++ st) (hn : As.length = n) (hcat : (st.map fun v => v.category).sum ≤ 8)
    (hC : ∀ (r : Nat) (μ1 : Mem), lift = some (r, μ1) → CtD y cc' maxL' ret' v' As μ (encR r) μ1)
    (kk : ∀ (r : Nat) (μ1 : Mem), lift = some (r, μ1) → Mono μ μ1 → Sim F enc (pc + 3) pls (.ref r :: st) μ1 (kf r μ1)) : Sim F enc pc pls stk μ (obind lift kf) :=
  s_callSD hF hdr hd hcw hvv hml hst hn hcat hC (fun _ _ _ => ⟨_, rfl⟩) (fun r μ1 v0 w hl hm he hw => by cases he; cases hw; exact kk r μ1 hl hm)
end SCD
