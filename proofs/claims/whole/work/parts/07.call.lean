/-! ===== CONTRACTS of methods that may draw, and calls of them ===== -/
def AA (ad : Nat → Nat) (n sz : Nat) : Nat → Prop := fun q => (∃ h : Nat, 0 < h ∧ h ≤ n ∧ q = ad h) ∨ sz ≤ q
def PRd (g : Gx) (ad : Nat → Nat) (μ : Mem) (sz : Nat) (U : State) : Prop := U.heap.size = sz ∧ va_P (gDI g) clL (wl g ad μ) U.heap ∧ va_D (AA ad (g_n μ) sz) (wl g ad μ) ∧ Okm μ ∧ va_K (gDI g) clL (tysL g) U
/-- what comes back, up to the bits of a NaN -/
def rv (g : Gx) (ad : Nat → Nat) (v w : Option Value) : Prop := match v with
  | some (.double x) => ∃ y, w = some (.double y) ∧ alike64 y x = true
  | v => w = v.map (tr g ad)
def vokR (n : Nat) (v : Option Value) : Prop := match v with
  | some (.ref x) => 0 < x ∧ x ≤ n
  | _ => True
def QRd (g : Gx) (ad : Nat → Nat) (n sz : Nat) (out : Outc) (μ' : Mem) : Array Value → State → Outcome → State → Prop := fun _ st o t =>
  ∃ (v w : Option Value) (ad' : Nat → Nat), out = .inl v ∧ o = .returned w ∧ rv g ad' v w ∧ (∀ h, h ≤ n → ad' h = ad h) ∧ va_P (gDI g) clL (wl g ad' μ') t.heap ∧ va_D (AA ad n sz) (wl g ad' μ') ∧ Okm μ' ∧ vokR (g_n μ') v ∧ va_K (gDI g) clL (tysL g) t ∧ va_F (AA ad n sz) st t
/-- method y, asked with these arguments in this world, answers out and leaves that one (v: how deep it goes) -/
def CtD (y : MethodName) (cc : ByteArray) (maxL : Nat) (ret : Option FieldType) (v : Nat) (args : List Value) (μ : Mem) (out : Outc) (μ' : Mem) : Prop :=
  Mono μ μ' ∧ ∀ (l : Launch) (g : Gx) (ad : Nat → Nat) (sz : Nat), (∀ a ∈ args, vok (g_n μ) a) →
    MetD lw_cs l y (.code y cc maxL ret :: WA) (rmv v (g_c μ' - g_c μ) (g_w μ' - g_w μ)) (va_Pc (args.map (tr g ad)) (PRd g ad μ sz)) (QRd g ad (g_n μ) sz out μ') (g_c μ' - g_c μ) (g_w μ' - g_w μ) (AA ad (g_n μ) sz)
/-- a frame of such a method -/
def FxD (F : Fx) (ret : Option FieldType) : Prop :=
  (x_y F).sig.returnType = ret ∧ (x_y F).locks = false ∧ x_dp F = (fun d => (x_s F).drawn.sameBut d lw_cs) ∧ x_A F = AA (x_ad F) (x_n0 F) (x_s F).heap.size ∧
    x_Q F = fun mc ms out μ' => MQD lw_cs (x_b F) (QRd (x_g F) (x_ad F) (x_n0 F) (x_s F).heap.size out μ') (x_a F) (x_s F) mc ms (AA (x_ad F) (x_n0 F) (x_s F).heap.size)
theorem lv_args_tr (g : Gx) (ad : Nat → Nat) : ∀ (args : List Value) (i : Nat), lv_args i (args.map (tr g ad)) = trP g ad (lv_args i args)
  | [], _ => rfl
  | a :: l, i => by
    show (i, tr g ad a) :: lv_args (if (tr g ad a).category = 2 then i + 2 else i + 1) (l.map (tr g ad)) = _
    rw [tr_cat, lv_args_tr g ad l]
    rfl
theorem lv_args_ok {n : Nat} : ∀ (args : List Value) (i : Nat), (∀ a ∈ args, vok n a) → ∀ q ∈ lv_args i args, vok n q.2
  | [], _, _ => fun q hq => by cases hq
  | a :: l, i, h => fun q hq => by
    rcases List.mem_cons.mp hq with rfl | hq
    · exact h a List.mem_cons_self
    · exact lv_args_ok l _ (fun b hb => h b (List.mem_cons_of_mem _ hb)) q hq
theorem lg_sl_tr (g : Gx) (ad : Nat → Nat) : ∀ (args : List Value), (lg_sl (args.map (tr g ad))).length = (lg_sl args).length
  | [] => rfl
  | a :: l => by
    have ih := lg_sl_tr g ad l
    unfold lg_sl at ih ⊢
    rw [List.map_cons, List.flatMap_cons, List.flatMap_cons, List.length_append, List.length_append, tr_cat, ih]
    congr 1
    split <;> rfl
theorem cat_tr (g : Gx) (ad : Nat → Nat) : ∀ (st : List Value), ((st.map (tr g ad)).map fun v => v.category).sum = (st.map fun v => v.category).sum
  | [] => rfl
  | a :: l => by
    rw [List.map_cons, List.map_cons, List.map_cons, List.sum_cons, List.sum_cons, tr_cat, cat_tr g ad l]
def FxDO (F : Option Fx) (ret : Option FieldType) : Prop := ∀ G, F = some G → FxD G ret
def FxI (F : Option Fx) : Prop := ∀ G, F = some G → (x_y G).name = "<init>"
section SC
variable {α β : Type} {F : Option Fx} {enc : α → Outc} {own : String} {cc : ByteArray} {nL v : Nat} {pc : Nat} {pls : List (Nat × Value)} {st : List Value} {μ : Mem} {o : Option (α × Mem)}
theorem ct_enterD {y : MethodName} {maxL : Nat} {ret : Option FieldType} {args : List Value} (hy : plainName y.cls = true) (hsl : (lg_sl args).length ≤ maxL)
    (body : ∀ F : Option Fx, FxO F y.cls cc maxL v → FxDO F ret → (y.name = "<init>" → FxI F) → Sim F enc 0 (lv_args 0 args) [] μ o) : ∀ (r : α) (μ' : Mem), o = some (r, μ') → CtD y cc maxL ret v args μ (enc r) μ' := by
  intro r μ' ho
  refine ⟨(body none (fun G h => by cases h) (fun G h => by cases h) (fun _ G h => by cases h) r μ' ho).1, fun l g ad sz hargs => ?_⟩
  refine MetD.ofW (cc := cc) (maxL := maxL) (ret := ret) hy rfl ?_
  intro p e s m args9 below meth c s₁ B hml hv hd0
  obtain ⟨rfl, hsz, hP, hD, hO, hK⟩ := hv
  subst hsz
  have hts := atoms_spec (ws := .code y cc maxL ret :: WA) B.pre
  have hts : ∀ w ∈ WA, w.before _ s = true := fun w h => hts w (List.mem_cons_of_mem _ h)
  let G : Fx := ((p, l, e, s, m, (args.map (tr g ad)).toArray, below, meth, c), (g, AA ad (g_n μ) s.heap.size, ad), (maxL, v, g_n μ, g_c μ, g_w μ), (fun d => s.drawn.sameBut d lw_cs), (fun mc ms => rmv v mc ms), fun mc ms out μ' => MQD lw_cs below (QRd g ad (g_n μ) s.heap.size out μ') (args.map (tr g ad)).toArray s mc ms (AA ad (g_n μ) s.heap.size))
  have hFo : FxO (some G) y.cls cc maxL v := fun G' h => by
    cases h
    exact ⟨B.exec, B.bytes, hml, hts, findClass_of_methodNamed B.named, hK, fun q h => Or.inr h, rfl, rfl, fun mc ms => ⟨Nat.le_refl _, Nat.le_refl _, Nat.le_refl _, Nat.le_refl _⟩⟩
  have hFd : FxDO (some G) ret := fun G' h => by
    cases h
    exact ⟨B.returns, B.notSynchronized, rfl, rfl, rfl⟩
  obtain ⟨-, kk⟩ := body (some G) hFo hFd (fun e G' h => by cases h; exact (name_of_methodNamed B.named B.method).1.trans e) r μ' ho
  rw [lg_entry_eq]
  have hl := lv_entry (args.map (tr g ad)) (n := maxL) (by rw [lg_sl_tr]; exact hsl)
  generalize (lg_sl (args.map (tr g ad)) ++ List.replicate (maxL - (lg_sl (args.map (tr g ad))).length) Slot.unset).toArray = ls at hl ⊢
  rw [lv_args_tr] at hl
  have hV : VOK (g_n μ) (lv_args 0 args) [] := ⟨lv_args_ok args 0 hargs, fun _ h => by cases h⟩
  have := kk G rfl ad s.heap [] ls s.drawn ⟨hP, hD, va_S.rf, hO, fun _ _ => rfl, Nat.le_refl _, Nat.le_refl _, Nat.le_refl _⟩ hd0 hV hl
  have e1 : g_c μ - x_c0 G = 0 := Nat.sub_self _
  have e2 : g_w μ - x_w0 G = 0 := Nat.sub_self _
  rw [e1, e2] at this
  exact this
/-- what the return rows owe -/
theorem qrd_of {G : Fx} {cc : ByteArray} {ad : Nat → Nat} {H : Heap} {locs : List Loc} {d : Drawn} {ret : Option FieldType} {vp vm : Option Value} (hF : FxOk G own cc nL v) (hD : FxD G ret) (hR : RelH G ad μ H locs) (hv : rv (x_g G) ad vp vm) (hok : vokR (g_n μ) vp) :
    ∀ t : State, t.heap = H → ((x_s G).setDrawn d).WarmedH t.vm → QRd (x_g G) (x_ad G) (x_n0 G) (x_s G).heap.size (.inl vp) μ (x_a G) ((x_s G).setDrawn d) (.returned vm) t := by
  intro t ht hW
  obtain ⟨-, -, -, hA, -⟩ := hD
  obtain ⟨h1, h2, h3, h4, h5, h6, h7, h8⟩ := hR
  refine ⟨vp, vm, ad, rfl, rfl, hv, h5, by rw [ht]; exact h1, by rw [← hA]; exact h2, h4, hok, va_K.moved hW.alike (hF.hK d), ?_⟩
  rw [← hA]
  exact va_S.F (s := (x_s G).setDrawn d) h3 ht
/-- an end of a method that may draw -/
theorem s_endD {r : α} {vp vm : Option Value} {ret : Option FieldType} {pcls : List (Nat × Value)} {stp : List Value} (hF : FxO F own cc nL v) (hD : FxDO F ret) (he : enc r = .inl vp) (hv : ∀ (g : Gx) (ad : Nat → Nat), rv g ad vp (vm.map (tr g ad))) (hok : VOK (g_n μ) pls stp → vokR (g_n μ) vp)
    (hw : ∀ (G : Fx) (Qc : Array Value → State → Outcome → State → Prop) (ad : Nat → Nat) (H : Heap) (locs : List Loc) (ls : Array Slot) (d : Drawn) (R : Room) (cells slots : Nat) (free : Addr → Prop), FxOk G own cc nL v → (x_y G).sig.returnType = ret → (x_y G).locks = false →
      (∀ t : State, t.heap = H → ((x_s G).setDrawn d).WarmedH t.vm → Qc (x_a G) ((x_s G).setDrawn d) (.returned (vm.map (tr (x_g G) ad))) t) → (∀ q ∈ locs, free q.base) →
      W (x_p G) (x_l G) (x_e G) R ((x_s G).setDrawn d) (x_m G) (x_a G) (x_b G) (x_y G) (x_c G) H locs cells slots (MQ (x_b G) Qc (x_a G) ((x_s G).setDrawn d) cells slots free) (F0 (x_m G) pc ls (stp.map (tr (x_g G) ad)))) : Sim F enc pc pls stp μ (some (r, μ)) := by
  intro r' μ' ho
  cases ho
  refine ⟨Mono.rf, fun G hG ad H locs ls d hR hdp hV hl => ?_⟩
  have hF := hF G hG
  have hD := hD G hG
  have hq := qrd_of (d := d) (vp := vp) (vm := vm.map (tr (x_g G) ad)) hF hD hR (hv _ _) (hok hV)
  obtain ⟨hr, hlk, e1, e2, e3⟩ := hD
  rw [e3, he]
  refine W.endD (by rw [e1] at hdp; exact hdp) ?_
  rw [← e2]
  exact hw G _ ad H locs ls d _ _ _ _ hF hr hlk hq hR.2.2.1.2.2
theorem s_iretD {r : α} {x : Int32} (hF : FxO F own cc nL v) (hD : FxDO F (some .int)) (hd : decode cc pc = .ok (.ireturn, 1)) (he : enc r = .inl (some (.int x))) : Sim F enc pc pls [.int x] μ (some (r, μ)) :=
  s_endD (vm := some (.int x)) (pcls := pls) hF hD he (fun _ _ => rfl) (fun _ => trivial) (fun G Qc ad H locs ls d R cells slots free hF hr hlk hq hf => W.iret (v := x) hF.1 hF.2.1 hr hq hf hd hlk)
theorem s_zretD {r : α} {x : Int32} (hF : FxO F own cc nL v) (hD : FxDO F (some .boolean)) (hd : decode cc pc = .ok (.ireturn, 1)) (he : enc r = .inl (some (.int x))) (hn : narrow .boolean (.int x) = .int x) : Sim F enc pc pls [.int x] μ (some (r, μ)) :=
  s_endD (vm := some (.int x)) (pcls := pls) hF hD he (fun _ _ => rfl) (fun _ => trivial) (fun G Qc ad H locs ls d R cells slots free hF hr hlk hq hf => W.zret (v := x) hF.1 hF.2.1 hr hn hq hf hd hlk)
theorem s_lretD {r : α} {x : Int64} (hF : FxO F own cc nL v) (hD : FxDO F (some .long)) (hd : decode cc pc = .ok (.lreturn, 1)) (he : enc r = .inl (some (.long x))) : Sim F enc pc pls [.long x] μ (some (r, μ)) :=
  s_endD (vm := some (.long x)) (pcls := pls) hF hD he (fun _ _ => rfl) (fun _ => trivial) (fun G Qc ad H locs ls d R cells slots free hF hr hlk hq hf => W.lret (v := x) hF.1 hF.2.1 hr hq hf hd hlk)
theorem s_dretD {r : α} {x y : UInt64} (hF : FxO F own cc nL v) (hD : FxDO F (some .double)) (hd : decode cc pc = .ok (.dreturn, 1)) (he : enc r = .inl (some (.double x))) (hal : alike64 y x = true) : Sim F enc pc pls [.double y] μ (some (r, μ)) :=
  s_endD (vm := some (.double y)) (pcls := pls) hF hD he (fun _ _ => ⟨y, rfl, hal⟩) (fun _ => trivial) (fun G Qc ad H locs ls d R cells slots free hF hr hlk hq hf => W.dret (v := y) hF.1 hF.2.1 hr hq hf hd hlk)
theorem s_vretD {r : α} (hF : FxO F own cc nL v) (hD : FxDO F none) (hd : decode cc pc = .ok (.return_, 1)) (he : enc r = .inl none) : Sim F enc pc pls [] μ (some (r, μ)) :=
  s_endD (vm := none) (pcls := pls) hF hD he (fun _ _ => rfl) (fun _ => trivial) (fun G Qc ad H locs ls d R cells slots free hF hr hlk hq hf => W.vret hF.1 hF.2.1 hr hq hf hd hlk)
/-- the words of a call by a receiver -/
theorem goodV {own : String} {idx : Nat} {y : MethodName} {cc' : ByteArray} {maxL' : Nat} {ret' : Option FieldType} (h1 : Cond.methodLink own idx y ∈ WA) (h2 : Cond.instanceMethod y ∈ WA) (h3 : Cond.selects y.cls y y ∈ WA) (h4 : Cond.initialized y.cls ∈ WA) (h5 : Cond.code y cc' maxL' ret' ∈ WA) : GoodIn WA (wsV own idx y.cls y (.code y cc' maxL' ret' :: WA)) := by
  intro w hw
  have hm : w ∈ WA := by
    simp only [wsV, List.mem_append, List.mem_cons, List.not_mem_nil, or_false] at hw
    rcases hw with (rfl | rfl | rfl | rfl) | rfl | hw <;> assumption
  exact ⟨hm, good_of_word (List.mem_filter.mp hm).2⟩
theorem goodS {own : String} {idx : Nat} {y : MethodName} {cc' : ByteArray} {maxL' : Nat} {ret' : Option FieldType} (h1 : Cond.methodLink own idx y ∈ WA) (h2 : Cond.static y ∈ WA) (h4 : Cond.initialized y.cls ∈ WA) (h5 : Cond.code y cc' maxL' ret' ∈ WA) : GoodIn WA (va_wsS own idx y (.code y cc' maxL' ret' :: WA)) := by
  intro w hw
  have hm : w ∈ WA := by
    simp only [va_wsS, List.mem_append, List.mem_cons, List.not_mem_nil, or_false] at hw
    rcases hw with (rfl | rfl | rfl) | rfl | hw <;> assumption
  exact ⟨hm, good_of_word (List.mem_filter.mp hm).2⟩
/-- what a called method of these leaves, seen from the caller -/
theorem rel_after {G : Fx} {ad ad' : Nat → Nat} {H : Heap} {locs L : List Loc} {μ1 : Mem} {st0 t : State} {T' : State} (hF : FxOk G own cc nL v) (hR : RelH G ad μ H locs) (hm : Mono μ μ1) (h0 : st0.heap = H) (e1 : T'.heap = t.heap) (hL : ∀ q ∈ L, AA ad (g_n μ) H.size q.base)
    (ha : ∀ h, h ≤ g_n μ → ad' h = ad h) (hP : va_P (gDI (x_g G)) clL (wl (x_g G) ad' μ1) t.heap) (hD : va_D (AA ad (g_n μ) H.size) (wl (x_g G) ad' μ1)) (hO : Okm μ1) (hf : va_F (AA ad (g_n μ) H.size) st0 t) : RelH G ad' μ1 T'.heap (locs ++ L) := by
  obtain ⟨h1, h2, h3, h4, h5, h6, h7, h8⟩ := hR
  have hA : ∀ q, AA ad (g_n μ) H.size q → x_A G q := by
    intro q hq
    rcases hq with ⟨h, g0, g1, rfl⟩ | hq
    · exact h2.2 (h - 1) _ (wl_at g0 g1)
    · exact hF.2.2.2.2.2.2.1 q (Nat.le_trans h3.1 hq)
  rw [e1]
  obtain ⟨hz, hk⟩ := hf
  rw [h0] at hz hk
  refine ⟨hP, hD.weaken (fun _ q _ hq => hA _ hq), ⟨Nat.le_trans h3.1 hz, fun q q1 q2 => ?_, fun q hq => ?_⟩, hO, fun h hh => (ha h (Nat.le_trans hh h6)).trans (h5 h hh), Nat.le_trans h6 hm.1, Nat.le_trans h7 hm.2.1, Nat.le_trans h8 hm.2.2.1⟩
  · rw [hk q (Nat.lt_of_lt_of_le q1 h3.1) (fun z => q2 (hA q z))]
    exact h3.2.1 q q1 q2
  · rcases List.mem_append.mp hq with h | h
    · exact h3.2.2 q h
    · exact hA _ (hL q h)
end SC
