/-! ===== CONTRACTS of methods that may throw and draw nothing, and calls of them ===== -/
/-- the string constants: the class that loads each, its place in that pool, its text -/
def strL : List (String × Nat × String) := [("UnlikePens$Hut", 47, "pen wire sheet "), ("UnlikePens$Law", 70, "in out loss many day pen mul div least most "), ("UnlikePens$Work", 48, "read below hear wipe tear lay copy tune day again "), ("UnlikePens$Law", 44, "+-"), ("UnlikePens$Law", 53, "*/%"), ("UnlikePens", 371, "no such pen or wire"), ("UnlikePens", 376, "no such argument"), ("UnlikePens", 381, "no such number"), ("UnlikePens", 386, "no such record"), ("UnlikePens", 340, "the pen has no sheet")]
def lenS : List Nat := [15, 44, 50, 2, 3, 19, 16, 14, 14, 20]
def bytS : List (List Int32) := [[112, 101, 110, 32, 119, 105, 114, 101, 32, 115, 104, 101, 101, 116, 32], [105, 110, 32, 111, 117, 116, 32, 108, 111, 115, 115, 32, 109, 97, 110, 121, 32, 100, 97, 121, 32, 112, 101, 110, 32, 109, 117, 108, 32, 100, 105, 118, 32, 108, 101, 97, 115, 116, 32, 109, 111, 115, 116, 32], [114, 101, 97, 100, 32, 98, 101, 108, 111, 119, 32, 104, 101, 97, 114, 32, 119, 105, 112, 101, 32, 116, 101, 97, 114, 32, 108, 97, 121, 32, 99, 111, 112, 121, 32, 116, 117, 110, 101, 32, 100, 97, 121, 32, 97, 103, 97, 105, 110, 32], [43, 45], [42, 47, 37], [110, 111, 32, 115, 117, 99, 104, 32, 112, 101, 110, 32, 111, 114, 32, 119, 105, 114, 101], [110, 111, 32, 115, 117, 99, 104, 32, 97, 114, 103, 117, 109, 101, 110, 116], [110, 111, 32, 115, 117, 99, 104, 32, 110, 117, 109, 98, 101, 114], [110, 111, 32, 115, 117, 99, 104, 32, 114, 101, 99, 111, 114, 100], [116, 104, 101, 32, 112, 101, 110, 32, 104, 97, 115, 32, 110, 111, 32, 115, 104, 101, 101, 116]]
def NXw (w : Cond) : Bool := match w with
  | .methodLinkNest _ _ _ _ => true
  | .castable _ _ => true
  | .declares _ => true
  | .arrayOver t => match t with
    | .object _ => true
    | .array _ => true
    | _ => false
  | _ => false
/-- words that hold as long as the classes stay as they are -/
def WX : List Cond := lw_tbl.filter NXw
def NX (U : State) : Prop := ∀ w ∈ WX, va_Nw w U
theorem NX.warm {s U : State} (hW : s.WarmedH U.vm) (h : NX s) : NX U := by
  intro w hw
  have h1 := h w hw
  have h2 : NXw w = true := (List.mem_filter.mp hw).2
  cases w <;> first | exact absurd h2 Bool.false_ne_true | exact va_Nw.warmM hW h1 | exact va_Nw.warmC hW h1 | exact va_Nw.warmD hW h1 | (rename_i t; cases t <;> first | exact absurd h2 Bool.false_ne_true | exact va_AO.moved hW.alike h1 | exact Stand.arrayOver_alikeB hW.alike h1)
theorem NX.use {args : Array Value} {s : State} (h : NX s) : ∀ w ∈ WX, w.before args s = true := by
  intro w hw
  have h1 := h w hw
  have h2 : NXw w = true := (List.mem_filter.mp hw).2
  cases w <;> first | exact absurd h2 Bool.false_ne_true | exact va_Nw.use rfl h1 | (rename_i t; cases t <;> first | exact absurd h2 Bool.false_ne_true | exact va_AO.use h1 | exact va_AOA.use h1)
theorem NX.same {s U : State} (hv : s.vm = U.vm) (h : NX s) : NX U := by
  intro w hw
  have h1 := h w hw
  have h2 : NXw w = true := (List.mem_filter.mp hw).2
  cases w <;> first | exact absurd h2 Bool.false_ne_true | exact va_Nw.same rfl hv h1 | (rename_i t; cases t <;> first | exact absurd h2 Bool.false_ne_true | exact va_AO.moved (by rw [hv]; exact Vm.Alike.refl _) h1 | exact Stand.arrayOver_alikeB (by rw [hv]; exact Vm.Alike.refl _) h1)
def ZX (A : Nat → Prop) (U : State) (H : Heap) : Prop := vx_Zq Bundle.tN "UNASSIGNED_STACK" Bundle.steD A U H ∧ vx_Zq Bundle.tN "SUPPRESSED_SENTINEL" Bundle.listD A U H
def SX (g : Gx) (A : Nat → Prop) (U : State) (H : Heap) : Prop := (∀ (k : Nat) (q : String × Nat × String), strL[k]? = some q → vk_R q.1 q.2.1 q.2.2 (g.2.2.2 k) U) ∧ vk_S 10 lenS bytS (fun k => g.2.2.2 k) (fun k => g.2.2.2 (100 + k)) A U H ∧
  va_Z "java/lang/String" "COMPACT_STRINGS" "Z" (.int 1) A U H ∧ (va_Z "jdk/internal/util/Preconditions" "SIOOBE_FORMATTER" "Ljava/util/function/BiFunction;" .null A U H ∨ va_Z "jdk/internal/util/Preconditions" "SIOOBE_FORMATTER" "Ljava/util/function/BiFunction;" (.ref (g.2.2.2 200)) A U H)
theorem ZX.go {A B : Nat → Prop} {s U : State} {H : Heap} {locs : List Loc} (h : ZX A s s.heap) (hW : s.WarmedH U.vm) (hS : va_S A s.heap H locs) (hAB : ∀ q, B q → A q) : ZX B U H :=
  ⟨((h.1.kept hS.2.1).moved hW.alike).narrow hAB, ((h.2.kept hS.2.1).moved hW.alike).narrow hAB⟩
theorem SX.go {g : Gx} {A B : Nat → Prop} {s U : State} {H : Heap} {locs : List Loc} (h : SX g A s s.heap) (hW : s.WarmedH U.vm) (hS : va_S A s.heap H locs) (hAB : ∀ q, B q → A q) : SX g B U H :=
  ⟨fun k q hq => (h.1 k q hq).warm hW, ((h.2.1.kept hS.2.1).moved hW.alike).narrow hAB, ((h.2.2.1.kept hS.2.1).moved hW.alike).narrow hAB, h.2.2.2.elim (fun z => Or.inl (((z.kept hS.2.1).moved hW.alike).narrow hAB)) (fun z => Or.inr (((z.kept hS.2.1).moved hW.alike).narrow hAB))⟩
def PRx (g : Gx) (ad : Nat → Nat) (μ : Mem) (sz : Nat) (U : State) : Prop := PRd g ad μ sz U ∧ NX U ∧ ZX (AA ad (g_n μ) sz) U U.heap ∧ SX g (AA ad (g_n μ) sz) U U.heap
/-- the exceptions' names, by number -/
def exN (k : Nat) : String := match k with
  | 0 => "java/util/NoSuchElementException"
  | 1 => "java/lang/IllegalArgumentException"
  | 2 => "java/lang/NullPointerException"
  | 3 => "java/lang/IndexOutOfBoundsException"
  | _ => "java/lang/ArithmeticException"
def XCx (g : Gx) (ad : Nat → Nat) (n sz : Nat) (out : Outc) (μ' : Mem) : String → State → State → Prop := fun E st t =>
  ∃ (k : Nat) (ad' : Nat → Nat), out = .inr k ∧ E = exN k ∧ (∀ h, h ≤ n → ad' h = ad h) ∧ va_P (gDI g) clL (wl g ad' μ') t.heap ∧ va_D (AA ad n sz) (wl g ad' μ') ∧ Okm μ' ∧ va_K (gDI g) clL (tysL g) t ∧ va_F (AA ad n sz) st t
def CtX (y : MethodName) (cc : ByteArray) (maxL : Nat) (ret : Option FieldType) (v : Nat) (args : List Value) (μ : Mem) (out : Outc) (μ' : Mem) : Prop :=
  Mono μ μ' ∧ ∀ (l : Launch) (g : Gx) (ad : Nat → Nat) (sz : Nat), l.stackTraces = false → (∀ a ∈ args, vok (g_n μ) a) →
    vx_Met l y (.code y cc maxL ret :: WA) (rmv v (g_c μ' - g_c μ) (g_w μ' - g_w μ)) (va_Pc (args.map (tr g ad)) (PRx g ad μ sz)) (QRd g ad (g_n μ) sz out μ') (XCx g ad (g_n μ) sz out μ') (g_c μ' - g_c μ) (g_w μ' - g_w μ) (AA ad (g_n μ) sz)
/-- what a frame needs to call such methods -/
def FxC (F : Fx) : Prop := (x_l F).stackTraces = false ∧ NX (x_s F) ∧ ZX (x_A F) (x_s F) (x_s F).heap ∧ SX (x_g F) (x_A F) (x_s F) (x_s F).heap
def FxX (F : Fx) (ret : Option FieldType) : Prop :=
  (x_y F).sig.returnType = ret ∧ (x_y F).locks = false ∧ x_dp F = (fun d => d = (x_s F).drawn) ∧ x_A F = AA (x_ad F) (x_n0 F) (x_s F).heap.size ∧ (∀ x ∈ (x_c F).exceptionTable.toList, False) ∧
    x_Q F = (fun mc ms out μ' => vx_MQ (x_b F) (QRd (x_g F) (x_ad F) (x_n0 F) (x_s F).heap.size out μ') (XCx (x_g F) (x_ad F) (x_n0 F) (x_s F).heap.size out μ') (x_a F) (x_s F) mc ms (AA (x_ad F) (x_n0 F) (x_s F).heap.size)) ∧ FxC F
def FxXO (F : Option Fx) (ret : Option FieldType) : Prop := ∀ G, F = some G → FxX G ret
def obindX {α β : Type} (q : Option ((Nat ⊕ β) × Mem)) (k : β → Mem → Option ((Nat ⊕ α) × Mem)) : Option ((Nat ⊕ α) × Mem) := obind q (fun r μ1 => r.elim (fun k => some (.inl k, μ1)) (fun x => k x μ1))
abbrev encX {α : Type} (e : α → Outc) (r : Nat ⊕ α) : Outc := r.elim .inr e
section SX1
variable {α β : Type} {F : Option Fx} {enc : α → Outc} {own : String} {cc : ByteArray} {nL v : Nat} {pc : Nat} {pls : List (Nat × Value)} {st : List Value} {μ : Mem} {o : Option (α × Mem)}
theorem ct_enterX {y : MethodName} {maxL : Nat} {ret : Option FieldType} {args : List Value} (hy : plainName y.cls = true) (hsl : (lg_sl args).length ≤ maxL)
    (body : ∀ F : Option Fx, FxO F y.cls cc maxL v → FxXO F ret → (y.name = "<init>" → FxI F) → Sim F enc 0 (lv_args 0 args) [] μ o) : ∀ (r : α) (μ' : Mem), o = some (r, μ') → CtX y cc maxL ret v args μ (enc r) μ' := by
  intro r μ' ho
  refine ⟨(body none (fun G h => by cases h) (fun G h => by cases h) (fun _ G h => by cases h) r μ' ho).1, fun l g ad sz hst hargs => ?_⟩
  refine vx_ofW (cc := cc) (maxL := maxL) (ret := ret) hy rfl ?_
  intro p e s m args9 below meth c s₁ B hml htab hv
  obtain ⟨rfl, ⟨hsz, hP, hD, hO, hK⟩, hN, hZ, hX⟩ := hv
  subst hsz
  have hts := atoms_spec (ws := .code y cc maxL ret :: WA) B.pre
  have hts : ∀ w ∈ WA, w.before _ s = true := fun w h => hts w (List.mem_cons_of_mem _ h)
  let G : Fx := ((p, l, e, s, m, (args.map (tr g ad)).toArray, below, meth, c), (g, AA ad (g_n μ) s.heap.size, ad), (maxL, v, g_n μ, g_c μ, g_w μ), (fun d => d = s.drawn), (fun mc ms => rmv v mc ms), fun mc ms out μ' => vx_MQ below (QRd g ad (g_n μ) s.heap.size out μ') (XCx g ad (g_n μ) s.heap.size out μ') (args.map (tr g ad)).toArray s mc ms (AA ad (g_n μ) s.heap.size))
  have hFo : FxO (some G) y.cls cc maxL v := fun G' h => by
    cases h
    exact ⟨B.exec, B.bytes, hml, hts, findClass_of_methodNamed B.named, hK, fun q h => Or.inr h, rfl, rfl, fun mc ms => ⟨Nat.le_refl _, Nat.le_refl _, Nat.le_refl _, Nat.le_refl _⟩⟩
  have hFd : FxXO (some G) ret := fun G' h => by
    cases h
    exact ⟨B.returns, B.notSynchronized, rfl, rfl, htab, rfl, hst, hN, hZ, hX⟩
  obtain ⟨-, kk⟩ := body (some G) hFo hFd (fun e G' h => by cases h; exact (name_of_methodNamed B.named B.method).1.trans e) r μ' ho
  rw [lg_entry_eq]
  have hl := lv_entry (args.map (tr g ad)) (n := maxL) (by rw [lg_sl_tr]; exact hsl)
  generalize (lg_sl (args.map (tr g ad)) ++ List.replicate (maxL - (lg_sl (args.map (tr g ad))).length) Slot.unset).toArray = ls at hl ⊢
  rw [lv_args_tr] at hl
  have hV : VOK (g_n μ) (lv_args 0 args) [] := ⟨lv_args_ok args 0 hargs, fun _ h => by cases h⟩
  have := kk G rfl ad s.heap [] ls s.drawn ⟨hP, hD, va_S.rf, hO, fun _ _ => rfl, Nat.le_refl _, Nat.le_refl _, Nat.le_refl _⟩ rfl hV hl
  have e1 : g_c μ - x_c0 G = 0 := Nat.sub_self _
  have e2 : g_w μ - x_w0 G = 0 := Nat.sub_self _
  rw [e1, e2] at this
  exact this
theorem qrx_of {G : Fx} {cc : ByteArray} {ad : Nat → Nat} {H : Heap} {locs : List Loc} {ret : Option FieldType} {vp vm : Option Value} (hF : FxOk G own cc nL v) (hD : FxX G ret) (hR : RelH G ad μ H locs) (hv : rv (x_g G) ad vp vm) (hok : vokR (g_n μ) vp) :
    ∀ t : State, t.heap = H → (x_s G).WarmedH t.vm → QRd (x_g G) (x_ad G) (x_n0 G) (x_s G).heap.size (.inl vp) μ (x_a G) (x_s G) (.returned vm) t := by
  intro t ht hW
  obtain ⟨-, -, -, hA, -⟩ := hD
  obtain ⟨h1, h2, h3, h4, h5, h6, h7, h8⟩ := hR
  refine ⟨vp, vm, ad, rfl, rfl, hv, h5, by rw [ht]; exact h1, by rw [← hA]; exact h2, h4, hok, va_K.moved hW.alike hF.2.2.2.2.2.1, ?_⟩
  rw [← hA]
  exact va_S.F h3 ht
theorem s_endX {r : α} {vp vm : Option Value} {ret : Option FieldType} {stp : List Value} (hF : FxO F own cc nL v) (hD : FxXO F ret) (he : enc r = .inl vp) (hv : ∀ (g : Gx) (ad : Nat → Nat), rv g ad vp (vm.map (tr g ad))) (hok : VOK (g_n μ) pls stp → vokR (g_n μ) vp)
    (hw : ∀ (G : Fx) (Qc : Array Value → State → Outcome → State → Prop) (ad : Nat → Nat) (H : Heap) (locs : List Loc) (ls : Array Slot) (R : Room) (cells slots : Nat) (free : Addr → Prop), FxOk G own cc nL v → (x_y G).sig.returnType = ret → (x_y G).locks = false →
      (∀ t : State, t.heap = H → (x_s G).WarmedH t.vm → Qc (x_a G) (x_s G) (.returned (vm.map (tr (x_g G) ad))) t) → (∀ q ∈ locs, free q.base) →
      W (x_p G) (x_l G) (x_e G) R (x_s G) (x_m G) (x_a G) (x_b G) (x_y G) (x_c G) H locs cells slots (MQ (x_b G) Qc (x_a G) (x_s G) cells slots free) (F0 (x_m G) pc ls (stp.map (tr (x_g G) ad)))) : Sim F enc pc pls stp μ (some (r, μ)) := by
  intro r' μ' ho
  cases ho
  refine ⟨Mono.rf, fun G hG ad H locs ls d hR hdp hV hl => ?_⟩
  have hF := hF G hG
  have hD := hD G hG
  have hq := qrx_of (vp := vp) (vm := vm.map (tr (x_g G) ad)) hF hD hR (hv _ _) (hok hV)
  obtain ⟨hr, hlk, e1, e2, -, e3, -⟩ := hD
  rw [e1] at hdp
  subst hdp
  rw [e3, he]
  refine vx_ret ?_
  rw [← e2]
  exact hw G _ ad H locs ls _ _ _ _ hF hr hlk hq hR.2.2.1.2.2
theorem s_iretX {r : α} {x : Int32} (hF : FxO F own cc nL v) (hD : FxXO F (some .int)) (hd : decode cc pc = .ok (.ireturn, 1)) (he : enc r = .inl (some (.int x))) : Sim F enc pc pls [.int x] μ (some (r, μ)) :=
  s_endX (vm := some (.int x)) hF hD he (fun _ _ => rfl) (fun _ => trivial) (fun G Qc ad H locs ls R cells slots free hF hr hlk hq hf => W.iret (v := x) hF.1 hF.2.1 hr hq hf hd hlk)
theorem s_nretX {r : α} {x : Int32} {ty : FieldType} (hF : FxO F own cc nL v) (hD : FxXO F (some ty)) (hd : decode cc pc = .ok (.ireturn, 1)) (he : enc r = .inl (some (.int x))) (hn : narrow ty (.int x) = .int x) : Sim F enc pc pls [.int x] μ (some (r, μ)) :=
  s_endX (vm := some (.int x)) hF hD he (fun _ _ => rfl) (fun _ => trivial) (fun G Qc ad H locs ls R cells slots free hF hr hlk hq hf => W.zret (v := x) hF.1 hF.2.1 hr hn hq hf hd hlk)
theorem s_zretX {r : α} {x : Int32} (hF : FxO F own cc nL v) (hD : FxXO F (some .boolean)) (hd : decode cc pc = .ok (.ireturn, 1)) (he : enc r = .inl (some (.int x))) (hn : narrow .boolean (.int x) = .int x) : Sim F enc pc pls [.int x] μ (some (r, μ)) := s_nretX hF hD hd he hn
theorem s_lretX {r : α} {x : Int64} (hF : FxO F own cc nL v) (hD : FxXO F (some .long)) (hd : decode cc pc = .ok (.lreturn, 1)) (he : enc r = .inl (some (.long x))) : Sim F enc pc pls [.long x] μ (some (r, μ)) :=
  s_endX (vm := some (.long x)) hF hD he (fun _ _ => rfl) (fun _ => trivial) (fun G Qc ad H locs ls R cells slots free hF hr hlk hq hf => W.lret (v := x) hF.1 hF.2.1 hr hq hf hd hlk)
theorem s_dretX {r : α} {x : UInt64} (hF : FxO F own cc nL v) (hD : FxXO F (some .double)) (hd : decode cc pc = .ok (.dreturn, 1)) (he : enc r = .inl (some (.double x))) : Sim F enc pc pls [.double x] μ (some (r, μ)) :=
  s_endX (vm := some (.double x)) hF hD he (fun _ _ => ⟨x, rfl, al64 x⟩) (fun _ => trivial) (fun G Qc ad H locs ls R cells slots free hF hr hlk hq hf => W.dret (v := x) hF.1 hF.2.1 hr hq hf hd hlk)
theorem s_vretX {r : α} (hF : FxO F own cc nL v) (hD : FxXO F none) (hd : decode cc pc = .ok (.return_, 1)) (he : enc r = .inl none) : Sim F enc pc pls [] μ (some (r, μ)) :=
  s_endX (vm := none) hF hD he (fun _ _ => rfl) (fun _ => trivial) (fun G Qc ad H locs ls R cells slots free hF hr hlk hq hf => W.vret hF.1 hF.2.1 hr hq hf hd hlk)
theorem s_aretX {r : α} {x : Nat} {rt : FieldType} (hF : FxO F own cc nL v) (hD : FxXO F (some rt)) (hrt : (∃ n, rt = .object n) ∨ ∃ t, rt = .array t) (hd : decode cc pc = .ok (.areturn, 1)) (hx : 0 < x) (he : enc r = .inl (some (.ref x))) : Sim F enc pc pls [.ref x] μ (some (r, μ)) :=
  s_endX (vm := some (.ref x)) hF hD he (fun _ _ => rfl) (fun h => ⟨hx, h.hd⟩) (fun G Qc ad H locs ls R cells slots free hF hr hlk hq hf => W.aret (v := .ref (ad x)) hF.1 hF.2.1 hr hrt (Or.inr ⟨_, rfl⟩) hq hf hd hlk)
end SX1
