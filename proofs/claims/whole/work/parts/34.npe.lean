/-! ===== a throw of a NullPointerException with a text: the text's constructor over NullPointerException's own fillInStackTrace, no stack traces ===== -/
section NP0
variable {self : Addr}
/-- what the fill leaves: the monitor entered twice and left twice, the state 1, the stack as it was -/
abbrev nnC1 (T : ThrowableC) (N : NpeC) (P : Cell) (t : ThreadId) (u0 : RefV) : Cell := (((npeCell N.toNpeT P t).withEntry t).setSlot T.fStack.slot u0.v).left
theorem nn_fill (p : Program) {e : Env} {below : List Frame} {s₀ X : State} {g : JFrame} {c : Code} (h : At X g.method c below) (hexec : p.tables.exec = Jvm.exec) (T : ThrowableC) (L : T.Links e.platform s₀) (N : NpeC) (LN : N.Links T e.platform s₀) (hW : s₀.WarmedH X.vm)
    {P cellS : Cell} {kcell : Class} {u0 : RefV} {ig : Instr} {len : Nat} (acts : List Action) (hcell : X.heap[self]? = some P) (hobj : ∀ k, P.vm ≠ .statics k) (hknown : P.vm ≠ .unknown) (hfree : P.monitor.owner = none)
    (hkcell : s₀.vm.classes[P.cls]? = some kcell) (hsel0 : selectMethod e.platform s₀.vm P.cls T.fill0 = .method T.fill0) (hcellS : X.heap[T.aS]? = some cellS) (hneS : T.aS ≠ self) (hknownS : cellS.vm ≠ .unknown) (hvU : cellS.slots[T.fUnassigned.slot]? = some u0.v)
    (hv0 : P.slots[N.fState.slot]? = some (.int 0)) (hneSt : T.fStack.slot ≠ N.fState.slot) (hvS : P.slots[T.fStack.slot]? = some u0.v) (htS : Takes s₀ P T.fStack u0.v) (ht1 : Takes s₀ P N.fState (.int 1))
    (hskip : SkipFacts T e.platform s₀ (fun u => u) u0 ((npeCell N.toNpeT P X.cur).withEntry X.cur)) (htr : e.platform.stackTraces = false) (hdg : decode c.code g.pc = .ok (ig, len))
    {lim : Nat × Nat} (hlim : e.platform.stackLimits X.me = lim) (hframes : X.frames.length + 2 < lim.1) (hwords : (stackUse (.java g :: X.frames.tail)).2 + 43 ≤ lim.2) :
    ∃ vm', s₀.WarmedH vm' ∧ ∀ target, Steps p.tables e below (((X.setVm vm').setCell self (nnC1 T N P X.cur u0).left).setTop { g with pc := g.pc + len, stack := .ref self :: g.stack }) target →
      Steps p.tables e below (doInvoke e (X.setTop g) acts N.fill #[.ref self]).1 target := by
  have hlt : self < X.heap.size := (Array.getElem?_eq_some_iff.mp hcell).1
  obtain ⟨g₀, hg⟩ := Option.isSome_iff_exists.mp h.top
  obtain ⟨tl, htl⟩ := State.topJava?_eq_some.mp hg
  have hlen : X.frames.length = (Frame.java g :: X.frames.tail).length := by rw [htl]; rfl
  have r0 : e.platform.stackFull (((X.setTop g).threads[(X.setTop g).cur]?).getD { frames := [] }) (X.setTop g).frames (1 + 2) = false :=
    roomAbove (pushed := []) (base := .java g :: X.frames.tail) (free := 43) (lim := lim) (by rw [State.frames_setTop _ htl, htl]; rfl) (by rw [State.stackLimits_setTop _ h.top]; exact hlim) (by rw [← hlen]; simp only [List.length_nil]; omega) hwords (by simp only [stackUse_nil]; omega)
  have hfN : ∀ vm, (npeInside (X.setVm vm) g N.toNpeT self P).frames = .java (entryFrameSync N.fill #[.ref self] 1 self) :: .java g :: X.frames.tail := fun vm => frames_entered (s := (X.setVm vm).setCell self (P.withEntry (X.setVm vm).cur)) (g := g) h.top _
  have htN : ∀ vm, (npeInside (X.setVm vm) g N.toNpeT self P).topJava?.isSome := fun vm => by rw [State.topJava?_of_frames (hfN vm)]; rfl
  have hlN : ∀ vm, e.platform.stackLimits (npeInside (X.setVm vm) g N.toNpeT self P).me = lim := fun vm => by
    show e.platform.stackLimits (fillInside (X.setVm vm) g N.fill self P).me = lim
    rw [State.stackLimits_pushFrame, State.stackLimits_setTop _ (show ((X.setVm vm).setCell self (P.withEntry (X.setVm vm).cur)).topJava?.isSome from h.top)]; exact hlim
  have w1 : (stackUse [Frame.java (fillJ N.fill self 37 [])]).2 = 14 := by
    rw [stackUse_java, stackUse_nil]
    simp [operandWords]
  have w2 : (stackUse [Frame.java (fillJ T.fill self 16 []), Frame.java (fillJ N.fill self 37 [])]).2 = 28 := by
    rw [stackUse_java, w1]
    simp [operandWords]
  have r2 : ∀ vm, e.platform.stackFull ((((npeInside (X.setVm vm) g N.toNpeT self P).setTop (fillJ N.fill self 37 [])).threads[((npeInside (X.setVm vm) g N.toNpeT self P).setTop (fillJ N.fill self 37 [])).cur]?).getD { frames := [] }) ((npeInside (X.setVm vm) g N.toNpeT self P).setTop (fillJ N.fill self 37 [])).frames (1 + 2) = false := fun vm =>
    roomAbove (pushed := [.java (fillJ N.fill self 37 [])]) (base := .java g :: X.frames.tail) (free := 43) (lim := lim) (State.frames_setTop _ (hfN vm)) (by rw [State.stackLimits_setTop _ (htN vm)]; exact hlN vm)
      (by rw [← hlen]; simp only [List.length_cons, List.length_nil]; omega) hwords (by rw [w1]; omega)
  have hmon : (nnC1 T N P X.cur u0).monitor = (npeCell N.toNpeT P X.cur).monitor := by
    show ((((npeCell N.toNpeT P X.cur).withEntry X.cur).setSlot T.fStack.slot u0.v).left).monitor = _
    rw [Cell.left_monitor_congr (y := (npeCell N.toNpeT P X.cur).withEntry X.cur) (show (((npeCell N.toNpeT P X.cur).withEntry X.cur).setSlot T.fStack.slot u0.v).monitor = _ from rfl), Cell.left_withEntry_held _ rfl (by show 0 < P.monitor.count + 1; omega)]
  have hinn : ∀ vm1, s₀.WarmedH vm1 → At (npeInside (X.setVm vm1) g N.toNpeT self P) N.fill N.codeFill below → ∃ vm2, s₀.WarmedH vm2 ∧ ∀ t' : State,
      Steps p.tables e below (((npeInside (X.setVm vm2) g N.toNpeT self P).setCell self (nnC1 T N P X.cur u0)).setTop (fillJ N.fill self 40 [.ref self])) t' →
      Steps p.tables e below (doInvoke e ((npeInside (X.setVm vm1) g N.toNpeT self P).setTop (fillJ N.fill self 37 [])) [] T.fill #[.ref self]).1 t' := fun vm1 hW1 hB => by
    have hc1 : (npeInside (X.setVm vm1) g N.toNpeT self P).heap[self]? = some (npeCell N.toNpeT P X.cur) := heapAt_setCell_self _ (by show self < (X.heap.setIfInBounds self _).size; simpa using hlt)
    have hc2 : (npeInside (X.setVm vm1) g N.toNpeT self P).heap[T.aS]? = some cellS := by
      show ((X.heap.setIfInBounds self _).setIfInBounds self _)[T.aS]? = _
      simp [Ne.symm hneS, hcellS]
    have hvS' : (npeCell N.toNpeT P X.cur).slots[T.fStack.slot]? = some u0.v := by
      simp [npeCell, Cell.setSlot, Cell.withEntry, Ne.symm hneSt, hvS]
    have htS' : Takes s₀ (npeCell N.toNpeT P X.cur) T.fStack u0.v := ⟨by simpa [npeCell, Cell.setSlot, Cell.withEntry] using htS.1, htS.2⟩
    have htopN2 : ∀ vm, ((npeInside (X.setVm vm) g N.toNpeT self P).setCell self ((npeCell N.toNpeT P X.cur).withEntry (npeInside (X.setVm vm) g N.toNpeT self P).cur)).topJava?.isSome := fun vm => by rw [State.topJava?_setCell]; exact htN vm
    have hfF : ∀ vm, (fillInside (npeInside (X.setVm vm) g N.toNpeT self P) (fillJ N.fill self 37 []) T.fill self (npeCell N.toNpeT P X.cur)).frames = .java (entryFrameSync T.fill #[.ref self] 1 self) :: .java (fillJ N.fill self 37 []) :: .java g :: X.frames.tail := fun vm => by
      rw [show (fillInside (npeInside (X.setVm vm) g N.toNpeT self P) (fillJ N.fill self 37 []) T.fill self (npeCell N.toNpeT P X.cur)).frames = _ from frames_entered (g := fillJ N.fill self 37 []) (htopN2 vm) _]
      show _ :: _ :: ((npeInside (X.setVm vm) g N.toNpeT self P).frames).tail = _
      rw [hfN]; rfl
    have htF : ∀ vm, (fillInside (npeInside (X.setVm vm) g N.toNpeT self P) (fillJ N.fill self 37 []) T.fill self (npeCell N.toNpeT P X.cur)).topJava?.isSome := fun vm => by rw [State.topJava?_of_frames (hfF vm)]; rfl
    have hlF : ∀ vm, e.platform.stackLimits (fillInside (npeInside (X.setVm vm) g N.toNpeT self P) (fillJ N.fill self 37 []) T.fill self (npeCell N.toNpeT P X.cur)).me = lim := fun vm => by
      rw [State.stackLimits_pushFrame, State.stackLimits_setTop _ (htopN2 vm)]; exact hlN vm
    have rN : ∀ vm, e.platform.stackFull ((((fillInside (npeInside (X.setVm vm) g N.toNpeT self P) (fillJ N.fill self 37 []) T.fill self (npeCell N.toNpeT P X.cur)).setTop (fillJ T.fill self 16 [])).threads[((fillInside (npeInside (X.setVm vm) g N.toNpeT self P) (fillJ N.fill self 37 []) T.fill self (npeCell N.toNpeT P X.cur)).setTop (fillJ T.fill self 16 [])).cur]?).getD { frames := [] })
        ((fillInside (npeInside (X.setVm vm) g N.toNpeT self P) (fillJ N.fill self 37 []) T.fill self (npeCell N.toNpeT P X.cur)).setTop (fillJ T.fill self 16 [])).frames (nativeFrameWords "java/lang/Throwable" "fillInStackTrace" 2) = false := fun vm =>
      roomAbove (pushed := [.java (fillJ T.fill self 16 []), .java (fillJ N.fill self 37 [])]) (base := .java g :: X.frames.tail) (free := 43) (lim := lim) (State.frames_setTop _ (hfF vm)) (by rw [State.stackLimits_setTop _ (htF vm)]; exact hlF vm)
        (by rw [← hlen]; simp only [List.length_cons, List.length_nil]; omega) hwords (by rw [w2]; decide)
    obtain ⟨vm2, hW2, st⟩ := Steps.fillColdAnyV p (V := npeInside (X.setVm vm1) g N.toNpeT self P) (g := fillJ N.fill self 37 []) (c := N.codeFill) (self := self) hB hexec T L hW1 heapOnly_id (fun _ _ => rfl) (fun _ => rfl) (fun u x y => setCell_twice _ _ _ _)
      (cell := npeCell N.toNpeT P X.cur) (cellS := cellS) (cN := (npeCell N.toNpeT P X.cur).withEntry X.cur) (u0 := u0) (ig := .invokespecial 24) (len := 3) [] hc1 hobj hknown (Or.inr rfl) hvS' hsel0 hc2 hneS hknownS hvU (fun _ hu => hu) (fun _ hu => hu) rfl rfl rfl rfl htS'
      (by rw [LN.fillBytes]; exact LibCode.NullPointerException.Fill.at_37) (fun _ vm3 hW3 hA t' hs => L.nativeOff p htr hA hW3 (rN vm3) hs) (r2 vm1) hskip
    exact ⟨vm2, hW2, fun t' hs => st t' hs⟩
  have hmain := Steps.npeFillColdBy p h hexec T L N LN hW (cell := P) (Fi := fun u => u.setCell self (nnC1 T N P X.cur u0)) (heapOnly_id.thenSetCell self _) (fun _ => rfl) (fun u x y => by rw [setCell_twice, setCell_twice, setCell_twice]) (cFi := nnC1 T N P X.cur u0) acts hcell hobj hknown hfree hkcell hv0 ht1
    (fun u hu => heapAt_setCell_self _ (Array.getElem?_eq_some_iff.mp hu).1) hmon hdg hinn r0
  obtain ⟨vm', hW', st⟩ := hmain
  refine ⟨vm', hW', fun target hrest => st target ?_⟩
  have e9 : ((X.setVm vm').setCell self (nnC1 T N P X.cur u0)).setCell self (nnC1 T N P X.cur u0).left = (X.setVm vm').setCell self (nnC1 T N P X.cur u0).left := setCell_twice _ _ _ _
  show Steps p.tables e below ((((X.setVm vm').setCell self (nnC1 T N P X.cur u0)).setCell self (nnC1 T N P X.cur u0).left).setTop _) target
  rw [e9]
  exact hrest
theorem nn_init (p : Program) {e : Env} {below : List Frame} {s₀ V : State} {g : JFrame} {c : Code} (h : At V g.method c below) (hexec : p.tables.exec = Jvm.exec)
    (T : ThrowableC) (L : T.Links e.platform s₀) (Z : Init0T) (LZ : Z.LaidS T.toThrowableT) (M : MsgC) (LM : M.Links T e.platform s₀) (N : NpeC) (LN : N.Links T e.platform s₀) (hW : s₀.WarmedH V.vm)
    {u0 sen : RefV} {msg : Value} (hmsg : msg.isRef = true) {cell cellS : Cell} {kcell : Class} (hcell : V.heap[self]? = some cell) (hobj : ∀ k, cell.vm ≠ .statics k) (hknown : cell.vm ≠ .unknown) (hfree : cell.monitor.owner = none)
    (hkcell : s₀.vm.classes[cell.cls]? = some kcell) (hsel0 : selectMethod e.platform s₀.vm cell.cls T.fill0 = .method T.fill0) (hselF : selectMethod e.platform s₀.vm cell.cls T.fill = .method N.fill)
    (hcellS : V.heap[T.aS]? = some cellS) (hneS : T.aS ≠ self) (hknownS : cellS.vm ≠ .unknown) (hvU : cellS.slots[T.fUnassigned.slot]? = some u0.v) (hvSen : cellS.slots[T.fSentinel.slot]? = some sen.v)
    (hv0 : cell.slots[N.fState.slot]? = some (.int 0)) (hneC : T.fCause.slot ≠ N.fState.slot) (hneSt : T.fStack.slot ≠ N.fState.slot) (hneP : T.fSupp.slot ≠ N.fState.slot)
    (htC : Takes s₀ cell T.fCause (.ref self)) (htS : Takes s₀ cell T.fStack u0.v) (htP : Takes s₀ cell T.fSupp sen.v) (htM : Takes s₀ cell T.fMsg msg) (ht1 : Takes s₀ cell N.fState (.int 1)) (hobjLocals : T.codeObj.maxLocals = 1)
    (hskip : SkipFacts T e.platform s₀ (fun u => u) u0 ((npeCell N.toNpeT (preparedCellV T.toThrowableT cell self u0 sen) V.cur).withEntry V.cur)) (htr : e.platform.stackTraces = false)
    {ig : Instr} {len : Nat} (acts : List Action) {lim : Nat × Nat} (hlim : e.platform.stackLimits V.me = lim) (hframes : V.frames.length + 3 < lim.1) (hwords : (stackUse (.java g :: V.frames.tail)).2 + 56 ≤ lim.2) (hdg : decode c.code g.pc = .ok (ig, len)) :
    ∃ vm', s₀.WarmedH vm' ∧ ∀ target, Steps p.tables e below (((V.setVm vm').setCell self ((nnC1 T N (preparedCellV T.toThrowableT cell self u0 sen) V.cur u0).left.setSlot T.fMsg.slot msg)).setTop { g with pc := g.pc + len }) target →
      Steps p.tables e below (doInvoke e (V.setTop g) acts (Z.m T.toThrowableT) #[.ref self, msg]).1 target := by
  obtain ⟨r1, r2, -, -⟩ := plainRoomsV (e := e) (g := g) (self := self) h.top T hobjLocals Z cell u0 sen msg hlim (by omega) (by omega)
  obtain ⟨C2, hC2⟩ : ∃ C2, C2 = (nnC1 T N (preparedCellV T.toThrowableT cell self u0 sen) V.cur u0).left := ⟨_, rfl⟩
  obtain ⟨g₀, hg⟩ := Option.isSome_iff_exists.mp h.top
  obtain ⟨tl, htl⟩ := State.topJava?_eq_some.mp hg
  have hlen : V.frames.length = (Frame.java g :: V.frames.tail).length := by rw [htl]; rfl
  have hlt : self < V.heap.size := (Array.getElem?_eq_some_iff.mp hcell).1
  have hvSt : (preparedCellV T.toThrowableT cell self u0 sen).slots[T.fStack.slot]? = some u0.v := by
    have h1 : T.fStack.slot < cell.slots.size := htS.1
    simp [preparedCellV, Cell.setSlot, Ne.symm L.stackApartSupp, h1]
  have hv0P : (preparedCellV T.toThrowableT cell self u0 sen).slots[N.fState.slot]? = some (.int 0) := by
    simp [preparedCellV, Cell.setSlot, hneC, hneSt, hneP, hv0]
  have tk : ∀ {f : Field} {v : Value}, Takes s₀ cell f v → Takes s₀ (preparedCellV T.toThrowableT cell self u0 sen) f v := fun h' => ⟨by simpa [preparedCellV, Cell.setSlot] using h'.1, h'.2⟩
  have hfill : ∀ vm1, s₀.WarmedH vm1 → At ((initSInside (V.setVm vm1) g T.toThrowableT Z self msg).setCell self (preparedCellV T.toThrowableT cell self u0 sen)) (Z.m T.toThrowableT) Z.code below → ∃ vm2, s₀.WarmedH vm2 ∧ ∀ t' : State,
      Steps p.tables e below ((((initSInside (V.setVm vm2) g T.toThrowableT Z self msg).setCell self (preparedCellV T.toThrowableT cell self u0 sen)).setCell self C2).setTop (initSJ T.toThrowableT Z self msg 27 [.ref self])) t' →
      Steps p.tables e below (doInvoke e (((initSInside (V.setVm vm1) g T.toThrowableT Z self msg).setCell self (preparedCellV T.toThrowableT cell self u0 sen)).setTop (initSJ T.toThrowableT Z self msg 24 [])) [] N.fill #[.ref self]).1 t' := fun vm1 hW1 hA => by
    have hfU : ((initSInside (V.setVm vm1) g T.toThrowableT Z self msg).setCell self (preparedCellV T.toThrowableT cell self u0 sen)).frames = .java (initSJ T.toThrowableT Z self msg 0 []) :: .java g :: V.frames.tail := frames_entered (s := V.setVm vm1) (g := g) h.top _
    have hlU : e.platform.stackLimits ((initSInside (V.setVm vm1) g T.toThrowableT Z self msg).setCell self (preparedCellV T.toThrowableT cell self u0 sen)).me = lim := by
      show e.platform.stackLimits (initSInside (V.setVm vm1) g T.toThrowableT Z self msg).me = lim
      rw [State.stackLimits_pushFrame, State.stackLimits_setTop _ (show (V.setVm vm1).topJava?.isSome from h.top)]; exact hlim
    have hw13 : (stackUse (Frame.java (initSJ T.toThrowableT Z self msg 24 []) :: Frame.java g :: V.frames.tail)).2 = (stackUse (.java g :: V.frames.tail)).2 + 13 := by
      have := stackUse_append [Frame.java (initSJ T.toThrowableT Z self msg 24 [])] (.java g :: V.frames.tail)
      have h13 : (stackUse [Frame.java (initSJ T.toThrowableT Z self msg 24 [])]).2 = 13 := by
        rw [stackUse_java, stackUse_nil]
        simp [operandWords]
      rw [List.cons_append, List.nil_append] at this
      rw [this, h13]
      omega
    obtain ⟨vm2, hW2, st⟩ := nn_fill p (X := (initSInside (V.setVm vm1) g T.toThrowableT Z self msg).setCell self (preparedCellV T.toThrowableT cell self u0 sen)) (g := initSJ T.toThrowableT Z self msg 24 []) (c := Z.code) (self := self) hA hexec T L N LN hW1
      (P := preparedCellV T.toThrowableT cell self u0 sen) (cellS := cellS) (kcell := kcell) (u0 := u0) (ig := .invokevirtual 27) (len := 3) [] (heapAt_setCell_self (s := initSInside (V.setVm vm1) g T.toThrowableT Z self msg) _ hlt) hobj hknown hfree hkcell hsel0
      (by rw [heapAt_setCell_ne _ (Ne.symm hneS)]; exact hcellS) hneS hknownS hvU hv0P hneSt hvSt (tk htS) (tk ht1) hskip htr (by rw [LZ.bytes]; exact LibCode.Throwable.InitS.at_24) (lim := lim) hlU (by rw [hfU]; rw [hlen] at hframes; simp only [List.length_cons] at hframes ⊢; omega) (by rw [hfU]; show (stackUse (_ :: _ :: _)).2 + 43 ≤ _; rw [hw13]; omega)
    refine ⟨vm2, hW2, fun t' hs => st t' ?_⟩
    rw [hC2] at hs
    exact hs
  have hC2s : C2.slots.size = cell.slots.size := by
    rw [hC2, Cell.left_slots, Cell.left_slots]
    simp [preparedCellV, npeCell, Cell.setSlot, Cell.withEntry]
  have hC2c : C2.cls = cell.cls := by rw [hC2, Cell.left_cls, Cell.left_cls]; rfl
  have hC2d : C2.vm = cell.vm := by rw [hC2, Cell.left_data, Cell.left_data]; rfl
  obtain ⟨vm', hW', st⟩ := Steps.throwableInitSColdByV p h hexec T L Z LZ M LM hW (F := fun u => u.setCell self C2) (heapOnly_id.thenSetCell self _) (fun u vm => rfl)
    hmsg (cF := C2) hcell hknown (fun u hu => heapAt_setCell_self _ (Array.getElem?_eq_some_iff.mp hu).1) hC2c hC2d hC2s htM hdg (mSel := N.fill) (methSel := N.methFill) (kSel := N.kN) hobj hselF LN.method LN.fillAbstract LN.cls LN.notInterface hfill acts
    hcellS hneS hknownS hvU hvSen htC htS htP r1 r2
  refine ⟨vm', hW', fun target hrest => st target ?_⟩
  show Steps p.tables e below ((((V.setVm vm').setCell self (preparedCellV T.toThrowableT cell self u0 sen)).setCell self C2).setCell self (C2.setSlot T.fMsg.slot msg) |>.setTop { g with pc := g.pc + len }) target
  rw [setCell_twice, setCell_twice, hC2]
  exact hrest
/-- the cell at the end -/
abbrev nnBare (T : ThrowableC) (N : NpeC) (cell : Cell) (self : Addr) (u0 sen : RefV) (msg : Value) : Cell := (((preparedCellV T.toThrowableT cell self u0 sen).setSlot N.fState.slot (.int 1)).setSlot T.fStack.slot u0.v).setSlot T.fMsg.slot msg
theorem nnBare_eq (T : ThrowableC) (N : NpeC) {cell : Cell} (self : Addr) (u0 sen : RefV) (msg : Value) (t : ThreadId) (hfree : cell.monitor.owner = none) (hcount : cell.monitor.count = 0) :
    (nnC1 T N (preparedCellV T.toThrowableT cell self u0 sen) t u0).left.setSlot T.fMsg.slot msg = nnBare T N cell self u0 sen msg := by
  have h1 : ((cell.withEntry t).withEntry t).left = cell.withEntry t := Cell.left_withEntry_held _ rfl (by show 0 < cell.monitor.count + 1; omega)
  have h2 : (cell.withEntry t).left = cell := Cell.left_withEntry t hfree hcount
  simp only [nnC1, nnBare, npeCell, preparedCellV, Cell.withEntry_setSlot, Cell.left_setSlot, h1, h2]
end NP0
section NP1
variable {p : Program} {l : Launch} {e : Env} {R : Room} {s : State} {m₀ : MethodId} {args : Array Value} {below : List Frame} {meth : Method} {c : Code} {T' : State} {locs : List Loc} {cells slots : Nat}
theorem nn_msg (X : Stand p l e R s m₀ args below meth c T' locs cells slots) (hexec : p.tables.exec = Jvm.exec) {g : JFrame} (hg : g.method = m₀) (hsize : g.locals.size = c.maxLocals)
    (T : ThrowableC) (L : T.Links e.platform s) (Z : Init0T) (LZ : Z.LaidS T.toThrowableT) (M : MsgC) (LM : M.Links T e.platform s) (N : NpeC) (LN : N.Links T e.platform s)
    (Ps : List PassC) (hL : ∀ P, P ∈ Ps → P.LinksS e.platform s) (hlink : PassesOn (Z.m T.toThrowableT) (Ps.map (·.toPassT)))
    {u0 sen : RefV} {self : Addr} {msg : Value} (hmsg : msg.isRef = true) {cell cellS : Cell} {kcell : Class}
    (hcell : T'.heap[self]? = some cell) (hobj : ∀ k, cell.vm ≠ .statics k) (hknown : cell.vm ≠ .unknown) (hfree : cell.monitor.owner = none) (hcount : cell.monitor.count = 0)
    (hkcell : s.vm.classes[cell.cls]? = some kcell) (hsel0 : selectMethod e.platform s.vm cell.cls T.fill0 = .method T.fill0) (hselF : selectMethod e.platform s.vm cell.cls T.fill = .method N.fill)
    (hcellS : T'.heap[T.aS]? = some cellS) (hneS : T.aS ≠ self) (hknownS : cellS.vm ≠ .unknown) (hvU : cellS.slots[T.fUnassigned.slot]? = some u0.v) (hvSen : cellS.slots[T.fSentinel.slot]? = some sen.v)
    (hv0 : cell.slots[N.fState.slot]? = some (.int 0)) (hneC : T.fCause.slot ≠ N.fState.slot) (hneSt : T.fStack.slot ≠ N.fState.slot) (hneP : T.fSupp.slot ≠ N.fState.slot)
    (htC : Takes s cell T.fCause (.ref self)) (htS : Takes s cell T.fStack u0.v) (htP : Takes s cell T.fSupp sen.v) (htM : Takes s cell T.fMsg msg) (ht1 : Takes s cell N.fState (.int 1)) (hobjLocals : T.codeObj.maxLocals = 1)
    (hskip : SkipFacts T e.platform s (fun u => u) u0 ((npeCell N.toNpeT (preparedCellV T.toThrowableT cell self u0 sen) T'.cur).withEntry T'.cur))
    (htr : e.platform.stackTraces = false)
    {ig : Instr} {len : Nat} (acts : List Action) (hdg : decode c.code g.pc = .ok (ig, len))
    (hRframes : Ps.length + 3 < R.frames) (hRlocals : 2 * g.monitorRoom + (g.stack.map fun v => v.category).sum + (13 * Ps.length + 56) ≤ R.locals) :
    ∃ vm', Stand p l e R s m₀ args below meth c ((T'.setVm vm').setCell self (nnBare T N cell self u0 sen msg)) (locs ++ [⟨self, T.fCause.slot⟩, ⟨self, T.fStack.slot⟩, ⟨self, T.fSupp.slot⟩, ⟨self, N.fState.slot⟩, ⟨self, T.fStack.slot⟩, ⟨self, T.fMsg.slot⟩]) cells slots ∧
      ∀ target, Steps p.tables e below (((T'.setVm vm').setCell self (nnBare T N cell self u0 sen msg)).setTop { g with pc := g.pc + len }) target →
        Steps p.tables e below (doInvoke e (T'.setTop g) acts (firstOf (Z.m T.toThrowableT) (Ps.map (·.toPassT))) #[.ref self, msg]).1 target := by
  have h : At T' g.method c below := by rw [hg]; exact X.here
  have hfr' : T'.frames.length + Ps.length + 3 < (e.platform.stackLimits T'.me).1 := by have := X.framesAbove hRframes; omega
  have hwd' : (stackUse (.java g :: T'.frames.tail)).2 + 13 * Ps.length + 56 ≤ (e.platform.stackLimits T'.me).2 := by have := X.stackAbove hsize (K := 13 * Ps.length + 56) hRlocals; omega
  obtain ⟨f1, -, -, f4, f5, f6⟩ := chainEnd_facts e.platform self msg (Ps.map (·.toPassT)) T' g h.top
  have fc := chainEnd_cur self msg (Ps.map (·.toPassT)) T' g
  rw [List.length_map] at f5 f6
  obtain ⟨vm', hW', st⟩ := Steps.initChainSCold (tb := p.tables) hexec (H := fun u => u.setCell self (nnBare T N cell self u0 sen msg)) (heapOnly_id.thenSetCell self _) (Z.m T.toThrowableT) hmsg (e.platform.stackLimits T'.me) Ps T' g c ig len acts h X.warmed hL hlink hdg rfl (by omega) (by omega) (fun vm1 hW1 c' ig' len' hA' hdg' => by
    simp only [chainEnd_setVm] at hA' hdg' ⊢
    generalize chainEnd self msg T' g (Ps.map (·.toPassT)) = E at f1 f4 f5 f6 fc hA' hdg' ⊢
    obtain ⟨vm2, hW2, st⟩ := nn_init p (V := E.1.setVm vm1) (g := E.2) (self := self) hA' hexec T L Z LZ M LM N LN hW1 hmsg
      (by show E.1.heap[self]? = _; rw [f1]; exact hcell) hobj hknown hfree hkcell hsel0 hselF (by show E.1.heap[T.aS]? = _; rw [f1]; exact hcellS) hneS hknownS hvU hvSen hv0 hneC hneSt hneP htC htS htP htM ht1 hobjLocals
      (by show SkipFacts T e.platform s (fun u => u) u0 ((npeCell N.toNpeT (preparedCellV T.toThrowableT cell self u0 sen) E.1.cur).withEntry E.1.cur); rw [fc]; exact hskip) htr [] (lim := e.platform.stackLimits T'.me) (by show e.platform.stackLimits E.1.me = _; rw [f4]) (by show E.1.frames.length + 3 < _; rw [f5]; omega)
      (by show (stackUse (.java E.2 :: E.1.frames.tail)).2 + 56 ≤ _; rw [f6]; omega) hdg'
    refine ⟨vm2, hW2, fun t' hs => st t' ?_⟩
    rw [nnBare_eq T N self u0 sen msg _ hfree hcount, State.setVm_twice]
    exact hs)
  have X2 := X.noted hW'
  have ha : self < (T'.setVm vm').heap.size := (Array.getElem?_eq_some_iff.mp hcell).1
  have X3 := (((((X2.stored (a := self) hcell T.fCause.slot (.ref self)).storedAgain ha T.fStack.slot u0.v).storedAgain ha T.fSupp.slot sen.v).storedAgain ha N.fState.slot (.int 1)).storedAgain ha T.fStack.slot u0.v).storedAgain ha T.fMsg.slot msg
  refine ⟨vm', ?_, st⟩
  simpa only [List.append_assoc, List.cons_append, List.nil_append] using X3
end NP1
def nnB (own : String) (ic : Nat) (X : String) : List Cond := [.methodLink own ic (Bundle.initS X), .instantiable X 8, .castable X X, .selects X Bundle.tFill0 Bundle.tFill0, .selects X Bundle.tFill Bundle.nFill, .lays X Bundle.tN "cause" "Ljava/lang/Throwable;", .lays X Bundle.tN "stackTrace" Bundle.steD, .lays X Bundle.tN "suppressedExceptions" Bundle.listD, .lays X Bundle.tN "detailMessage" "Ljava/lang/String;", .isRef (.static Bundle.tN "UNASSIGNED_STACK" Bundle.steD), .isRef (.static Bundle.tN "SUPPRESSED_SENTINEL" Bundle.listD), .fieldLink Bundle.tN 198 Bundle.tN "backtrace" "Ljava/lang/Object;", .lays Bundle.tN Bundle.tN "backtrace" "Ljava/lang/Object;", .lays X Bundle.tN "backtrace" "Ljava/lang/Object;"]
def nnA (own : String) (ic : Nat) (X Y : String) (i0 : Nat) (b0 : ByteArray) (names : List String) : List Cond := Bundle.throwableAtoms ++ (Bundle.throwableSAtoms ++ (Bundle.passSAtoms X Y i0 b0 ++ (Bundle.chainSAtoms Y names ++ (Bundle.npeAtoms ++ nnB own ic X))))
section NQ1
variable {p : Program} {l : Launch} {e : Env} {R : Room} {s : State} {m₀ : MethodId} {args : Array Value} {below : List Frame} {meth : Method} {c : Code} {W : State} {locs : List Loc} {cells slots : Nat}
theorem nn_ctor (X : Stand p l e R s m₀ args below meth c W locs cells slots) (hexec : p.tables.exec = Jvm.exec) (htr : e.platform.stackTraces = false) {own Y1 : String} {names : List String} {ic i0 : Nat} {b0 : ByteArray}
    (hown : s.vm.findClass own = some m₀.cls) (hcls : Bundle.fit Bundle.nN = true) (hY1 : Bundle.fit Y1 = true) (hnames : ∀ n ∈ names, Bundle.fit n = true)
    (p0 : decode b0 0 = .ok (.aload_n 0, 1)) (p1 : decode b0 1 = .ok (.aload_n 1, 1)) (p2 : decode b0 2 = .ok (.invokespecial i0, 3)) (p5 : decode b0 5 = .ok (.return_, 1))
    (h : ∀ a ∈ nnA own ic Bundle.nN Y1 i0 b0 names, a.before args s = true) (hlocs : ∀ x ∈ locs, ∀ cell, s.heap[x.base]? = some cell → cell.vm.isStatics = false)
    {a : Addr} {cX : ClassId} {kX : Class} (hfoundX : s.vm.findClass Bundle.nN = some cX) (hkX : s.vm.classes[cX]? = some kX) (hcell : W.heap[a]? = some (freshCell cX kX)) (hnew : s.heap.size ≤ a) {msg : Value} (hmsg : msg.isRef = true)
    {g : JFrame} (hg : g.method = m₀) (hsize : g.locals.size = c.maxLocals) (hlocked : g.locked = none) (hentered : g.entered = []) {rest : List Value} (hstack : g.stack = msg :: .ref a :: .ref a :: rest)
    (hd6 : decode c.code g.pc = .ok (.invokespecial ic, 3)) (hd9 : decode c.code (g.pc + 3) = .ok (.athrow, 1)) (hout : ∀ x ∈ c.exceptionTable.toList, covers x (g.pc + 3) = false)
    (hRframes : names.length + 5 < R.frames) (hRlocals : 2 * g.monitorRoom + ((Value.ref a :: rest).map fun v => v.category).sum + (13 * (names.length + 2) + 56) ≤ R.locals) (hlocks : meth.locks = false) :
    ∃ U : State, Steps p.tables e below (W.setTop g) U ∧ U.status = .running ∧ Ended U below (.threw a) ∧ s.WarmedH U.vm ∧ s.sameButNew ({ U with vm := s.vm } : State) locs cells slots ∧
      ∃ ce : Cell, U.heap[a]? = some ce ∧ s.vm.findClass Bundle.nN = some ce.cls ∧ ce.vm = .none := by
  have howns : e.platform.frameOwnsMonitors = true := by rw [X.admits.platform]
  have hfin : e.platform.finalization = false := by rw [X.admits.platform]
  have hpl : e.platform.magicAccessors = ({} : Platform).magicAccessors := by rw [X.admits.platform]
  have hpl2 : e.platform.arrayCloneIsPublic = true := by rw [X.admits.platform]
  have hb : ∀ x, x ∈ nnB own ic Bundle.nN → x.holds args s none s [] = true := fun x hx => h x (by simp [nnA, hx])
  have hq : ∀ x, x ∈ Bundle.passSAtoms Bundle.nN Y1 i0 b0 → x.before args s = true := fun x hx => h x (by simp [nnA, hx])
  obtain ⟨T, Z0, L, -, Y⟩ := ThrowableC.of_atoms (args := args) howns hfin hpl (fun x hx => h x (by simp [nnA, hx]))
  obtain ⟨Z, M, LZ, LM, hnZ⟩ := Init0T.ofS_atoms (args := args) hpl L Y (fun x hx => h x (by simp [nnA, hx]))
  obtain ⟨P0, L0, hP0m, hP0s⟩ := PassC.ofS_atoms (args := args) (s := s) hpl (X := Bundle.nN) (Y := Y1) (Bundle.fit_spec hcls).1 (Bundle.fit_spec hY1).2 p0 p1 p2 p5 hq
  obtain ⟨P1, Ps, hlen, L1, hL, hP1m, hlink1, hlink⟩ := Bundle.chainS (args := args) hpl hnZ names Y1 hY1 hnames (fun x hx => h x (by simp [nnA, hx]))
  obtain ⟨N, LN, hcN, hnNF, hordN, hffX⟩ := NpeC.of_atoms (args := args) hpl hpl2 L Y (fun x hx => h x (by simp [nnA, hx]))
  have hsup : P0.sup = P1.m := Option.some.inj (hP0s.symm.trans hP1m)
  have hfound : s.vm.findClass Bundle.nN = some P0.m.cls := findClass_of_methodNamed hP0m
  cases Option.some.inj (hfoundX.symm.trans hfound)
  obtain ⟨c1, kX', hc1, hk, hord, -, -, hn6⟩ := Cond.instantiable_spec (hb (.instantiable Bundle.nN 8) (by simp [nnB]))
  cases Option.some.inj (hc1.symm.trans hfound)
  cases Option.some.inj (hkX.symm.trans hk)
  have hsel0 : selectMethod e.platform s.vm P0.m.cls T.fill0 = .method T.fill0 := by
    obtain ⟨c2, r2, m2, q1, q2, q3, q4, -⟩ := Cond.selects_spec (hb (.selects Bundle.nN Bundle.tFill0 Bundle.tFill0) (by simp [nnB]))
    cases Option.some.inj (q1.symm.trans hfound)
    cases Option.some.inj (q2.symm.trans (State.methodFound?_of_named Y.fill0 (by decide)))
    cases Option.some.inj (q3.symm.trans Y.fill0)
    rw [Launch.admits_selectMethod X.admits]; exact q4
  have hselF : selectMethod e.platform s.vm P0.m.cls T.fill = .method N.fill := by
    obtain ⟨c2, r2, m2, q1, q2, q3, q4, -⟩ := Cond.selects_spec (hb (.selects Bundle.nN Bundle.tFill Bundle.nFill) (by simp [nnB]))
    cases Option.some.inj (q1.symm.trans hfound)
    cases Option.some.inj (q2.symm.trans (State.methodFound?_of_named Y.fill (by decide)))
    cases Option.some.inj (q3.symm.trans hnNF)
    rw [Launch.admits_selectMethod X.admits]; exact q4
  obtain ⟨cellS0, hcS0, hiss⟩ := Y.statics
  obtain ⟨u0, hu0⟩ := Cond.staticRefV Y.unassigned L.unassignedStatic L.statics hcS0 hiss (hb (.isRef (.static Bundle.tN "UNASSIGNED_STACK" Bundle.steD)) (by simp [nnB]))
  obtain ⟨sen, hsen⟩ := Cond.staticRefV Y.sentinel L.sentinelStatic L.statics hcS0 hiss (hb (.isRef (.static Bundle.tN "SUPPRESSED_SENTINEL" Bundle.listD)) (by simp [nnB]))
  obtain ⟨ci198, i198, fB, hk198, hg198, ha198, hsB, -, hnB, htB, hffB⟩ := Cond.ownField (t := .object "java/lang/Object") Y.found L.cls (by decide +kernel) (hb (.fieldLink Bundle.tN 198 Bundle.tN "backtrace" "Ljava/lang/Object;") (by simp [nnB])) (hb (.lays Bundle.tN Bundle.tN "backtrace" "Ljava/lang/Object;") (by simp [nnB])) e.platform hpl
  obtain ⟨cellS, hcellS, heS, -, hkeep⟩ := X.same.2.2.2.2.2 T.aS cellS0 hcS0
  have hcellS : W.heap[T.aS]? = some cellS := hcellS
  have hfar : ∀ i, (⟨T.aS, i⟩ : Loc) ∉ locs := fun i hm => absurd ((hlocs _ hm cellS0 hcS0).symm.trans hiss) (by simp)
  have hknownS : cellS.vm ≠ .unknown := by
    rw [heS]
    intro hu
    rw [show cellS0.vm = .unknown from hu] at hiss
    cases hiss
  have hneS : T.aS ≠ a := Nat.ne_of_lt (Nat.lt_of_lt_of_le (Array.getElem?_eq_some_iff.mp hcS0).1 hnew)
  obtain ⟨iM, hffM⟩ := Y.msg
  obtain ⟨tyC, dC, hdC, hdnC⟩ := Cond.laysAt hfound hk Y.cause (hb (.lays Bundle.nN Bundle.tN "cause" "Ljava/lang/Throwable;") (by simp [nnB]))
  obtain ⟨tyS, dS, hdS, hdnS⟩ := Cond.laysAt hfound hk Y.stack (hb (.lays Bundle.nN Bundle.tN "stackTrace" Bundle.steD) (by simp [nnB]))
  obtain ⟨tyP, dP, hdP, hdnP⟩ := Cond.laysAt hfound hk Y.supp (hb (.lays Bundle.nN Bundle.tN "suppressedExceptions" Bundle.listD) (by simp [nnB]))
  obtain ⟨tyM, dM, hdM, hdnM⟩ := Cond.laysAt hfound hk hffM (hb (.lays Bundle.nN Bundle.tN "detailMessage" "Ljava/lang/String;") (by simp [nnB]))
  obtain ⟨tyB, dB, hdB, hdnB⟩ := Cond.laysAt hfound hk hffB (hb (.lays Bundle.nN Bundle.tN "backtrace" "Ljava/lang/Object;") (by simp [nnB]))
  obtain ⟨tyX, dX, hdX, hdnX⟩ := Cond.laysAt hfound hk hffX (h (.lays Bundle.nN Bundle.nN "extendedMessageState" "I") (by simp [nnA, Bundle.npeAtoms]))
  have hnX : N.fState.name = "extendedMessageState" := (State.fieldFound?_type hffX (t := .int) (by decide +kernel)).1
  have bX := Cond.laysApart hdB hdX hdnB hdnX (by rw [hnB, hnX]; decide)
  have bC := Cond.laysApart hdB hdC hdnB hdnC (by rw [hnB, Y.causeName]; decide)
  have bS := Cond.laysApart hdB hdS hdnB hdnS (by rw [hnB, Y.stackName]; decide)
  have bP := Cond.laysApart hdB hdP hdnB hdnP (by rw [hnB, Y.suppName]; decide)
  have hskip : SkipFacts T e.platform s (fun u => u) u0 ((npeCell N.toNpeT (preparedCellV T.toThrowableT (freshCell P0.m.cls kX) a u0 sen) W.cur).withEntry W.cur) :=
    ⟨{ ci198 := ci198, i198 := i198, fBack := fB }, ⟨hk198, hg198, ha198, hsB⟩, by
      have := fresh_default (c := P0.m.cls) tyB
      rw [htB] at this
      simpa [npeCell, preparedCellV, Cell.setSlot, Cell.withEntry, Array.getElem?_setIfInBounds, bC, bS, bP, bX, bC.symm, bS.symm, bP.symm, bX.symm, defaultValue] using this, fun _ _ => rfl⟩
  obtain ⟨tm, methC, cdC, kC, vm₁, hnC, -, -, -, -, -, -, -, hW₁, st1⟩ := Steps.initColdS (tb := p.tables) (e := e) (below := below) (s := s) (U := W) X.here hexec X.warmed hpl hown (t := Bundle.initS Bundle.nN) rfl rfl (Bundle.fit_spec hcls).2
    (hb (.methodLink own ic (Bundle.initS Bundle.nN)) (by simp [nnB])) (hq (.instanceMethod (Bundle.initS Bundle.nN)) (by simp [Bundle.passSAtoms])) (bytes := b0) (maxL := 2) (hq (.code (Bundle.initS Bundle.nN) b0 2 none) (by simp [Bundle.passSAtoms])) (f := g) hg (a := a) (msg := msg) (rest := .ref a :: rest) hstack hd6
  cases Option.some.inj (hnC.symm.trans hP0m)
  have X₁ := X.noted hW₁
  obtain ⟨vm₂, X₂, st2⟩ := nn_msg X₁ hexec (g := { g with stack := .ref a :: rest }) hg hsize T L Z LZ M LM N LN (P0 :: P1 :: Ps)
    (fun P hP => by rcases List.mem_cons.mp hP with rfl | hP; exact L0; rcases List.mem_cons.mp hP with rfl | hP; exact L1; exact hL P hP) ⟨hsup, hlink1, hlink⟩ (u0 := u0) (sen := sen) (self := a) hmsg (cell := freshCell P0.m.cls kX) (cellS := cellS)
    hcell (fun _ => by simp) (by simp) rfl rfl hk hsel0 hselF hcellS hneS hknownS (by rw [hkeep _ (hfar _)]; exact hu0) (by rw [hkeep _ (hfar _)]; exact hsen)
    (by rw [fresh_default tyX, LN.stateInt]; rfl) (Cond.laysApart hdC hdX hdnC hdnX (by rw [Y.causeName, hnX]; decide)) (Cond.laysApart hdS hdX hdnS hdnX (by rw [Y.stackName, hnX]; decide)) (Cond.laysApart hdP hdX hdnP hdnX (by rw [Y.suppName, hnX]; decide))
    (Takes.of_laid hk hord tyC (by rw [Y.causeType]; rfl)) (Takes.of_laid hk hord tyS (by rw [Y.stackType]; exact fits_refV_array _ u0)) (Takes.of_laid hk hord tyP (by rw [Y.suppType]; exact fits_refV_object _ sen))
    (Takes.of_laid hk hord tyM (by rw [Y.msgType]; exact fits_refV_object _ ⟨msg, hmsg⟩)) (Takes.of_laid hk hord tyX (by rw [LN.stateInt]; rfl)) Y.objLocals hskip htr [] hd6
    (by simp only [List.length_cons, hlen]; omega) (by simp only [List.length_cons, hlen]; exact hRlocals)
  obtain ⟨hwalk, hrun, hended, hWU, hsame⟩ := X₂.athrowLeaves hexec (g := { g with stack := .ref a :: rest, pc := g.pc + 3 }) hg hlocked hentered hout (a := a) (rest := rest) rfl hd9 hlocks
  have hlt : a < ((W.setVm vm₁).setVm vm₂).heap.size := (Array.getElem?_eq_some_iff.mp hcell).1
  have hU := heapAt_setCell_self (s := (W.setVm vm₁).setVm vm₂) (nnBare T N (freshCell P0.m.cls kX) a u0 sen msg) hlt
  refine ⟨_, st1 _ (fun acts => ?_), hrun, hended, hWU, hsame.weaken (fun y hy hlt' => ?_) (Nat.le_refl _) (Nat.le_refl _), _, hU, hfound, rfl⟩
  · rw [doInvoke_state]
    exact st2 _ hwalk
  · rcases List.mem_append.mp hy with h1 | h1
    · exact h1
    · have hbs : y.base = a := by
        simp only [List.mem_cons, List.not_mem_nil, or_false] at h1
        rcases h1 with rfl | rfl | rfl | rfl | rfl | rfl <;> rfl
      rw [hbs] at hlt'
      exact absurd hlt' (Nat.not_lt.mpr hnew)
end NQ1
def nnF (own : String) (ic : Nat) (X Y : String) (i0 : Nat) (b0 : ByteArray) (names : List String) : List Cond := (nnA own ic X Y i0 b0 names).filter vx_no
section NQ2
variable {p : Program} {l : Launch} {e : Env} {R : Room} {s : State} {m : MethodId} {args : Array Value} {below : List Frame} {meth : Method} {c : Code} {H : Heap} {locs : List Loc} {cells slots : Nat} {ls : Array Slot} {rest : List Value} {Qc : Array Value → State → Outcome → State → Prop} {XC : String → State → State → Prop} {free : Addr → Prop}
theorem nn_throw {cc : ByteArray} {pc : Nat} (hexec : p.tables.exec = Jvm.exec) (hb : c.code = cc) (hl : l.stackTraces = false) {own Y1 text : String} {names : List String} {ik is ic mc ms sa i0 : Nat} {b0 : ByteArray} {A : Nat → Prop}
    (hown : s.vm.findClass own = some m.cls) (hcls : Bundle.fit Bundle.nN = true) (hY1 : Bundle.fit Y1 = true) (hnames : ∀ n ∈ names, Bundle.fit n = true)
    (p0 : decode b0 0 = .ok (.aload_n 0, 1)) (p1 : decode b0 1 = .ok (.aload_n 1, 1)) (p2 : decode b0 2 = .ok (.invokespecial i0, 3)) (p5 : decode b0 5 = .ok (.return_, 1))
    (hk : (Cond.classLink own ik Bundle.nN).before args s = true) (hini : (Cond.initialized Bundle.nN).before args s = true) (hstr : vk_R own is text sa s) (hat : ∀ w ∈ nnF own ic Bundle.nN Y1 i0 b0 names, w.before args s = true)
    (hgood : ∀ w ∈ Cond.classLink own ik Bundle.nN :: Cond.initialized Bundle.nN :: nnF own ic Bundle.nN Y1 i0 b0 names, vx_ot w = true)
    (hU : vx_Zq Bundle.tN "UNASSIGNED_STACK" Bundle.steD A s s.heap) (hN : vx_Zq Bundle.tN "SUPPRESSED_SENTINEL" Bundle.listD A s s.heap) (hS : va_S A s.heap H locs) (hsize : ls.size = c.maxLocals)
    (d0 : decode cc pc = .ok (.new ik, 3)) (d3 : decode cc (pc + 3) = .ok (.dup, 1)) (d4 : decode cc (pc + 4) = .ok (.ldc_w is, 3)) (d7 : decode cc (pc + 7) = .ok (.invokespecial ic, 3)) (d10 : decode cc (pc + 10) = .ok (.athrow, 1))
    (hout : ∀ x ∈ c.exceptionTable.toList, covers x (pc + 10) = false)
    (hRframes : names.length + 5 < R.frames) (hRlocals : (rest.map fun v => v.category).sum + (13 * (names.length + 2) + 57) ≤ R.locals) (hRcells : cells + 1 ≤ R.cells) (hRslots : slots + 8 ≤ R.slots) (hlocks : meth.locks = false)
    (hx : ∀ t : State, s.vm.Alike t.vm → H.size ≤ t.heap.size → (∀ q : Nat, q < H.size → t.heap[q]? = H[q]?) → XC Bundle.nN s t)
    (hf : ∀ z ∈ locs, free z.base) (hc : cells + 1 ≤ mc) (hs : slots + 8 ≤ ms) :
    W p l e R s m args below meth c H locs cells slots (vx_MQ below Qc XC args s mc ms free) (F0 m pc ls rest) := by
  intro T hT X
  have htr : e.platform.stackTraces = false := (show e.platform.stackTraces = l.stackTraces by rw [X.admits.platform]).trans hl
  have Y := vx_rebase X (R' := { frames := R.frames, locals := R.locals, cells := 1, slots := 8 }) (Nat.le_refl _) (Nat.le_refl _) hRcells hRslots
  obtain ⟨s', hA⟩ : ∃ z, z = (T.setVm s.vm).setFrames (.invoking m args :: below) := ⟨_, rfl⟩
  rw [← hA] at Y
  have hvm : s'.vm = s.vm := by rw [hA]; rfl
  have hhp : s'.heap = H := by rw [hA]; exact hT
  have hW0 : s.WarmedH s'.vm := by rw [hvm]; exact State.WarmedH.refl s
  have hat' : ∀ w ∈ nnF own ic Bundle.nN Y1 i0 b0 names, w.before args s' = true := fun w hw => vx_ot_at hW0 hvm.symm (hgood w (List.mem_cons_of_mem _ (List.mem_cons_of_mem _ hw))) (hat w hw)
  have hk' : (Cond.classLink own ik Bundle.nN).before args s' = true := vx_ot_at hW0 hvm.symm (hgood _ List.mem_cons_self) hk
  have hini' : (Cond.initialized Bundle.nN).before args s' = true := vx_ot_at hW0 hvm.symm (hgood _ (List.mem_cons_of_mem _ List.mem_cons_self)) hini
  have hU' : vx_Zq Bundle.tN "UNASSIGNED_STACK" Bundle.steD A s' s'.heap := by rw [hhp]; exact vx_Zq.moved hW0.alike (hU.kept hS.2.1)
  have hN' : vx_Zq Bundle.tN "SUPPRESSED_SENTINEL" Bundle.listD A s' s'.heap := by rw [hhp]; exact vx_Zq.moved hW0.alike (hN.kept hS.2.1)
  have h : ∀ w ∈ nnA own ic Bundle.nN Y1 i0 b0 names, w.before args s' = true := vx_own hat' (vx_isRefq hU'.1) (vx_isRefq hN'.1) hU'.2.word hN'.2.word
  have hown' : s'.vm.findClass own = some m.cls := by rw [hvm]; exact hown
  have hins : (Cond.instantiable Bundle.nN 8).before args s' = true := h _ (by simp [nnA, nnB])
  obtain ⟨vm₁, cX, kX, hfX, hkX, -, -, X₁, st1⟩ := Y.newCold hexec (own := own) (C := Bundle.nN) (index := ik) (n := 8) hown' hk' hins hini' (g := F0 m pc ls rest) rfl (by rw [hb]; exact d0) (Nat.le_refl _) (Nat.le_refl _)
  generalize hT1 : (T.setVm vm₁).pushCell { cls := cX, slots := kX.instanceTypes.map defaultValue, vm := .none } = T1 at X₁ st1
  have hcat : (Value.ref T.heap.size).category = 1 := rfl
  have hcellA : T1.heap[T.heap.size]? = some (freshCell cX kX) := by rw [← hT1]; exact State.heap_pushCell_size _ _
  have d3' : decode c.code (pc + 3) = .ok (.dup, 1) := by rw [hb]; exact d3
  have d4' : decode c.code (pc + 4) = .ok (.ldc_w is, 3) := by rw [hb]; exact d4
  have hstr' : vk_R own is text sa s' := vk_R.warm hW0 hstr
  obtain ⟨U, hsteps, hrun, hend, hW, hsame, ce, hce, hO1, hO2⟩ := nn_ctor X₁ hexec htr (own := own) (Y1 := Y1) (names := names) (ic := ic) hown' hcls hY1 hnames p0 p1 p2 p5 h (fun x hx => nomatch hx) hfX hkX hcellA (by rw [hhp, hT]; exact Nat.le_refl _) (msg := .ref sa) rfl
    (g := { method := m, pc := pc + 7, locals := ls, stack := .ref sa :: .ref T.heap.size :: .ref T.heap.size :: rest, locked := none }) rfl hsize rfl rfl (rest := rest) rfl
    (by rw [hb]; exact d7) (by rw [hb]; exact d10) hout hRframes (by simp only [List.map_cons, List.sum_cons, hcat]; omega) hlocks
  obtain ⟨f1, f2⟩ := vx_frame hsame
  rw [hhp] at f1 f2
  have hWs : s.WarmedH U.vm := State.WarmedH.trans hW0 hW
  have hcl : s.vm.findClass Bundle.nN = some ce.cls := by
    rw [hvm] at hO1
    exact hO1
  have hall : s.sameButNew ({ U with vm := s.vm } : State) locs mc ms := by
    subst hA
    obtain ⟨e1, e2⟩ := hsame
    rw [State.setFrames_setFrames] at e1
    have h2 : (T.setVm s.vm).sameButNew ({ U with vm := s.vm } : State) [] (0 + 1) (0 + 8) := ⟨e1, e2⟩
    have h3 := X.same.trans h2
    rw [List.append_nil] at h3
    exact h3.mono hc hs
  refine ⟨U, ?_, .threw T.heap.size, hrun, hend, Or.inr ⟨T.heap.size, rfl, Bundle.nN, ce, locs, hx U hWs.alike f1 (fun q hq => f2 q hq (fun z hz => nomatch hz)), hce, hO2, hcl, hWs, hall, hf⟩⟩
  refine st1 _ ?_
  show Steps p.tables e below (T1.setTop { method := m, pc := pc + 3, locals := ls, stack := .ref T.heap.size :: rest, locked := none }) _
  jvm_step X₁.here [X₁.here.top, hexec, d3', Value.category]
  exact X₁.ldcStringW hexec (own := own) (text := text) (index := is) (a := sa) hown' hstr'.1 hstr'.2
    (g := { method := m, pc := pc + 4, locals := ls, stack := .ref T.heap.size :: .ref T.heap.size :: rest, locked := none }) rfl d4' _ hsteps
end NQ2
section NQ3
variable {α : Type} {F : Option Fx} {enc : α → Outc} {own : String} {cc : ByteArray} {nL v : Nat} {pc : Nat} {pls : List (Nat × Value)} {st : List Value} {μ : Mem} {o : Option (α × Mem)} {ret : Option FieldType}
theorem s_throwNN {r : α} {ik is ic i0 : Nat} {b0 : ByteArray} {text Y1 : String} {names : List String} (hF : FxO F own cc nL v) (hD : FxXO F ret) (hv : names.length + 6 ≤ v) (he : enc r = .inr 2) (d0 : decode cc pc = .ok (.new ik, 3)) (d3 : decode cc (pc + 3) = .ok (.dup, 1)) (d4 : decode cc (pc + 4) = .ok (.ldc_w is, 3)) (d7 : decode cc (pc + 7) = .ok (.invokespecial ic, 3)) (d10 : decode cc (pc + 10) = .ok (.athrow, 1))
    (p0 : decode b0 0 = .ok (.aload_n 0, 1)) (p1 : decode b0 1 = .ok (.aload_n 1, 1)) (p2 : decode b0 2 = .ok (.invokespecial i0, 3)) (p5 : decode b0 5 = .ok (.return_, 1))
    (hcl : Cond.classLink own ik Bundle.nN ∈ WA) (hini : Cond.initialized Bundle.nN ∈ WA) (hfit : Bundle.fit Bundle.nN = true) (hY1 : Bundle.fit Y1 = true) (hnames : ∀ n ∈ names, Bundle.fit n = true) (hstr : ∃ j : Nat, strL[j]? = some (own, is, text)) (ha1 : ∀ w ∈ (nnF own ic Bundle.nN Y1 i0 b0 names).filter goodWord, w ∈ WA) (ha2 : ∀ w ∈ (nnF own ic Bundle.nN Y1 i0 b0 names).filter (fun w => !goodWord w), w ∈ WX)
    (hgood : ∀ w ∈ Cond.classLink own ik Bundle.nN :: Cond.initialized Bundle.nN :: nnF own ic Bundle.nN Y1 i0 b0 names, vx_ot w = true) (hcat : (st.map fun v => v.category).sum ≤ 8) : Sim F enc pc pls st μ (some (r, p_lost μ 1 8)) := by
  intro r' μ' ho
  cases ho
  refine ⟨Mono.lost, fun G hG ad H locs ls d hR hdp hV hl => ?_⟩
  have hFG := hF G hG
  obtain ⟨hr, hlk, e1, e2, htab, e3, hst, hN, hZ, hX⟩ := hD G hG
  rw [e1] at hdp
  subst hdp
  obtain ⟨j, hj⟩ := hstr
  have hsr := hX.1 j _ hj
  obtain ⟨h1, h2, h3, h4, h5, h6, h7, h8⟩ := id hR
  obtain ⟨r1, r2, r3, r4⟩ := hFG.2.2.2.2.2.2.2.2.2 (g_c (p_lost μ 1 8) - x_c0 G) (g_w (p_lost μ 1 8) - x_w0 G)
  have ec : g_c (p_lost μ 1 8) = g_c μ + 1 := rfl
  have ew : g_w (p_lost μ 1 8) = g_w μ + 8 := rfl
  rw [ec, ew] at r3 r4 ⊢
  rw [ec, ew] at r1 r2
  have hWX : ∀ w ∈ WX, w.before (x_a G) (x_s G) = true := hN.use
  rw [e3, he]
  refine nn_throw (names := names) hFG.1 hFG.2.1 hst hFG.2.2.2.2.1 hfit hY1 hnames p0 p1 p2 p5 (hFG.2.2.2.1 _ hcl) (hFG.2.2.2.1 _ hini) hsr (vx_hat (fun w hw => hFG.2.2.2.1 w (ha1 w hw)) ha2 hWX) hgood hZ.1 hZ.2 h3 (by rw [hFG.2.2.1]; exact hl.1) d0 d3 d4 d7 d10 (fun x hx => (htab x hx).elim) (by omega) ?_ (by omega) (by omega) hlk (fun t ha hz hq => ?_) (fun z hz => ?_) (by omega) (by omega)
  · rw [cat_tr]
    omega
  · refine ⟨2, ad, rfl, rfl, h5, ?_, ?_, h4.lost, va_K.moved ha hFG.2.2.2.2.2.1, ?_⟩
    · rw [wl_lost]
      exact h1.kept fun i q hq' => hq q.1 ((h1 i q hq').lt)
    · rw [wl_lost, ← e2]
      exact h2
    · rw [← e2]
      refine ⟨Nat.le_trans h3.1 hz, fun q q1 q2 => ?_⟩
      rw [hq q (Nat.lt_of_lt_of_le q1 h3.1)]
      exact h3.2.1 q q1 q2
  · have := h3.2.2 z hz
    rw [e2] at this
    exact this
end NQ3
