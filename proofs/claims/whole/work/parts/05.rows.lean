/-! ===== ROWS: an instruction a row, over Sim ===== -/
section SR
variable {α : Type} {F : Fx} {enc : α → Outc} {own : String} {cc : ByteArray} {nL : Nat} {pc : Nat} {pls pls' : List (Nat × Value)} {st : List Value} {μ : Mem} {o : Option (α × Mem)}
theorem s_iconst (hF : FxOk F own cc nL) {n : Int} {v : Int32} (hd : decode cc pc = .ok (.iconst n, 1)) (hv : Int32.ofInt n = v) (k : Sim F enc (pc + 1) pls (.int v :: st) μ o) : Sim F enc pc pls st μ o :=
  sim_go (fun _ h => h.cn (v := Value.int _) trivial) (fun ad H locs ls d mc ms cells slots Q hR hl kk => lv_iconst hF.1 hF.2.1 hd hv (kk ls hl)) k
theorem s_lconst (hF : FxOk F own cc nL) {n : Fin 2} {v : Int64} (hd : decode cc pc = .ok (.lconst n, 1)) (hv : Int64.ofNat (n : Nat) = v) (k : Sim F enc (pc + 1) pls (.long v :: st) μ o) : Sim F enc pc pls st μ o :=
  sim_go (fun _ h => h.cn (v := Value.long _) trivial) (fun ad H locs ls d mc ms cells slots Q hR hl kk => lv_lconst hF.1 hF.2.1 hd hv (kk ls hl)) k
theorem s_dconst0 (hF : FxOk F own cc nL) (hd : decode cc pc = .ok (.dconst 0, 1)) (k : Sim F enc (pc + 1) pls (.double FP.dconst0 :: st) μ o) : Sim F enc pc pls st μ o :=
  sim_go (fun _ h => h.cn (v := Value.double _) trivial) (fun ad H locs ls d mc ms cells slots Q hR hl kk => lv_dconst0 hF.1 hF.2.1 hd (kk ls hl)) k
theorem s_bipush (hF : FxOk F own cc nL) {n : Int} {v : Int32} (hd : decode cc pc = .ok (.bipush n, 2)) (hv : (Int8.ofInt n).toInt32 = v) (k : Sim F enc (pc + 2) pls (.int v :: st) μ o) : Sim F enc pc pls st μ o :=
  sim_go (fun _ h => h.cn (v := Value.int _) trivial) (fun ad H locs ls d mc ms cells slots Q hR hl kk => lv_bipush hF.1 hF.2.1 hd hv (kk ls hl)) k
theorem s_sipush (hF : FxOk F own cc nL) {n : Int} {v : Int32} (hd : decode cc pc = .ok (.sipush n, 3)) (hv : (Int16.ofInt n).toInt32 = v) (k : Sim F enc (pc + 3) pls (.int v :: st) μ o) : Sim F enc pc pls st μ o :=
  sim_go (fun _ h => h.cn (v := Value.int _) trivial) (fun ad H locs ls d mc ms cells slots Q hR hl kk => lv_sipush hF.1 hF.2.1 hd hv (kk ls hl)) k
theorem s_ldc (hF : FxOk F own cc nL) {index : Nat} {v : Int32} (hd : decode cc pc = .ok (.ldc index, 2)) (hw : Cond.constant own index v ∈ WA) (k : Sim F enc (pc + 2) pls (.int v :: st) μ o) : Sim F enc pc pls st μ o :=
  sim_go (fun _ h => h.cn (v := Value.int _) trivial) (fun ad H locs ls d mc ms cells slots Q hR hl kk => lv_ldc hF.1 hF.2.1 hF.2.2.2.2.1 (hF.ht d _ hw) hd (kk ls hl)) k
theorem s_ldcw (hF : FxOk F own cc nL) {index : Nat} {v : Int32} (hd : decode cc pc = .ok (.ldc_w index, 3)) (hw : Cond.constant own index v ∈ WA) (k : Sim F enc (pc + 3) pls (.int v :: st) μ o) : Sim F enc pc pls st μ o :=
  sim_go (fun _ h => h.cn (v := Value.int _) trivial) (fun ad H locs ls d mc ms cells slots Q hR hl kk => lv_ldcw hF.1 hF.2.1 hF.2.2.2.2.1 (hF.ht d _ hw) hd (kk ls hl)) k
theorem s_ldc2 (hF : FxOk F own cc nL) {index : Nat} {v : Int64} (hd : decode cc pc = .ok (.ldc2_w index, 3)) (hw : Cond.constantLong own index v ∈ WA) (k : Sim F enc (pc + 3) pls (.long v :: st) μ o) : Sim F enc pc pls st μ o :=
  sim_go (fun _ h => h.cn (v := Value.long _) trivial) (fun ad H locs ls d mc ms cells slots Q hR hl kk => lv_ldc2 hF.1 hF.2.1 hF.2.2.2.2.1 (hF.ht d _ hw) hd (kk ls hl)) k
theorem s_iload (hF : FxOk F own cc nL) {i : Nat} {x : Int32} (hd : decode cc pc = .ok (.iload i, 2)) (j : Nat) (hk : pls[j]? = some (i, .int x)) (k : Sim F enc (pc + 2) pls (.int x :: st) μ o) : Sim F enc pc pls st μ o :=
  sim_go (fun _ h => h.cn (h.at hk)) (fun ad H locs ls d mc ms cells slots Q hR hl kk => lv_iload hF.1 hF.2.1 hd (lv_at hl j (trP_at hk)) (kk ls hl)) k
theorem s_iload_n (hF : FxOk F own cc nL) {kf : Fin 4} {i : Nat} {x : Int32} (hd : decode cc pc = .ok (.iload_n kf, 1)) (hi : (kf : Nat) = i) (j : Nat) (hk : pls[j]? = some (i, .int x)) (k : Sim F enc (pc + 1) pls (.int x :: st) μ o) : Sim F enc pc pls st μ o :=
  sim_go (fun _ h => h.cn (h.at hk)) (fun ad H locs ls d mc ms cells slots Q hR hl kk => lv_iload_n hF.1 hF.2.1 hd hi (lv_at hl j (trP_at hk)) (kk ls hl)) k
theorem s_lload (hF : FxOk F own cc nL) {i : Nat} {x : Int64} (hd : decode cc pc = .ok (.lload i, 2)) (j : Nat) (hk : pls[j]? = some (i, .long x)) (k : Sim F enc (pc + 2) pls (.long x :: st) μ o) : Sim F enc pc pls st μ o :=
  sim_go (fun _ h => h.cn (h.at hk)) (fun ad H locs ls d mc ms cells slots Q hR hl kk => lv_lload hF.1 hF.2.1 hd (lv_at hl j (trP_at hk)) (kk ls hl)) k
theorem s_lload_n (hF : FxOk F own cc nL) {kf : Fin 4} {i : Nat} {x : Int64} (hd : decode cc pc = .ok (.lload_n kf, 1)) (hi : (kf : Nat) = i) (j : Nat) (hk : pls[j]? = some (i, .long x)) (k : Sim F enc (pc + 1) pls (.long x :: st) μ o) : Sim F enc pc pls st μ o :=
  sim_go (fun _ h => h.cn (h.at hk)) (fun ad H locs ls d mc ms cells slots Q hR hl kk => lv_lload_n hF.1 hF.2.1 hd hi (lv_at hl j (trP_at hk)) (kk ls hl)) k
theorem s_fload (hF : FxOk F own cc nL) {i : Nat} {x : UInt32} (hd : decode cc pc = .ok (.fload i, 2)) (j : Nat) (hk : pls[j]? = some (i, .float x)) (k : Sim F enc (pc + 2) pls (.float x :: st) μ o) : Sim F enc pc pls st μ o :=
  sim_go (fun _ h => h.cn (h.at hk)) (fun ad H locs ls d mc ms cells slots Q hR hl kk => lv_fload hF.1 hF.2.1 hd (lv_at hl j (trP_at hk)) (kk ls hl)) k
theorem s_fload_n (hF : FxOk F own cc nL) {kf : Fin 4} {i : Nat} {x : UInt32} (hd : decode cc pc = .ok (.fload_n kf, 1)) (hi : (kf : Nat) = i) (j : Nat) (hk : pls[j]? = some (i, .float x)) (k : Sim F enc (pc + 1) pls (.float x :: st) μ o) : Sim F enc pc pls st μ o :=
  sim_go (fun _ h => h.cn (h.at hk)) (fun ad H locs ls d mc ms cells slots Q hR hl kk => lv_fload_n hF.1 hF.2.1 hd hi (lv_at hl j (trP_at hk)) (kk ls hl)) k
theorem s_dload (hF : FxOk F own cc nL) {i : Nat} {x : UInt64} (hd : decode cc pc = .ok (.dload i, 2)) (j : Nat) (hk : pls[j]? = some (i, .double x)) (k : Sim F enc (pc + 2) pls (.double x :: st) μ o) : Sim F enc pc pls st μ o :=
  sim_go (fun _ h => h.cn (h.at hk)) (fun ad H locs ls d mc ms cells slots Q hR hl kk => lv_dload hF.1 hF.2.1 hd (lv_at hl j (trP_at hk)) (kk ls hl)) k
theorem s_dload_n (hF : FxOk F own cc nL) {kf : Fin 4} {i : Nat} {x : UInt64} (hd : decode cc pc = .ok (.dload_n kf, 1)) (hi : (kf : Nat) = i) (j : Nat) (hk : pls[j]? = some (i, .double x)) (k : Sim F enc (pc + 1) pls (.double x :: st) μ o) : Sim F enc pc pls st μ o :=
  sim_go (fun _ h => h.cn (h.at hk)) (fun ad H locs ls d mc ms cells slots Q hR hl kk => lv_dload_n hF.1 hF.2.1 hd hi (lv_at hl j (trP_at hk)) (kk ls hl)) k
theorem s_aload (hF : FxOk F own cc nL) {i : Nat} {x : Nat} (hd : decode cc pc = .ok (.aload i, 2)) (j : Nat) (hk : pls[j]? = some (i, .ref x)) (k : Sim F enc (pc + 2) pls (.ref x :: st) μ o) : Sim F enc pc pls st μ o :=
  sim_go (fun _ h => h.cn (h.at hk)) (fun ad H locs ls d mc ms cells slots Q hR hl kk => lv_aload hF.1 hF.2.1 hd (lv_at hl j (trP_at hk)) (kk ls hl)) k
theorem s_aload_n (hF : FxOk F own cc nL) {kf : Fin 4} {i : Nat} {x : Nat} (hd : decode cc pc = .ok (.aload_n kf, 1)) (hi : (kf : Nat) = i) (j : Nat) (hk : pls[j]? = some (i, .ref x)) (k : Sim F enc (pc + 1) pls (.ref x :: st) μ o) : Sim F enc pc pls st μ o :=
  sim_go (fun _ h => h.cn (h.at hk)) (fun ad H locs ls d mc ms cells slots Q hR hl kk => lv_aload_n hF.1 hF.2.1 hd hi (lv_at hl j (trP_at hk)) (kk ls hl)) k
theorem s_sload (hF : FxOk F own cc nL) {i : Nat} {x : Nat} (hd : decode cc pc = .ok (.aload i, 2)) (j : Nat) (hk : pls[j]? = some (i, .retAddr x)) (k : Sim F enc (pc + 2) pls (.retAddr x :: st) μ o) : Sim F enc pc pls st μ o :=
  sim_go (fun _ h => h.cn (h.at hk)) (fun ad H locs ls d mc ms cells slots Q hR hl kk => lv_aload hF.1 hF.2.1 hd (lv_at hl j (trP_at hk)) (kk ls hl)) k
theorem s_sload_n (hF : FxOk F own cc nL) {kf : Fin 4} {i : Nat} {x : Nat} (hd : decode cc pc = .ok (.aload_n kf, 1)) (hi : (kf : Nat) = i) (j : Nat) (hk : pls[j]? = some (i, .retAddr x)) (k : Sim F enc (pc + 1) pls (.retAddr x :: st) μ o) : Sim F enc pc pls st μ o :=
  sim_go (fun _ h => h.cn (h.at hk)) (fun ad H locs ls d mc ms cells slots Q hR hl kk => lv_aload_n hF.1 hF.2.1 hd hi (lv_at hl j (trP_at hk)) (kk ls hl)) k
theorem s_istore (hF : FxOk F own cc nL) {i : Nat} {x : Int32} (hd : decode cc pc = .ok (.istore i, 2)) (hn : i < nL) (hp : st1 i (.int x) pls = pls') (k : Sim F enc (pc + 2) pls' st μ o) : Sim F enc pc pls (.int x :: st) μ o :=
  sim_go (fun _ h => h.st1 hp) (fun ad H locs ls d mc ms cells slots Q hR hl kk => lv_istore hF.1 hF.2.1 hd hl (by rw [hF.2.2.2.2.2.2.2]; exact hn) (trP_st1 hp) kk) k
theorem s_istore_n (hF : FxOk F own cc nL) {kf : Fin 4} {i : Nat} {x : Int32} (hd : decode cc pc = .ok (.istore_n kf, 1)) (hi : (kf : Nat) = i) (hn : i < nL) (hp : st1 i (.int x) pls = pls') (k : Sim F enc (pc + 1) pls' st μ o) : Sim F enc pc pls (.int x :: st) μ o :=
  sim_go (fun _ h => h.st1 hp) (fun ad H locs ls d mc ms cells slots Q hR hl kk => lv_istore_n hF.1 hF.2.1 hd hi hl (by rw [hF.2.2.2.2.2.2.2]; exact hn) (trP_st1 hp) kk) k
theorem s_fstore (hF : FxOk F own cc nL) {i : Nat} {x : UInt32} (hd : decode cc pc = .ok (.fstore i, 2)) (hn : i < nL) (hp : st1 i (.float x) pls = pls') (k : Sim F enc (pc + 2) pls' st μ o) : Sim F enc pc pls (.float x :: st) μ o :=
  sim_go (fun _ h => h.st1 hp) (fun ad H locs ls d mc ms cells slots Q hR hl kk => lv_fstore hF.1 hF.2.1 hd hl (by rw [hF.2.2.2.2.2.2.2]; exact hn) (trP_st1 hp) kk) k
theorem s_fstore_n (hF : FxOk F own cc nL) {kf : Fin 4} {i : Nat} {x : UInt32} (hd : decode cc pc = .ok (.fstore_n kf, 1)) (hi : (kf : Nat) = i) (hn : i < nL) (hp : st1 i (.float x) pls = pls') (k : Sim F enc (pc + 1) pls' st μ o) : Sim F enc pc pls (.float x :: st) μ o :=
  sim_go (fun _ h => h.st1 hp) (fun ad H locs ls d mc ms cells slots Q hR hl kk => lv_fstore_n hF.1 hF.2.1 hd hi hl (by rw [hF.2.2.2.2.2.2.2]; exact hn) (trP_st1 hp) kk) k
theorem s_astore (hF : FxOk F own cc nL) {i : Nat} {x : Nat} (hd : decode cc pc = .ok (.astore i, 2)) (hn : i < nL) (hp : st1 i (.ref x) pls = pls') (k : Sim F enc (pc + 2) pls' st μ o) : Sim F enc pc pls (.ref x :: st) μ o :=
  sim_go (fun _ h => h.st1 hp) (fun ad H locs ls d mc ms cells slots Q hR hl kk => lv_astore hF.1 hF.2.1 hd hl (by rw [hF.2.2.2.2.2.2.2]; exact hn) (trP_st1 hp) kk) k
theorem s_astore_n (hF : FxOk F own cc nL) {kf : Fin 4} {i : Nat} {x : Nat} (hd : decode cc pc = .ok (.astore_n kf, 1)) (hi : (kf : Nat) = i) (hn : i < nL) (hp : st1 i (.ref x) pls = pls') (k : Sim F enc (pc + 1) pls' st μ o) : Sim F enc pc pls (.ref x :: st) μ o :=
  sim_go (fun _ h => h.st1 hp) (fun ad H locs ls d mc ms cells slots Q hR hl kk => lv_astore_n hF.1 hF.2.1 hd hi hl (by rw [hF.2.2.2.2.2.2.2]; exact hn) (trP_st1 hp) kk) k
theorem s_lstore (hF : FxOk F own cc nL) {i : Nat} {x : Int64} (hd : decode cc pc = .ok (.lstore i, 2)) (hn : i + 1 < nL) (hp : st2 i (.long x) pls = pls') (k : Sim F enc (pc + 2) pls' st μ o) : Sim F enc pc pls (.long x :: st) μ o :=
  sim_go (fun _ h => h.st2 hp) (fun ad H locs ls d mc ms cells slots Q hR hl kk => lv_lstore hF.1 hF.2.1 hd hl (by rw [hF.2.2.2.2.2.2.2]; exact hn) (trP_st2 hp) kk) k
theorem s_lstore_n (hF : FxOk F own cc nL) {kf : Fin 4} {i : Nat} {x : Int64} (hd : decode cc pc = .ok (.lstore_n kf, 1)) (hi : (kf : Nat) = i) (hn : i + 1 < nL) (hp : st2 i (.long x) pls = pls') (k : Sim F enc (pc + 1) pls' st μ o) : Sim F enc pc pls (.long x :: st) μ o :=
  sim_go (fun _ h => h.st2 hp) (fun ad H locs ls d mc ms cells slots Q hR hl kk => lv_lstore_n hF.1 hF.2.1 hd hi hl (by rw [hF.2.2.2.2.2.2.2]; exact hn) (trP_st2 hp) kk) k
theorem s_dstore (hF : FxOk F own cc nL) {i : Nat} {x : UInt64} (hd : decode cc pc = .ok (.dstore i, 2)) (hn : i + 1 < nL) (hp : st2 i (.double x) pls = pls') (k : Sim F enc (pc + 2) pls' st μ o) : Sim F enc pc pls (.double x :: st) μ o :=
  sim_go (fun _ h => h.st2 hp) (fun ad H locs ls d mc ms cells slots Q hR hl kk => lv_dstore hF.1 hF.2.1 hd hl (by rw [hF.2.2.2.2.2.2.2]; exact hn) (trP_st2 hp) kk) k
theorem s_dstore_n (hF : FxOk F own cc nL) {kf : Fin 4} {i : Nat} {x : UInt64} (hd : decode cc pc = .ok (.dstore_n kf, 1)) (hi : (kf : Nat) = i) (hn : i + 1 < nL) (hp : st2 i (.double x) pls = pls') (k : Sim F enc (pc + 1) pls' st μ o) : Sim F enc pc pls (.double x :: st) μ o :=
  sim_go (fun _ h => h.st2 hp) (fun ad H locs ls d mc ms cells slots Q hR hl kk => lv_dstore_n hF.1 hF.2.1 hd hi hl (by rw [hF.2.2.2.2.2.2.2]; exact hn) (trP_st2 hp) kk) k
theorem s_iinc (hF : FxOk F own cc nL) {i : Nat} {n : Int} {x v : Int32} (hd : decode cc pc = .ok (.iinc i n, 3)) (j : Nat) (hk : pls[j]? = some (i, .int x)) (hv : x + Int32.ofInt n = v) (hn : i < nL) (hp : st1 i (.int v) pls = pls') (k : Sim F enc (pc + 3) pls' st μ o) : Sim F enc pc pls st μ o :=
  sim_go (fun _ h => (h.cn (v := Value.int _) trivial).st1 hp) (fun ad H locs ls d mc ms cells slots Q hR hl kk => lv_iinc (k := j) hF.1 hF.2.1 hd hl (trP_at hk) hv (by rw [hF.2.2.2.2.2.2.2]; exact hn) (trP_st1 hp) kk) k
theorem s_dup (hF : FxOk F own cc nL) {v : Value} (hd : decode cc pc = .ok (.dup, 1)) (hc : v.category = 1) (k : Sim F enc (pc + 1) pls (v :: v :: st) μ o) : Sim F enc pc pls (v :: st) μ o :=
  sim_go (fun _ h => h.cn h.hd) (fun ad H locs ls d mc ms cells slots Q hR hl kk => lv_dup hF.1 hF.2.1 hd (tr_cat.trans hc) (kk ls hl)) k
theorem s_pop (hF : FxOk F own cc nL) {v : Value} (hd : decode cc pc = .ok (.pop, 1)) (hc : v.category = 1) (k : Sim F enc (pc + 1) pls st μ o) : Sim F enc pc pls (v :: st) μ o :=
  sim_go (fun _ h => h.tl) (fun ad H locs ls d mc ms cells slots Q hR hl kk => lv_pop hF.1 hF.2.1 hd (tr_cat.trans hc) (kk ls hl)) k
theorem s_dup2 (hF : FxOk F own cc nL) {u v : Value} (hd : decode cc pc = .ok (.dup2, 1)) (hu : u.category = 1) (hv : v.category = 1) (k : Sim F enc (pc + 1) pls (u :: v :: u :: v :: st) μ o) : Sim F enc pc pls (u :: v :: st) μ o :=
  sim_go (fun _ h => (h.cn h.tl.hd).cn h.hd) (fun ad H locs ls d mc ms cells slots Q hR hl kk => lv_dup2_11 hF.1 hF.2.1 hd (tr_cat.trans hu) (tr_cat.trans hv) (kk ls hl)) k
theorem s_dup_x1 (hF : FxOk F own cc nL) {u v : Value} (hd : decode cc pc = .ok (.dup_x1, 1)) (hu : u.category = 1) (hv : v.category = 1) (k : Sim F enc (pc + 1) pls (u :: v :: u :: st) μ o) : Sim F enc pc pls (u :: v :: st) μ o :=
  sim_go (fun _ h => ((h.tl.tl.cn h.hd).cn h.tl.hd).cn h.hd) (fun ad H locs ls d mc ms cells slots Q hR hl kk => lv_dup_x1 hF.1 hF.2.1 hd (tr_cat.trans hu) (tr_cat.trans hv) (kk ls hl)) k
theorem s_iadd (hF : FxOk F own cc nL) {x y : Int32} (hd : decode cc pc = .ok (.iadd, 1)) (k : Sim F enc (pc + 1) pls (.int (x + y) :: st) μ o) : Sim F enc pc pls (.int y :: .int x :: st) μ o :=
  sim_go (fun _ h => h.tl.tl.cn (v := Value.int _) trivial) (fun ad H locs ls d mc ms cells slots Q hR hl kk => lv_iadd hF.1 hF.2.1 hd (kk ls hl)) k
theorem s_isub (hF : FxOk F own cc nL) {x y : Int32} (hd : decode cc pc = .ok (.isub, 1)) (k : Sim F enc (pc + 1) pls (.int (x - y) :: st) μ o) : Sim F enc pc pls (.int y :: .int x :: st) μ o :=
  sim_go (fun _ h => h.tl.tl.cn (v := Value.int _) trivial) (fun ad H locs ls d mc ms cells slots Q hR hl kk => lv_isub hF.1 hF.2.1 hd (kk ls hl)) k
theorem s_imul (hF : FxOk F own cc nL) {x y : Int32} (hd : decode cc pc = .ok (.imul, 1)) (k : Sim F enc (pc + 1) pls (.int (x * y) :: st) μ o) : Sim F enc pc pls (.int y :: .int x :: st) μ o :=
  sim_go (fun _ h => h.tl.tl.cn (v := Value.int _) trivial) (fun ad H locs ls d mc ms cells slots Q hR hl kk => lv_imul hF.1 hF.2.1 hd (kk ls hl)) k
theorem s_iand (hF : FxOk F own cc nL) {x y : Int32} (hd : decode cc pc = .ok (.iand, 1)) (k : Sim F enc (pc + 1) pls (.int (x &&& y) :: st) μ o) : Sim F enc pc pls (.int y :: .int x :: st) μ o :=
  sim_go (fun _ h => h.tl.tl.cn (v := Value.int _) trivial) (fun ad H locs ls d mc ms cells slots Q hR hl kk => lv_iand hF.1 hF.2.1 hd (kk ls hl)) k
theorem s_ior (hF : FxOk F own cc nL) {x y : Int32} (hd : decode cc pc = .ok (.ior, 1)) (k : Sim F enc (pc + 1) pls (.int (x ||| y) :: st) μ o) : Sim F enc pc pls (.int y :: .int x :: st) μ o :=
  sim_go (fun _ h => h.tl.tl.cn (v := Value.int _) trivial) (fun ad H locs ls d mc ms cells slots Q hR hl kk => lv_ior hF.1 hF.2.1 hd (kk ls hl)) k
theorem s_ishl (hF : FxOk F own cc nL) {x y : Int32} (hd : decode cc pc = .ok (.ishl, 1)) (k : Sim F enc (pc + 1) pls (.int (x <<< (y &&& 31)) :: st) μ o) : Sim F enc pc pls (.int y :: .int x :: st) μ o :=
  sim_go (fun _ h => h.tl.tl.cn (v := Value.int _) trivial) (fun ad H locs ls d mc ms cells slots Q hR hl kk => lv_ishl hF.1 hF.2.1 hd (kk ls hl)) k
theorem s_ishr (hF : FxOk F own cc nL) {x y : Int32} (hd : decode cc pc = .ok (.ishr, 1)) (k : Sim F enc (pc + 1) pls (.int (x >>> (y &&& 31)) :: st) μ o) : Sim F enc pc pls (.int y :: .int x :: st) μ o :=
  sim_go (fun _ h => h.tl.tl.cn (v := Value.int _) trivial) (fun ad H locs ls d mc ms cells slots Q hR hl kk => lv_ishr hF.1 hF.2.1 hd (kk ls hl)) k
theorem s_iushr (hF : FxOk F own cc nL) {x y v : Int32} (hd : decode cc pc = .ok (.iushr, 1)) (hv : (x.toUInt32 >>> (y.toUInt32 &&& Int32.toUInt32 31)).toInt32 = v) (k : Sim F enc (pc + 1) pls (.int v :: st) μ o) : Sim F enc pc pls (.int y :: .int x :: st) μ o :=
  sim_go (fun _ h => h.tl.tl.cn (v := Value.int _) trivial) (fun ad H locs ls d mc ms cells slots Q hR hl kk => lv_iushr hF.1 hF.2.1 hd hv (kk ls hl)) k
theorem s_idiv (hF : FxOk F own cc nL) {x y : Int32} (hd : decode cc pc = .ok (.idiv, 1)) (hne : ¬ y = 0) (k : Sim F enc (pc + 1) pls (.int (x / y) :: st) μ o) : Sim F enc pc pls (.int y :: .int x :: st) μ o :=
  sim_go (fun _ h => h.tl.tl.cn (v := Value.int _) trivial) (fun ad H locs ls d mc ms cells slots Q hR hl kk => lv_idiv hF.1 hF.2.1 hd hne (kk ls hl)) k
theorem s_irem (hF : FxOk F own cc nL) {x y : Int32} (hd : decode cc pc = .ok (.irem, 1)) (hne : ¬ y = 0) (k : Sim F enc (pc + 1) pls (.int (x - x / y * y) :: st) μ o) : Sim F enc pc pls (.int y :: .int x :: st) μ o :=
  sim_go (fun _ h => h.tl.tl.cn (v := Value.int _) trivial) (fun ad H locs ls d mc ms cells slots Q hR hl kk => lv_irem hF.1 hF.2.1 hd hne (kk ls hl)) k
theorem s_ineg (hF : FxOk F own cc nL) {x : Int32} (hd : decode cc pc = .ok (.ineg, 1)) (k : Sim F enc (pc + 1) pls (.int (-x) :: st) μ o) : Sim F enc pc pls (.int x :: st) μ o :=
  sim_go (fun _ h => h.tl.cn (v := Value.int _) trivial) (fun ad H locs ls d mc ms cells slots Q hR hl kk => lv_ineg hF.1 hF.2.1 hd (kk ls hl)) k
theorem s_ladd (hF : FxOk F own cc nL) {x y : Int64} (hd : decode cc pc = .ok (.ladd, 1)) (k : Sim F enc (pc + 1) pls (.long (x + y) :: st) μ o) : Sim F enc pc pls (.long y :: .long x :: st) μ o :=
  sim_go (fun _ h => h.tl.tl.cn (v := Value.long _) trivial) (fun ad H locs ls d mc ms cells slots Q hR hl kk => lv_ladd hF.1 hF.2.1 hd (kk ls hl)) k
theorem s_lsub (hF : FxOk F own cc nL) {x y : Int64} (hd : decode cc pc = .ok (.lsub, 1)) (k : Sim F enc (pc + 1) pls (.long (x - y) :: st) μ o) : Sim F enc pc pls (.long y :: .long x :: st) μ o :=
  sim_go (fun _ h => h.tl.tl.cn (v := Value.long _) trivial) (fun ad H locs ls d mc ms cells slots Q hR hl kk => lv_lsub hF.1 hF.2.1 hd (kk ls hl)) k
theorem s_lmul (hF : FxOk F own cc nL) {x y : Int64} (hd : decode cc pc = .ok (.lmul, 1)) (k : Sim F enc (pc + 1) pls (.long (x * y) :: st) μ o) : Sim F enc pc pls (.long y :: .long x :: st) μ o :=
  sim_go (fun _ h => h.tl.tl.cn (v := Value.long _) trivial) (fun ad H locs ls d mc ms cells slots Q hR hl kk => lv_lmul hF.1 hF.2.1 hd (kk ls hl)) k
theorem s_ldiv (hF : FxOk F own cc nL) {x y : Int64} (hd : decode cc pc = .ok (.ldiv, 1)) (hne : ¬ y = 0) (k : Sim F enc (pc + 1) pls (.long (x / y) :: st) μ o) : Sim F enc pc pls (.long y :: .long x :: st) μ o :=
  sim_go (fun _ h => h.tl.tl.cn (v := Value.long _) trivial) (fun ad H locs ls d mc ms cells slots Q hR hl kk => lv_ldiv hF.1 hF.2.1 hd hne (kk ls hl)) k
theorem s_lneg (hF : FxOk F own cc nL) {x : Int64} (hd : decode cc pc = .ok (.lneg, 1)) (k : Sim F enc (pc + 1) pls (.long (-x) :: st) μ o) : Sim F enc pc pls (.long x :: st) μ o :=
  sim_go (fun _ h => h.tl.cn (v := Value.long _) trivial) (fun ad H locs ls d mc ms cells slots Q hR hl kk => lv_lneg hF.1 hF.2.1 hd (kk ls hl)) k
theorem s_lcmp (hF : FxOk F own cc nL) {x y : Int64} (hd : decode cc pc = .ok (.lcmp, 1)) (k : Sim F enc (pc + 1) pls (.int (lg_cmp x y) :: st) μ o) : Sim F enc pc pls (.long y :: .long x :: st) μ o :=
  sim_go (fun _ h => h.tl.tl.cn (v := Value.int _) trivial) (fun ad H locs ls d mc ms cells slots Q hR hl kk => W.lcmp hF.1 hF.2.1 hd (kk ls hl)) k
theorem s_i2l (hF : FxOk F own cc nL) {x : Int32} (hd : decode cc pc = .ok (.i2l, 1)) (k : Sim F enc (pc + 1) pls (.long (x.toInt64) :: st) μ o) : Sim F enc pc pls (.int x :: st) μ o :=
  sim_go (fun _ h => h.tl.cn (v := Value.long _) trivial) (fun ad H locs ls d mc ms cells slots Q hR hl kk => lv_i2l hF.1 hF.2.1 hd rfl (kk ls hl)) k
theorem s_l2i (hF : FxOk F own cc nL) {x : Int64} (hd : decode cc pc = .ok (.l2i, 1)) (k : Sim F enc (pc + 1) pls (.int (x.toInt32) :: st) μ o) : Sim F enc pc pls (.long x :: st) μ o :=
  sim_go (fun _ h => h.tl.cn (v := Value.int _) trivial) (fun ad H locs ls d mc ms cells slots Q hR hl kk => lv_l2i hF.1 hF.2.1 hd rfl (kk ls hl)) k
theorem s_i2b (hF : FxOk F own cc nL) {x : Int32} (hd : decode cc pc = .ok (.i2b, 1)) (k : Sim F enc (pc + 1) pls (.int (x.toInt8.toInt32) :: st) μ o) : Sim F enc pc pls (.int x :: st) μ o :=
  sim_go (fun _ h => h.tl.cn (v := Value.int _) trivial) (fun ad H locs ls d mc ms cells slots Q hR hl kk => lv_i2b hF.1 hF.2.1 hd rfl (kk ls hl)) k
theorem s_i2s (hF : FxOk F own cc nL) {x : Int32} (hd : decode cc pc = .ok (.i2s, 1)) (k : Sim F enc (pc + 1) pls (.int (x.toInt16.toInt32) :: st) μ o) : Sim F enc pc pls (.int x :: st) μ o :=
  sim_go (fun _ h => h.tl.cn (v := Value.int _) trivial) (fun ad H locs ls d mc ms cells slots Q hR hl kk => lv_i2s hF.1 hF.2.1 hd rfl (kk ls hl)) k
theorem s_i2c (hF : FxOk F own cc nL) {x : Int32} (hd : decode cc pc = .ok (.i2c, 1)) (k : Sim F enc (pc + 1) pls (.int ((x.toUInt32 % 65536).toInt32) :: st) μ o) : Sim F enc pc pls (.int x :: st) μ o :=
  sim_go (fun _ h => h.tl.cn (v := Value.int _) trivial) (fun ad H locs ls d mc ms cells slots Q hR hl kk => lv_i2c hF.1 hF.2.1 hd rfl (kk ls hl)) k
theorem s_i2f (hF : FxOk F own cc nL) {x : Int32} (hd : decode cc pc = .ok (.i2f, 1)) (k : Sim F enc (pc + 1) pls (.float (FP.i2f x) :: st) μ o) : Sim F enc pc pls (.int x :: st) μ o :=
  sim_go (fun _ h => h.tl.cn (v := Value.float _) trivial) (fun ad H locs ls d mc ms cells slots Q hR hl kk => lv_i2f hF.1 hF.2.1 hd (kk ls hl)) k
theorem s_i2d (hF : FxOk F own cc nL) {x : Int32} (hd : decode cc pc = .ok (.i2d, 1)) (k : Sim F enc (pc + 1) pls (.double (FP.i2d x) :: st) μ o) : Sim F enc pc pls (.int x :: st) μ o :=
  sim_go (fun _ h => h.tl.cn (v := Value.double _) trivial) (fun ad H locs ls d mc ms cells slots Q hR hl kk => lv_i2d hF.1 hF.2.1 hd (kk ls hl)) k
theorem s_d2i (hF : FxOk F own cc nL) {x : UInt64} (hd : decode cc pc = .ok (.d2i, 1)) (k : Sim F enc (pc + 1) pls (.int (FP.d2i x) :: st) μ o) : Sim F enc pc pls (.double x :: st) μ o :=
  sim_go (fun _ h => h.tl.cn (v := Value.int _) trivial) (fun ad H locs ls d mc ms cells slots Q hR hl kk => lv_d2i hF.1 hF.2.1 hd (kk ls hl)) k
theorem s_dcmp (hF : FxOk F own cc nL) {x y : UInt64} {op : CmpOp} (hd : decode cc pc = .ok (.dcmp op, 1)) (k : Sim F enc (pc + 1) pls (.int (Op.cmpValue (FP.dcmp x y) op) :: st) μ o) : Sim F enc pc pls (.double y :: .double x :: st) μ o :=
  sim_go (fun _ h => h.tl.tl.cn (v := Value.int _) trivial) (fun ad H locs ls d mc ms cells slots Q hR hl kk => lv_dcmp hF.1 hF.2.1 hd (kk ls hl)) k
theorem s_fmul (hF : FxOk F own cc nL) {x y : UInt32} (hd : decode cc pc = .ok (.fmul, 1)) (hne : vf_n32 (FP.fmul x y)) (k : Sim F enc (pc + 1) pls (.float (FP.fmul x y) :: st) μ o) : Sim F enc pc pls (.float y :: .float x :: st) μ o :=
  sim_go (fun _ h => h.tl.tl.cn (v := Value.float _) trivial) (fun ad H locs ls d mc ms cells slots Q hR hl kk => lv_fmul hF.1 hF.2.1 hd hne (kk ls hl)) k
theorem s_fdiv (hF : FxOk F own cc nL) {x y : UInt32} (hd : decode cc pc = .ok (.fdiv, 1)) (hne : vf_n32 (FP.fdiv x y)) (k : Sim F enc (pc + 1) pls (.float (FP.fdiv x y) :: st) μ o) : Sim F enc pc pls (.float y :: .float x :: st) μ o :=
  sim_go (fun _ h => h.tl.tl.cn (v := Value.float _) trivial) (fun ad H locs ls d mc ms cells slots Q hR hl kk => lv_fdiv hF.1 hF.2.1 hd hne (kk ls hl)) k
theorem s_dmul (hF : FxOk F own cc nL) {x y : UInt64} (hd : decode cc pc = .ok (.dmul, 1)) (hne : vf_n64 (FP.dmul x y)) (k : Sim F enc (pc + 1) pls (.double (FP.dmul x y) :: st) μ o) : Sim F enc pc pls (.double y :: .double x :: st) μ o :=
  sim_go (fun _ h => h.tl.tl.cn (v := Value.double _) trivial) (fun ad H locs ls d mc ms cells slots Q hR hl kk => lv_dmul hF.1 hF.2.1 hd hne (kk ls hl)) k
theorem s_ddiv (hF : FxOk F own cc nL) {x y : UInt64} (hd : decode cc pc = .ok (.ddiv, 1)) (hne : vf_n64 (FP.ddiv x y)) (k : Sim F enc (pc + 1) pls (.double (FP.ddiv x y) :: st) μ o) : Sim F enc pc pls (.double y :: .double x :: st) μ o :=
  sim_go (fun _ h => h.tl.tl.cn (v := Value.double _) trivial) (fun ad H locs ls d mc ms cells slots Q hR hl kk => lv_ddiv hF.1 hF.2.1 hd hne (kk ls hl)) k
theorem s_f2d (hF : FxOk F own cc nL) {x : UInt32} (hd : decode cc pc = .ok (.f2d, 1)) (hne : vf_n64 (FP.f2d x)) (k : Sim F enc (pc + 1) pls (.double (FP.f2d x) :: st) μ o) : Sim F enc pc pls (.float x :: st) μ o :=
  sim_go (fun _ h => h.tl.cn (v := Value.double _) trivial) (fun ad H locs ls d mc ms cells slots Q hR hl kk => lv_f2d hF.1 hF.2.1 hd hne (kk ls hl)) k
theorem s_goto (hF : FxOk F own cc nL) {off : Int} {tgt : Nat} (hd : decode cc pc = .ok (.goto off, 3)) (ht : (pc : Int) + off = (tgt : Int)) (k : Sim F enc tgt pls st μ o) : Sim F enc pc pls st μ o :=
  sim_go (fun _ h => h) (fun ad H locs ls d mc ms cells slots Q hR hl kk => lv_goto hF.1 hF.2.1 hd ht (kk ls hl)) k
theorem s_if_eq (hF : FxOk F own cc nL) {x : Int32} {off : Int} {tgt : Nat} (hd : decode cc pc = .ok (.ifCond .eq off, 3)) (ht : (pc : Int) + off = (tgt : Int)) {a b : Option (α × Mem)} (h1 : x = 0 → Sim F enc tgt pls st μ a) (h2 : ¬ x = 0 → Sim F enc (pc + 3) pls st μ b) : Sim F enc pc pls (.int x :: st) μ (if x = 0 then a else b) :=
  sim_if (fun hc => sim_go (fun _ h => h.tl) (fun ad H locs ls d mc ms cells slots Q hR hl kk => lv_if_eq hF.1 hF.2.1 hd ht (fun _ => kk ls hl) (fun q => absurd hc q)) (h1 hc))
    (fun hc => sim_go (fun _ h => h.tl) (fun ad H locs ls d mc ms cells slots Q hR hl kk => lv_if_eq hF.1 hF.2.1 hd ht (fun q => absurd q hc) (fun _ => kk ls hl)) (h2 hc))
theorem s_if_ne (hF : FxOk F own cc nL) {x : Int32} {off : Int} {tgt : Nat} (hd : decode cc pc = .ok (.ifCond .ne off, 3)) (ht : (pc : Int) + off = (tgt : Int)) {a b : Option (α × Mem)} (h1 : x = 0 → Sim F enc (pc + 3) pls st μ a) (h2 : ¬ x = 0 → Sim F enc tgt pls st μ b) : Sim F enc pc pls (.int x :: st) μ (if x = 0 then a else b) :=
  sim_if (fun hc => sim_go (fun _ h => h.tl) (fun ad H locs ls d mc ms cells slots Q hR hl kk => lv_if_ne hF.1 hF.2.1 hd ht (fun q => absurd hc q) (fun _ => kk ls hl)) (h1 hc))
    (fun hc => sim_go (fun _ h => h.tl) (fun ad H locs ls d mc ms cells slots Q hR hl kk => lv_if_ne hF.1 hF.2.1 hd ht (fun _ => kk ls hl) (fun q => absurd q hc)) (h2 hc))
theorem s_if_lt (hF : FxOk F own cc nL) {x : Int32} {off : Int} {tgt : Nat} (hd : decode cc pc = .ok (.ifCond .lt off, 3)) (ht : (pc : Int) + off = (tgt : Int)) {a b : Option (α × Mem)} (h1 : x < 0 → Sim F enc tgt pls st μ a) (h2 : ¬ x < 0 → Sim F enc (pc + 3) pls st μ b) : Sim F enc pc pls (.int x :: st) μ (if x < 0 then a else b) :=
  sim_if (fun hc => sim_go (fun _ h => h.tl) (fun ad H locs ls d mc ms cells slots Q hR hl kk => lv_if_lt hF.1 hF.2.1 hd ht (fun _ => kk ls hl) (fun q => absurd hc q)) (h1 hc))
    (fun hc => sim_go (fun _ h => h.tl) (fun ad H locs ls d mc ms cells slots Q hR hl kk => lv_if_lt hF.1 hF.2.1 hd ht (fun q => absurd q hc) (fun _ => kk ls hl)) (h2 hc))
theorem s_if_ge (hF : FxOk F own cc nL) {x : Int32} {off : Int} {tgt : Nat} (hd : decode cc pc = .ok (.ifCond .ge off, 3)) (ht : (pc : Int) + off = (tgt : Int)) {a b : Option (α × Mem)} (h1 : 0 ≤ x → Sim F enc tgt pls st μ a) (h2 : ¬ 0 ≤ x → Sim F enc (pc + 3) pls st μ b) : Sim F enc pc pls (.int x :: st) μ (if 0 ≤ x then a else b) :=
  sim_if (fun hc => sim_go (fun _ h => h.tl) (fun ad H locs ls d mc ms cells slots Q hR hl kk => lv_if_ge hF.1 hF.2.1 hd ht (fun _ => kk ls hl) (fun q => absurd hc q)) (h1 hc))
    (fun hc => sim_go (fun _ h => h.tl) (fun ad H locs ls d mc ms cells slots Q hR hl kk => lv_if_ge hF.1 hF.2.1 hd ht (fun q => absurd q hc) (fun _ => kk ls hl)) (h2 hc))
theorem s_if_gt (hF : FxOk F own cc nL) {x : Int32} {off : Int} {tgt : Nat} (hd : decode cc pc = .ok (.ifCond .gt off, 3)) (ht : (pc : Int) + off = (tgt : Int)) {a b : Option (α × Mem)} (h1 : 0 < x → Sim F enc tgt pls st μ a) (h2 : ¬ 0 < x → Sim F enc (pc + 3) pls st μ b) : Sim F enc pc pls (.int x :: st) μ (if 0 < x then a else b) :=
  sim_if (fun hc => sim_go (fun _ h => h.tl) (fun ad H locs ls d mc ms cells slots Q hR hl kk => lv_if_gt hF.1 hF.2.1 hd ht (fun _ => kk ls hl) (fun q => absurd hc q)) (h1 hc))
    (fun hc => sim_go (fun _ h => h.tl) (fun ad H locs ls d mc ms cells slots Q hR hl kk => lv_if_gt hF.1 hF.2.1 hd ht (fun q => absurd q hc) (fun _ => kk ls hl)) (h2 hc))
theorem s_if_le (hF : FxOk F own cc nL) {x : Int32} {off : Int} {tgt : Nat} (hd : decode cc pc = .ok (.ifCond .le off, 3)) (ht : (pc : Int) + off = (tgt : Int)) {a b : Option (α × Mem)} (h1 : x ≤ 0 → Sim F enc tgt pls st μ a) (h2 : ¬ x ≤ 0 → Sim F enc (pc + 3) pls st μ b) : Sim F enc pc pls (.int x :: st) μ (if x ≤ 0 then a else b) :=
  sim_if (fun hc => sim_go (fun _ h => h.tl) (fun ad H locs ls d mc ms cells slots Q hR hl kk => lv_if_le hF.1 hF.2.1 hd ht (fun _ => kk ls hl) (fun q => absurd hc q)) (h1 hc))
    (fun hc => sim_go (fun _ h => h.tl) (fun ad H locs ls d mc ms cells slots Q hR hl kk => lv_if_le hF.1 hF.2.1 hd ht (fun q => absurd q hc) (fun _ => kk ls hl)) (h2 hc))
theorem s_icmp_eq (hF : FxOk F own cc nL) {x y : Int32} {off : Int} {tgt : Nat} (hd : decode cc pc = .ok (.if_icmp .eq off, 3)) (ht : (pc : Int) + off = (tgt : Int)) {a b : Option (α × Mem)} (h1 : x = y → Sim F enc tgt pls st μ a) (h2 : ¬ x = y → Sim F enc (pc + 3) pls st μ b) : Sim F enc pc pls (.int y :: .int x :: st) μ (if x = y then a else b) :=
  sim_if (fun hc => sim_go (fun _ h => h.tl.tl) (fun ad H locs ls d mc ms cells slots Q hR hl kk => lv_icmp_eq hF.1 hF.2.1 hd ht (fun _ => kk ls hl) (fun q => absurd hc q)) (h1 hc))
    (fun hc => sim_go (fun _ h => h.tl.tl) (fun ad H locs ls d mc ms cells slots Q hR hl kk => lv_icmp_eq hF.1 hF.2.1 hd ht (fun q => absurd q hc) (fun _ => kk ls hl)) (h2 hc))
theorem s_icmp_ne (hF : FxOk F own cc nL) {x y : Int32} {off : Int} {tgt : Nat} (hd : decode cc pc = .ok (.if_icmp .ne off, 3)) (ht : (pc : Int) + off = (tgt : Int)) {a b : Option (α × Mem)} (h1 : x = y → Sim F enc (pc + 3) pls st μ a) (h2 : ¬ x = y → Sim F enc tgt pls st μ b) : Sim F enc pc pls (.int y :: .int x :: st) μ (if x = y then a else b) :=
  sim_if (fun hc => sim_go (fun _ h => h.tl.tl) (fun ad H locs ls d mc ms cells slots Q hR hl kk => lv_icmp_ne hF.1 hF.2.1 hd ht (fun q => absurd hc q) (fun _ => kk ls hl)) (h1 hc))
    (fun hc => sim_go (fun _ h => h.tl.tl) (fun ad H locs ls d mc ms cells slots Q hR hl kk => lv_icmp_ne hF.1 hF.2.1 hd ht (fun _ => kk ls hl) (fun q => absurd q hc)) (h2 hc))
theorem s_icmp_lt (hF : FxOk F own cc nL) {x y : Int32} {off : Int} {tgt : Nat} (hd : decode cc pc = .ok (.if_icmp .lt off, 3)) (ht : (pc : Int) + off = (tgt : Int)) {a b : Option (α × Mem)} (h1 : x < y → Sim F enc tgt pls st μ a) (h2 : ¬ x < y → Sim F enc (pc + 3) pls st μ b) : Sim F enc pc pls (.int y :: .int x :: st) μ (if x < y then a else b) :=
  sim_if (fun hc => sim_go (fun _ h => h.tl.tl) (fun ad H locs ls d mc ms cells slots Q hR hl kk => lv_icmp_lt hF.1 hF.2.1 hd ht (fun _ => kk ls hl) (fun q => absurd hc q)) (h1 hc))
    (fun hc => sim_go (fun _ h => h.tl.tl) (fun ad H locs ls d mc ms cells slots Q hR hl kk => lv_icmp_lt hF.1 hF.2.1 hd ht (fun q => absurd q hc) (fun _ => kk ls hl)) (h2 hc))
theorem s_icmp_ge (hF : FxOk F own cc nL) {x y : Int32} {off : Int} {tgt : Nat} (hd : decode cc pc = .ok (.if_icmp .ge off, 3)) (ht : (pc : Int) + off = (tgt : Int)) {a b : Option (α × Mem)} (h1 : y ≤ x → Sim F enc tgt pls st μ a) (h2 : ¬ y ≤ x → Sim F enc (pc + 3) pls st μ b) : Sim F enc pc pls (.int y :: .int x :: st) μ (if y ≤ x then a else b) :=
  sim_if (fun hc => sim_go (fun _ h => h.tl.tl) (fun ad H locs ls d mc ms cells slots Q hR hl kk => lv_icmp_ge hF.1 hF.2.1 hd ht (fun _ => kk ls hl) (fun q => absurd hc q)) (h1 hc))
    (fun hc => sim_go (fun _ h => h.tl.tl) (fun ad H locs ls d mc ms cells slots Q hR hl kk => lv_icmp_ge hF.1 hF.2.1 hd ht (fun q => absurd q hc) (fun _ => kk ls hl)) (h2 hc))
theorem s_icmp_gt (hF : FxOk F own cc nL) {x y : Int32} {off : Int} {tgt : Nat} (hd : decode cc pc = .ok (.if_icmp .gt off, 3)) (ht : (pc : Int) + off = (tgt : Int)) {a b : Option (α × Mem)} (h1 : y < x → Sim F enc tgt pls st μ a) (h2 : ¬ y < x → Sim F enc (pc + 3) pls st μ b) : Sim F enc pc pls (.int y :: .int x :: st) μ (if y < x then a else b) :=
  sim_if (fun hc => sim_go (fun _ h => h.tl.tl) (fun ad H locs ls d mc ms cells slots Q hR hl kk => lv_icmp_gt hF.1 hF.2.1 hd ht (fun _ => kk ls hl) (fun q => absurd hc q)) (h1 hc))
    (fun hc => sim_go (fun _ h => h.tl.tl) (fun ad H locs ls d mc ms cells slots Q hR hl kk => lv_icmp_gt hF.1 hF.2.1 hd ht (fun q => absurd q hc) (fun _ => kk ls hl)) (h2 hc))
theorem s_icmp_le (hF : FxOk F own cc nL) {x y : Int32} {off : Int} {tgt : Nat} (hd : decode cc pc = .ok (.if_icmp .le off, 3)) (ht : (pc : Int) + off = (tgt : Int)) {a b : Option (α × Mem)} (h1 : x ≤ y → Sim F enc tgt pls st μ a) (h2 : ¬ x ≤ y → Sim F enc (pc + 3) pls st μ b) : Sim F enc pc pls (.int y :: .int x :: st) μ (if x ≤ y then a else b) :=
  sim_if (fun hc => sim_go (fun _ h => h.tl.tl) (fun ad H locs ls d mc ms cells slots Q hR hl kk => lv_icmp_le hF.1 hF.2.1 hd ht (fun _ => kk ls hl) (fun q => absurd hc q)) (h1 hc))
    (fun hc => sim_go (fun _ h => h.tl.tl) (fun ad H locs ls d mc ms cells slots Q hR hl kk => lv_icmp_le hF.1 hF.2.1 hd ht (fun q => absurd q hc) (fun _ => kk ls hl)) (h2 hc))
theorem s_ifnull_r (hF : FxOk F own cc nL) {x : Nat} {off : Int} (hd : decode cc pc = .ok (.ifnull off, 3)) (k : Sim F enc (pc + 3) pls st μ o) : Sim F enc pc pls (.ref x :: st) μ o :=
  sim_go (fun _ h => h.tl) (fun ad H locs ls d mc ms cells slots Q hR hl kk => lv_ifnull hF.1 hF.2.1 hd (kk ls hl)) k
theorem s_ifnull_n (hF : FxOk F own cc nL) {off : Int} {tgt : Nat} (hd : decode cc pc = .ok (.ifnull off, 3)) (ht : (pc : Int) + off = (tgt : Int)) (k : Sim F enc tgt pls st μ o) : Sim F enc pc pls (.null :: st) μ o :=
  sim_go (fun _ h => h.tl) (fun ad H locs ls d mc ms cells slots Q hR hl kk => lv_ifnullN hF.1 hF.2.1 hd ht (kk ls hl)) k
theorem s_ifnonnull_r (hF : FxOk F own cc nL) {x : Nat} {off : Int} {tgt : Nat} (hd : decode cc pc = .ok (.ifnonnull off, 3)) (ht : (pc : Int) + off = (tgt : Int)) (k : Sim F enc tgt pls st μ o) : Sim F enc pc pls (.ref x :: st) μ o :=
  sim_go (fun _ h => h.tl) (fun ad H locs ls d mc ms cells slots Q hR hl kk => lv_ifnonnull hF.1 hF.2.1 hd ht (kk ls hl)) k
theorem s_ifnonnull_n (hF : FxOk F own cc nL) {off : Int} (hd : decode cc pc = .ok (.ifnonnull off, 3)) (k : Sim F enc (pc + 3) pls st μ o) : Sim F enc pc pls (.null :: st) μ o :=
  sim_go (fun _ h => h.tl) (fun ad H locs ls d mc ms cells slots Q hR hl kk => lv_ifnonnullN hF.1 hF.2.1 hd (kk ls hl)) k
theorem s_tin (hF : FxOk F own cc nL) {dflt lo hi : Int} {offs : Array Int} {len : Nat} {x v : Int32} {off : Int} {tgt : Nat} (hd : decode cc pc = .ok (.tableswitch dflt lo hi offs, len)) (hx : x = v) (h1 : ¬ v.toInt < lo) (h2 : ¬ hi < v.toInt) (ho : offs[(v.toInt - lo).toNat]? = some off) (ht : (pc : Int) + off = (tgt : Int)) (k : Sim F enc tgt pls st μ o) : Sim F enc pc pls (.int x :: st) μ o :=
  sim_go (fun _ h => h.tl) (fun ad H locs ls d mc ms cells slots Q hR hl kk => by subst hx; exact lv_tableIn hF.1 hF.2.1 hd h1 h2 ho ht (kk ls hl)) k
theorem s_tout (hF : FxOk F own cc nL) {dflt lo hi : Int} {offs : Array Int} {len : Nat} {x : Int32} {tgt : Nat} (hd : decode cc pc = .ok (.tableswitch dflt lo hi offs, len)) (hx : x.toInt < lo ∨ hi < x.toInt) (ht : (pc : Int) + dflt = (tgt : Int)) (k : Sim F enc tgt pls st μ o) : Sim F enc pc pls (.int x :: st) μ o :=
  sim_go (fun _ h => h.tl) (fun ad H locs ls d mc ms cells slots Q hR hl kk => lv_tableOut hF.1 hF.2.1 hd hx ht (kk ls hl)) k
theorem s_lkp (hF : FxOk F own cc nL) {dflt : Int} {ps : Array (Int × Int)} {len : Nat} {x : Int32} {off : Int} {tgt : Nat} (hd : decode cc pc = .ok (.lookupswitch dflt ps, len)) (hp : (ps.toList.zip (ps.toList.drop 1)).all (fun (a, next) => a.1 < next.1) = true) (ho : Op.lookupswitch.offset ps.toList dflt x.toInt = off) (ht : (pc : Int) + off = (tgt : Int)) (k : Sim F enc tgt pls st μ o) : Sim F enc pc pls (.int x :: st) μ o :=
  sim_go (fun _ h => h.tl) (fun ad H locs ls d mc ms cells slots Q hR hl kk => lv_lookup hF.1 hF.2.1 hd hp ho ht (kk ls hl)) k
end SR
