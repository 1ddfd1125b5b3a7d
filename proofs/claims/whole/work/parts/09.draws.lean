/-! ===== ROWS that draw; numbers up to the bits of a NaN ===== -/
theorem dec_nan64 {a : UInt64} (h : isNaN64 a = true) : FP.Core.decode FP.Core.b64 a.toNat = FP.Core.Datum.nan := by
  have h := isNaN64_iff.mp h
  rw [show (0x7fffffffffffffff : Nat) = 2 ^ 63 - 1 from rfl, Nat.and_two_pow_sub_one_eq_mod] at h
  have hb := a.toNat_lt
  have h1 : FP.Core.fieldE FP.Core.b64 a.toNat = FP.Core.b64.exps - 1 := by
    show a.toNat / 2 ^ 52 % 2 ^ 11 = 2 ^ 11 - 1
    omega
  have h2 : ¬ FP.Core.fieldT FP.Core.b64 a.toNat = 0 := by
    show ¬ a.toNat % 2 ^ 52 = 0
    omega
  unfold FP.Core.decode
  rw [if_pos h1, if_neg h2]
theorem dec_nan32 {a : UInt32} (h : isNaN32 a = true) : FP.Core.decode FP.Core.b32 a.toNat = FP.Core.Datum.nan := by
  have h : 0x7f800000 < a.toNat &&& 0x7fffffff := by
    simp only [isNaN32, decide_eq_true_eq, gt_iff_lt, UInt32.lt_iff_toNat_lt, UInt32.toNat_and] at h
    exact h
  rw [show (0x7fffffff : Nat) = 2 ^ 31 - 1 from rfl, Nat.and_two_pow_sub_one_eq_mod] at h
  have hb := a.toNat_lt
  have h1 : FP.Core.fieldE FP.Core.b32 a.toNat = FP.Core.b32.exps - 1 := by
    show a.toNat / 2 ^ 23 % 2 ^ 8 = 2 ^ 8 - 1
    omega
  have h2 : ¬ FP.Core.fieldT FP.Core.b32 a.toNat = 0 := by
    show ¬ a.toNat % 2 ^ 23 = 0
    omega
  unfold FP.Core.decode
  rw [if_pos h1, if_neg h2]
theorem al_dec64 {a b : UInt64} (h : alike64 a b = true) : FP.Core.decode FP.Core.b64 a.toNat = FP.Core.decode FP.Core.b64 b.toNat := by
  simp only [alike64, Bool.or_eq_true, Bool.and_eq_true, decide_eq_true_eq] at h
  rcases h with rfl | ⟨h1, h2⟩
  · rfl
  · rw [dec_nan64 h1, dec_nan64 h2]
theorem al_dec32 {a b : UInt32} (h : alike32 a b = true) : FP.Core.decode FP.Core.b32 a.toNat = FP.Core.decode FP.Core.b32 b.toNat := by
  simp only [alike32, Bool.or_eq_true, Bool.and_eq_true, decide_eq_true_eq] at h
  rcases h with rfl | ⟨h1, h2⟩
  · rfl
  · rw [dec_nan32 h1, dec_nan32 h2]
theorem al32 (x : UInt32) : alike32 x x = true := by simp [alike32]
theorem al_dmul {a b c d r : UInt64} (h1 : alike64 a b = true) (h2 : alike64 c d = true) (hr : alike64 r (FP.dmul a c) = true) : alike64 r (FP.dmul b d) = true := by
  have : FP.dmul a c = FP.dmul b d := by show FP.Core.dmul _ _ = FP.Core.dmul _ _; unfold FP.Core.dmul FP.Core.mul; rw [al_dec64 h1, al_dec64 h2]
  rw [← this]
  exact hr
theorem al_ddiv {a b c d r : UInt64} (h1 : alike64 a b = true) (h2 : alike64 c d = true) (hr : alike64 r (FP.ddiv a c) = true) : alike64 r (FP.ddiv b d) = true := by
  have : FP.ddiv a c = FP.ddiv b d := by show FP.Core.ddiv _ _ = FP.Core.ddiv _ _; unfold FP.Core.ddiv FP.Core.div; rw [al_dec64 h1, al_dec64 h2]
  rw [← this]
  exact hr
theorem al_dsub {a b c d r : UInt64} (h1 : alike64 a b = true) (h2 : alike64 c d = true) (hr : alike64 r (FP.dsub a c) = true) : alike64 r (FP.dsub b d) = true := by
  have : FP.dsub a c = FP.dsub b d := by show FP.Core.dsub _ _ = FP.Core.dsub _ _; unfold FP.Core.dsub FP.Core.sub; rw [al_dec64 h1, al_dec64 h2]
  rw [← this]
  exact hr
theorem al_fmul {a b c d r : UInt32} (h1 : alike32 a b = true) (h2 : alike32 c d = true) (hr : alike32 r (FP.fmul a c) = true) : alike32 r (FP.fmul b d) = true := by
  have : FP.fmul a c = FP.fmul b d := by show FP.Core.fmul _ _ = FP.Core.fmul _ _; unfold FP.Core.fmul FP.Core.mul; rw [al_dec32 h1, al_dec32 h2]
  rw [← this]
  exact hr
theorem al_fdiv {a b c d r : UInt32} (h1 : alike32 a b = true) (h2 : alike32 c d = true) (hr : alike32 r (FP.fdiv a c) = true) : alike32 r (FP.fdiv b d) = true := by
  have : FP.fdiv a c = FP.fdiv b d := by show FP.Core.fdiv _ _ = FP.Core.fdiv _ _; unfold FP.Core.fdiv FP.Core.div; rw [al_dec32 h1, al_dec32 h2]
  rw [← this]
  exact hr
theorem nan_iff64 {a : UInt64} : isNaN64 a = true ↔ 0x7ff0000000000000 < a.toNat % 2 ^ 63 := by
  rw [isNaN64_iff, show (0x7fffffffffffffff : Nat) = 2 ^ 63 - 1 from rfl, Nat.and_two_pow_sub_one_eq_mod]
theorem f2d_nan {a : UInt32} (h : isNaN32 a = true) : isNaN64 (FP.f2d a) = true := by
  have h1 : FP.Core.fIsNaN a = true := by
    unfold FP.Core.fIsNaN FP.Core.isNaN
    rw [dec_nan32 h]
    rfl
  unfold FP.f2d
  rw [if_pos h1]
  unfold FP.nanF2D
  exact isNaN64_or_left (isNaN64_or_right (by decide))
theorem al_f2d {a b : UInt32} {r : UInt64} (h1 : alike32 a b = true) (hr : alike64 r (FP.f2d a) = true) : alike64 r (FP.f2d b) = true := by
  simp only [alike32, Bool.or_eq_true, Bool.and_eq_true, decide_eq_true_eq] at h1
  rcases h1 with rfl | ⟨h1, h2⟩
  · exact hr
  · have e1 := f2d_nan h1
    have e2 := f2d_nan h2
    simp only [alike64, Bool.or_eq_true, Bool.and_eq_true, decide_eq_true_eq] at hr ⊢
    rcases hr with rfl | ⟨hr, -⟩
    · exact Or.inr ⟨e1, e2⟩
    · exact Or.inr ⟨hr, e2⟩
theorem al_d2i {a b : UInt64} (h1 : alike64 a b = true) : FP.d2i a = FP.d2i b := by
  show FP.Core.d2i _ = FP.Core.d2i _
  unfold FP.Core.d2i
  rw [al_dec64 h1]
theorem al_dcmp {a b c d : UInt64} (h1 : alike64 a b = true) (h2 : alike64 c d = true) : FP.dcmp a c = FP.dcmp b d := by
  show FP.Core.dcmp _ _ = FP.Core.dcmp _ _
  unfold FP.Core.dcmp FP.Core.cmp
  rw [al_dec64 h1, al_dec64 h2]
section SDR
variable {α : Type} {F : Option Fx} {enc : α → Outc} {own : String} {cc : ByteArray} {nL v : Nat} {pc : Nat} {pls : List (Nat × Value)} {st : List Value} {μ : Mem} {o : Option (α × Mem)} {ret : Option FieldType}
theorem s_d2iA {x y : UInt64} (hF : FxO F own cc nL v) (hd : decode cc pc = .ok (.d2i, 1)) (hal : alike64 y x = true) (k : Sim F enc (pc + 1) pls (.int (FP.d2i x) :: st) μ o) : Sim F enc pc pls (.double y :: st) μ o := by
  rw [← al_d2i hal] at k
  exact s_d2i hF hd k
theorem s_dcmpA {x x' y y' : UInt64} {op : CmpOp} (hF : FxO F own cc nL v) (hd : decode cc pc = .ok (.dcmp op, 1)) (h1 : alike64 x' x = true) (h2 : alike64 y' y = true) (k : Sim F enc (pc + 1) pls (.int (Op.cmpValue (FP.dcmp x y) op) :: st) μ o) : Sim F enc pc pls (.double y' :: .double x' :: st) μ o := by
  rw [← al_dcmp h1 h2] at k
  exact s_dcmp hF hd k
theorem s_dmulA {x y : UInt64} (hF : FxO F own cc nL v) (hD : FxDO F ret) (hd : decode cc pc = .ok (.dmul, 1)) (k : ∀ r : UInt64, alike64 r (FP.dmul x y) = true → Sim F enc (pc + 1) pls (.double r :: st) μ o) : Sim F enc pc pls (.double y :: .double x :: st) μ o := by
  intro r' μ' ho
  refine ⟨(k _ (al64 _) r' μ' ho).1, fun G hG ad H locs ls d hR hdp hV hl => ?_⟩
  obtain ⟨-, -, e1, -⟩ := hD G hG
  have hdp0 := hdp
  rw [e1] at hdp
  refine lv_dmul_any hdp lw_bits (hF G hG).1 (hF G hG).2.1 hd (fun r d1 hal hd1 => ?_)
  exact (k r hal r' μ' ho).2 G hG ad H locs ls d1 hR (by rw [e1]; exact hd1) (hV.tl.tl.cn (v := Value.double _) trivial) hl
theorem s_ddivA {x y : UInt64} (hF : FxO F own cc nL v) (hD : FxDO F ret) (hd : decode cc pc = .ok (.ddiv, 1)) (k : ∀ r : UInt64, alike64 r (FP.ddiv x y) = true → Sim F enc (pc + 1) pls (.double r :: st) μ o) : Sim F enc pc pls (.double y :: .double x :: st) μ o := by
  intro r' μ' ho
  refine ⟨(k _ (al64 _) r' μ' ho).1, fun G hG ad H locs ls d hR hdp hV hl => ?_⟩
  obtain ⟨-, -, e1, -⟩ := hD G hG
  have hdp0 := hdp
  rw [e1] at hdp
  refine lv_ddiv_any hdp lw_bits (hF G hG).1 (hF G hG).2.1 hd (fun r d1 hal hd1 => ?_)
  exact (k r hal r' μ' ho).2 G hG ad H locs ls d1 hR (by rw [e1]; exact hd1) (hV.tl.tl.cn (v := Value.double _) trivial) hl
theorem s_dsubA {x y : UInt64} (hF : FxO F own cc nL v) (hD : FxDO F ret) (hd : decode cc pc = .ok (.dsub, 1)) (k : ∀ r : UInt64, alike64 r (FP.dsub x y) = true → Sim F enc (pc + 1) pls (.double r :: st) μ o) : Sim F enc pc pls (.double y :: .double x :: st) μ o := by
  intro r' μ' ho
  refine ⟨(k _ (al64 _) r' μ' ho).1, fun G hG ad H locs ls d hR hdp hV hl => ?_⟩
  obtain ⟨-, -, e1, -⟩ := hD G hG
  have hdp0 := hdp
  rw [e1] at hdp
  refine lv_dsub_any hdp lw_bits (hF G hG).1 (hF G hG).2.1 hd (fun r d1 hal hd1 => ?_)
  exact (k r hal r' μ' ho).2 G hG ad H locs ls d1 hR (by rw [e1]; exact hd1) (hV.tl.tl.cn (v := Value.double _) trivial) hl
theorem s_fmulA {x y : UInt32} (hF : FxO F own cc nL v) (hD : FxDO F ret) (hd : decode cc pc = .ok (.fmul, 1)) (k : ∀ r : UInt32, alike32 r (FP.fmul x y) = true → Sim F enc (pc + 1) pls (.float r :: st) μ o) : Sim F enc pc pls (.float y :: .float x :: st) μ o := by
  intro r' μ' ho
  refine ⟨(k _ (al32 _) r' μ' ho).1, fun G hG ad H locs ls d hR hdp hV hl => ?_⟩
  obtain ⟨-, -, e1, -⟩ := hD G hG
  have hdp0 := hdp
  rw [e1] at hdp
  refine lv_fmul_any hdp lw_bits (hF G hG).1 (hF G hG).2.1 hd (fun r d1 hal hd1 => ?_)
  exact (k r hal r' μ' ho).2 G hG ad H locs ls d1 hR (by rw [e1]; exact hd1) (hV.tl.tl.cn (v := Value.float _) trivial) hl
theorem s_fdivA {x y : UInt32} (hF : FxO F own cc nL v) (hD : FxDO F ret) (hd : decode cc pc = .ok (.fdiv, 1)) (k : ∀ r : UInt32, alike32 r (FP.fdiv x y) = true → Sim F enc (pc + 1) pls (.float r :: st) μ o) : Sim F enc pc pls (.float y :: .float x :: st) μ o := by
  intro r' μ' ho
  refine ⟨(k _ (al32 _) r' μ' ho).1, fun G hG ad H locs ls d hR hdp hV hl => ?_⟩
  obtain ⟨-, -, e1, -⟩ := hD G hG
  have hdp0 := hdp
  rw [e1] at hdp
  refine lv_fdiv_any hdp lw_bits (hF G hG).1 (hF G hG).2.1 hd (fun r d1 hal hd1 => ?_)
  exact (k r hal r' μ' ho).2 G hG ad H locs ls d1 hR (by rw [e1]; exact hd1) (hV.tl.tl.cn (v := Value.float _) trivial) hl
theorem s_f2dA {x : UInt32} (hF : FxO F own cc nL v) (hD : FxDO F ret) (hd : decode cc pc = .ok (.f2d, 1)) (k : ∀ r : UInt64, alike64 r (FP.f2d x) = true → Sim F enc (pc + 1) pls (.double r :: st) μ o) : Sim F enc pc pls (.float x :: st) μ o := by
  intro r' μ' ho
  refine ⟨(k _ (al64 _) r' μ' ho).1, fun G hG ad H locs ls d hR hdp hV hl => ?_⟩
  obtain ⟨-, -, e1, -⟩ := hD G hG
  rw [e1] at hdp
  refine lv_f2d_any hdp lw_bits (hF G hG).1 (hF G hG).2.1 hd (fun r d1 hal hd1 => ?_)
  exact (k r hal r' μ' ho).2 G hG ad H locs ls d1 hR (by rw [e1]; exact hd1) (hV.tl.cn (v := Value.double _) trivial) hl
end SDR
