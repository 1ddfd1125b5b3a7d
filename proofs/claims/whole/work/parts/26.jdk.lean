/-! ===== THE JDK's String over constants; arraycopy ===== -/
def sLen (k : Nat) : Nat := lenS.getD k 0
def sChr (k i : Nat) : Int32 := (bytS.getD k []).getD i 0
section SJ
variable {α : Type} {F : Option Fx} {enc : α → Outc} {own : String} {cc : ByteArray} {nL v : Nat} {pc : Nat} {pls : List (Nat × Value)} {st : List Value} {μ : Mem} {o : Option (α × Mem)} {ret : Option FieldType}
theorem s_ldcS {idx j : Nat} {tx : String} (hF : FxO F own cc nL v) (hD : FxXO F ret) (hd : decode cc pc = .ok (.ldc idx, 2)) (hs : strL[j]? = some (own, idx, tx)) (k : Sim F enc (pc + 2) pls (.retAddr j :: st) μ o) : Sim F enc pc pls st μ o := by
  refine sim_go (fun _ h => h.cn (v := Value.retAddr _) trivial) (fun G hG ad H locs ls d mc ms cells slots Q hR hl kk => ?_) k
  have hX := (hD G hG).2.2.2.2.2.2.2.2.2
  exact va_ldcS (s := (x_s G).setDrawn d) (hF G hG).1 (hF G hG).2.1 (hF G hG).2.2.2.2.1 (vk_R.same (u := x_s G) (U := (x_s G).setDrawn d) rfl (hX.1 j _ hs)) hd (kk ls hl)
theorem s_sval {j : Nat} (hF : FxO F own cc nL v) (hD : FxXO F ret) {idx : Nat} (hd : decode cc pc = .ok (.getfield idx, 3)) (hw : Cond.fieldLink own idx "java/lang/String" "value" "[B" ∈ WA) (hj : j < 10) (k : Sim F enc (pc + 3) pls (.retAddr (100 + j) :: st) μ o) : Sim F enc pc pls (.retAddr j :: st) μ o := by
  refine sim_go (fun _ h => h.tl.cn (v := Value.retAddr _) trivial) (fun G hG ad H locs ls d mc ms cells slots Q hR hl kk => ?_) k
  have hX := (hD G hG).2.2.2.2.2.2.2.2.2
  exact vk_getf (s := (x_s G).setDrawn d) (A := x_A G) (v := .ref ((x_g G).2.2.2 (100 + j))) (hF G hG).1 (hF G hG).2.1 (va_OF.moved (u := x_s G) (U := (x_s G).setDrawn d) (Vm.Alike.refl _) (hX.2.1.1 j hj).2.2.1) hR.2.2.1 (hF G hG).2.2.2.2.1 ((hF G hG).ht d _ hw) (fun _ q => q) hd (kk ls hl)
theorem s_scod {j : Nat} (hF : FxO F own cc nL v) (hD : FxXO F ret) {idx : Nat} (hd : decode cc pc = .ok (.getfield idx, 3)) (hw : Cond.fieldLink own idx "java/lang/String" "coder" "B" ∈ WA) (hj : j < 10) (k : Sim F enc (pc + 3) pls (.int 0 :: st) μ o) : Sim F enc pc pls (.retAddr j :: st) μ o := by
  refine sim_go (fun _ h => h.tl.cn (v := Value.int _) trivial) (fun G hG ad H locs ls d mc ms cells slots Q hR hl kk => ?_) k
  have hX := (hD G hG).2.2.2.2.2.2.2.2.2
  exact vk_getf (s := (x_s G).setDrawn d) (A := x_A G) (v := .int 0) (hF G hG).1 (hF G hG).2.1 (va_OF.moved (u := x_s G) (U := (x_s G).setDrawn d) (Vm.Alike.refl _) (hX.2.1.1 j hj).2.1) hR.2.2.1 (hF G hG).2.2.2.2.1 ((hF G hG).ht d _ hw) (fun _ q => q) hd (kk ls hl)
theorem s_slen {j : Nat} (hF : FxO F own cc nL v) (hD : FxXO F ret) (hd : decode cc pc = .ok (.arraylength, 1)) (hj : j < 10) (k : Sim F enc (pc + 1) pls (.int (nI (sLen j)) :: st) μ o) : Sim F enc pc pls (.retAddr (100 + j) :: st) μ o := by
  refine sim_go (fun _ h => h.tl.cn (v := Value.int _) trivial) (fun G hG ad H locs ls d mc ms cells slots Q hR hl kk => ?_) k
  have hX := (hD G hG).2.2.2.2.2.2.2.2.2
  exact va_tlen (s := (x_s G).setDrawn d) (A := x_A G) (hF G hG).1 (hF G hG).2.1 (va_T.moved (u := x_s G) (U := (x_s G).setDrawn d) (Vm.Alike.refl _) (hX.2.1.1 j hj).2.2.2) hR.2.2.1 rfl hd (kk ls hl)
theorem s_sba {j : Nat} {i : Int32} (hF : FxO F own cc nL v) (hD : FxXO F ret) (hd : decode cc pc = .ok (.baload, 1)) (hj : j < 10) (hi : vp_in i (sLen j)) (k : Sim F enc (pc + 1) pls (.int (sChr j i.toNatClampNeg) :: st) μ o) : Sim F enc pc pls (.int i :: .retAddr (100 + j) :: st) μ o := by
  refine sim_go (fun _ h => h.tl.tl.cn (v := Value.int _) trivial) (fun G hG ad H locs ls d mc ms cells slots Q hR hl kk => ?_) k
  have hX := (hD G hG).2.2.2.2.2.2.2.2.2
  exact va_tb (s := (x_s G).setDrawn d) (A := x_A G) (hF G hG).1 (hF G hG).2.1 (va_T.moved (u := x_s G) (U := (x_s G).setDrawn d) (Vm.Alike.refl _) (hX.2.1.1 j hj).2.2.2) hR.2.2.1 hi rfl hd (kk ls hl)
theorem s_gcs {idx : Nat} (hF : FxO F own cc nL v) (hD : FxXO F ret) (hd : decode cc pc = .ok (.getstatic idx, 3)) (hw : Cond.fieldLink own idx "java/lang/String" "COMPACT_STRINGS" "Z" ∈ WA) (k : Sim F enc (pc + 3) pls (.int 1 :: st) μ o) : Sim F enc pc pls st μ o := by
  refine sim_go (fun _ h => h.cn (v := Value.int _) trivial) (fun G hG ad H locs ls d mc ms cells slots Q hR hl kk => ?_) k
  have hX := (hD G hG).2.2.2.2.2.2.2.2.2
  exact va_gets (s := (x_s G).setDrawn d) (A := x_A G) (hF G hG).1 (hF G hG).2.1 (va_Z.moved (u := x_s G) (U := (x_s G).setDrawn d) (Vm.Alike.refl _) hX.2.2.1) hR.2.2.1 (hF G hG).2.2.2.2.1 ((hF G hG).ht d _ hw) (fun _ q => q) hd (kk ls hl)
theorem s_gfm {idx : Nat} (hF : FxO F own cc nL v) (hD : FxXO F ret) (hd : decode cc pc = .ok (.getstatic idx, 3)) (hw : Cond.fieldLink own idx "jdk/internal/util/Preconditions" "SIOOBE_FORMATTER" "Ljava/util/function/BiFunction;" ∈ WA) (k : ∀ w : Value, (w = .null ∨ w = .retAddr 200) → Sim F enc (pc + 3) pls (w :: st) μ o) : Sim F enc pc pls st μ o := by
  intro r μ' ho
  refine ⟨(k .null (Or.inl rfl) r μ' ho).1, fun G hG ad H locs ls d hR hdp hV hl => ?_⟩
  have hX := (hD G hG).2.2.2.2.2.2.2.2.2
  rcases hX.2.2.2 with z | z
  · exact va_gets (s := (x_s G).setDrawn d) (A := x_A G) (hF G hG).1 (hF G hG).2.1 (va_Z.moved (u := x_s G) (U := (x_s G).setDrawn d) (Vm.Alike.refl _) z) hR.2.2.1 (hF G hG).2.2.2.2.1 ((hF G hG).ht d _ hw) (fun _ q => q) hd ((k .null (Or.inl rfl) r μ' ho).2 G hG ad H locs ls d hR hdp (hV.cn (v := Value.null) trivial) hl)
  · exact va_gets (s := (x_s G).setDrawn d) (A := x_A G) (hF G hG).1 (hF G hG).2.1 (va_Z.moved (u := x_s G) (U := (x_s G).setDrawn d) (Vm.Alike.refl _) z) hR.2.2.1 (hF G hG).2.2.2.2.1 ((hF G hG).ht d _ hw) (fun _ q => q) hd ((k (.retAddr 200) (Or.inr rfl) r μ' ho).2 G hG ad H locs ls d hR hdp (hV.cn (v := Value.retAddr _) trivial) hl)
/-- a call on a string constant -/
theorem s_callXs {β : Type} {encβ : β → Outc} {lift : Option (β × Mem)} {kf : β → Mem → Option (α × Mem)} {stk : List Value} {v' idx n j : Nat} {y : MethodName} {cc' : ByteArray} {maxL' : Nat} {ret' : Option FieldType} {As : List Value} (hF : FxO F own cc nL v) (hD : FxXO F ret) (hd : decode cc pc = .ok (.invokevirtual idx, 3)) (hcw : CWV own idx y cc' maxL' ret' n)
    (hvv : v' + 1 ≤ v) (hml : maxL' ≤ 41) (hqy : y.cls = "java/lang/String") (hj : j < 10) (hst : stk = As.reverse ++ .retAddr j :: st) (hn : As.length = n) (hcat : (st.map fun v => v.category).sum ≤ 8)
    (hC : ∀ (r : β) (μ1 : Mem), lift = some (r, μ1) → CtX y cc' maxL' ret' v' (.retAddr j :: As) μ (encβ r) μ1)
    (hx : ∀ (r : β) (μ1 : Mem) (k : Nat), lift = some (r, μ1) → encβ r = .inr k → ∃ rr, kf r μ1 = some (rr, μ1) ∧ enc rr = .inr k)
    (kk : ∀ (r : β) (μ1 : Mem) (v0 w : Option Value), lift = some (r, μ1) → Mono μ μ1 → encβ r = .inl v0 → rvp v0 w → Sim F enc (pc + 3) pls (w.toList ++ st) μ1 (kf r μ1)) : Sim F enc pc pls stk μ (obind lift kf) := by
  subst hst
  refine s_callX hF hD hC (fun w hw => by simp [hw]) (fun w hw => ?_) (fun G hG ad H locs ls Qc XC mc ms cells slots R hFG hFC hR hlv r1 r2 r3 r4 hM => ?_) hx kk
  · rcases List.mem_cons.mp hw with rfl | hw <;> simp [*]
  · refine ⟨_, vx_runV (C := y.cls) (As := As.map (tr (x_g G) ad)) (rest := st.map (tr (x_g G) ad)) ⟨hFG.1, hFG.2.1, hFG.2.2.1, hFG.2.2.2.2.1, hFG.2.2.2.1⟩ hM (cwV n hFG.2.2.2.1 hcw.1 rfl rfl rfl ⟨rfl, hcw.2.1, hcw.2.2.1, hcw.2.2.2⟩ ⟨(by show v' + 1 ≤ R.frames; omega), (by show 8 + (maxL' + 11) + 60 * v' ≤ R.locals; omega)⟩) ⟨blindPRx, ?_, fun U hU hW => ⟨rfl, prx_of hFG hFC hR U hU hW⟩⟩ rfl (by simpa using hn) hlv.1 (by simp; rfl) (lv_room (by rw [cat_tr]; exact hcat)) hd ⟨r3, r4⟩⟩
    rw [hqy]
    exact vk_recv (A := x_A G) hFC.2.2.2.2.1 hj hR.2.2.1
theorem s_xsi {lift : Option (Int32 × Mem)} {kf : Int32 → Mem → Option (α × Mem)} {stk : List Value} {v' idx n j : Nat} {y : MethodName} {cc' : ByteArray} {maxL' : Nat} {ret' : Option FieldType} (As : List Value) (hF : FxO F own cc nL v) (hD : FxXO F ret) (hd : decode cc pc = .ok (.invokevirtual idx, 3)) (hcw : CWV own idx y cc' maxL' ret' n)
    (hvv : v' + 1 ≤ v) (hml : maxL' ≤ 41) (hqy : y.cls = "java/lang/String") (hj : j < 10) (hst : stk = As.reverse ++ .retAddr j :: st) (hn : As.length = n) (hcat : (st.map fun v => v.category).sum ≤ 8)
    (hC : ∀ (r : Int32) (μ1 : Mem), lift = some (r, μ1) → CtX y cc' maxL' ret' v' (.retAddr j :: As) μ (encI r) μ1)
    (kk : ∀ (r : Int32) (μ1 : Mem), lift = some (r, μ1) → Mono μ μ1 → Sim F enc (pc + 3) pls (.int r :: st) μ1 (kf r μ1)) : Sim F enc pc pls stk μ (obind lift kf) :=
  s_callXs hF hD hd hcw hvv hml hqy hj hst hn hcat hC (fun _ _ _ _ h => by cases h) (fun r μ1 v0 w hl hm he hw => by cases he; cases hw; exact kk r μ1 hl hm)
end SJ
theorem obind_some {α β : Type} {r : β} {μ : Mem} {k : β → Mem → Option (α × Mem)} : obind (some (r, μ)) k = k r μ := rfl

theorem wcJ0_coder_7d493 : Cond.code yJ0_coder_7d493 cJ0_coder_7d493 1 (some .byte) ∈ WA := (wa_of 797 (by decide +kernel) rfl)
theorem wiJ0_coder_7d493 : Cond.instanceMethod yJ0_coder_7d493 ∈ WA := (wa_of 795 (by decide +kernel) rfl)
theorem wsJ0_coder_7d493 : Cond.selects yJ0_coder_7d493.cls yJ0_coder_7d493 yJ0_coder_7d493 ∈ WA := (wa_of 796 (by decide +kernel) rfl)
theorem wpJ0_coder_7d493 : yJ0_coder_7d493.cls ≠ "java/lang/invoke/MethodHandle" ∧ yJ0_coder_7d493.cls ≠ "java/lang/invoke/VarHandle" ∧ (parseMethodDescriptor yJ0_coder_7d493.desc).map (fun d => d.parameters.length) = some 0 := by decide +kernel
theorem wnJ0 : Cond.initialized RJ0 ∈ WA := (wa_of 121 (by decide +kernel) rfl)
theorem plJ0 : plainName RJ0 = true := by decide +kernel
theorem wcJ0_isLatin1_aae02 : Cond.code yJ0_isLatin1_aae02 cJ0_isLatin1_aae02 1 (some .boolean) ∈ WA := (wa_of 807 (by decide +kernel) rfl)
theorem wiJ0_isLatin1_aae02 : Cond.instanceMethod yJ0_isLatin1_aae02 ∈ WA := (wa_of 805 (by decide +kernel) rfl)
theorem wsJ0_isLatin1_aae02 : Cond.selects yJ0_isLatin1_aae02.cls yJ0_isLatin1_aae02 yJ0_isLatin1_aae02 ∈ WA := (wa_of 806 (by decide +kernel) rfl)
theorem wpJ0_isLatin1_aae02 : yJ0_isLatin1_aae02.cls ≠ "java/lang/invoke/MethodHandle" ∧ yJ0_isLatin1_aae02.cls ≠ "java/lang/invoke/VarHandle" ∧ (parseMethodDescriptor yJ0_isLatin1_aae02.desc).map (fun d => d.parameters.length) = some 0 := by decide +kernel
theorem wcJ0_length_8abf5 : Cond.code yJ0_length_8abf5 cJ0_length_8abf5 1 (some .int) ∈ WA := (wa_of 793 (by decide +kernel) rfl)
theorem wiJ0_length_8abf5 : Cond.instanceMethod yJ0_length_8abf5 ∈ WA := (wa_of 791 (by decide +kernel) rfl)
theorem wsJ0_length_8abf5 : Cond.selects yJ0_length_8abf5.cls yJ0_length_8abf5 yJ0_length_8abf5 ∈ WA := (wa_of 792 (by decide +kernel) rfl)
theorem wpJ0_length_8abf5 : yJ0_length_8abf5.cls ≠ "java/lang/invoke/MethodHandle" ∧ yJ0_length_8abf5.cls ≠ "java/lang/invoke/VarHandle" ∧ (parseMethodDescriptor yJ0_length_8abf5.desc).map (fun d => d.parameters.length) = some 0 := by decide +kernel
theorem wcJ3_checkIndex_8e157 : Cond.code yJ3_checkIndex_8e157 cJ3_checkIndex_8e157 3 (some .int) ∈ WA := (wa_of 818 (by decide +kernel) rfl)
theorem wtJ3_checkIndex_8e157 : Cond.static yJ3_checkIndex_8e157 ∈ WA := (wa_of 817 (by decide +kernel) rfl)
theorem wpJ3_checkIndex_8e157 : yJ3_checkIndex_8e157.cls ≠ "java/lang/invoke/MethodHandle" ∧ yJ3_checkIndex_8e157.cls ≠ "java/lang/invoke/VarHandle" ∧ (parseMethodDescriptor yJ3_checkIndex_8e157.desc).map (fun d => d.parameters.length) = some 3 := by decide +kernel
theorem wnJ3 : Cond.initialized RJ3 ∈ WA := (wa_of 123 (by decide +kernel) rfl)
theorem plJ3 : plainName RJ3 = true := by decide +kernel
theorem wcJ0_checkIndex_df160 : Cond.code yJ0_checkIndex_df160 cJ0_checkIndex_df160 2 none ∈ WA := (wa_of 813 (by decide +kernel) rfl)
theorem wtJ0_checkIndex_df160 : Cond.static yJ0_checkIndex_df160 ∈ WA := (wa_of 812 (by decide +kernel) rfl)
theorem wpJ0_checkIndex_df160 : yJ0_checkIndex_df160.cls ≠ "java/lang/invoke/MethodHandle" ∧ yJ0_checkIndex_df160.cls ≠ "java/lang/invoke/VarHandle" ∧ (parseMethodDescriptor yJ0_checkIndex_df160.desc).map (fun d => d.parameters.length) = some 2 := by decide +kernel
theorem wcJ1_charAt_3b067 : Cond.code yJ1_charAt_3b067 cJ1_charAt_3b067 2 (some .char) ∈ WA := (wa_of 810 (by decide +kernel) rfl)
theorem wtJ1_charAt_3b067 : Cond.static yJ1_charAt_3b067 ∈ WA := (wa_of 809 (by decide +kernel) rfl)
theorem wpJ1_charAt_3b067 : yJ1_charAt_3b067.cls ≠ "java/lang/invoke/MethodHandle" ∧ yJ1_charAt_3b067.cls ≠ "java/lang/invoke/VarHandle" ∧ (parseMethodDescriptor yJ1_charAt_3b067.desc).map (fun d => d.parameters.length) = some 2 := by decide +kernel
theorem wnJ1 : Cond.initialized RJ1 ∈ WA := (wa_of 122 (by decide +kernel) rfl)
theorem plJ1 : plainName RJ1 = true := by decide +kernel
theorem wcJ0_charAt_5068e : Cond.code yJ0_charAt_5068e cJ0_charAt_5068e 2 (some .char) ∈ WA := (wa_of 803 (by decide +kernel) rfl)
theorem wiJ0_charAt_5068e : Cond.instanceMethod yJ0_charAt_5068e ∈ WA := (wa_of 801 (by decide +kernel) rfl)
theorem wsJ0_charAt_5068e : Cond.selects yJ0_charAt_5068e.cls yJ0_charAt_5068e yJ0_charAt_5068e ∈ WA := (wa_of 802 (by decide +kernel) rfl)
theorem wpJ0_charAt_5068e : yJ0_charAt_5068e.cls ≠ "java/lang/invoke/MethodHandle" ∧ yJ0_charAt_5068e.cls ≠ "java/lang/invoke/VarHandle" ∧ (parseMethodDescriptor yJ0_charAt_5068e.desc).map (fun d => d.parameters.length) = some 1 := by decide +kernel
theorem ctJ0_coder {j : Nat} (hj : j < 10) (μ : Mem) : CtX yJ0_coder_7d493 cJ0_coder_7d493 1 (some .byte) 0 [.retAddr j] μ (encI 0) μ := by
  refine ct_enterX (o := some ((0 : Int32), μ)) (enc := encI) plJ0 (Nat.le_of_ble_eq_true rfl) (fun F hF hD _ => ?_) 0 μ rfl
  refine s_gcs hF hD dJ0_coder_7d493_0 (wa_of 798 (by decide +kernel) rfl) ?_
  rw [show (some ((0 : Int32), μ)) = if (1 : Int32) = 0 then none else some ((0 : Int32), μ) from rfl]
  refine s_if_eq (tgt := 13) hF dJ0_coder_7d493_3 rfl (fun _ => sim_none) (fun _ => ?_)
  refine s_sload_n hF dJ0_coder_7d493_6 rfl 0 rfl ?_
  refine s_scod hF hD dJ0_coder_7d493_7 (wa_of 2181 (by decide +kernel) rfl) hj ?_
  refine s_goto (tgt := 14) hF dJ0_coder_7d493_10 rfl ?_
  exact s_nretX hF hD dJ0_coder_7d493_14 rfl rfl
theorem ctJ0_isLatin1 {j : Nat} (hj : j < 10) (μ : Mem) : CtX yJ0_isLatin1_aae02 cJ0_isLatin1_aae02 1 (some .boolean) 0 [.retAddr j] μ (encI 1) μ := by
  refine ct_enterX (o := some ((1 : Int32), μ)) (enc := encI) plJ0 (Nat.le_of_ble_eq_true rfl) (fun F hF hD _ => ?_) 1 μ rfl
  refine s_gcs hF hD dJ0_isLatin1_aae02_0 (wa_of 798 (by decide +kernel) rfl) ?_
  rw [show (some ((1 : Int32), μ)) = if (1 : Int32) = 0 then none else some ((1 : Int32), μ) from rfl]
  refine s_if_eq (tgt := 17) hF dJ0_isLatin1_aae02_3 rfl (fun _ => sim_none) (fun _ => ?_)
  refine s_sload_n hF dJ0_isLatin1_aae02_6 rfl 0 rfl ?_
  refine s_scod hF hD dJ0_isLatin1_aae02_7 (wa_of 2181 (by decide +kernel) rfl) hj ?_
  rw [show (some ((1 : Int32), μ)) = if (0 : Int32) = 0 then some ((1 : Int32), μ) else none from rfl]
  refine s_if_ne (tgt := 17) hF dJ0_isLatin1_aae02_10 rfl (fun _ => ?_) (fun _ => sim_none)
  refine s_iconst (v := (1 : Int32)) hF dJ0_isLatin1_aae02_13 kI_1 ?_
  refine s_goto (tgt := 18) hF dJ0_isLatin1_aae02_14 rfl ?_
  exact s_zretX hF hD dJ0_isLatin1_aae02_18 rfl rfl
theorem ctJ0_length {j : Nat} (hj : j < 10) (μ : Mem) : CtX yJ0_length_8abf5 cJ0_length_8abf5 1 (some .int) 1 [.retAddr j] μ (encI (nI (sLen j) >>> ((0 : Int32) &&& 31))) μ := by
  refine ct_enterX (o := obind (some ((0 : Int32), μ)) (fun r m => some ((nI (sLen j) >>> (r &&& 31)), m))) (enc := encI) plJ0 (Nat.le_of_ble_eq_true rfl) (fun F hF hD _ => ?_) _ μ rfl
  refine s_sload_n hF dJ0_length_8abf5_0 rfl 0 rfl ?_
  refine s_sval hF hD dJ0_length_8abf5_1 (wa_of 2180 (by decide +kernel) rfl) hj ?_
  refine s_slen hF hD dJ0_length_8abf5_4 hj ?_
  refine s_sload_n hF dJ0_length_8abf5_5 rfl 0 rfl ?_
  refine s_xsi (st := [.int (nI (sLen j))]) [] hF hD dJ0_length_8abf5_6 (⟨goodV (wa_of 794 (by decide +kernel) rfl) wiJ0_coder_7d493 wsJ0_coder_7d493 wnJ0 wcJ0_coder_7d493, wpJ0_coder_7d493⟩ : CWV RJ0 335 yJ0_coder_7d493 cJ0_coder_7d493 1 (some .byte) 0) (Nat.le_of_ble_eq_true rfl) (Nat.le_of_ble_eq_true rfl) rfl hj rfl rfl (Nat.le_of_ble_eq_true rfl) (fun r μ1 h => by cases h; exact ctJ0_coder hj _) (fun r μ1 hl hm => ?_)
  refine s_ishr hF dJ0_length_8abf5_9 ?_
  exact s_iretX hF hD dJ0_length_8abf5_10 rfl
theorem ctJ3_checkIndex {i n : Int32} {w : Value} (hw : w = .null ∨ w = .retAddr 200) (h0 : ¬ i < 0) (h1 : i < n) (μ : Mem) : CtX yJ3_checkIndex_8e157 cJ3_checkIndex_8e157 3 (some .int) 0 [.int i, .int n, w] μ (encI i) μ := by
  have hc : (lg_sl [.int i, .int n, w]).length ≤ 3 := by rcases hw with rfl | rfl <;> exact Nat.le_of_ble_eq_true rfl
  refine ct_enterX (o := if i < 0 then none else if i < n then some (i, μ) else none) (enc := encI) plJ3 hc (fun F hF hD _ => ?_) i μ (by rw [if_neg h0, if_pos h1])
  have hl : lv_args 0 [.int i, .int n, w] = [(0, .int i), (1, .int n), (2, w)] := rfl
  rw [hl]
  refine s_iload_n hF dJ3_checkIndex_8e157_0 rfl 0 rfl ?_
  refine s_if_lt (tgt := 9) hF dJ3_checkIndex_8e157_1 rfl (fun _ => sim_none) (fun _ => ?_)
  refine s_iload_n hF dJ3_checkIndex_8e157_4 rfl 0 rfl ?_
  refine s_iload_n hF dJ3_checkIndex_8e157_5 rfl 1 rfl ?_
  refine s_icmp_lt (tgt := 16) hF dJ3_checkIndex_8e157_6 rfl (fun _ => ?_) (fun _ => sim_none)
  refine s_iload_n hF dJ3_checkIndex_8e157_16 rfl 0 rfl ?_
  exact s_iretX hF hD dJ3_checkIndex_8e157_17 rfl
theorem ctJ0_checkIndex {i n : Int32} (h0 : ¬ i < 0) (h1 : i < n) (μ : Mem) : CtX yJ0_checkIndex_df160 cJ0_checkIndex_df160 2 none 1 [.int i, .int n] μ (encV ()) μ := by
  refine ct_enterX (o := obind (some (i, μ)) (fun r m => some ((), m))) (enc := encV) plJ0 (Nat.le_of_ble_eq_true rfl) (fun F hF hD _ => ?_) () μ rfl
  refine s_iload_n hF dJ0_checkIndex_df160_0 rfl 0 rfl ?_
  refine s_iload_n hF dJ0_checkIndex_df160_1 rfl 1 rfl ?_
  refine s_gfm hF hD dJ0_checkIndex_df160_2 (wa_of 814 (by decide +kernel) rfl) (fun w hw => ?_)
  refine s_xSi (st := []) [.int i, .int n, w] hF hD dJ0_checkIndex_df160_5 (⟨goodS (wa_of 816 (by decide +kernel) rfl) wtJ3_checkIndex_8e157 wnJ3 wcJ3_checkIndex_8e157, wpJ3_checkIndex_8e157⟩ : CWS RJ0 1059 yJ3_checkIndex_8e157 cJ3_checkIndex_8e157 3 (some .int) 3) (Nat.le_of_ble_eq_true rfl) (Nat.le_of_ble_eq_true rfl) rfl rfl (Nat.le_of_ble_eq_true rfl) (fun r μ1 h => by cases h; exact ctJ3_checkIndex hw h0 h1 _) (fun r μ1 hl hm => ?_)
  refine s_pop hF dJ0_checkIndex_df160_8 rfl ?_
  exact s_vretX hF hD dJ0_checkIndex_df160_9 rfl
theorem sc_nI {j : Nat} (hj : j < 10) : sLen j < 2 ^ 31 := by
  have : ∀ j, j < 10 → sLen j < 2 ^ 31 := by decide
  exact this j hj
theorem ctJ1_charAt {j : Nat} {i : Int32} (hj : j < 10) (h0 : ¬ i < 0) (h1 : i < nI (sLen j)) (hn : narrow .char (.int ((sChr j i.toNatClampNeg &&& 255).toUInt32 % 65536).toInt32) = .int ((sChr j i.toNatClampNeg &&& 255).toUInt32 % 65536).toInt32) (μ : Mem) : CtX yJ1_charAt_3b067 cJ1_charAt_3b067 2 (some .char) 2 [.retAddr (100 + j), .int i] μ (encI ((sChr j i.toNatClampNeg &&& 255).toUInt32 % 65536).toInt32) μ := by
  have hi : vp_in i (sLen j) := by
    rw [vp_in_iff]
    have e1 : (nI (sLen j)).toInt = sLen j := nI_toInt (sc_nI hj)
    have := Int32.lt_iff_toInt_lt.mp h1
    have h0 := Int32.not_lt.mp h0
    have h0 := Int32.le_iff_toInt_le.mp h0
    rw [e1] at this
    exact ⟨by simpa using h0, this⟩
  refine ct_enterX (o := obind (some ((), μ)) (fun _ m => some (((sChr j i.toNatClampNeg &&& 255).toUInt32 % 65536).toInt32, m))) (enc := encI) plJ1 (Nat.le_of_ble_eq_true rfl) (fun F hF hD _ => ?_) _ μ rfl
  refine s_iload_n hF dJ1_charAt_3b067_0 rfl 1 rfl ?_
  refine s_sload_n hF dJ1_charAt_3b067_1 rfl 0 rfl ?_
  refine s_slen hF hD dJ1_charAt_3b067_2 hj ?_
  refine s_xSv (st := []) [.int i, .int (nI (sLen j))] hF hD dJ1_charAt_3b067_3 (⟨goodS (wa_of 811 (by decide +kernel) rfl) wtJ0_checkIndex_df160 wnJ0 wcJ0_checkIndex_df160, wpJ0_checkIndex_df160⟩ : CWS RJ1 9 yJ0_checkIndex_df160 cJ0_checkIndex_df160 2 none 2) (Nat.le_of_ble_eq_true rfl) (Nat.le_of_ble_eq_true rfl) rfl rfl (Nat.le_of_ble_eq_true rfl) (fun r μ1 h => by cases h; exact ctJ0_checkIndex h0 h1 _) (fun r μ1 hl hm => ?_)
  refine s_sload_n hF dJ1_charAt_3b067_6 rfl 0 rfl ?_
  refine s_iload_n hF dJ1_charAt_3b067_7 rfl 1 rfl ?_
  refine s_sba hF hD dJ1_charAt_3b067_8 hj hi ?_
  refine s_sipush (v := (255 : Int32)) hF dJ1_charAt_3b067_9 (by decide) ?_
  refine s_iand hF dJ1_charAt_3b067_12 ?_
  refine s_i2c hF dJ1_charAt_3b067_13 ?_
  exact s_nretX hF hD dJ1_charAt_3b067_14 rfl hn
theorem ctJ0_charAt {j : Nat} {i : Int32} (hj : j < 10) (h0 : ¬ i < 0) (h1 : i < nI (sLen j)) (hn : narrow .char (.int ((sChr j i.toNatClampNeg &&& 255).toUInt32 % 65536).toInt32) = .int ((sChr j i.toNatClampNeg &&& 255).toUInt32 % 65536).toInt32) (μ : Mem) : CtX yJ0_charAt_5068e cJ0_charAt_5068e 2 (some .char) 3 [.retAddr j, .int i] μ (encI ((sChr j i.toNatClampNeg &&& 255).toUInt32 % 65536).toInt32) μ := by
  refine ct_enterX (o := obind (some ((1 : Int32), μ)) (fun r m => if r = 0 then none else obind (some (((sChr j i.toNatClampNeg &&& 255).toUInt32 % 65536).toInt32, m)) (fun r m => some (r, m)))) (enc := encI) plJ0 (Nat.le_of_ble_eq_true rfl) (fun F hF hD _ => ?_) _ μ rfl
  refine s_sload_n hF dJ0_charAt_5068e_0 rfl 0 rfl ?_
  refine s_xsi (st := []) [] hF hD dJ0_charAt_5068e_1 (⟨goodV (wa_of 804 (by decide +kernel) rfl) wiJ0_isLatin1_aae02 wsJ0_isLatin1_aae02 wnJ0 wcJ0_isLatin1_aae02, wpJ0_isLatin1_aae02⟩ : CWV RJ0 492 yJ0_isLatin1_aae02 cJ0_isLatin1_aae02 1 (some .boolean) 0) (Nat.le_of_ble_eq_true rfl) (Nat.le_of_ble_eq_true rfl) rfl hj rfl rfl (Nat.le_of_ble_eq_true rfl) (fun r μ1 h => by cases h; exact ctJ0_isLatin1 hj _) (fun r μ1 hl hm => ?_)
  refine s_if_eq (tgt := 16) hF dJ0_charAt_5068e_4 rfl (fun _ => sim_none) (fun _ => ?_)
  refine s_sload_n hF dJ0_charAt_5068e_7 rfl 0 rfl ?_
  refine s_sval hF hD dJ0_charAt_5068e_8 (wa_of 2180 (by decide +kernel) rfl) hj ?_
  refine s_iload_n hF dJ0_charAt_5068e_11 rfl 1 rfl ?_
  refine s_xSi (st := []) [.retAddr (100 + j), .int i] hF hD dJ0_charAt_5068e_12 (⟨goodS (wa_of 808 (by decide +kernel) rfl) wtJ1_charAt_3b067 wnJ1 wcJ1_charAt_3b067, wpJ1_charAt_3b067⟩ : CWS RJ0 495 yJ1_charAt_3b067 cJ1_charAt_3b067 2 (some .char) 2) (Nat.le_of_ble_eq_true rfl) (Nat.le_of_ble_eq_true rfl) rfl rfl (Nat.le_of_ble_eq_true rfl) (fun r μ1 h => by cases h; exact ctJ1_charAt hj h0 h1 hn _) (fun r1 μ2 hl2 hm2 => ?_)
  cases hl2
  exact s_nretX hF hD dJ0_charAt_5068e_15 rfl hn
