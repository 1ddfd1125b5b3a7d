theorem ctX0_init  (l0 : Nat) (μ : Mem) : ∀ (r : Unit) (μ' : Mem), LX0_init l0 μ = some (r, μ') → CtX yX0_init cX0_init 1 none 1 [.ref l0] μ (encV r) μ' := by
  refine ct_enterX plX0 (Nat.le_of_ble_eq_true rfl) (fun F hF hD hI => ?_)
  unfold LX0_init
  refine sim_gd (fun f0 => ?_)
  refine s_aload_n hF dX0_init_0 rfl 0 rfl ?_
  refine s_objInit hF dX0_init_1 mlX0_3 obi obc (Nat.le_of_ble_eq_true rfl) (Nat.le_of_ble_eq_true rfl) ?_
  refine s_aload_n hF dX0_init_4 rfl 0 rfl ?_
  refine s_bipush (v := (6 : Int32)) hF dX0_init_5 kB_6 ?_
  refine s_newIN (6) hF dX0_init_7 ac_int (by decide) rfl (Nat.le_of_ble_eq_true rfl) (fun r1 m2 hk3 hm4 => ?_)
  refine s_putRF hF (hI rfl) dX0_init_9 flX0_9 (isK.mo f0 hm4) ((isK_iff.mp hk3).1) ?_
  refine s_aload_n hF dX0_init_12 rfl 0 rfl ?_
  refine s_bipush (v := (6 : Int32)) hF dX0_init_13 kB_6 ?_
  refine s_newIN (6) hF dX0_init_15 ac_int (by decide) rfl (Nat.le_of_ble_eq_true rfl) (fun r5 m6 hk7 hm8 => ?_)
  refine s_putRF hF (hI rfl) dX0_init_17 flX0_15 (isK.mo (isK.mo f0 hm4) hm8) ((isK_iff.mp hk7).1) ?_
  exact s_vretX hF hD dX0_init_20 rfl
theorem ctX0_clear  (l0 : Nat) (μ : Mem) : ∀ (r : Unit) (μ' : Mem), LX0_clear l0 μ = some (r, μ') → CtX yX0_clear cX0_clear 1 none 0 [.ref l0] μ (encV r) μ' := by
  refine ct_enterX plX0 (Nat.le_of_ble_eq_true rfl) (fun F hF hD hI => ?_)
  unfold LX0_clear
  refine sim_gd (fun f0 => ?_)
  refine s_aload_n hF dX0_clear_0 rfl 0 rfl ?_
  refine s_iconst (v := (0 : Int32)) hF dX0_clear_1 kI_0 ?_
  refine s_putI hF dX0_clear_2 flX0_18 f0 ?_
  exact s_vretX hF hD dX0_clear_5 rfl
theorem ctX9_fail  (l0 : Nat) (l1 : Int32) (l2 : Int32) (μ : Mem) : ∀ (r : Unit) (μ' : Mem), LX9_fail l0 l1 l2 μ = some (r, μ') → CtX yX9_fail cX9_fail 3 none 0 [.ref l0, .int l1, .int l2] μ (encV r) μ' := by
  refine ct_enterX plX9 (Nat.le_of_ble_eq_true rfl) (fun F hF hD hI => ?_)
  unfold LX9_fail
  refine sim_gd (fun f0 => ?_)
  refine s_aload_n hF dX9_fail_0 rfl 0 rfl ?_
  refine s_getI (x := (g_I μ l0 2)) hF dX9_fail_1 flX9_31 f0 rfl ?_
  refine s_if_ne (tgt := 17) hF dX9_fail_4 rfl (fun c1 => ?_) (fun c1 => ?_)
  · refine s_aload_n hF dX9_fail_7 rfl 0 rfl ?_
    refine s_iload_n hF dX9_fail_8 rfl 1 rfl ?_
    refine s_putI hF dX9_fail_9 flX9_31 f0 ?_
    refine s_aload_n hF dX9_fail_12 rfl 0 rfl ?_
    refine s_iload_n hF dX9_fail_13 rfl 2 rfl ?_
    refine s_putI hF dX9_fail_14 flX9_15 f0 ?_
    exact s_vretX hF hD dX9_fail_17 rfl
  · exact s_vretX hF hD dX9_fail_17 rfl
theorem sX9_next_48 {F : Option Fx} (hF : FxO F RX9 cX9_next 1 0) (hD : FxXO F (some .int)) (l0 : Nat) (μ : Mem) (f0 : isK μ l0 9 = true) : Sim F encI 48 [(0, .ref l0)] [] μ (mX9_next_48 l0 μ) := by
  unfold mX9_next_48
  refine s_aload_n hF dX9_next_48 rfl 0 rfl ?_
  refine s_aload_n hF dX9_next_49 rfl 0 rfl ?_
  refine s_getI (x := (g_I μ l0 5)) hF dX9_next_50 flX9_25 f0 rfl ?_
  refine s_putI hF dX9_next_53 flX9_28 f0 ?_
  refine s_aload_n hF dX9_next_56 rfl 0 rfl ?_
  refine s_getI (x := (g_I (p_I μ l0 4 (g_I μ l0 5)) l0 5)) hF dX9_next_57 flX9_25 f0 rfl ?_
  refine s_aload_n hF dX9_next_60 rfl 0 rfl ?_
  refine s_getI (x := (g_I (p_I μ l0 4 (g_I μ l0 5)) l0 6)) hF dX9_next_61 flX9_22 f0 rfl ?_
  refine s_icmp_ge (tgt := 93) hF dX9_next_64 rfl (fun c6 => ?_) (fun c6 => ?_)
  · refine s_iconst (v := (-1 : Int32)) hF dX9_next_93 kI_m1 ?_
    exact s_iretX hF hD dX9_next_94 rfl
  · refine s_aload_n hF dX9_next_67 rfl 0 rfl ?_
    refine s_getI (x := (g_I (p_I μ l0 4 (g_I μ l0 5)) l0 5)) hF dX9_next_68 flX9_25 f0 rfl ?_
    refine s_sipush (v := (600 : Int32)) hF dX9_next_71 kS_600 ?_
    refine s_icmp_ge (tgt := 93) hF dX9_next_74 rfl (fun c7 => ?_) (fun c7 => ?_)
    · refine s_iconst (v := (-1 : Int32)) hF dX9_next_93 kI_m1 ?_
      exact s_iretX hF hD dX9_next_94 rfl
    · refine s_aload_n hF dX9_next_77 rfl 0 rfl ?_
      refine sim_gd (fun g8 => ?_)
      refine s_getR (x := (g_R μ l0 0)) hF dX9_next_78 flX9_9 f0 g8 rfl ?_
      refine s_aload_n hF dX9_next_81 rfl 0 rfl ?_
      refine s_getI (x := (g_I (p_I μ l0 4 (g_I μ l0 5)) l0 5)) hF dX9_next_82 flX9_25 f0 rfl ?_
      refine sim_gd (fun g9 => ?_)
      refine s_baload (x := (g_I (p_I μ l0 4 (g_I μ l0 5)) (g_R μ l0 0) (g_I (p_I μ l0 4 (g_I μ l0 5)) l0 5).toNatClampNeg)) hF dX9_next_85 g9 rfl ?_
      refine s_sipush (v := (255 : Int32)) hF dX9_next_86 kS_255 ?_
      refine s_iand hF dX9_next_89 ?_
      refine s_goto (tgt := 94) hF dX9_next_90 rfl ?_
      exact s_iretX hF hD dX9_next_94 rfl
theorem sX9_next_0 {F : Option Fx} (hF : FxO F RX9 cX9_next 1 0) (hD : FxXO F (some .int)) : ∀ (fu : Nat) (l0 : Nat) (μ : Mem) (f0 : isK μ l0 9 = true), Sim F encI 0 [(0, .ref l0)] [] μ (mX9_next_0 fu l0 μ) := by
  intro fu
  induction fu with
  | zero =>
    intro l0 μ f0
    exact sim_none
  | succ fu ih =>
    intro l0 μ f0
    rw [mX9_next_0]
    refine s_aload_n hF dX9_next_0 rfl 0 rfl ?_
    refine s_getI (x := (g_I μ l0 5)) hF dX9_next_1 flX9_25 f0 rfl ?_
    refine s_aload_n hF dX9_next_4 rfl 0 rfl ?_
    refine s_getI (x := (g_I μ l0 6)) hF dX9_next_5 flX9_22 f0 rfl ?_
    refine s_icmp_ge (tgt := 48) hF dX9_next_8 rfl (fun c1 => ?_) (fun c1 => ?_)
    · exact sX9_next_48 hF hD l0 _ f0
    · refine s_aload_n hF dX9_next_11 rfl 0 rfl ?_
      refine s_getI (x := (g_I μ l0 5)) hF dX9_next_12 flX9_25 f0 rfl ?_
      refine s_sipush (v := (600 : Int32)) hF dX9_next_15 kS_600 ?_
      refine s_icmp_ge (tgt := 48) hF dX9_next_18 rfl (fun c2 => ?_) (fun c2 => ?_)
      · exact sX9_next_48 hF hD l0 _ f0
      · refine s_aload_n hF dX9_next_21 rfl 0 rfl ?_
        refine sim_gd (fun g3 => ?_)
        refine s_getR (x := (g_R μ l0 0)) hF dX9_next_22 flX9_9 f0 g3 rfl ?_
        refine s_aload_n hF dX9_next_25 rfl 0 rfl ?_
        refine s_getI (x := (g_I μ l0 5)) hF dX9_next_26 flX9_25 f0 rfl ?_
        refine sim_gd (fun g4 => ?_)
        refine s_baload (x := (g_I μ (g_R μ l0 0) (g_I μ l0 5).toNatClampNeg)) hF dX9_next_29 g4 rfl ?_
        refine s_bipush (v := (32 : Int32)) hF dX9_next_30 kB_32 ?_
        refine s_icmp_ne (tgt := 48) hF dX9_next_32 rfl (fun c5 => ?_) (fun c5 => ?_)
        · refine s_aload_n hF dX9_next_35 rfl 0 rfl ?_
          refine s_dup hF dX9_next_36 rfl ?_
          refine s_getI (x := (g_I μ l0 5)) hF dX9_next_37 flX9_25 f0 rfl ?_
          refine s_iconst (v := (1 : Int32)) hF dX9_next_40 kI_1 ?_
          refine s_iadd hF dX9_next_41 ?_
          refine s_putI hF dX9_next_42 flX9_25 f0 ?_
          refine s_goto (tgt := 0) hF dX9_next_45 rfl ?_
          exact ih l0 _ f0
        · exact sX9_next_48 hF hD l0 _ f0
theorem ctX9_next  (l0 : Nat) (μ : Mem) : ∀ (r : Int32) (μ' : Mem), LX9_next l0 μ = some (r, μ') → CtX yX9_next cX9_next 1 (some .int) 0 [.ref l0] μ (encI r) μ' := by
  refine ct_enterX plX9 (Nat.le_of_ble_eq_true rfl) (fun F hF hD hI => ?_)
  unfold LX9_next
  refine sim_gd (fun f0 => ?_)
  exact sX9_next_0 hF hD 100000 l0 _ f0
theorem ctX9_more  (l0 : Nat) (μ : Mem) : ∀ (r : Int32) (μ' : Mem), LX9_more l0 μ = some (r, μ') → CtX yX9_more cX9_more 1 (some .boolean) 1 [.ref l0] μ (encI r) μ' := by
  refine ct_enterX plX9 (Nat.le_of_ble_eq_true rfl) (fun F hF hD hI => ?_)
  unfold LX9_more
  refine sim_gd (fun f0 => ?_)
  refine s_aload_n hF dX9_more_0 rfl 0 rfl ?_
  refine s_getI (x := (g_I μ l0 2)) hF dX9_more_1 flX9_31 f0 rfl ?_
  refine s_if_ne (tgt := 19) hF dX9_more_4 rfl (fun c1 => ?_) (fun c1 => ?_)
  · refine s_aload_n hF dX9_more_7 rfl 0 rfl ?_
    refine s_xVi (st := []) (ci := 9) [] hF hD dX9_more_8 cwX9_34 (Nat.le_of_ble_eq_true rfl) (Nat.le_of_ble_eq_true rfl) rfl rfl (Nat.le_of_ble_eq_true rfl) f0 rfl rfl (Nat.le_of_ble_eq_true rfl) (ctX9_next l0 _) (fun r2 m3 hl4 hm5 => ?_)
    refine s_iconst (v := (-1 : Int32)) hF dX9_more_11 kI_m1 ?_
    refine s_icmp_eq (tgt := 19) hF dX9_more_12 rfl (fun c8 => ?_) (fun c8 => ?_)
    · refine s_iconst (v := (0 : Int32)) hF dX9_more_19 kI_0 ?_
      exact s_zretX hF hD dX9_more_20 rfl rfl
    · refine s_iconst (v := (1 : Int32)) hF dX9_more_15 kI_1 ?_
      refine s_goto (tgt := 20) hF dX9_more_16 rfl ?_
      exact s_zretX hF hD dX9_more_20 rfl rfl
  · refine s_iconst (v := (0 : Int32)) hF dX9_more_19 kI_0 ?_
    exact s_zretX hF hD dX9_more_20 rfl rfl
theorem sX9_need_28 {F : Option Fx} (hF : FxO F RX9 cX9_need 2 1) (hD : FxXO F none) (l0 : Nat) (μ : Mem) (f0 : isK μ l0 9 = true) : Sim F encV 28 [(0, .ref l0)] [] μ (mX9_need_28 l0 μ) := by
  unfold mX9_need_28
  refine s_aload_n hF dX9_need_28 rfl 0 rfl ?_
  refine s_iconst (v := (1 : Int32)) hF dX9_need_29 kI_1 ?_
  refine s_aload_n hF dX9_need_30 rfl 0 rfl ?_
  refine s_getI (x := (g_I μ l0 4)) hF dX9_need_31 flX9_28 f0 rfl ?_
  refine s_xVv (st := []) (ci := 9) [.int (1 : Int32), .int (g_I μ l0 4)] hF hD dX9_need_34 cwX9_42 (Nat.le_of_ble_eq_true rfl) (Nat.le_of_ble_eq_true rfl) rfl rfl (Nat.le_of_ble_eq_true rfl) f0 rfl rfl (Nat.le_of_ble_eq_true rfl) (ctX9_fail l0 (1 : Int32) (g_I μ l0 4) _) (fun r9 m10 hl11 hm12 => ?_)
  exact s_vretX hF hD dX9_need_37 rfl
theorem ctX9_need  (l0 : Nat) (l1 : Int32) (μ : Mem) : ∀ (r : Unit) (μ' : Mem), LX9_need l0 l1 μ = some (r, μ') → CtX yX9_need cX9_need 2 none 1 [.ref l0, .int l1] μ (encV r) μ' := by
  refine ct_enterX plX9 (Nat.le_of_ble_eq_true rfl) (fun F hF hD hI => ?_)
  unfold LX9_need
  refine sim_gd (fun f0 => ?_)
  refine s_aload_n hF dX9_need_0 rfl 0 rfl ?_
  refine s_getI (x := (g_I μ l0 2)) hF dX9_need_1 flX9_31 f0 rfl ?_
  refine s_if_ne (tgt := 28) hF dX9_need_4 rfl (fun c1 => ?_) (fun c1 => ?_)
  · refine s_aload_n hF dX9_need_7 rfl 0 rfl ?_
    refine s_xVi (st := []) (ci := 9) [] hF hD dX9_need_8 cwX9_34 (Nat.le_of_ble_eq_true rfl) (Nat.le_of_ble_eq_true rfl) rfl rfl (Nat.le_of_ble_eq_true rfl) f0 rfl rfl (Nat.le_of_ble_eq_true rfl) (ctX9_next l0 _) (fun r2 m3 hl4 hm5 => ?_)
    refine s_iload_n hF dX9_need_11 rfl 1 rfl ?_
    refine s_icmp_ne (tgt := 28) hF dX9_need_12 rfl (fun c8 => ?_) (fun c8 => ?_)
    · refine s_aload_n hF dX9_need_15 rfl 0 rfl ?_
      refine s_dup hF dX9_need_16 rfl ?_
      refine s_getI (x := (g_I m3 l0 5)) hF dX9_need_17 flX9_25 (isK.mo f0 hm5) rfl ?_
      refine s_iconst (v := (1 : Int32)) hF dX9_need_20 kI_1 ?_
      refine s_iadd hF dX9_need_21 ?_
      refine s_putI hF dX9_need_22 flX9_25 (isK.mo f0 hm5) ?_
      refine s_goto (tgt := 37) hF dX9_need_25 rfl ?_
      exact s_vretX hF hD dX9_need_37 rfl
    · refine s_sub [0] rfl ?_
      exact sX9_need_28 hF hD l0 _ (isK.mo f0 hm5)
  · refine s_sub [0] rfl ?_
    exact sX9_need_28 hF hD l0 _ f0
theorem ctX9_byteHere  (l0 : Nat) (μ : Mem) : ∀ (r : Int32) (μ' : Mem), LX9_byteHere l0 μ = some (r, μ') → CtX yX9_byteHere cX9_byteHere 1 (some .int) 0 [.ref l0] μ (encI r) μ' := by
  refine ct_enterX plX9 (Nat.le_of_ble_eq_true rfl) (fun F hF hD hI => ?_)
  unfold LX9_byteHere
  refine sim_gd (fun f0 => ?_)
  refine s_aload_n hF dX9_byteHere_0 rfl 0 rfl ?_
  refine s_getI (x := (g_I μ l0 5)) hF dX9_byteHere_1 flX9_25 f0 rfl ?_
  refine s_aload_n hF dX9_byteHere_4 rfl 0 rfl ?_
  refine s_getI (x := (g_I μ l0 6)) hF dX9_byteHere_5 flX9_22 f0 rfl ?_
  refine s_icmp_ge (tgt := 37) hF dX9_byteHere_8 rfl (fun c1 => ?_) (fun c1 => ?_)
  · refine s_iconst (v := (-1 : Int32)) hF dX9_byteHere_37 kI_m1 ?_
    exact s_iretX hF hD dX9_byteHere_38 rfl
  · refine s_aload_n hF dX9_byteHere_11 rfl 0 rfl ?_
    refine s_getI (x := (g_I μ l0 5)) hF dX9_byteHere_12 flX9_25 f0 rfl ?_
    refine s_sipush (v := (600 : Int32)) hF dX9_byteHere_15 kS_600 ?_
    refine s_icmp_ge (tgt := 37) hF dX9_byteHere_18 rfl (fun c2 => ?_) (fun c2 => ?_)
    · refine s_iconst (v := (-1 : Int32)) hF dX9_byteHere_37 kI_m1 ?_
      exact s_iretX hF hD dX9_byteHere_38 rfl
    · refine s_aload_n hF dX9_byteHere_21 rfl 0 rfl ?_
      refine sim_gd (fun g3 => ?_)
      refine s_getR (x := (g_R μ l0 0)) hF dX9_byteHere_22 flX9_9 f0 g3 rfl ?_
      refine s_aload_n hF dX9_byteHere_25 rfl 0 rfl ?_
      refine s_getI (x := (g_I μ l0 5)) hF dX9_byteHere_26 flX9_25 f0 rfl ?_
      refine sim_gd (fun g4 => ?_)
      refine s_baload (x := (g_I μ (g_R μ l0 0) (g_I μ l0 5).toNatClampNeg)) hF dX9_byteHere_29 g4 rfl ?_
      refine s_sipush (v := (255 : Int32)) hF dX9_byteHere_30 kS_255 ?_
      refine s_iand hF dX9_byteHere_33 ?_
      refine s_goto (tgt := 38) hF dX9_byteHere_34 rfl ?_
      exact s_iretX hF hD dX9_byteHere_38 rfl
theorem ctX9_isDigit  (l0 : Int32) (μ : Mem) : ∀ (r : Int32) (μ' : Mem), LX9_isDigit l0 μ = some (r, μ') → CtX yX9_isDigit cX9_isDigit 1 (some .boolean) 0 [.int l0] μ (encI r) μ' := by
  refine ct_enterX plX9 (Nat.le_of_ble_eq_true rfl) (fun F hF hD hI => ?_)
  unfold LX9_isDigit
  refine s_iload_n hF dX9_isDigit_0 rfl 0 rfl ?_
  refine s_bipush (v := (48 : Int32)) hF dX9_isDigit_1 kB_48 ?_
  refine s_icmp_lt (tgt := 16) hF dX9_isDigit_3 rfl (fun c1 => ?_) (fun c1 => ?_)
  · refine s_iconst (v := (0 : Int32)) hF dX9_isDigit_16 kI_0 ?_
    exact s_zretX hF hD dX9_isDigit_17 rfl rfl
  · refine s_iload_n hF dX9_isDigit_6 rfl 0 rfl ?_
    refine s_bipush (v := (57 : Int32)) hF dX9_isDigit_7 kB_57 ?_
    refine s_icmp_gt (tgt := 16) hF dX9_isDigit_9 rfl (fun c2 => ?_) (fun c2 => ?_)
    · refine s_iconst (v := (0 : Int32)) hF dX9_isDigit_16 kI_0 ?_
      exact s_zretX hF hD dX9_isDigit_17 rfl rfl
    · refine s_iconst (v := (1 : Int32)) hF dX9_isDigit_12 kI_1 ?_
      refine s_goto (tgt := 17) hF dX9_isDigit_13 rfl ?_
      exact s_zretX hF hD dX9_isDigit_17 rfl rfl
theorem ctX9_digitComes  (l0 : Nat) (μ : Mem) : ∀ (r : Int32) (μ' : Mem), LX9_digitComes l0 μ = some (r, μ') → CtX yX9_digitComes cX9_digitComes 1 (some .boolean) 1 [.ref l0] μ (encI r) μ' := by
  refine ct_enterX plX9 (Nat.le_of_ble_eq_true rfl) (fun F hF hD hI => ?_)
  unfold LX9_digitComes
  refine sim_gd (fun f0 => ?_)
  refine s_aload_n hF dX9_digitComes_0 rfl 0 rfl ?_
  refine s_getI (x := (g_I μ l0 2)) hF dX9_digitComes_1 flX9_31 f0 rfl ?_
  refine s_if_ne (tgt := 21) hF dX9_digitComes_4 rfl (fun c1 => ?_) (fun c1 => ?_)
  · refine s_aload_n hF dX9_digitComes_7 rfl 0 rfl ?_
    refine s_xVi (st := []) (ci := 9) [] hF hD dX9_digitComes_8 cwX9_34 (Nat.le_of_ble_eq_true rfl) (Nat.le_of_ble_eq_true rfl) rfl rfl (Nat.le_of_ble_eq_true rfl) f0 rfl rfl (Nat.le_of_ble_eq_true rfl) (ctX9_next l0 _) (fun r2 m3 hl4 hm5 => ?_)
    refine s_xSi (st := []) [.int r2] hF hD dX9_digitComes_11 cwX9_38 (Nat.le_of_ble_eq_true rfl) (Nat.le_of_ble_eq_true rfl) rfl rfl (Nat.le_of_ble_eq_true rfl) (ctX9_isDigit r2 _) (fun r8 m9 hl10 hm11 => ?_)
    refine s_if_eq (tgt := 21) hF dX9_digitComes_14 rfl (fun c14 => ?_) (fun c14 => ?_)
    · refine s_iconst (v := (0 : Int32)) hF dX9_digitComes_21 kI_0 ?_
      exact s_zretX hF hD dX9_digitComes_22 rfl rfl
    · refine s_iconst (v := (1 : Int32)) hF dX9_digitComes_17 kI_1 ?_
      refine s_goto (tgt := 22) hF dX9_digitComes_18 rfl ?_
      exact s_zretX hF hD dX9_digitComes_22 rfl rfl
  · refine s_iconst (v := (0 : Int32)) hF dX9_digitComes_21 kI_0 ?_
    exact s_zretX hF hD dX9_digitComes_22 rfl rfl
theorem sX9_number_72 {F : Option Fx} (hF : FxO F RX9 cX9_number 3 2) (hD : FxXO F (some .int)) (l0 : Nat) (l1 : Int32) (l2 : Int32) (μ : Mem) (f0 : isK μ l0 9 = true) : Sim F encI 72 [(0, .ref l0), (1, .int l1), (2, .int l2)] [] μ (mX9_number_72 l0 l1 l2 μ) := by
  unfold mX9_number_72
  refine s_iload_n hF dX9_number_72 rfl 2 rfl ?_
  refine s_iload_n hF dX9_number_73 rfl 1 rfl ?_
  refine s_icmp_le (tgt := 88) hF dX9_number_74 rfl (fun c34 => ?_) (fun c34 => ?_)
  · refine s_iload_n hF dX9_number_88 rfl 2 rfl ?_
    exact s_iretX hF hD dX9_number_89 rfl
  · refine s_aload_n hF dX9_number_77 rfl 0 rfl ?_
    refine s_iconst (v := (2 : Int32)) hF dX9_number_78 kI_2 ?_
    refine s_aload_n hF dX9_number_79 rfl 0 rfl ?_
    refine s_getI (x := (g_I μ l0 4)) hF dX9_number_80 flX9_28 f0 rfl ?_
    refine s_xVv (st := []) (ci := 9) [.int (2 : Int32), .int (g_I μ l0 4)] hF hD dX9_number_83 cwX9_42 (Nat.le_of_ble_eq_true rfl) (Nat.le_of_ble_eq_true rfl) rfl rfl (Nat.le_of_ble_eq_true rfl) f0 rfl rfl (Nat.le_of_ble_eq_true rfl) (ctX9_fail l0 (2 : Int32) (g_I μ l0 4) _) (fun r35 m36 hl37 hm38 => ?_)
    refine s_iconst (v := (-1 : Int32)) hF dX9_number_86 kI_m1 ?_
    exact s_iretX hF hD dX9_number_87 rfl
theorem sX9_number_20 {F : Option Fx} (hF : FxO F RX9 cX9_number 3 2) (hD : FxXO F (some .int)) : ∀ (fu : Nat) (l0 : Nat) (l1 : Int32) (l2 : Int32) (μ : Mem) (f0 : isK μ l0 9 = true), Sim F encI 20 [(0, .ref l0), (1, .int l1), (2, .int l2)] [] μ (mX9_number_20 fu l0 l1 l2 μ) := by
  intro fu
  induction fu with
  | zero =>
    intro l0 l1 l2 μ f0
    exact sim_none
  | succ fu ih =>
    intro l0 l1 l2 μ f0
    rw [mX9_number_20]
    refine s_aload_n hF dX9_number_20 rfl 0 rfl ?_
    refine s_getI (x := (g_I μ l0 5)) hF dX9_number_21 flX9_25 f0 rfl ?_
    refine s_aload_n hF dX9_number_24 rfl 0 rfl ?_
    refine s_getI (x := (g_I μ l0 6)) hF dX9_number_25 flX9_22 f0 rfl ?_
    refine s_icmp_ge (tgt := 72) hF dX9_number_28 rfl (fun c14 => ?_) (fun c14 => ?_)
    · exact sX9_number_72 hF hD l0 l1 l2 _ f0
    · refine s_aload_n hF dX9_number_31 rfl 0 rfl ?_
      refine s_xVi (st := []) (ci := 9) [] hF hD dX9_number_32 cwX9_66 (Nat.le_of_ble_eq_true rfl) (Nat.le_of_ble_eq_true rfl) rfl rfl (Nat.le_of_ble_eq_true rfl) f0 rfl rfl (Nat.le_of_ble_eq_true rfl) (ctX9_byteHere l0 _) (fun r15 m16 hl17 hm18 => ?_)
      refine s_xSi (st := []) [.int r15] hF hD dX9_number_35 cwX9_38 (Nat.le_of_ble_eq_true rfl) (Nat.le_of_ble_eq_true rfl) rfl rfl (Nat.le_of_ble_eq_true rfl) (ctX9_isDigit r15 _) (fun r21 m22 hl23 hm24 => ?_)
      refine s_if_eq (tgt := 72) hF dX9_number_38 rfl (fun c27 => ?_) (fun c27 => ?_)
      · exact sX9_number_72 hF hD l0 l1 l2 _ (isK.mo (isK.mo f0 hm18) hm24)
      · refine s_ldc (v := (100000000 : Int32)) hF dX9_number_41 cwX9_69 ?_
        refine s_iload_n hF dX9_number_43 rfl 2 rfl ?_
        refine s_bipush (v := (10 : Int32)) hF dX9_number_44 kB_10 ?_
        refine s_imul hF dX9_number_46 ?_
        refine s_aload_n hF dX9_number_47 rfl 0 rfl ?_
        refine s_xVi (st := [.int (l2 * (10 : Int32)), .int (100000000 : Int32)]) (ci := 9) [] hF hD dX9_number_48 cwX9_66 (Nat.le_of_ble_eq_true rfl) (Nat.le_of_ble_eq_true rfl) rfl rfl (Nat.le_of_ble_eq_true rfl) (isK.mo (isK.mo f0 hm18) hm24) rfl rfl (Nat.le_of_ble_eq_true rfl) (ctX9_byteHere l0 _) (fun r28 m29 hl30 hm31 => ?_)
        refine s_iadd hF dX9_number_51 ?_
        refine s_bipush (v := (48 : Int32)) hF dX9_number_52 kB_48 ?_
        refine s_isub hF dX9_number_54 ?_
        refine s_min hF dX9_number_55 mlX9_70 mt_smin mt_i mt_cmin (Nat.le_of_ble_eq_true rfl) (Nat.le_of_ble_eq_true rfl) ?_
        refine s_istore_n (pls' := [(2, .int (if (((l2 * (10 : Int32)) + r28) - (48 : Int32)) < (100000000 : Int32) then (((l2 * (10 : Int32)) + r28) - (48 : Int32)) else (100000000 : Int32))), (0, .ref l0), (1, .int l1)]) hF dX9_number_58 rfl (by decide) rfl ?_
        refine s_aload_n hF dX9_number_59 rfl 1 rfl ?_
        refine s_dup hF dX9_number_60 rfl ?_
        refine s_getI (x := (g_I m29 l0 5)) hF dX9_number_61 flX9_25 (isK.mo (isK.mo (isK.mo f0 hm18) hm24) hm31) rfl ?_
        refine s_iconst (v := (1 : Int32)) hF dX9_number_64 kI_1 ?_
        refine s_iadd hF dX9_number_65 ?_
        refine s_putI hF dX9_number_66 flX9_25 (isK.mo (isK.mo (isK.mo f0 hm18) hm24) hm31) ?_
        refine s_goto (tgt := 20) hF dX9_number_69 rfl ?_
        refine s_sub [1, 2, 0] rfl ?_
        exact ih l0 l1 (if (((l2 * (10 : Int32)) + r28) - (48 : Int32)) < (100000000 : Int32) then (((l2 * (10 : Int32)) + r28) - (48 : Int32)) else (100000000 : Int32)) _ (isK.mo (isK.mo (isK.mo f0 hm18) hm24) hm31)
theorem ctX9_number  (l0 : Nat) (l1 : Int32) (μ : Mem) : ∀ (r : Int32) (μ' : Mem), LX9_number l0 l1 μ = some (r, μ') → CtX yX9_number cX9_number 3 (some .int) 2 [.ref l0, .int l1] μ (encI r) μ' := by
  refine ct_enterX plX9 (Nat.le_of_ble_eq_true rfl) (fun F hF hD hI => ?_)
  unfold LX9_number
  refine sim_gd (fun f0 => ?_)
  refine s_aload_n hF dX9_number_0 rfl 0 rfl ?_
  refine s_xVi (st := []) (ci := 9) [] hF hD dX9_number_1 cwX9_63 (Nat.le_of_ble_eq_true rfl) (Nat.le_of_ble_eq_true rfl) rfl rfl (Nat.le_of_ble_eq_true rfl) f0 rfl rfl (Nat.le_of_ble_eq_true rfl) (ctX9_digitComes l0 _) (fun r1 m2 hl3 hm4 => ?_)
  refine s_if_ne (tgt := 18) hF dX9_number_4 rfl (fun c7 => ?_) (fun c7 => ?_)
  · refine s_aload_n hF dX9_number_7 rfl 0 rfl ?_
    refine s_iconst (v := (1 : Int32)) hF dX9_number_8 kI_1 ?_
    refine s_aload_n hF dX9_number_9 rfl 0 rfl ?_
    refine s_getI (x := (g_I m2 l0 4)) hF dX9_number_10 flX9_28 (isK.mo f0 hm4) rfl ?_
    refine s_xVv (st := []) (ci := 9) [.int (1 : Int32), .int (g_I m2 l0 4)] hF hD dX9_number_13 cwX9_42 (Nat.le_of_ble_eq_true rfl) (Nat.le_of_ble_eq_true rfl) rfl rfl (Nat.le_of_ble_eq_true rfl) (isK.mo f0 hm4) rfl rfl (Nat.le_of_ble_eq_true rfl) (ctX9_fail l0 (1 : Int32) (g_I m2 l0 4) _) (fun r8 m9 hl10 hm11 => ?_)
    refine s_iconst (v := (-1 : Int32)) hF dX9_number_16 kI_m1 ?_
    exact s_iretX hF hD dX9_number_17 rfl
  · refine s_iconst (v := (0 : Int32)) hF dX9_number_18 kI_0 ?_
    refine s_istore_n (pls' := [(2, .int (0 : Int32)), (0, .ref l0), (1, .int l1)]) hF dX9_number_19 rfl (by decide) rfl ?_
    refine s_sub [1, 2, 0] rfl ?_
    exact sX9_number_20 hF hD 100000 l0 l1 (0 : Int32) _ (isK.mo f0 hm4)
theorem sX0_parse_7 {F : Option Fx} (hF : FxO F RX0 cX0_parse 4 3) (hD : FxXO F none) : ∀ (fu : Nat) (l0 : Nat) (l1 : Nat) (l2 : Int32) (μ : Mem) (f0 : isK μ l0 0 = true) (f1 : isK μ l1 9 = true), Sim F encV 7 [(0, .ref l0), (1, .ref l1), (2, .int l2)] [] μ (mX0_parse_7 fu l0 l1 l2 μ) := by
  intro fu
  induction fu with
  | zero =>
    intro l0 l1 l2 μ f0 f1
    exact sim_none
  | succ fu ih =>
    intro l0 l1 l2 μ f0 f1
    rw [mX0_parse_7]
    refine s_iload_n hF dX0_parse_7 rfl 2 rfl ?_
    refine s_bipush (v := (6 : Int32)) hF dX0_parse_8 kB_6 ?_
    refine s_icmp_gt (tgt := 94) hF dX0_parse_10 rfl (fun c1 => ?_) (fun c1 => ?_)
    · exact s_vretX hF hD dX0_parse_94 rfl
    · refine s_aload_n hF dX0_parse_13 rfl 1 rfl ?_
      refine s_xVi (st := []) (ci := 9) [] hF hD dX0_parse_14 cwX0_22 (Nat.le_of_ble_eq_true rfl) (Nat.le_of_ble_eq_true rfl) rfl rfl (Nat.le_of_ble_eq_true rfl) f1 rfl rfl (Nat.le_of_ble_eq_true rfl) (ctX9_more l1 _) (fun r2 m3 hl4 hm5 => ?_)
      refine s_if_eq (tgt := 94) hF dX0_parse_17 rfl (fun c8 => ?_) (fun c8 => ?_)
      · exact s_vretX hF hD dX0_parse_94 rfl
      · refine s_aload_n hF dX0_parse_20 rfl 1 rfl ?_
        refine s_sipush (v := (9999 : Int32)) hF dX0_parse_21 kS_9999 ?_
        refine s_xVi (st := []) (ci := 9) [.int (9999 : Int32)] hF hD dX0_parse_24 cwX0_28 (Nat.le_of_ble_eq_true rfl) (Nat.le_of_ble_eq_true rfl) rfl rfl (Nat.le_of_ble_eq_true rfl) (isK.mo f1 hm5) rfl rfl (Nat.le_of_ble_eq_true rfl) (ctX9_number l1 (9999 : Int32) _) (fun r9 m10 hl11 hm12 => ?_)
        refine s_istore_n (pls' := [(3, .int r9), (0, .ref l0), (1, .ref l1), (2, .int l2)]) hF dX0_parse_27 rfl (by decide) rfl ?_
        refine s_aload_n hF dX0_parse_28 rfl 1 rfl ?_
        refine s_getI (x := (g_I m10 l0 2)) hF dX0_parse_29 flX0_18 (isK.mo (isK.mo f0 hm5) hm12) rfl ?_
        refine s_bipush (v := (6 : Int32)) hF dX0_parse_32 kB_6 ?_
        refine s_icmp_lt (tgt := 47) hF dX0_parse_34 rfl (fun c15 => ?_) (fun c15 => ?_)
        · refine s_aload_n hF dX0_parse_47 rfl 1 rfl ?_
          refine sim_gd (fun g16 => ?_)
          refine s_getR (x := (g_R m10 l0 0)) hF dX0_parse_48 flX0_9 (isK.mo (isK.mo f0 hm5) hm12) g16 rfl ?_
          refine s_aload_n hF dX0_parse_51 rfl 1 rfl ?_
          refine s_getI (x := (g_I m10 l0 2)) hF dX0_parse_52 flX0_18 (isK.mo (isK.mo f0 hm5) hm12) rfl ?_
          refine s_iload_n hF dX0_parse_55 rfl 0 rfl ?_
          refine sim_gd (fun g17 => ?_)
          refine s_iastore hF dX0_parse_56 g17 ?_
          refine s_aload_n hF dX0_parse_57 rfl 1 rfl ?_
          refine sim_gd (fun g18 => ?_)
          refine s_getR (x := (g_R m10 l0 1)) hF dX0_parse_58 flX0_15 (isK.mo (isK.mo f0 hm5) hm12) g18 rfl ?_
          refine s_aload_n hF dX0_parse_61 rfl 1 rfl ?_
          refine s_getI (x := (g_I (p_I m10 (g_R m10 l0 0) (g_I m10 l0 2).toNatClampNeg r9) l0 2)) hF dX0_parse_62 flX0_18 (isK.mo (isK.mo f0 hm5) hm12) rfl ?_
          refine s_aload_n hF dX0_parse_65 rfl 2 rfl ?_
          refine s_ldc (v := (9999999 : Int32)) hF dX0_parse_66 cwX0_39 ?_
          refine s_xVi (st := [.int (g_I (p_I m10 (g_R m10 l0 0) (g_I m10 l0 2).toNatClampNeg r9) l0 2), .ref (g_R m10 l0 1)]) (ci := 9) [.int (9999999 : Int32)] hF hD dX0_parse_68 cwX0_28 (Nat.le_of_ble_eq_true rfl) (Nat.le_of_ble_eq_true rfl) rfl rfl (Nat.le_of_ble_eq_true rfl) (isK.mo (isK.mo f1 hm5) hm12) rfl rfl (Nat.le_of_ble_eq_true rfl) (ctX9_number l1 (9999999 : Int32) _) (fun r19 m20 hl21 hm22 => ?_)
          refine sim_gd (fun g25 => ?_)
          refine s_iastore hF dX0_parse_71 g25 ?_
          refine s_aload_n hF dX0_parse_72 rfl 1 rfl ?_
          refine s_dup hF dX0_parse_73 rfl ?_
          refine s_getI (x := (g_I (p_I m20 (g_R m10 l0 1) (g_I (p_I m10 (g_R m10 l0 0) (g_I m10 l0 2).toNatClampNeg r9) l0 2).toNatClampNeg r19) l0 2)) hF dX0_parse_74 flX0_18 (isK.mo (isK.mo (isK.mo f0 hm5) hm12) hm22) rfl ?_
          refine s_iconst (v := (1 : Int32)) hF dX0_parse_77 kI_1 ?_
          refine s_iadd hF dX0_parse_78 ?_
          refine s_putI hF dX0_parse_79 flX0_18 (isK.mo (isK.mo (isK.mo f0 hm5) hm12) hm22) ?_
          refine s_aload_n hF dX0_parse_82 rfl 2 rfl ?_
          refine s_bipush (v := (59 : Int32)) hF dX0_parse_83 kB_59 ?_
          refine s_xVv (st := []) (ci := 9) [.int (59 : Int32)] hF hD dX0_parse_85 cwX0_40 (Nat.le_of_ble_eq_true rfl) (Nat.le_of_ble_eq_true rfl) rfl rfl (Nat.le_of_ble_eq_true rfl) (isK.mo (isK.mo (isK.mo f1 hm5) hm12) hm22) rfl rfl (Nat.le_of_ble_eq_true rfl) (ctX9_need l1 (59 : Int32) _) (fun r26 m27 hl28 hm29 => ?_)
          refine s_iinc (v := (l2 + (1 : Int32))) (pls' := [(2, .int (l2 + (1 : Int32))), (3, .int r9), (0, .ref l0), (1, .ref l1)]) hF dX0_parse_88 3 rfl rfl (by decide) rfl ?_
          refine s_goto (tgt := 7) hF dX0_parse_91 rfl ?_
          refine s_sub [2, 3, 0] rfl ?_
          exact ih l0 l1 (l2 + (1 : Int32)) _ (isK.mo (isK.mo (isK.mo (isK.mo f0 hm5) hm12) hm22) hm29) (isK.mo (isK.mo (isK.mo (isK.mo f1 hm5) hm12) hm22) hm29)
        · refine s_aload_n hF dX0_parse_37 rfl 2 rfl ?_
          refine s_iconst (v := (3 : Int32)) hF dX0_parse_38 kI_3 ?_
          refine s_aload_n hF dX0_parse_39 rfl 2 rfl ?_
          refine s_getIq (x := (g_I m10 l1 4)) hF dX0_parse_40 fqX0_32 (isK.mo (isK.mo f1 hm5) hm12) rfl ?_
          refine s_xVv (st := []) (ci := 9) [.int (3 : Int32), .int (g_I m10 l1 4)] hF hD dX0_parse_43 cwX0_35 (Nat.le_of_ble_eq_true rfl) (Nat.le_of_ble_eq_true rfl) rfl rfl (Nat.le_of_ble_eq_true rfl) (isK.mo (isK.mo f1 hm5) hm12) rfl rfl (Nat.le_of_ble_eq_true rfl) (ctX9_fail l1 (3 : Int32) (g_I m10 l1 4) _) (fun r32 m33 hl34 hm35 => ?_)
          exact s_vretX hF hD dX0_parse_46 rfl
theorem ctX0_parse  (l0 : Nat) (l1 : Nat) (μ : Mem) : ∀ (r : Unit) (μ' : Mem), LX0_parse l0 l1 μ = some (r, μ') → CtX yX0_parse cX0_parse 4 none 3 [.ref l0, .ref l1] μ (encV r) μ' := by
  refine ct_enterX plX0 (Nat.le_of_ble_eq_true rfl) (fun F hF hD hI => ?_)
  unfold LX0_parse
  refine sim_gd (fun f0 => ?_)
  refine sim_gd (fun f1 => ?_)
  refine s_aload_n hF dX0_parse_0 rfl 0 rfl ?_
  refine s_iconst (v := (0 : Int32)) hF dX0_parse_1 kI_0 ?_
  refine s_putI hF dX0_parse_2 flX0_18 f0 ?_
  refine s_iconst (v := (0 : Int32)) hF dX0_parse_5 kI_0 ?_
  refine s_istore_n (pls' := [(2, .int (0 : Int32)), (0, .ref l0), (1, .ref l1)]) hF dX0_parse_6 rfl (by decide) rfl ?_
  refine s_sub [1, 2, 0] rfl ?_
  exact sX0_parse_7 hF hD 100000 l0 l1 (0 : Int32) _ f0 f1
theorem ctX1_init  (l0 : Nat) (μ : Mem) : ∀ (r : Unit) (μ' : Mem), LX1_init l0 μ = some (r, μ') → CtX yX1_init cX1_init 1 none 1 [.ref l0] μ (encV r) μ' := by
  refine ct_enterX plX1 (Nat.le_of_ble_eq_true rfl) (fun F hF hD hI => ?_)
  unfold LX1_init
  refine sim_gd (fun f0 => ?_)
  refine s_aload_n hF dX1_init_0 rfl 0 rfl ?_
  refine s_objInit hF dX1_init_1 mlX1_3 obi obc (Nat.le_of_ble_eq_true rfl) (Nat.le_of_ble_eq_true rfl) ?_
  refine s_aload_n hF dX1_init_4 rfl 0 rfl ?_
  refine s_bipush (v := (12 : Int32)) hF dX1_init_5 kB_12 ?_
  refine s_newIN (12) hF dX1_init_7 ac_int (by decide) rfl (Nat.le_of_ble_eq_true rfl) (fun r1 m2 hk3 hm4 => ?_)
  refine s_putRF hF (hI rfl) dX1_init_9 flX1_9 (isK.mo f0 hm4) ((isK_iff.mp hk3).1) ?_
  exact s_vretX hF hD dX1_init_12 rfl
theorem ctX1_clear  (l0 : Nat) (μ : Mem) : ∀ (r : Unit) (μ' : Mem), LX1_clear l0 μ = some (r, μ') → CtX yX1_clear cX1_clear 1 none 0 [.ref l0] μ (encV r) μ' := by
  refine ct_enterX plX1 (Nat.le_of_ble_eq_true rfl) (fun F hF hD hI => ?_)
  unfold LX1_clear
  refine sim_gd (fun f0 => ?_)
  refine s_aload_n hF dX1_clear_0 rfl 0 rfl ?_
  refine s_iconst (v := (0 : Int32)) hF dX1_clear_1 kI_0 ?_
  refine s_putI hF dX1_clear_2 flX1_15 f0 ?_
  exact s_vretX hF hD dX1_clear_5 rfl
theorem sX1_parse_7 {F : Option Fx} (hF : FxO F RX1 cX1_parse 5 3) (hD : FxXO F none) : ∀ (fu : Nat) (l0 : Nat) (l1 : Nat) (l2 : Int32) (l3 : Int32) (μ : Mem) (f0 : isK μ l0 1 = true) (f1 : isK μ l1 9 = true), Sim F encV 7 [(0, .ref l0), (1, .ref l1), (2, .int l2), (3, .int l3)] [] μ (mX1_parse_7 fu l0 l1 l2 l3 μ) := by
  intro fu
  induction fu with
  | zero =>
    intro l0 l1 l2 l3 μ f0 f1
    exact sim_none
  | succ fu ih =>
    intro l0 l1 l2 l3 μ f0 f1
    rw [mX1_parse_7]
    refine s_iload_n hF dX1_parse_7 rfl 3 rfl ?_
    refine s_bipush (v := (12 : Int32)) hF dX1_parse_8 kB_12 ?_
    refine s_icmp_gt (tgt := 81) hF dX1_parse_10 rfl (fun c1 => ?_) (fun c1 => ?_)
    · exact s_vretX hF hD dX1_parse_81 rfl
    · refine s_aload_n hF dX1_parse_13 rfl 1 rfl ?_
      refine s_xVi (st := []) (ci := 9) [] hF hD dX1_parse_14 cwX1_19 (Nat.le_of_ble_eq_true rfl) (Nat.le_of_ble_eq_true rfl) rfl rfl (Nat.le_of_ble_eq_true rfl) f1 rfl rfl (Nat.le_of_ble_eq_true rfl) (ctX9_more l1 _) (fun r2 m3 hl4 hm5 => ?_)
      refine s_if_eq (tgt := 81) hF dX1_parse_17 rfl (fun c8 => ?_) (fun c8 => ?_)
      · exact s_vretX hF hD dX1_parse_81 rfl
      · refine s_aload_n hF dX1_parse_20 rfl 1 rfl ?_
        refine s_iload_n hF dX1_parse_21 rfl 2 rfl ?_
        refine s_iconst (v := (1 : Int32)) hF dX1_parse_22 kI_1 ?_
        refine s_isub hF dX1_parse_23 ?_
        refine s_xVi (st := []) (ci := 9) [.int (l2 - (1 : Int32))] hF hD dX1_parse_24 cwX1_25 (Nat.le_of_ble_eq_true rfl) (Nat.le_of_ble_eq_true rfl) rfl rfl (Nat.le_of_ble_eq_true rfl) (isK.mo f1 hm5) rfl rfl (Nat.le_of_ble_eq_true rfl) (ctX9_number l1 (l2 - (1 : Int32)) _) (fun r9 m10 hl11 hm12 => ?_)
        refine s_istore (pls' := [(4, .int r9), (0, .ref l0), (1, .ref l1), (2, .int l2), (3, .int l3)]) hF dX1_parse_27 (by decide) rfl ?_
        refine s_aload_n hF dX1_parse_29 rfl 1 rfl ?_
        refine s_getI (x := (g_I m10 l0 1)) hF dX1_parse_30 flX1_15 (isK.mo (isK.mo f0 hm5) hm12) rfl ?_
        refine s_bipush (v := (12 : Int32)) hF dX1_parse_33 kB_12 ?_
        refine s_icmp_lt (tgt := 48) hF dX1_parse_35 rfl (fun c15 => ?_) (fun c15 => ?_)
        · refine s_aload_n hF dX1_parse_48 rfl 1 rfl ?_
          refine sim_gd (fun g16 => ?_)
          refine s_getR (x := (g_R m10 l0 0)) hF dX1_parse_49 flX1_9 (isK.mo (isK.mo f0 hm5) hm12) g16 rfl ?_
          refine s_aload_n hF dX1_parse_52 rfl 1 rfl ?_
          refine s_getI (x := (g_I m10 l0 1)) hF dX1_parse_53 flX1_15 (isK.mo (isK.mo f0 hm5) hm12) rfl ?_
          refine s_iload hF dX1_parse_56 0 rfl ?_
          refine sim_gd (fun g17 => ?_)
          refine s_iastore hF dX1_parse_58 g17 ?_
          refine s_aload_n hF dX1_parse_59 rfl 1 rfl ?_
          refine s_dup hF dX1_parse_60 rfl ?_
          refine s_getI (x := (g_I (p_I m10 (g_R m10 l0 0) (g_I m10 l0 1).toNatClampNeg r9) l0 1)) hF dX1_parse_61 flX1_15 (isK.mo (isK.mo f0 hm5) hm12) rfl ?_
          refine s_iconst (v := (1 : Int32)) hF dX1_parse_64 kI_1 ?_
          refine s_iadd hF dX1_parse_65 ?_
          refine s_putI hF dX1_parse_66 flX1_15 (isK.mo (isK.mo f0 hm5) hm12) ?_
          refine s_aload_n hF dX1_parse_69 rfl 2 rfl ?_
          refine s_bipush (v := (59 : Int32)) hF dX1_parse_70 kB_59 ?_
          refine s_xVv (st := []) (ci := 9) [.int (59 : Int32)] hF hD dX1_parse_72 cwX1_36 (Nat.le_of_ble_eq_true rfl) (Nat.le_of_ble_eq_true rfl) rfl rfl (Nat.le_of_ble_eq_true rfl) (isK.mo (isK.mo f1 hm5) hm12) rfl rfl (Nat.le_of_ble_eq_true rfl) (ctX9_need l1 (59 : Int32) _) (fun r18 m19 hl20 hm21 => ?_)
          refine s_iinc (v := (l3 + (1 : Int32))) (pls' := [(3, .int (l3 + (1 : Int32))), (4, .int r9), (0, .ref l0), (1, .ref l1), (2, .int l2)]) hF dX1_parse_75 4 rfl rfl (by decide) rfl ?_
          refine s_goto (tgt := 7) hF dX1_parse_78 rfl ?_
          refine s_sub [2, 3, 4, 0] rfl ?_
          exact ih l0 l1 l2 (l3 + (1 : Int32)) _ (isK.mo (isK.mo (isK.mo f0 hm5) hm12) hm21) (isK.mo (isK.mo (isK.mo f1 hm5) hm12) hm21)
        · refine s_aload_n hF dX1_parse_38 rfl 2 rfl ?_
          refine s_iconst (v := (3 : Int32)) hF dX1_parse_39 kI_3 ?_
          refine s_aload_n hF dX1_parse_40 rfl 2 rfl ?_
          refine s_getIq (x := (g_I m10 l1 4)) hF dX1_parse_41 fqX1_29 (isK.mo (isK.mo f1 hm5) hm12) rfl ?_
          refine s_xVv (st := []) (ci := 9) [.int (3 : Int32), .int (g_I m10 l1 4)] hF hD dX1_parse_44 cwX1_32 (Nat.le_of_ble_eq_true rfl) (Nat.le_of_ble_eq_true rfl) rfl rfl (Nat.le_of_ble_eq_true rfl) (isK.mo (isK.mo f1 hm5) hm12) rfl rfl (Nat.le_of_ble_eq_true rfl) (ctX9_fail l1 (3 : Int32) (g_I m10 l1 4) _) (fun r24 m25 hl26 hm27 => ?_)
          exact s_vretX hF hD dX1_parse_47 rfl
theorem ctX1_parse  (l0 : Nat) (l1 : Nat) (l2 : Int32) (μ : Mem) : ∀ (r : Unit) (μ' : Mem), LX1_parse l0 l1 l2 μ = some (r, μ') → CtX yX1_parse cX1_parse 5 none 3 [.ref l0, .ref l1, .int l2] μ (encV r) μ' := by
  refine ct_enterX plX1 (Nat.le_of_ble_eq_true rfl) (fun F hF hD hI => ?_)
  unfold LX1_parse
  refine sim_gd (fun f0 => ?_)
  refine sim_gd (fun f1 => ?_)
  refine s_aload_n hF dX1_parse_0 rfl 0 rfl ?_
  refine s_iconst (v := (0 : Int32)) hF dX1_parse_1 kI_0 ?_
  refine s_putI hF dX1_parse_2 flX1_15 f0 ?_
  refine s_iconst (v := (0 : Int32)) hF dX1_parse_5 kI_0 ?_
  refine s_istore_n (pls' := [(3, .int (0 : Int32)), (0, .ref l0), (1, .ref l1), (2, .int l2)]) hF dX1_parse_6 rfl (by decide) rfl ?_
  refine s_sub [1, 2, 3, 0] rfl ?_
  exact sX1_parse_7 hF hD 100000 l0 l1 l2 (0 : Int32) _ f0 f1
theorem ctX2_init  (l0 : Nat) (μ : Mem) : ∀ (r : Unit) (μ' : Mem), LX2_init l0 μ = some (r, μ') → CtX yX2_init cX2_init 1 none 1 [.ref l0] μ (encV r) μ' := by
  refine ct_enterX plX2 (Nat.le_of_ble_eq_true rfl) (fun F hF hD hI => ?_)
  unfold LX2_init
  refine sim_gd (fun f0 => ?_)
  refine s_aload_n hF dX2_init_0 rfl 0 rfl ?_
  refine s_objInit hF dX2_init_1 mlX2_3 obi obc (Nat.le_of_ble_eq_true rfl) (Nat.le_of_ble_eq_true rfl) ?_
  refine s_aload_n hF dX2_init_4 rfl 0 rfl ?_
  refine s_bipush (v := (16 : Int32)) hF dX2_init_5 kB_16 ?_
  refine s_newRN (c := 18) (t0 := 5) (16) hF hD dX2_init_7 clX2_9 ov_X8 (by decide) (fun _ => rfl) (by decide) (by decide) rfl (Nat.le_of_ble_eq_true rfl) (fun r1 m2 hk3 hm4 => ?_)
  refine s_putRF hF (hI rfl) dX2_init_10 flX2_11 (isK.mo f0 hm4) ((isK_iff.mp hk3).1) ?_
  refine s_aload_n hF dX2_init_13 rfl 0 rfl ?_
  refine s_iconst (v := (3 : Int32)) hF dX2_init_14 kI_3 ?_
  refine s_newRN (c := 18) (t0 := 5) (3) hF hD dX2_init_15 clX2_9 ov_X8 (by decide) (fun _ => rfl) (by decide) (by decide) rfl (Nat.le_of_ble_eq_true rfl) (fun r5 m6 hk7 hm8 => ?_)
  refine s_putRF hF (hI rfl) dX2_init_18 flX2_17 (isK.mo (isK.mo f0 hm4) hm8) ((isK_iff.mp hk7).1) ?_
  refine s_aload_n hF dX2_init_21 rfl 0 rfl ?_
  refine s_bipush (v := (48 : Int32)) hF dX2_init_22 kB_48 ?_
  refine s_newRN (c := 18) (t0 := 5) (48) hF hD dX2_init_24 clX2_9 ov_X8 (by decide) (fun _ => rfl) (by decide) (by decide) rfl (Nat.le_of_ble_eq_true rfl) (fun r9 m10 hk11 hm12 => ?_)
  refine s_putRF hF (hI rfl) dX2_init_27 flX2_20 (isK.mo (isK.mo (isK.mo f0 hm4) hm8) hm12) ((isK_iff.mp hk11).1) ?_
  refine s_aload_n hF dX2_init_30 rfl 0 rfl ?_
  refine s_iconst (v := (3 : Int32)) hF dX2_init_31 kI_3 ?_
  refine s_newIN (3) hF dX2_init_32 ac_int (by decide) rfl (Nat.le_of_ble_eq_true rfl) (fun r13 m14 hk15 hm16 => ?_)
  refine s_putRF hF (hI rfl) dX2_init_34 flX2_23 (isK.mo (isK.mo (isK.mo (isK.mo f0 hm4) hm8) hm12) hm16) ((isK_iff.mp hk15).1) ?_
  exact s_vretX hF hD dX2_init_37 rfl
theorem ctX2_clear  (l0 : Nat) (μ : Mem) : ∀ (r : Unit) (μ' : Mem), LX2_clear l0 μ = some (r, μ') → CtX yX2_clear cX2_clear 1 none 0 [.ref l0] μ (encV r) μ' := by
  refine ct_enterX plX2 (Nat.le_of_ble_eq_true rfl) (fun F hF hD hI => ?_)
  unfold LX2_clear
  refine sim_gd (fun f0 => ?_)
  refine s_aload_n hF dX2_clear_0 rfl 0 rfl ?_
  refine s_iconst (v := (0 : Int32)) hF dX2_clear_1 kI_0 ?_
  refine s_putI hF dX2_clear_2 flX2_27 f0 ?_
  refine s_aload_n hF dX2_clear_5 rfl 0 rfl ?_
  refine s_iconst (v := (0 : Int32)) hF dX2_clear_6 kI_0 ?_
  refine s_putI hF dX2_clear_7 flX2_31 f0 ?_
  exact s_vretX hF hD dX2_clear_10 rfl
theorem ctX5_init  (l0 : Nat) (μ : Mem) : ∀ (r : Unit) (μ' : Mem), LX5_init l0 μ = some (r, μ') → CtX yX5_init cX5_init 1 none 1 [.ref l0] μ (encV r) μ' := by
  refine ct_enterX plX5 (Nat.le_of_ble_eq_true rfl) (fun F hF hD hI => ?_)
  unfold LX5_init
  refine sim_gd (fun f0 => ?_)
  refine s_aload_n hF dX5_init_0 rfl 0 rfl ?_
  refine s_objInit hF dX5_init_1 mlX5_3 obi obc (Nat.le_of_ble_eq_true rfl) (Nat.le_of_ble_eq_true rfl) ?_
  refine s_aload_n hF dX5_init_4 rfl 0 rfl ?_
  refine s_iconst (v := (-1 : Int32)) hF dX5_init_5 kI_m1 ?_
  refine s_putI hF dX5_init_6 flX5_9 f0 ?_
  refine s_aload_n hF dX5_init_9 rfl 0 rfl ?_
  refine s_bipush (v := (24 : Int32)) hF dX5_init_10 kB_24 ?_
  refine s_newLN (24) hF dX5_init_12 ac_long (by decide) rfl (Nat.le_of_ble_eq_true rfl) (fun r1 m2 hk3 hm4 => ?_)
  refine s_putRF hF (hI rfl) dX5_init_14 flX5_15 (isK.mo f0 hm4) ((isK_iff.mp hk3).1) ?_
  refine s_aload_n hF dX5_init_17 rfl 0 rfl ?_
  refine s_bipush (v := (24 : Int32)) hF dX5_init_18 kB_24 ?_
  refine s_newDN (24) hF dX5_init_20 ac_double (by decide) rfl (Nat.le_of_ble_eq_true rfl) (fun r5 m6 hk7 hm8 => ?_)
  refine s_putRF hF (hI rfl) dX5_init_22 flX5_19 (isK.mo (isK.mo f0 hm4) hm8) ((isK_iff.mp hk7).1) ?_
  refine s_aload_n hF dX5_init_25 rfl 0 rfl ?_
  refine s_bipush (v := (24 : Int32)) hF dX5_init_26 kB_24 ?_
  refine s_newBN (24) hF dX5_init_28 ac_byte (by decide) rfl (Nat.le_of_ble_eq_true rfl) (fun r9 m10 hk11 hm12 => ?_)
  refine s_putRF hF (hI rfl) dX5_init_30 flX5_23 (isK.mo (isK.mo (isK.mo f0 hm4) hm8) hm12) ((isK_iff.mp hk11).1) ?_
  exact s_vretX hF hD dX5_init_33 rfl
theorem sX8_init_15 {F : Option Fx} (hF : FxO F RX8 cX8_init 2 2) (hD : FxXO F none) (hI : yX8_init.name = "<init>" → FxI F) : ∀ (fu : Nat) (l0 : Nat) (l1 : Int32) (μ : Mem) (f0 : isK μ l0 8 = true), Sim F encV 15 [(0, .ref l0), (1, .int l1)] [] μ (mX8_init_15 fu l0 l1 μ) := by
  intro fu
  induction fu with
  | zero =>
    intro l0 l1 μ f0
    exact sim_none
  | succ fu ih =>
    intro l0 l1 μ f0
    rw [mX8_init_15]
    refine s_iload_n hF dX8_init_15 rfl 1 rfl ?_
    refine s_bipush (v := (8 : Int32)) hF dX8_init_16 kB_8 ?_
    refine s_icmp_ge (tgt := 40) hF dX8_init_18 rfl (fun c5 => ?_) (fun c5 => ?_)
    · exact s_vretX hF hD dX8_init_40 rfl
    · refine s_aload_n hF dX8_init_21 rfl 0 rfl ?_
      refine sim_gd (fun g6 => ?_)
      refine s_getR (x := (g_R μ l0 0)) hF dX8_init_22 flX8_11 f0 g6 rfl ?_
      refine s_iload_n hF dX8_init_25 rfl 1 rfl ?_
      refine s_newN hF dX8_init_26 clX8_9 insX5 wnX5 ckX5 (fun r7 m8 hk9 hm10 => ?_)
      refine s_dup hF dX8_init_29 rfl ?_
      refine s_xINv (st := [.ref r7, .int l1, .ref (g_R μ l0 0)]) [] hF hD dX8_init_30 cwX8_17 (Nat.le_of_ble_eq_true rfl) (Nat.le_of_ble_eq_true rfl) rfl rfl (Nat.le_of_ble_eq_true rfl) (ctX5_init r7 _) (fun r11 m12 hl13 hm14 => ?_)
      refine sim_gd (fun g17 => ?_)
      refine s_aastore hF dX8_init_33 (by decide) g17 (isK.mo hk9 hm14) ?_
      refine s_iinc (v := (l1 + (1 : Int32))) (pls' := [(1, .int (l1 + (1 : Int32))), (0, .ref l0)]) hF dX8_init_34 1 rfl rfl (by decide) rfl ?_
      refine s_goto (tgt := 15) hF dX8_init_37 rfl ?_
      refine s_sub [1, 0] rfl ?_
      exact ih l0 (l1 + (1 : Int32)) _ (isK.mo (isK.mo f0 hm10) hm14)
theorem ctX8_init  (l0 : Nat) (μ : Mem) : ∀ (r : Unit) (μ' : Mem), LX8_init l0 μ = some (r, μ') → CtX yX8_init cX8_init 2 none 2 [.ref l0] μ (encV r) μ' := by
  refine ct_enterX plX8 (Nat.le_of_ble_eq_true rfl) (fun F hF hD hI => ?_)
  unfold LX8_init
  refine sim_gd (fun f0 => ?_)
  refine s_aload_n hF dX8_init_0 rfl 0 rfl ?_
  refine s_objInit hF dX8_init_1 mlX8_3 obi obc (Nat.le_of_ble_eq_true rfl) (Nat.le_of_ble_eq_true rfl) ?_
  refine s_aload_n hF dX8_init_4 rfl 0 rfl ?_
  refine s_bipush (v := (8 : Int32)) hF dX8_init_5 kB_8 ?_
  refine s_newRN (c := 17) (t0 := 4) (8) hF hD dX8_init_7 clX8_9 ov_X5 (by decide) (fun _ => rfl) (by decide) (by decide) rfl (Nat.le_of_ble_eq_true rfl) (fun r1 m2 hk3 hm4 => ?_)
  refine s_putRF hF (hI rfl) dX8_init_10 flX8_11 (isK.mo f0 hm4) ((isK_iff.mp hk3).1) ?_
  refine s_iconst (v := (0 : Int32)) hF dX8_init_13 kI_0 ?_
  refine s_istore_n (pls' := [(1, .int (0 : Int32)), (0, .ref l0)]) hF dX8_init_14 rfl (by decide) rfl ?_
  refine s_sub [1, 0] rfl ?_
  exact sX8_init_15 hF hD hI 100000 l0 (0 : Int32) _ (isK.mo f0 hm4)
theorem ctX2_slot  (l0 : Nat) (l1 : Int32) (μ : Mem) : ∀ (r : Nat) (μ' : Mem), LX2_slot l0 l1 μ = some (r, μ') → CtX yX2_slot cX2_slot 2 (some (.object "UnlikePens$State")) 3 [.ref l0, .int l1] μ (encR r) μ' := by
  refine ct_enterX plX2 (Nat.le_of_ble_eq_true rfl) (fun F hF hD hI => ?_)
  unfold LX2_slot
  refine sim_gd (fun f0 => ?_)
  refine s_aload_n hF dX2_slot_0 rfl 0 rfl ?_
  refine s_iload_n hF dX2_slot_1 rfl 1 rfl ?_
  refine sim_gd (fun g1 => ?_)
  refine sim_if (fun c2 => ?_) (fun c2 => ?_)
  · refine s_aaload (x := (g_R μ l0 l1.toNatClampNeg)) hF dX2_slot_2 (by decide) (by decide) g1 c2 rfl ?_
    refine s_ifnonnull_r (tgt := 16) hF dX2_slot_3 rfl ?_
    refine s_aload_n hF dX2_slot_16 rfl 0 rfl ?_
    refine s_iload_n hF dX2_slot_17 rfl 1 rfl ?_
    refine s_aaload (x := (g_R μ l0 l1.toNatClampNeg)) hF dX2_slot_18 (by decide) (by decide) g1 c2 rfl ?_
    refine sim_gd (fun g3 => ?_)
    exact s_aretX hF hD (Or.inl ⟨_, rfl⟩) dX2_slot_19 g3 rfl
  · refine s_aaloadN hF dX2_slot_2 (by decide) (by decide) g1 (by omega) ?_
    refine s_ifnonnull_n hF dX2_slot_3 ?_
    refine s_aload_n hF dX2_slot_6 rfl 0 rfl ?_
    refine s_iload_n hF dX2_slot_7 rfl 1 rfl ?_
    refine s_newN hF dX2_slot_8 clX2_9 insX8 wnX8 ckX8 (fun r4 m5 hk6 hm7 => ?_)
    refine s_dup hF dX2_slot_11 rfl ?_
    refine s_xIv (st := [.ref r4, .int l1, .ref l0]) [] hF hD dX2_slot_12 cwX2_34 (Nat.le_of_ble_eq_true rfl) (Nat.le_of_ble_eq_true rfl) rfl rfl (Nat.le_of_ble_eq_true rfl) (ctX8_init r4 _) (fun r8 m9 hl10 hm11 => ?_)
    refine sim_gd (fun g14 => ?_)
    refine s_aastore hF dX2_slot_15 (by decide) g14 (isK.mo hk6 hm11) ?_
    refine s_aload_n hF dX2_slot_16 rfl 0 rfl ?_
    refine s_iload_n hF dX2_slot_17 rfl 1 rfl ?_
    refine sim_gd (fun g15 => ?_)
    refine s_aaload (x := (g_R (p_R m9 l0 l1.toNatClampNeg r4) l0 l1.toNatClampNeg)) hF dX2_slot_18 (by decide) (by decide) g14 g15 rfl ?_
    refine sim_gd (fun g16 => ?_)
    exact s_aretX hF hD (Or.inl ⟨_, rfl⟩) dX2_slot_19 g16 rfl
theorem ctX5_copyPlaces  (l0 : Nat) (l1 : Nat) (l2 : Int32) (μ : Mem) : ∀ (r : Unit) (μ' : Mem), LX5_copyPlaces l0 l1 l2 μ = some (r, μ') → CtX yX5_copyPlaces cX5_copyPlaces 3 none 1 [.ref l0, .ref l1, .int l2] μ (encV r) μ' := by
  refine ct_enterX plX5 (Nat.le_of_ble_eq_true rfl) (fun F hF hD hI => ?_)
  unfold LX5_copyPlaces
  refine sim_gd (fun f0 => ?_)
  refine sim_gd (fun f1 => ?_)
  refine s_aload_n hF dX5_copyPlaces_0 rfl 1 rfl ?_
  refine sim_gd (fun g1 => ?_)
  refine s_getR (x := (g_R μ l1 5)) hF dX5_copyPlaces_1 flX5_15 f1 g1 rfl ?_
  refine s_iconst (v := (0 : Int32)) hF dX5_copyPlaces_4 kI_0 ?_
  refine s_aload_n hF dX5_copyPlaces_5 rfl 0 rfl ?_
  refine sim_gd (fun g2 => ?_)
  refine s_getR (x := (g_R μ l0 5)) hF dX5_copyPlaces_6 flX5_15 f0 g2 rfl ?_
  refine s_iconst (v := (0 : Int32)) hF dX5_copyPlaces_9 kI_0 ?_
  refine s_iload_n hF dX5_copyPlaces_10 rfl 2 rfl ?_
  refine sim_gd (fun g3 => ?_)
  refine s_cpL hF dX5_copyPlaces_11 mlX5_47 cp_n cp_s cp_i (Nat.le_of_ble_eq_true rfl) (Nat.le_of_ble_eq_true rfl) g3 ?_
  refine s_aload_n hF dX5_copyPlaces_14 rfl 1 rfl ?_
  refine sim_gd (fun g4 => ?_)
  refine s_getR (x := (g_R μ l1 6)) hF dX5_copyPlaces_15 flX5_19 f1 g4 rfl ?_
  refine s_iconst (v := (0 : Int32)) hF dX5_copyPlaces_18 kI_0 ?_
  refine s_aload_n hF dX5_copyPlaces_19 rfl 0 rfl ?_
  refine sim_gd (fun g5 => ?_)
  refine s_getR (x := (g_R μ l0 6)) hF dX5_copyPlaces_20 flX5_19 f0 g5 rfl ?_
  refine s_iconst (v := (0 : Int32)) hF dX5_copyPlaces_23 kI_0 ?_
  refine s_iload_n hF dX5_copyPlaces_24 rfl 2 rfl ?_
  refine sim_gd (fun g6 => ?_)
  refine s_cpD hF dX5_copyPlaces_25 mlX5_47 cp_n cp_s cp_i (Nat.le_of_ble_eq_true rfl) (Nat.le_of_ble_eq_true rfl) g6 ?_
  refine s_aload_n hF dX5_copyPlaces_28 rfl 1 rfl ?_
  refine sim_gd (fun g7 => ?_)
  refine s_getR (x := (g_R μ l1 7)) hF dX5_copyPlaces_29 flX5_23 f1 g7 rfl ?_
  refine s_iconst (v := (0 : Int32)) hF dX5_copyPlaces_32 kI_0 ?_
  refine s_aload_n hF dX5_copyPlaces_33 rfl 0 rfl ?_
  refine sim_gd (fun g8 => ?_)
  refine s_getR (x := (g_R μ l0 7)) hF dX5_copyPlaces_34 flX5_23 f0 g8 rfl ?_
  refine s_iconst (v := (0 : Int32)) hF dX5_copyPlaces_37 kI_0 ?_
  refine s_iload_n hF dX5_copyPlaces_38 rfl 2 rfl ?_
  refine sim_gd (fun g9 => ?_)
  refine s_cpB hF dX5_copyPlaces_39 mlX5_47 cp_n cp_s cp_i (Nat.le_of_ble_eq_true rfl) (Nat.le_of_ble_eq_true rfl) g9 ?_
  exact s_vretX hF hD dX5_copyPlaces_42 rfl
theorem ctX5_copyFrom  (l0 : Nat) (l1 : Nat) (μ : Mem) : ∀ (r : Unit) (μ' : Mem), LX5_copyFrom l0 l1 μ = some (r, μ') → CtX yX5_copyFrom cX5_copyFrom 2 none 2 [.ref l0, .ref l1] μ (encV r) μ' := by
  refine ct_enterX plX5 (Nat.le_of_ble_eq_true rfl) (fun F hF hD hI => ?_)
  unfold LX5_copyFrom
  refine sim_gd (fun f0 => ?_)
  refine sim_gd (fun f1 => ?_)
  refine s_aload_n hF dX5_copyFrom_0 rfl 0 rfl ?_
  refine s_aload_n hF dX5_copyFrom_1 rfl 1 rfl ?_
  refine s_getI (x := (g_I μ l1 0)) hF dX5_copyFrom_2 flX5_27 f1 rfl ?_
  refine s_putI hF dX5_copyFrom_5 flX5_27 f0 ?_
  refine s_aload_n hF dX5_copyFrom_8 rfl 0 rfl ?_
  refine s_aload_n hF dX5_copyFrom_9 rfl 1 rfl ?_
  refine s_getI (x := (g_I (p_I μ l0 0 (g_I μ l1 0)) l1 1)) hF dX5_copyFrom_10 flX5_30 f1 rfl ?_
  refine s_putI hF dX5_copyFrom_13 flX5_30 f0 ?_
  refine s_aload_n hF dX5_copyFrom_16 rfl 0 rfl ?_
  refine s_aload_n hF dX5_copyFrom_17 rfl 1 rfl ?_
  refine s_getI (x := (g_I (p_I (p_I μ l0 0 (g_I μ l1 0)) l0 1 (g_I (p_I μ l0 0 (g_I μ l1 0)) l1 1)) l1 2)) hF dX5_copyFrom_18 flX5_33 f1 rfl ?_
  refine s_putI hF dX5_copyFrom_21 flX5_33 f0 ?_
  refine s_aload_n hF dX5_copyFrom_24 rfl 0 rfl ?_
  refine s_aload_n hF dX5_copyFrom_25 rfl 1 rfl ?_
  refine s_getI (x := (g_I (p_I (p_I (p_I μ l0 0 (g_I μ l1 0)) l0 1 (g_I (p_I μ l0 0 (g_I μ l1 0)) l1 1)) l0 2 (g_I (p_I (p_I μ l0 0 (g_I μ l1 0)) l0 1 (g_I (p_I μ l0 0 (g_I μ l1 0)) l1 1)) l1 2)) l1 3)) hF dX5_copyFrom_26 flX5_9 f1 rfl ?_
  refine s_putI hF dX5_copyFrom_29 flX5_9 f0 ?_
  refine s_aload_n hF dX5_copyFrom_32 rfl 0 rfl ?_
  refine s_aload_n hF dX5_copyFrom_33 rfl 1 rfl ?_
  refine s_getI (x := (g_I (p_I (p_I (p_I (p_I μ l0 0 (g_I μ l1 0)) l0 1 (g_I (p_I μ l0 0 (g_I μ l1 0)) l1 1)) l0 2 (g_I (p_I (p_I μ l0 0 (g_I μ l1 0)) l0 1 (g_I (p_I μ l0 0 (g_I μ l1 0)) l1 1)) l1 2)) l0 3 (g_I (p_I (p_I (p_I μ l0 0 (g_I μ l1 0)) l0 1 (g_I (p_I μ l0 0 (g_I μ l1 0)) l1 1)) l0 2 (g_I (p_I (p_I μ l0 0 (g_I μ l1 0)) l0 1 (g_I (p_I μ l0 0 (g_I μ l1 0)) l1 1)) l1 2)) l1 3)) l1 4)) hF dX5_copyFrom_34 flX5_40 f1 rfl ?_
  refine s_putI hF dX5_copyFrom_37 flX5_40 f0 ?_
  refine s_aload_n hF dX5_copyFrom_40 rfl 0 rfl ?_
  refine s_aload_n hF dX5_copyFrom_41 rfl 1 rfl ?_
  refine s_bipush (v := (24 : Int32)) hF dX5_copyFrom_42 kB_24 ?_
  refine s_xVv (st := []) (ci := 5) [.ref l1, .int (24 : Int32)] hF hD dX5_copyFrom_44 cwX5_43 (Nat.le_of_ble_eq_true rfl) (Nat.le_of_ble_eq_true rfl) rfl rfl (Nat.le_of_ble_eq_true rfl) f0 rfl rfl (Nat.le_of_ble_eq_true rfl) (ctX5_copyPlaces l0 l1 (24 : Int32) _) (fun r1 m2 hl3 hm4 => ?_)
  exact s_vretX hF hD dX5_copyFrom_47 rfl
theorem sX8_copyFrom_34 {F : Option Fx} (hF : FxO F RX8 cX8_copyFrom 3 3) (hD : FxXO F none) : ∀ (fu : Nat) (l0 : Nat) (l1 : Nat) (l2 : Int32) (μ : Mem) (f0 : isK μ l0 8 = true) (f1 : isK μ l1 8 = true), Sim F encV 34 [(0, .ref l0), (1, .ref l1), (2, .int l2)] [] μ (mX8_copyFrom_34 fu l0 l1 l2 μ) := by
  intro fu
  induction fu with
  | zero =>
    intro l0 l1 l2 μ f0 f1
    exact sim_none
  | succ fu ih =>
    intro l0 l1 l2 μ f0 f1
    rw [mX8_copyFrom_34]
    refine s_iload_n hF dX8_copyFrom_34 rfl 2 rfl ?_
    refine s_aload_n hF dX8_copyFrom_35 rfl 0 rfl ?_
    refine s_getI (x := (g_I μ l0 1)) hF dX8_copyFrom_36 flX8_23 f0 rfl ?_
    refine s_icmp_ge (tgt := 63) hF dX8_copyFrom_39 rfl (fun c1 => ?_) (fun c1 => ?_)
    · exact s_vretX hF hD dX8_copyFrom_63 rfl
    · refine s_aload_n hF dX8_copyFrom_42 rfl 0 rfl ?_
      refine sim_gd (fun g2 => ?_)
      refine s_getR (x := (g_R μ l0 0)) hF dX8_copyFrom_43 flX8_11 f0 g2 rfl ?_
      refine s_iload_n hF dX8_copyFrom_46 rfl 2 rfl ?_
      refine sim_gd (fun g3 => ?_)
      refine sim_gd (fun g4 => ?_)
      refine s_aaload (x := (g_R μ (g_R μ l0 0) l2.toNatClampNeg)) hF dX8_copyFrom_47 (by decide) (by decide) g3 g4 rfl ?_
      refine s_aload_n hF dX8_copyFrom_48 rfl 1 rfl ?_
      refine sim_gd (fun g5 => ?_)
      refine s_getR (x := (g_R μ l1 0)) hF dX8_copyFrom_49 flX8_11 f1 g5 rfl ?_
      refine s_iload_n hF dX8_copyFrom_52 rfl 2 rfl ?_
      refine sim_gd (fun g6 => ?_)
      refine sim_gd (fun g7 => ?_)
      refine s_aaload (x := (g_R μ (g_R μ l1 0) l2.toNatClampNeg)) hF dX8_copyFrom_53 (by decide) (by decide) g6 g7 rfl ?_
      refine sim_gd (fun g14 => ?_)
      refine s_xVv (st := []) (ci := 5) [.ref (g_R μ (g_R μ l1 0) l2.toNatClampNeg)] hF hD dX8_copyFrom_54 cwX8_52 (Nat.le_of_ble_eq_true rfl) (Nat.le_of_ble_eq_true rfl) rfl rfl (Nat.le_of_ble_eq_true rfl) g14 rfl rfl (Nat.le_of_ble_eq_true rfl) (ctX5_copyFrom (g_R μ (g_R μ l0 0) l2.toNatClampNeg) (g_R μ (g_R μ l1 0) l2.toNatClampNeg) _) (fun r8 m9 hl10 hm11 => ?_)
      refine s_iinc (v := (l2 + (1 : Int32))) (pls' := [(2, .int (l2 + (1 : Int32))), (0, .ref l0), (1, .ref l1)]) hF dX8_copyFrom_57 2 rfl rfl (by decide) rfl ?_
      refine s_goto (tgt := 34) hF dX8_copyFrom_60 rfl ?_
      refine s_sub [1, 2, 0] rfl ?_
      exact ih l0 l1 (l2 + (1 : Int32)) _ (isK.mo f0 hm11) (isK.mo f1 hm11)
theorem ctX8_copyFrom  (l0 : Nat) (l1 : Nat) (μ : Mem) : ∀ (r : Unit) (μ' : Mem), LX8_copyFrom l0 l1 μ = some (r, μ') → CtX yX8_copyFrom cX8_copyFrom 3 none 3 [.ref l0, .ref l1] μ (encV r) μ' := by
  refine ct_enterX plX8 (Nat.le_of_ble_eq_true rfl) (fun F hF hD hI => ?_)
  unfold LX8_copyFrom
  refine sim_gd (fun f0 => ?_)
  refine sim_gd (fun f1 => ?_)
  refine s_aload_n hF dX8_copyFrom_0 rfl 0 rfl ?_
  refine s_aload_n hF dX8_copyFrom_1 rfl 1 rfl ?_
  refine s_getI (x := (g_I μ l1 1)) hF dX8_copyFrom_2 flX8_23 f1 rfl ?_
  refine s_putI hF dX8_copyFrom_5 flX8_23 f0 ?_
  refine s_aload_n hF dX8_copyFrom_8 rfl 0 rfl ?_
  refine s_aload_n hF dX8_copyFrom_9 rfl 1 rfl ?_
  refine s_getI (x := (g_I (p_I μ l0 1 (g_I μ l1 1)) l1 2)) hF dX8_copyFrom_10 flX8_26 f1 rfl ?_
  refine s_putI hF dX8_copyFrom_13 flX8_26 f0 ?_
  refine s_aload_n hF dX8_copyFrom_16 rfl 0 rfl ?_
  refine s_aload_n hF dX8_copyFrom_17 rfl 1 rfl ?_
  refine s_getI (x := (g_I (p_I (p_I μ l0 1 (g_I μ l1 1)) l0 2 (g_I (p_I μ l0 1 (g_I μ l1 1)) l1 2)) l1 3)) hF dX8_copyFrom_18 flX8_29 f1 rfl ?_
  refine s_putI hF dX8_copyFrom_21 flX8_29 f0 ?_
  refine s_aload_n hF dX8_copyFrom_24 rfl 0 rfl ?_
  refine s_aload_n hF dX8_copyFrom_25 rfl 1 rfl ?_
  refine s_getI (x := (g_I (p_I (p_I (p_I μ l0 1 (g_I μ l1 1)) l0 2 (g_I (p_I μ l0 1 (g_I μ l1 1)) l1 2)) l0 3 (g_I (p_I (p_I μ l0 1 (g_I μ l1 1)) l0 2 (g_I (p_I μ l0 1 (g_I μ l1 1)) l1 2)) l1 3)) l1 4)) hF dX8_copyFrom_26 flX8_32 f1 rfl ?_
  refine s_putI hF dX8_copyFrom_29 flX8_32 f0 ?_
  refine s_iconst (v := (0 : Int32)) hF dX8_copyFrom_32 kI_0 ?_
  refine s_istore_n (pls' := [(2, .int (0 : Int32)), (0, .ref l0), (1, .ref l1)]) hF dX8_copyFrom_33 rfl (by decide) rfl ?_
  refine s_sub [1, 2, 0] rfl ?_
  exact sX8_copyFrom_34 hF hD 100000 l0 l1 (0 : Int32) _ f0 f1
theorem ctX2_keep  (l0 : Nat) (l1 : Nat) (μ : Mem) : ∀ (r : Unit) (μ' : Mem), LX2_keep l0 l1 μ = some (r, μ') → CtX yX2_keep cX2_keep 2 none 4 [.ref l0, .ref l1] μ (encV r) μ' := by
  refine ct_enterX plX2 (Nat.le_of_ble_eq_true rfl) (fun F hF hD hI => ?_)
  unfold LX2_keep
  refine sim_gd (fun f0 => ?_)
  refine sim_gd (fun f1 => ?_)
  refine s_aload_n hF dX2_keep_0 rfl 0 rfl ?_
  refine sim_gd (fun g1 => ?_)
  refine s_getR (x := (g_R μ l0 0)) hF dX2_keep_1 flX2_11 f0 g1 rfl ?_
  refine s_aload_n hF dX2_keep_4 rfl 0 rfl ?_
  refine s_getI (x := (g_I μ l0 4)) hF dX2_keep_5 flX2_27 f0 rfl ?_
  refine s_xSr (st := []) [.ref (g_R μ l0 0), .int (g_I μ l0 4)] hF hD dX2_keep_8 cwX2_35 (Nat.le_of_ble_eq_true rfl) (Nat.le_of_ble_eq_true rfl) rfl rfl (Nat.le_of_ble_eq_true rfl) (ctX2_slot (g_R μ l0 0) (g_I μ l0 4) _) (fun r2 m3 hl4 hm5 => ?_)
  refine s_aload_n hF dX2_keep_11 rfl 1 rfl ?_
  refine sim_gd (fun g14 => ?_)
  refine s_xVv (st := []) (ci := 8) [.ref l1] hF hD dX2_keep_12 cwX2_39 (Nat.le_of_ble_eq_true rfl) (Nat.le_of_ble_eq_true rfl) rfl rfl (Nat.le_of_ble_eq_true rfl) g14 rfl rfl (Nat.le_of_ble_eq_true rfl) (ctX8_copyFrom r2 l1 _) (fun r8 m9 hl10 hm11 => ?_)
  refine s_aload_n hF dX2_keep_15 rfl 0 rfl ?_
  refine s_dup hF dX2_keep_16 rfl ?_
  refine s_getI (x := (g_I m9 l0 4)) hF dX2_keep_17 flX2_27 (isK.mo (isK.mo f0 hm5) hm11) rfl ?_
  refine s_iconst (v := (1 : Int32)) hF dX2_keep_20 kI_1 ?_
  refine s_iadd hF dX2_keep_21 ?_
  refine s_putI hF dX2_keep_22 flX2_27 (isK.mo (isK.mo f0 hm5) hm11) ?_
  exact s_vretX hF hD dX2_keep_25 rfl
theorem ctX2_takeBack  (l0 : Nat) (l1 : Nat) (μ : Mem) : ∀ (r : Unit) (μ' : Mem), LX2_takeBack l0 l1 μ = some (r, μ') → CtX yX2_takeBack cX2_takeBack 2 none 4 [.ref l0, .ref l1] μ (encV r) μ' := by
  refine ct_enterX plX2 (Nat.le_of_ble_eq_true rfl) (fun F hF hD hI => ?_)
  unfold LX2_takeBack
  refine sim_gd (fun f0 => ?_)
  refine sim_gd (fun f1 => ?_)
  refine s_aload_n hF dX2_takeBack_0 rfl 0 rfl ?_
  refine s_dup hF dX2_takeBack_1 rfl ?_
  refine s_getI (x := (g_I μ l0 4)) hF dX2_takeBack_2 flX2_27 f0 rfl ?_
  refine s_iconst (v := (1 : Int32)) hF dX2_takeBack_5 kI_1 ?_
  refine s_isub hF dX2_takeBack_6 ?_
  refine s_putI hF dX2_takeBack_7 flX2_27 f0 ?_
  refine s_aload_n hF dX2_takeBack_10 rfl 1 rfl ?_
  refine s_aload_n hF dX2_takeBack_11 rfl 0 rfl ?_
  refine sim_gd (fun g1 => ?_)
  refine s_getR (x := (g_R μ l0 0)) hF dX2_takeBack_12 flX2_11 f0 g1 rfl ?_
  refine s_aload_n hF dX2_takeBack_15 rfl 0 rfl ?_
  refine s_getI (x := (g_I (p_I μ l0 4 ((g_I μ l0 4) - (1 : Int32))) l0 4)) hF dX2_takeBack_16 flX2_27 f0 rfl ?_
  refine s_xSr (st := [.ref l1]) [.ref (g_R μ l0 0), .int (g_I (p_I μ l0 4 ((g_I μ l0 4) - (1 : Int32))) l0 4)] hF hD dX2_takeBack_19 cwX2_35 (Nat.le_of_ble_eq_true rfl) (Nat.le_of_ble_eq_true rfl) rfl rfl (Nat.le_of_ble_eq_true rfl) (ctX2_slot (g_R μ l0 0) (g_I (p_I μ l0 4 ((g_I μ l0 4) - (1 : Int32))) l0 4) _) (fun r2 m3 hl4 hm5 => ?_)
  refine s_xVv (st := []) (ci := 8) [.ref r2] hF hD dX2_takeBack_22 cwX2_39 (Nat.le_of_ble_eq_true rfl) (Nat.le_of_ble_eq_true rfl) rfl rfl (Nat.le_of_ble_eq_true rfl) (isK.mo f1 hm5) rfl rfl (Nat.le_of_ble_eq_true rfl) (ctX8_copyFrom l1 r2 _) (fun r8 m9 hl10 hm11 => ?_)
  exact s_vretX hF hD dX2_takeBack_25 rfl
theorem sX2_takeImage_30 {F : Option Fx} (hF : FxO F RX2 cX2_takeImage 3 4) (hD : FxXO F none) : ∀ (fu : Nat) (l0 : Nat) (l2 : Int32) (μ : Mem) (f0 : isK μ l0 2 = true), Sim F encV 30 [(0, .ref l0), (2, .int l2)] [] μ (mX2_takeImage_30 fu l0 l2 μ) := by
  intro fu
  induction fu with
  | zero =>
    intro l0 l2 μ f0
    exact sim_none
  | succ fu ih =>
    intro l0 l2 μ f0
    rw [mX2_takeImage_30]
    refine s_iload_n hF dX2_takeImage_30 rfl 1 rfl ?_
    refine s_aload_n hF dX2_takeImage_31 rfl 0 rfl ?_
    refine s_getI (x := (g_I μ l0 4)) hF dX2_takeImage_32 flX2_27 f0 rfl ?_
    refine s_icmp_ge (tgt := 71) hF dX2_takeImage_35 rfl (fun c17 => ?_) (fun c17 => ?_)
    · refine s_aload_n hF dX2_takeImage_71 rfl 0 rfl ?_
      refine s_dup hF dX2_takeImage_72 rfl ?_
      refine s_getI (x := (g_I μ l0 5)) hF dX2_takeImage_73 flX2_31 f0 rfl ?_
      refine s_iconst (v := (1 : Int32)) hF dX2_takeImage_76 kI_1 ?_
      refine s_iadd hF dX2_takeImage_77 ?_
      refine s_putI hF dX2_takeImage_78 flX2_31 f0 ?_
      exact s_vretX hF hD dX2_takeImage_81 rfl
    · refine s_aload_n hF dX2_takeImage_38 rfl 0 rfl ?_
      refine sim_gd (fun g18 => ?_)
      refine s_getR (x := (g_R μ l0 2)) hF dX2_takeImage_39 flX2_20 f0 g18 rfl ?_
      refine s_aload_n hF dX2_takeImage_42 rfl 0 rfl ?_
      refine s_getI (x := (g_I μ l0 5)) hF dX2_takeImage_43 flX2_31 f0 rfl ?_
      refine s_bipush (v := (16 : Int32)) hF dX2_takeImage_46 kB_16 ?_
      refine s_imul hF dX2_takeImage_48 ?_
      refine s_iload_n hF dX2_takeImage_49 rfl 1 rfl ?_
      refine s_iadd hF dX2_takeImage_50 ?_
      refine s_xSr (st := []) [.ref (g_R μ l0 2), .int (((g_I μ l0 5) * (16 : Int32)) + l2)] hF hD dX2_takeImage_51 cwX2_35 (Nat.le_of_ble_eq_true rfl) (Nat.le_of_ble_eq_true rfl) rfl rfl (Nat.le_of_ble_eq_true rfl) (ctX2_slot (g_R μ l0 2) (((g_I μ l0 5) * (16 : Int32)) + l2) _) (fun r19 m20 hl21 hm22 => ?_)
      refine s_aload_n hF dX2_takeImage_54 rfl 0 rfl ?_
      refine sim_gd (fun g25 => ?_)
      refine s_getR (x := (g_R m20 l0 0)) hF dX2_takeImage_55 flX2_11 (isK.mo f0 hm22) g25 rfl ?_
      refine s_iload_n hF dX2_takeImage_58 rfl 1 rfl ?_
      refine s_xSr (st := [.ref r19]) [.ref (g_R m20 l0 0), .int l2] hF hD dX2_takeImage_59 cwX2_35 (Nat.le_of_ble_eq_true rfl) (Nat.le_of_ble_eq_true rfl) rfl rfl (Nat.le_of_ble_eq_true rfl) (ctX2_slot (g_R m20 l0 0) l2 _) (fun r26 m27 hl28 hm29 => ?_)
      refine sim_gd (fun g38 => ?_)
      refine s_xVv (st := []) (ci := 8) [.ref r26] hF hD dX2_takeImage_62 cwX2_39 (Nat.le_of_ble_eq_true rfl) (Nat.le_of_ble_eq_true rfl) rfl rfl (Nat.le_of_ble_eq_true rfl) g38 rfl rfl (Nat.le_of_ble_eq_true rfl) (ctX8_copyFrom r19 r26 _) (fun r32 m33 hl34 hm35 => ?_)
      refine s_iinc (v := (l2 + (1 : Int32))) (pls' := [(2, .int (l2 + (1 : Int32))), (0, .ref l0)]) hF dX2_takeImage_65 1 rfl rfl (by decide) rfl ?_
      refine s_goto (tgt := 30) hF dX2_takeImage_68 rfl ?_
      refine s_sub [1, 0] rfl ?_
      exact ih l0 (l2 + (1 : Int32)) _ (isK.mo (isK.mo (isK.mo f0 hm22) hm29) hm35)
theorem ctX2_takeImage  (l0 : Nat) (l1 : Nat) (μ : Mem) : ∀ (r : Unit) (μ' : Mem), LX2_takeImage l0 l1 μ = some (r, μ') → CtX yX2_takeImage cX2_takeImage 3 none 4 [.ref l0, .ref l1] μ (encV r) μ' := by
  refine ct_enterX plX2 (Nat.le_of_ble_eq_true rfl) (fun F hF hD hI => ?_)
  unfold LX2_takeImage
  refine sim_gd (fun f0 => ?_)
  refine sim_gd (fun f1 => ?_)
  refine s_aload_n hF dX2_takeImage_0 rfl 0 rfl ?_
  refine sim_gd (fun g1 => ?_)
  refine s_getR (x := (g_R μ l0 1)) hF dX2_takeImage_1 flX2_17 f0 g1 rfl ?_
  refine s_aload_n hF dX2_takeImage_4 rfl 0 rfl ?_
  refine s_getI (x := (g_I μ l0 5)) hF dX2_takeImage_5 flX2_31 f0 rfl ?_
  refine s_xSr (st := []) [.ref (g_R μ l0 1), .int (g_I μ l0 5)] hF hD dX2_takeImage_8 cwX2_35 (Nat.le_of_ble_eq_true rfl) (Nat.le_of_ble_eq_true rfl) rfl rfl (Nat.le_of_ble_eq_true rfl) (ctX2_slot (g_R μ l0 1) (g_I μ l0 5) _) (fun r2 m3 hl4 hm5 => ?_)
  refine s_aload_n hF dX2_takeImage_11 rfl 1 rfl ?_
  refine sim_gd (fun g14 => ?_)
  refine s_xVv (st := []) (ci := 8) [.ref l1] hF hD dX2_takeImage_12 cwX2_39 (Nat.le_of_ble_eq_true rfl) (Nat.le_of_ble_eq_true rfl) rfl rfl (Nat.le_of_ble_eq_true rfl) g14 rfl rfl (Nat.le_of_ble_eq_true rfl) (ctX8_copyFrom r2 l1 _) (fun r8 m9 hl10 hm11 => ?_)
  refine s_aload_n hF dX2_takeImage_15 rfl 0 rfl ?_
  refine sim_gd (fun g15 => ?_)
  refine s_getR (x := (g_R m9 l0 3)) hF dX2_takeImage_16 flX2_23 (isK.mo (isK.mo f0 hm5) hm11) g15 rfl ?_
  refine s_aload_n hF dX2_takeImage_19 rfl 0 rfl ?_
  refine s_getI (x := (g_I m9 l0 5)) hF dX2_takeImage_20 flX2_31 (isK.mo (isK.mo f0 hm5) hm11) rfl ?_
  refine s_aload_n hF dX2_takeImage_23 rfl 0 rfl ?_
  refine s_getI (x := (g_I m9 l0 4)) hF dX2_takeImage_24 flX2_27 (isK.mo (isK.mo f0 hm5) hm11) rfl ?_
  refine sim_gd (fun g16 => ?_)
  refine s_iastore hF dX2_takeImage_27 g16 ?_
  refine s_iconst (v := (0 : Int32)) hF dX2_takeImage_28 kI_0 ?_
  refine s_istore_n (pls' := [(2, .int (0 : Int32)), (0, .ref l0), (1, .ref l1)]) hF dX2_takeImage_29 rfl (by decide) rfl ?_
  refine s_sub [1, 0] rfl ?_
  exact sX2_takeImage_30 hF hD 100000 l0 (0 : Int32) _ (isK.mo (isK.mo f0 hm5) hm11)
theorem sX2_giveBack_40 {F : Option Fx} (hF : FxO F RX2 cX2_giveBack 3 4) (hD : FxXO F none) : ∀ (fu : Nat) (l0 : Nat) (l2 : Int32) (μ : Mem) (f0 : isK μ l0 2 = true), Sim F encV 40 [(0, .ref l0), (2, .int l2)] [] μ (mX2_giveBack_40 fu l0 l2 μ) := by
  intro fu
  induction fu with
  | zero =>
    intro l0 l2 μ f0
    exact sim_none
  | succ fu ih =>
    intro l0 l2 μ f0
    rw [mX2_giveBack_40]
    refine s_iload_n hF dX2_giveBack_40 rfl 1 rfl ?_
    refine s_aload_n hF dX2_giveBack_41 rfl 0 rfl ?_
    refine s_getI (x := (g_I μ l0 4)) hF dX2_giveBack_42 flX2_27 f0 rfl ?_
    refine s_icmp_ge (tgt := 81) hF dX2_giveBack_45 rfl (fun c16 => ?_) (fun c16 => ?_)
    · exact s_vretX hF hD dX2_giveBack_81 rfl
    · refine s_aload_n hF dX2_giveBack_48 rfl 0 rfl ?_
      refine sim_gd (fun g17 => ?_)
      refine s_getR (x := (g_R μ l0 0)) hF dX2_giveBack_49 flX2_11 f0 g17 rfl ?_
      refine s_iload_n hF dX2_giveBack_52 rfl 1 rfl ?_
      refine s_xSr (st := []) [.ref (g_R μ l0 0), .int l2] hF hD dX2_giveBack_53 cwX2_35 (Nat.le_of_ble_eq_true rfl) (Nat.le_of_ble_eq_true rfl) rfl rfl (Nat.le_of_ble_eq_true rfl) (ctX2_slot (g_R μ l0 0) l2 _) (fun r18 m19 hl20 hm21 => ?_)
      refine s_aload_n hF dX2_giveBack_56 rfl 0 rfl ?_
      refine sim_gd (fun g24 => ?_)
      refine s_getR (x := (g_R m19 l0 2)) hF dX2_giveBack_57 flX2_20 (isK.mo f0 hm21) g24 rfl ?_
      refine s_aload_n hF dX2_giveBack_60 rfl 0 rfl ?_
      refine s_getI (x := (g_I m19 l0 5)) hF dX2_giveBack_61 flX2_31 (isK.mo f0 hm21) rfl ?_
      refine s_bipush (v := (16 : Int32)) hF dX2_giveBack_64 kB_16 ?_
      refine s_imul hF dX2_giveBack_66 ?_
      refine s_iload_n hF dX2_giveBack_67 rfl 1 rfl ?_
      refine s_iadd hF dX2_giveBack_68 ?_
      refine s_xSr (st := [.ref r18]) [.ref (g_R m19 l0 2), .int (((g_I m19 l0 5) * (16 : Int32)) + l2)] hF hD dX2_giveBack_69 cwX2_35 (Nat.le_of_ble_eq_true rfl) (Nat.le_of_ble_eq_true rfl) rfl rfl (Nat.le_of_ble_eq_true rfl) (ctX2_slot (g_R m19 l0 2) (((g_I m19 l0 5) * (16 : Int32)) + l2) _) (fun r25 m26 hl27 hm28 => ?_)
      refine sim_gd (fun g37 => ?_)
      refine s_xVv (st := []) (ci := 8) [.ref r25] hF hD dX2_giveBack_72 cwX2_39 (Nat.le_of_ble_eq_true rfl) (Nat.le_of_ble_eq_true rfl) rfl rfl (Nat.le_of_ble_eq_true rfl) g37 rfl rfl (Nat.le_of_ble_eq_true rfl) (ctX8_copyFrom r18 r25 _) (fun r31 m32 hl33 hm34 => ?_)
      refine s_iinc (v := (l2 + (1 : Int32))) (pls' := [(2, .int (l2 + (1 : Int32))), (0, .ref l0)]) hF dX2_giveBack_75 1 rfl rfl (by decide) rfl ?_
      refine s_goto (tgt := 40) hF dX2_giveBack_78 rfl ?_
      refine s_sub [1, 0] rfl ?_
      exact ih l0 (l2 + (1 : Int32)) _ (isK.mo (isK.mo (isK.mo f0 hm21) hm28) hm34)
theorem ctX2_giveBack  (l0 : Nat) (l1 : Nat) (μ : Mem) : ∀ (r : Unit) (μ' : Mem), LX2_giveBack l0 l1 μ = some (r, μ') → CtX yX2_giveBack cX2_giveBack 3 none 4 [.ref l0, .ref l1] μ (encV r) μ' := by
  refine ct_enterX plX2 (Nat.le_of_ble_eq_true rfl) (fun F hF hD hI => ?_)
  unfold LX2_giveBack
  refine sim_gd (fun f0 => ?_)
  refine sim_gd (fun f1 => ?_)
  refine s_aload_n hF dX2_giveBack_0 rfl 0 rfl ?_
  refine s_dup hF dX2_giveBack_1 rfl ?_
  refine s_getI (x := (g_I μ l0 5)) hF dX2_giveBack_2 flX2_31 f0 rfl ?_
  refine s_iconst (v := (1 : Int32)) hF dX2_giveBack_5 kI_1 ?_
  refine s_isub hF dX2_giveBack_6 ?_
  refine s_putI hF dX2_giveBack_7 flX2_31 f0 ?_
  refine s_aload_n hF dX2_giveBack_10 rfl 1 rfl ?_
  refine s_aload_n hF dX2_giveBack_11 rfl 0 rfl ?_
  refine sim_gd (fun g1 => ?_)
  refine s_getR (x := (g_R μ l0 1)) hF dX2_giveBack_12 flX2_17 f0 g1 rfl ?_
  refine s_aload_n hF dX2_giveBack_15 rfl 0 rfl ?_
  refine s_getI (x := (g_I (p_I μ l0 5 ((g_I μ l0 5) - (1 : Int32))) l0 5)) hF dX2_giveBack_16 flX2_31 f0 rfl ?_
  refine s_xSr (st := [.ref l1]) [.ref (g_R μ l0 1), .int (g_I (p_I μ l0 5 ((g_I μ l0 5) - (1 : Int32))) l0 5)] hF hD dX2_giveBack_19 cwX2_35 (Nat.le_of_ble_eq_true rfl) (Nat.le_of_ble_eq_true rfl) rfl rfl (Nat.le_of_ble_eq_true rfl) (ctX2_slot (g_R μ l0 1) (g_I (p_I μ l0 5 ((g_I μ l0 5) - (1 : Int32))) l0 5) _) (fun r2 m3 hl4 hm5 => ?_)
  refine s_xVv (st := []) (ci := 8) [.ref r2] hF hD dX2_giveBack_22 cwX2_39 (Nat.le_of_ble_eq_true rfl) (Nat.le_of_ble_eq_true rfl) rfl rfl (Nat.le_of_ble_eq_true rfl) (isK.mo f1 hm5) rfl rfl (Nat.le_of_ble_eq_true rfl) (ctX8_copyFrom l1 r2 _) (fun r8 m9 hl10 hm11 => ?_)
  refine s_aload_n hF dX2_giveBack_25 rfl 0 rfl ?_
  refine s_aload_n hF dX2_giveBack_26 rfl 0 rfl ?_
  refine sim_gd (fun g14 => ?_)
  refine s_getR (x := (g_R m9 l0 3)) hF dX2_giveBack_27 flX2_23 (isK.mo (isK.mo f0 hm5) hm11) g14 rfl ?_
  refine s_aload_n hF dX2_giveBack_30 rfl 0 rfl ?_
  refine s_getI (x := (g_I m9 l0 5)) hF dX2_giveBack_31 flX2_31 (isK.mo (isK.mo f0 hm5) hm11) rfl ?_
  refine sim_gd (fun g15 => ?_)
  refine s_iaload (x := (g_I m9 (g_R m9 l0 3) (g_I m9 l0 5).toNatClampNeg)) hF dX2_giveBack_34 g15 rfl ?_
  refine s_putI hF dX2_giveBack_35 flX2_27 (isK.mo (isK.mo f0 hm5) hm11) ?_
  refine s_iconst (v := (0 : Int32)) hF dX2_giveBack_38 kI_0 ?_
  refine s_istore_n (pls' := [(2, .int (0 : Int32)), (0, .ref l0), (1, .ref l1)]) hF dX2_giveBack_39 rfl (by decide) rfl ?_
  refine s_sub [1, 0] rfl ?_
  exact sX2_giveBack_40 hF hD 100000 l0 (0 : Int32) _ (isK.mo (isK.mo f0 hm5) hm11)
theorem ctX3_init  (l0 : Nat) (μ : Mem) : ∀ (r : Unit) (μ' : Mem), LX3_init l0 μ = some (r, μ') → CtX yX3_init cX3_init 1 none 1 [.ref l0] μ (encV r) μ' := by
  refine ct_enterX plX3 (Nat.le_of_ble_eq_true rfl) (fun F hF hD hI => ?_)
  unfold LX3_init
  refine sim_gd (fun f0 => ?_)
  refine s_aload_n hF dX3_init_0 rfl 0 rfl ?_
  refine s_objInit hF dX3_init_1 mlX3_3 obi obc (Nat.le_of_ble_eq_true rfl) (Nat.le_of_ble_eq_true rfl) ?_
  refine s_aload_n hF dX3_init_4 rfl 0 rfl ?_
  refine s_bipush (v := (8 : Int32)) hF dX3_init_5 kB_8 ?_
  refine s_newIN (8) hF dX3_init_7 ac_int (by decide) rfl (Nat.le_of_ble_eq_true rfl) (fun r1 m2 hk3 hm4 => ?_)
  refine s_putRF hF (hI rfl) dX3_init_9 flX3_9 (isK.mo f0 hm4) ((isK_iff.mp hk3).1) ?_
  refine s_aload_n hF dX3_init_12 rfl 0 rfl ?_
  refine s_bipush (v := (8 : Int32)) hF dX3_init_13 kB_8 ?_
  refine s_newIN (8) hF dX3_init_15 ac_int (by decide) rfl (Nat.le_of_ble_eq_true rfl) (fun r5 m6 hk7 hm8 => ?_)
  refine s_putRF hF (hI rfl) dX3_init_17 flX3_15 (isK.mo (isK.mo f0 hm4) hm8) ((isK_iff.mp hk7).1) ?_
  refine s_aload_n hF dX3_init_20 rfl 0 rfl ?_
  refine s_bipush (v := (8 : Int32)) hF dX3_init_21 kB_8 ?_
  refine s_newIN (8) hF dX3_init_23 ac_int (by decide) rfl (Nat.le_of_ble_eq_true rfl) (fun r9 m10 hk11 hm12 => ?_)
  refine s_putRF hF (hI rfl) dX3_init_25 flX3_18 (isK.mo (isK.mo (isK.mo f0 hm4) hm8) hm12) ((isK_iff.mp hk11).1) ?_
  refine s_aload_n hF dX3_init_28 rfl 0 rfl ?_
  refine s_bipush (v := (16 : Int32)) hF dX3_init_29 kB_16 ?_
  refine s_newIN (16) hF dX3_init_31 ac_int (by decide) rfl (Nat.le_of_ble_eq_true rfl) (fun r13 m14 hk15 hm16 => ?_)
  refine s_putRF hF (hI rfl) dX3_init_33 flX3_21 (isK.mo (isK.mo (isK.mo (isK.mo f0 hm4) hm8) hm12) hm16) ((isK_iff.mp hk15).1) ?_
  refine s_aload_n hF dX3_init_36 rfl 0 rfl ?_
  refine s_bipush (v := (16 : Int32)) hF dX3_init_37 kB_16 ?_
  refine s_newIN (16) hF dX3_init_39 ac_int (by decide) rfl (Nat.le_of_ble_eq_true rfl) (fun r17 m18 hk19 hm20 => ?_)
  refine s_putRF hF (hI rfl) dX3_init_41 flX3_24 (isK.mo (isK.mo (isK.mo (isK.mo (isK.mo f0 hm4) hm8) hm12) hm16) hm20) ((isK_iff.mp hk19).1) ?_
  exact s_vretX hF hD dX3_init_44 rfl
theorem ctX3_parsePen  (l0 : Nat) (l1 : Nat) (μ : Mem) : ∀ (r : Unit) (μ' : Mem), LX3_parsePen l0 l1 μ = some (r, μ') → CtX yX3_parsePen cX3_parsePen 2 none 3 [.ref l0, .ref l1] μ (encV r) μ' := by
  refine ct_enterX plX3 (Nat.le_of_ble_eq_true rfl) (fun F hF hD hI => ?_)
  unfold LX3_parsePen
  refine sim_gd (fun f0 => ?_)
  refine sim_gd (fun f1 => ?_)
  refine s_aload_n hF dX3_parsePen_0 rfl 0 rfl ?_
  refine sim_gd (fun g1 => ?_)
  refine s_getR (x := (g_R μ l0 1)) hF dX3_parsePen_1 flX3_9 f0 g1 rfl ?_
  refine s_aload_n hF dX3_parsePen_4 rfl 0 rfl ?_
  refine s_getI (x := (g_I μ l0 0)) hF dX3_parsePen_5 flX3_27 f0 rfl ?_
  refine s_aload_n hF dX3_parsePen_8 rfl 1 rfl ?_
  refine s_bipush (v := (7 : Int32)) hF dX3_parsePen_9 kB_7 ?_
  refine s_xVi (st := [.int (g_I μ l0 0), .ref (g_R μ l0 1)]) (ci := 9) [.int (7 : Int32)] hF hD dX3_parsePen_11 cwX3_67 (Nat.le_of_ble_eq_true rfl) (Nat.le_of_ble_eq_true rfl) rfl rfl (Nat.le_of_ble_eq_true rfl) f1 rfl rfl (Nat.le_of_ble_eq_true rfl) (ctX9_number l1 (7 : Int32) _) (fun r2 m3 hl4 hm5 => ?_)
  refine sim_gd (fun g8 => ?_)
  refine s_iastore hF dX3_parsePen_14 g8 ?_
  refine s_aload_n hF dX3_parsePen_15 rfl 0 rfl ?_
  refine sim_gd (fun g9 => ?_)
  refine s_getR (x := (g_R m3 l0 2)) hF dX3_parsePen_16 flX3_15 (isK.mo f0 hm5) g9 rfl ?_
  refine s_aload_n hF dX3_parsePen_19 rfl 0 rfl ?_
  refine s_getI (x := (g_I (p_I m3 (g_R μ l0 1) (g_I μ l0 0).toNatClampNeg r2) l0 0)) hF dX3_parsePen_20 flX3_27 (isK.mo f0 hm5) rfl ?_
  refine s_aload_n hF dX3_parsePen_23 rfl 1 rfl ?_
  refine s_bipush (v := (99 : Int32)) hF dX3_parsePen_24 kB_99 ?_
  refine s_xVi (st := [.int (g_I (p_I m3 (g_R μ l0 1) (g_I μ l0 0).toNatClampNeg r2) l0 0), .ref (g_R m3 l0 2)]) (ci := 9) [.int (99 : Int32)] hF hD dX3_parsePen_26 cwX3_67 (Nat.le_of_ble_eq_true rfl) (Nat.le_of_ble_eq_true rfl) rfl rfl (Nat.le_of_ble_eq_true rfl) (isK.mo f1 hm5) rfl rfl (Nat.le_of_ble_eq_true rfl) (ctX9_number l1 (99 : Int32) _) (fun r10 m11 hl12 hm13 => ?_)
  refine sim_gd (fun g16 => ?_)
  refine s_iastore hF dX3_parsePen_29 g16 ?_
  refine s_aload_n hF dX3_parsePen_30 rfl 0 rfl ?_
  refine sim_gd (fun g17 => ?_)
  refine s_getR (x := (g_R m11 l0 3)) hF dX3_parsePen_31 flX3_18 (isK.mo (isK.mo f0 hm5) hm13) g17 rfl ?_
  refine s_aload_n hF dX3_parsePen_34 rfl 0 rfl ?_
  refine s_getI (x := (g_I (p_I m11 (g_R m3 l0 2) (g_I (p_I m3 (g_R μ l0 1) (g_I μ l0 0).toNatClampNeg r2) l0 0).toNatClampNeg r10) l0 0)) hF dX3_parsePen_35 flX3_27 (isK.mo (isK.mo f0 hm5) hm13) rfl ?_
  refine s_aload_n hF dX3_parsePen_38 rfl 1 rfl ?_
  refine s_bipush (v := (99 : Int32)) hF dX3_parsePen_39 kB_99 ?_
  refine s_xVi (st := [.int (g_I (p_I m11 (g_R m3 l0 2) (g_I (p_I m3 (g_R μ l0 1) (g_I μ l0 0).toNatClampNeg r2) l0 0).toNatClampNeg r10) l0 0), .ref (g_R m11 l0 3)]) (ci := 9) [.int (99 : Int32)] hF hD dX3_parsePen_41 cwX3_67 (Nat.le_of_ble_eq_true rfl) (Nat.le_of_ble_eq_true rfl) rfl rfl (Nat.le_of_ble_eq_true rfl) (isK.mo (isK.mo f1 hm5) hm13) rfl rfl (Nat.le_of_ble_eq_true rfl) (ctX9_number l1 (99 : Int32) _) (fun r18 m19 hl20 hm21 => ?_)
  refine sim_gd (fun g24 => ?_)
  refine s_iastore hF dX3_parsePen_44 g24 ?_
  refine s_aload_n hF dX3_parsePen_45 rfl 0 rfl ?_
  refine s_dup hF dX3_parsePen_46 rfl ?_
  refine s_getI (x := (g_I (p_I m19 (g_R m11 l0 3) (g_I (p_I m11 (g_R m3 l0 2) (g_I (p_I m3 (g_R μ l0 1) (g_I μ l0 0).toNatClampNeg r2) l0 0).toNatClampNeg r10) l0 0).toNatClampNeg r18) l0 0)) hF dX3_parsePen_47 flX3_27 (isK.mo (isK.mo (isK.mo f0 hm5) hm13) hm21) rfl ?_
  refine s_iconst (v := (1 : Int32)) hF dX3_parsePen_50 kI_1 ?_
  refine s_iadd hF dX3_parsePen_51 ?_
  refine s_putI hF dX3_parsePen_52 flX3_27 (isK.mo (isK.mo (isK.mo f0 hm5) hm13) hm21) ?_
  exact s_vretX hF hD dX3_parsePen_55 rfl
theorem sX3_parseWire_68 {F : Option Fx} (hF : FxO F RX3 cX3_parseWire 2 3) (hD : FxXO F none) (l0 : Nat) (μ : Mem) (f0 : isK μ l0 3 = true) : Sim F encV 68 [(0, .ref l0)] [] μ (mX3_parseWire_68 l0 μ) := by
  unfold mX3_parseWire_68
  refine s_aload_n hF dX3_parseWire_68 rfl 0 rfl ?_
  refine s_dup hF dX3_parseWire_69 rfl ?_
  refine s_getI (x := (g_I μ l0 4)) hF dX3_parseWire_70 flX3_31 f0 rfl ?_
  refine s_iconst (v := (1 : Int32)) hF dX3_parseWire_73 kI_1 ?_
  refine s_iadd hF dX3_parseWire_74 ?_
  refine s_putI hF dX3_parseWire_75 flX3_31 f0 ?_
  exact s_vretX hF hD dX3_parseWire_78 rfl
theorem ctX3_parseWire  (l0 : Nat) (l1 : Nat) (μ : Mem) : ∀ (r : Unit) (μ' : Mem), LX3_parseWire l0 l1 μ = some (r, μ') → CtX yX3_parseWire cX3_parseWire 2 none 3 [.ref l0, .ref l1] μ (encV r) μ' := by
  refine ct_enterX plX3 (Nat.le_of_ble_eq_true rfl) (fun F hF hD hI => ?_)
  unfold LX3_parseWire
  refine sim_gd (fun f0 => ?_)
  refine sim_gd (fun f1 => ?_)
  refine s_aload_n hF dX3_parseWire_0 rfl 0 rfl ?_
  refine sim_gd (fun g1 => ?_)
  refine s_getR (x := (g_R μ l0 5)) hF dX3_parseWire_1 flX3_21 f0 g1 rfl ?_
  refine s_aload_n hF dX3_parseWire_4 rfl 0 rfl ?_
  refine s_getI (x := (g_I μ l0 4)) hF dX3_parseWire_5 flX3_31 f0 rfl ?_
  refine s_aload_n hF dX3_parseWire_8 rfl 1 rfl ?_
  refine s_aload_n hF dX3_parseWire_9 rfl 0 rfl ?_
  refine s_getI (x := (g_I μ l0 0)) hF dX3_parseWire_10 flX3_27 f0 rfl ?_
  refine s_iconst (v := (1 : Int32)) hF dX3_parseWire_13 kI_1 ?_
  refine s_isub hF dX3_parseWire_14 ?_
  refine s_xVi (st := [.int (g_I μ l0 4), .ref (g_R μ l0 5)]) (ci := 9) [.int ((g_I μ l0 0) - (1 : Int32))] hF hD dX3_parseWire_15 cwX3_67 (Nat.le_of_ble_eq_true rfl) (Nat.le_of_ble_eq_true rfl) rfl rfl (Nat.le_of_ble_eq_true rfl) f1 rfl rfl (Nat.le_of_ble_eq_true rfl) (ctX9_number l1 ((g_I μ l0 0) - (1 : Int32)) _) (fun r2 m3 hl4 hm5 => ?_)
  refine sim_gd (fun g8 => ?_)
  refine s_iastore hF dX3_parseWire_18 g8 ?_
  refine s_aload_n hF dX3_parseWire_19 rfl 0 rfl ?_
  refine sim_gd (fun g9 => ?_)
  refine s_getR (x := (g_R m3 l0 6)) hF dX3_parseWire_20 flX3_24 (isK.mo f0 hm5) g9 rfl ?_
  refine s_aload_n hF dX3_parseWire_23 rfl 0 rfl ?_
  refine s_getI (x := (g_I (p_I m3 (g_R μ l0 5) (g_I μ l0 4).toNatClampNeg r2) l0 4)) hF dX3_parseWire_24 flX3_31 (isK.mo f0 hm5) rfl ?_
  refine s_aload_n hF dX3_parseWire_27 rfl 1 rfl ?_
  refine s_aload_n hF dX3_parseWire_28 rfl 0 rfl ?_
  refine s_getI (x := (g_I (p_I m3 (g_R μ l0 5) (g_I μ l0 4).toNatClampNeg r2) l0 0)) hF dX3_parseWire_29 flX3_27 (isK.mo f0 hm5) rfl ?_
  refine s_iconst (v := (1 : Int32)) hF dX3_parseWire_32 kI_1 ?_
  refine s_isub hF dX3_parseWire_33 ?_
  refine s_xVi (st := [.int (g_I (p_I m3 (g_R μ l0 5) (g_I μ l0 4).toNatClampNeg r2) l0 4), .ref (g_R m3 l0 6)]) (ci := 9) [.int ((g_I (p_I m3 (g_R μ l0 5) (g_I μ l0 4).toNatClampNeg r2) l0 0) - (1 : Int32))] hF hD dX3_parseWire_34 cwX3_67 (Nat.le_of_ble_eq_true rfl) (Nat.le_of_ble_eq_true rfl) rfl rfl (Nat.le_of_ble_eq_true rfl) (isK.mo f1 hm5) rfl rfl (Nat.le_of_ble_eq_true rfl) (ctX9_number l1 ((g_I (p_I m3 (g_R μ l0 5) (g_I μ l0 4).toNatClampNeg r2) l0 0) - (1 : Int32)) _) (fun r10 m11 hl12 hm13 => ?_)
  refine sim_gd (fun g16 => ?_)
  refine s_iastore hF dX3_parseWire_37 g16 ?_
  refine s_aload_n hF dX3_parseWire_38 rfl 0 rfl ?_
  refine sim_gd (fun g17 => ?_)
  refine s_getR (x := (g_R m11 l0 6)) hF dX3_parseWire_39 flX3_24 (isK.mo (isK.mo f0 hm5) hm13) g17 rfl ?_
  refine s_aload_n hF dX3_parseWire_42 rfl 0 rfl ?_
  refine s_getI (x := (g_I (p_I m11 (g_R m3 l0 6) (g_I (p_I m3 (g_R μ l0 5) (g_I μ l0 4).toNatClampNeg r2) l0 4).toNatClampNeg r10) l0 4)) hF dX3_parseWire_43 flX3_31 (isK.mo (isK.mo f0 hm5) hm13) rfl ?_
  refine sim_gd (fun g18 => ?_)
  refine s_iaload (x := (g_I (p_I m11 (g_R m3 l0 6) (g_I (p_I m3 (g_R μ l0 5) (g_I μ l0 4).toNatClampNeg r2) l0 4).toNatClampNeg r10) (g_R m11 l0 6) (g_I (p_I m11 (g_R m3 l0 6) (g_I (p_I m3 (g_R μ l0 5) (g_I μ l0 4).toNatClampNeg r2) l0 4).toNatClampNeg r10) l0 4).toNatClampNeg)) hF dX3_parseWire_46 g18 rfl ?_
  refine s_aload_n hF dX3_parseWire_47 rfl 0 rfl ?_
  refine sim_gd (fun g19 => ?_)
  refine s_getR (x := (g_R m11 l0 5)) hF dX3_parseWire_48 flX3_21 (isK.mo (isK.mo f0 hm5) hm13) g19 rfl ?_
  refine s_aload_n hF dX3_parseWire_51 rfl 0 rfl ?_
  refine s_getI (x := (g_I (p_I m11 (g_R m3 l0 6) (g_I (p_I m3 (g_R μ l0 5) (g_I μ l0 4).toNatClampNeg r2) l0 4).toNatClampNeg r10) l0 4)) hF dX3_parseWire_52 flX3_31 (isK.mo (isK.mo f0 hm5) hm13) rfl ?_
  refine sim_gd (fun g20 => ?_)
  refine s_iaload (x := (g_I (p_I m11 (g_R m3 l0 6) (g_I (p_I m3 (g_R μ l0 5) (g_I μ l0 4).toNatClampNeg r2) l0 4).toNatClampNeg r10) (g_R m11 l0 5) (g_I (p_I m11 (g_R m3 l0 6) (g_I (p_I m3 (g_R μ l0 5) (g_I μ l0 4).toNatClampNeg r2) l0 4).toNatClampNeg r10) l0 4).toNatClampNeg)) hF dX3_parseWire_55 g20 rfl ?_
  refine s_icmp_ne (tgt := 68) hF dX3_parseWire_56 rfl (fun c21 => ?_) (fun c21 => ?_)
  · refine s_aload_n hF dX3_parseWire_59 rfl 1 rfl ?_
    refine s_iconst (v := (2 : Int32)) hF dX3_parseWire_60 kI_2 ?_
    refine s_aload_n hF dX3_parseWire_61 rfl 1 rfl ?_
    refine s_getIq (x := (g_I (p_I m11 (g_R m3 l0 6) (g_I (p_I m3 (g_R μ l0 5) (g_I μ l0 4).toNatClampNeg r2) l0 4).toNatClampNeg r10) l1 4)) hF dX3_parseWire_62 fqX3_53 (isK.mo (isK.mo f1 hm5) hm13) rfl ?_
    refine s_xVv (st := []) (ci := 9) [.int (2 : Int32), .int (g_I (p_I m11 (g_R m3 l0 6) (g_I (p_I m3 (g_R μ l0 5) (g_I μ l0 4).toNatClampNeg r2) l0 4).toNatClampNeg r10) l1 4)] hF hD dX3_parseWire_65 cwX3_56 (Nat.le_of_ble_eq_true rfl) (Nat.le_of_ble_eq_true rfl) rfl rfl (Nat.le_of_ble_eq_true rfl) (isK.mo (isK.mo f1 hm5) hm13) rfl rfl (Nat.le_of_ble_eq_true rfl) (ctX9_fail l1 (2 : Int32) (g_I (p_I m11 (g_R m3 l0 6) (g_I (p_I m3 (g_R μ l0 5) (g_I μ l0 4).toNatClampNeg r2) l0 4).toNatClampNeg r10) l1 4) _) (fun r22 m23 hl24 hm25 => ?_)
    refine s_sub [0] rfl ?_
    exact sX3_parseWire_68 hF hD l0 _ (isK.mo (isK.mo (isK.mo f0 hm5) hm13) hm25)
  · refine s_sub [0] rfl ?_
    exact sX3_parseWire_68 hF hD l0 _ (isK.mo (isK.mo f0 hm5) hm13)
theorem ctX9_isLetter  (l0 : Int32) (μ : Mem) : ∀ (r : Int32) (μ' : Mem), LX9_isLetter l0 μ = some (r, μ') → CtX yX9_isLetter cX9_isLetter 1 (some .boolean) 0 [.int l0] μ (encI r) μ' := by
  refine ct_enterX plX9 (Nat.le_of_ble_eq_true rfl) (fun F hF hD hI => ?_)
  unfold LX9_isLetter
  refine s_iload_n hF dX9_isLetter_0 rfl 0 rfl ?_
  refine s_bipush (v := (97 : Int32)) hF dX9_isLetter_1 kB_97 ?_
  refine s_icmp_lt (tgt := 16) hF dX9_isLetter_3 rfl (fun c1 => ?_) (fun c1 => ?_)
  · refine s_iconst (v := (0 : Int32)) hF dX9_isLetter_16 kI_0 ?_
    exact s_zretX hF hD dX9_isLetter_17 rfl rfl
  · refine s_iload_n hF dX9_isLetter_6 rfl 0 rfl ?_
    refine s_bipush (v := (122 : Int32)) hF dX9_isLetter_7 kB_122 ?_
    refine s_icmp_gt (tgt := 16) hF dX9_isLetter_9 rfl (fun c2 => ?_) (fun c2 => ?_)
    · refine s_iconst (v := (0 : Int32)) hF dX9_isLetter_16 kI_0 ?_
      exact s_zretX hF hD dX9_isLetter_17 rfl rfl
    · refine s_iconst (v := (1 : Int32)) hF dX9_isLetter_12 kI_1 ?_
      refine s_goto (tgt := 17) hF dX9_isLetter_13 rfl ?_
      exact s_zretX hF hD dX9_isLetter_17 rfl rfl
theorem sX9_isRead_40 {F : Option Fx} (hF : FxO F RX9 cX9_isRead 5 4) (hD : FxXO F (some .boolean)) : ∀ (fu : Nat) (l0 : Nat) (l1 : Nat) (l2 : Int32) (l3 : Int32) (l4 : Int32) (μ : Mem) (f0 : isK μ l0 9 = true), Sim F encI 40 [(0, .ref l0), (1, .retAddr l1), (2, .int l2), (3, .int l3), (4, .int l4)] [] μ (mX9_isRead_40 fu l0 l1 l2 l3 l4 μ) := by
  intro fu
  induction fu with
  | zero =>
    intro l0 l1 l2 l3 l4 μ f0
    exact sim_none
  | succ fu ih =>
    intro l0 l1 l2 l3 l4 μ f0
    rw [mX9_isRead_40]
    refine s_iload hF dX9_isRead_40 4 rfl ?_
    refine s_iload_n hF dX9_isRead_42 rfl 3 rfl ?_
    refine s_icmp_ge (tgt := 77) hF dX9_isRead_43 rfl (fun c9 => ?_) (fun c9 => ?_)
    · refine s_iconst (v := (1 : Int32)) hF dX9_isRead_77 kI_1 ?_
      exact s_zretX hF hD dX9_isRead_78 rfl rfl
    · refine s_aload_n hF dX9_isRead_46 rfl 0 rfl ?_
      refine sim_gd (fun g10 => ?_)
      refine s_getR (x := (g_R μ l0 0)) hF dX9_isRead_47 flX9_9 f0 g10 rfl ?_
      refine s_aload_n hF dX9_isRead_50 rfl 0 rfl ?_
      refine s_getI (x := (g_I μ l0 4)) hF dX9_isRead_51 flX9_28 f0 rfl ?_
      refine s_iload hF dX9_isRead_54 4 rfl ?_
      refine s_iadd hF dX9_isRead_56 ?_
      refine sim_gd (fun g11 => ?_)
      refine s_baload (x := (g_I μ (g_R μ l0 0) ((g_I μ l0 4) + l4).toNatClampNeg)) hF dX9_isRead_57 g11 rfl ?_
      refine s_sload_n hF dX9_isRead_58 rfl 1 rfl ?_
      refine s_iload_n hF dX9_isRead_59 rfl 2 rfl ?_
      refine s_iload hF dX9_isRead_60 4 rfl ?_
      refine s_iadd hF dX9_isRead_62 ?_
      refine sim_gd (fun g12 => ?_)
      refine s_xsi (st := [.int (g_I μ (g_R μ l0 0) ((g_I μ l0 4) + l4).toNatClampNeg)]) [.int (l2 + l4)] hF hD dX9_isRead_63 cwX9_51 (Nat.le_of_ble_eq_true rfl) (Nat.le_of_ble_eq_true rfl) rfl g12 rfl rfl (Nat.le_of_ble_eq_true rfl) (ctLJ0_charAt l1 (l2 + l4) _) (fun r13 m14 hl15 hm16 => ?_)
      refine s_icmp_eq (tgt := 71) hF dX9_isRead_66 rfl (fun c17 => ?_) (fun c17 => ?_)
      · refine s_iinc (v := (l4 + (1 : Int32))) (pls' := [(4, .int (l4 + (1 : Int32))), (0, .ref l0), (1, .retAddr l1), (2, .int l2), (3, .int l3)]) hF dX9_isRead_71 4 rfl rfl (by decide) rfl ?_
        refine s_goto (tgt := 40) hF dX9_isRead_74 rfl ?_
        refine s_sub [1, 2, 3, 4, 0] rfl ?_
        exact ih l0 l1 l2 l3 (l4 + (1 : Int32)) _ (isK.mo f0 hm16)
      · refine s_iconst (v := (0 : Int32)) hF dX9_isRead_69 kI_0 ?_
        exact s_zretX hF hD dX9_isRead_70 rfl rfl
theorem ctX9_isRead  (l0 : Nat) (l1 : Nat) (l2 : Int32) (l3 : Int32) (μ : Mem) : ∀ (r : Int32) (μ' : Mem), LX9_isRead l0 l1 l2 l3 μ = some (r, μ') → CtX yX9_isRead cX9_isRead 5 (some .boolean) 4 [.ref l0, .retAddr l1, .int l2, .int l3] μ (encI r) μ' := by
  refine ct_enterX plX9 (Nat.le_of_ble_eq_true rfl) (fun F hF hD hI => ?_)
  unfold LX9_isRead
  refine sim_gd (fun f0 => ?_)
  refine s_iload_n hF dX9_isRead_0 rfl 3 rfl ?_
  refine s_aload_n hF dX9_isRead_1 rfl 0 rfl ?_
  refine s_getI (x := (g_I μ l0 5)) hF dX9_isRead_2 flX9_25 f0 rfl ?_
  refine s_aload_n hF dX9_isRead_5 rfl 0 rfl ?_
  refine s_getI (x := (g_I μ l0 4)) hF dX9_isRead_6 flX9_28 f0 rfl ?_
  refine s_isub hF dX9_isRead_9 ?_
  refine s_icmp_ne (tgt := 35) hF dX9_isRead_10 rfl (fun c1 => ?_) (fun c1 => ?_)
  · refine s_iload_n hF dX9_isRead_13 rfl 2 rfl ?_
    refine s_iload_n hF dX9_isRead_14 rfl 3 rfl ?_
    refine s_iadd hF dX9_isRead_15 ?_
    refine s_sload_n hF dX9_isRead_16 rfl 1 rfl ?_
    refine sim_gd (fun g2 => ?_)
    refine s_xsi (st := [.int (l2 + l3)]) [] hF hD dX9_isRead_17 cwX9_46 (Nat.le_of_ble_eq_true rfl) (Nat.le_of_ble_eq_true rfl) rfl g2 rfl rfl (Nat.le_of_ble_eq_true rfl) (ctLJ0_length l1 _) (fun r3 m4 hl5 hm6 => ?_)
    refine s_icmp_gt (tgt := 35) hF dX9_isRead_20 rfl (fun c7 => ?_) (fun c7 => ?_)
    · refine s_iconst (v := (0 : Int32)) hF dX9_isRead_35 kI_0 ?_
      exact s_zretX hF hD dX9_isRead_36 rfl rfl
    · refine s_aload_n hF dX9_isRead_23 rfl 0 rfl ?_
      refine s_getI (x := (g_I m4 l0 4)) hF dX9_isRead_24 flX9_28 (isK.mo f0 hm6) rfl ?_
      refine s_iload_n hF dX9_isRead_27 rfl 3 rfl ?_
      refine s_iadd hF dX9_isRead_28 ?_
      refine s_sipush (v := (600 : Int32)) hF dX9_isRead_29 kS_600 ?_
      refine s_icmp_le (tgt := 37) hF dX9_isRead_32 rfl (fun c8 => ?_) (fun c8 => ?_)
      · refine s_iconst (v := (0 : Int32)) hF dX9_isRead_37 kI_0 ?_
        refine s_istore (pls' := [(4, .int (0 : Int32)), (0, .ref l0), (1, .retAddr l1), (2, .int l2), (3, .int l3)]) hF dX9_isRead_38 (by decide) rfl ?_
        refine s_sub [1, 2, 3, 4, 0] rfl ?_
        exact sX9_isRead_40 hF hD 100000 l0 l1 l2 l3 (0 : Int32) _ (isK.mo f0 hm6)
      · refine s_iconst (v := (0 : Int32)) hF dX9_isRead_35 kI_0 ?_
        exact s_zretX hF hD dX9_isRead_36 rfl rfl
  · refine s_iconst (v := (0 : Int32)) hF dX9_isRead_35 kI_0 ?_
    exact s_zretX hF hD dX9_isRead_36 rfl rfl
theorem sX9_word_59 {F : Option Fx} (hF : FxO F RX9 cX9_word 5 5) (hD : FxXO F (some .int)) : ∀ (fu : Nat) (l0 : Nat) (l1 : Nat) (l2 : Int32) (l3 : Int32) (l4 : Int32) (μ : Mem) (f0 : isK μ l0 9 = true), Sim F encI 59 [(0, .ref l0), (1, .retAddr l1), (2, .int l2), (3, .int l3), (4, .int l4)] [] μ (mX9_word_59 fu l0 l1 l2 l3 l4 μ) := by
  intro fu
  induction fu with
  | zero =>
    intro l0 l1 l2 l3 l4 μ f0
    exact sim_none
  | succ fu ih =>
    intro l0 l1 l2 l3 l4 μ f0
    rw [mX9_word_59]
    refine s_iload hF dX9_word_59 4 rfl ?_
    refine s_sload_n hF dX9_word_61 rfl 1 rfl ?_
    refine sim_gd (fun g28 => ?_)
    refine s_xsi (st := [.int l4]) [] hF hD dX9_word_62 cwX9_46 (Nat.le_of_ble_eq_true rfl) (Nat.le_of_ble_eq_true rfl) rfl g28 rfl rfl (Nat.le_of_ble_eq_true rfl) (ctLJ0_length l1 _) (fun r29 m30 hl31 hm32 => ?_)
    refine s_icmp_ge (tgt := 108) hF dX9_word_65 rfl (fun c33 => ?_) (fun c33 => ?_)
    · refine s_aload_n hF dX9_word_108 rfl 0 rfl ?_
      refine s_iconst (v := (1 : Int32)) hF dX9_word_109 kI_1 ?_
      refine s_aload_n hF dX9_word_110 rfl 0 rfl ?_
      refine s_getI (x := (g_I m30 l0 4)) hF dX9_word_111 flX9_28 (isK.mo f0 hm32) rfl ?_
      refine s_xVv (st := []) (ci := 9) [.int (1 : Int32), .int (g_I m30 l0 4)] hF hD dX9_word_114 cwX9_42 (Nat.le_of_ble_eq_true rfl) (Nat.le_of_ble_eq_true rfl) rfl rfl (Nat.le_of_ble_eq_true rfl) (isK.mo f0 hm32) rfl rfl (Nat.le_of_ble_eq_true rfl) (ctX9_fail l0 (1 : Int32) (g_I m30 l0 4) _) (fun r34 m35 hl36 hm37 => ?_)
      refine s_iconst (v := (-1 : Int32)) hF dX9_word_117 kI_m1 ?_
      exact s_iretX hF hD dX9_word_118 rfl
    · refine s_sload_n hF dX9_word_68 rfl 1 rfl ?_
      refine s_iload hF dX9_word_69 4 rfl ?_
      refine sim_gd (fun g40 => ?_)
      refine s_xsi (st := []) [.int l4] hF hD dX9_word_71 cwX9_51 (Nat.le_of_ble_eq_true rfl) (Nat.le_of_ble_eq_true rfl) rfl g40 rfl rfl (Nat.le_of_ble_eq_true rfl) (ctLJ0_charAt l1 l4 _) (fun r41 m42 hl43 hm44 => ?_)
      refine s_bipush (v := (32 : Int32)) hF dX9_word_74 kB_32 ?_
      refine s_icmp_ne (tgt := 102) hF dX9_word_76 rfl (fun c45 => ?_) (fun c45 => ?_)
      · refine s_aload_n hF dX9_word_79 rfl 0 rfl ?_
        refine s_sload_n hF dX9_word_80 rfl 1 rfl ?_
        refine s_iload_n hF dX9_word_81 rfl 3 rfl ?_
        refine s_iload hF dX9_word_82 4 rfl ?_
        refine s_iload_n hF dX9_word_84 rfl 3 rfl ?_
        refine s_isub hF dX9_word_85 ?_
        refine s_xVi (st := []) (ci := 9) [.retAddr l1, .int l3, .int (l4 - l3)] hF hD dX9_word_86 cwX9_79 (Nat.le_of_ble_eq_true rfl) (Nat.le_of_ble_eq_true rfl) rfl rfl (Nat.le_of_ble_eq_true rfl) (isK.mo (isK.mo f0 hm32) hm44) rfl rfl (Nat.le_of_ble_eq_true rfl) (ctX9_isRead l0 l1 l3 (l4 - l3) _) (fun r46 m47 hl48 hm49 => ?_)
        refine s_if_eq (tgt := 94) hF dX9_word_89 rfl (fun c52 => ?_) (fun c52 => ?_)
        · refine s_iinc (v := (l2 + (1 : Int32))) (pls' := [(2, .int (l2 + (1 : Int32))), (0, .ref l0), (1, .retAddr l1), (3, .int l3), (4, .int l4)]) hF dX9_word_94 2 rfl rfl (by decide) rfl ?_
          refine s_iload hF dX9_word_97 4 rfl ?_
          refine s_iconst (v := (1 : Int32)) hF dX9_word_99 kI_1 ?_
          refine s_iadd hF dX9_word_100 ?_
          refine s_istore_n (pls' := [(3, .int (l4 + (1 : Int32))), (2, .int (l2 + (1 : Int32))), (0, .ref l0), (1, .retAddr l1), (4, .int l4)]) hF dX9_word_101 rfl (by decide) rfl ?_
          refine s_iinc (v := (l4 + (1 : Int32))) (pls' := [(4, .int (l4 + (1 : Int32))), (3, .int (l4 + (1 : Int32))), (2, .int (l2 + (1 : Int32))), (0, .ref l0), (1, .retAddr l1)]) hF dX9_word_102 4 rfl rfl (by decide) rfl ?_
          refine s_goto (tgt := 59) hF dX9_word_105 rfl ?_
          refine s_sub [3, 4, 2, 1, 0] rfl ?_
          exact ih l0 l1 (l2 + (1 : Int32)) (l4 + (1 : Int32)) (l4 + (1 : Int32)) _ (isK.mo (isK.mo (isK.mo f0 hm32) hm44) hm49)
        · refine s_iload_n hF dX9_word_92 rfl 2 rfl ?_
          exact s_iretX hF hD dX9_word_93 rfl
      · refine s_iinc (v := (l4 + (1 : Int32))) (pls' := [(4, .int (l4 + (1 : Int32))), (0, .ref l0), (1, .retAddr l1), (2, .int l2), (3, .int l3)]) hF dX9_word_102 4 rfl rfl (by decide) rfl ?_
        refine s_goto (tgt := 59) hF dX9_word_105 rfl ?_
        refine s_sub [1, 2, 3, 4, 0] rfl ?_
        exact ih l0 l1 l2 l3 (l4 + (1 : Int32)) _ (isK.mo (isK.mo f0 hm32) hm44)
theorem sX9_word_52 {F : Option Fx} (hF : FxO F RX9 cX9_word 5 5) (hD : FxXO F (some .int)) (l0 : Nat) (l1 : Nat) (μ : Mem) (f0 : isK μ l0 9 = true) : Sim F encI 52 [(0, .ref l0), (1, .retAddr l1)] [] μ (mX9_word_52 l0 l1 μ) := by
  unfold mX9_word_52
  refine s_iconst (v := (0 : Int32)) hF dX9_word_52 kI_0 ?_
  refine s_istore_n (pls' := [(2, .int (0 : Int32)), (0, .ref l0), (1, .retAddr l1)]) hF dX9_word_53 rfl (by decide) rfl ?_
  refine s_iconst (v := (0 : Int32)) hF dX9_word_54 kI_0 ?_
  refine s_istore_n (pls' := [(3, .int (0 : Int32)), (2, .int (0 : Int32)), (0, .ref l0), (1, .retAddr l1)]) hF dX9_word_55 rfl (by decide) rfl ?_
  refine s_iconst (v := (0 : Int32)) hF dX9_word_56 kI_0 ?_
  refine s_istore (pls' := [(4, .int (0 : Int32)), (3, .int (0 : Int32)), (2, .int (0 : Int32)), (0, .ref l0), (1, .retAddr l1)]) hF dX9_word_57 (by decide) rfl ?_
  refine s_sub [3, 4, 2, 1, 0] rfl ?_
  exact sX9_word_59 hF hD 100000 l0 l1 (0 : Int32) (0 : Int32) (0 : Int32) _ f0
theorem sX9_word_18 {F : Option Fx} (hF : FxO F RX9 cX9_word 5 5) (hD : FxXO F (some .int)) : ∀ (fu : Nat) (l0 : Nat) (l1 : Nat) (μ : Mem) (f0 : isK μ l0 9 = true), Sim F encI 18 [(0, .ref l0), (1, .retAddr l1)] [] μ (mX9_word_18 fu l0 l1 μ) := by
  intro fu
  induction fu with
  | zero =>
    intro l0 l1 μ f0
    exact sim_none
  | succ fu ih =>
    intro l0 l1 μ f0
    rw [mX9_word_18]
    refine s_aload_n hF dX9_word_18 rfl 0 rfl ?_
    refine s_getI (x := (g_I μ l0 5)) hF dX9_word_19 flX9_25 f0 rfl ?_
    refine s_aload_n hF dX9_word_22 rfl 0 rfl ?_
    refine s_getI (x := (g_I μ l0 6)) hF dX9_word_23 flX9_22 f0 rfl ?_
    refine s_icmp_ge (tgt := 52) hF dX9_word_26 rfl (fun c14 => ?_) (fun c14 => ?_)
    · exact sX9_word_52 hF hD l0 l1 _ f0
    · refine s_aload_n hF dX9_word_29 rfl 0 rfl ?_
      refine s_xVi (st := []) (ci := 9) [] hF hD dX9_word_30 cwX9_66 (Nat.le_of_ble_eq_true rfl) (Nat.le_of_ble_eq_true rfl) rfl rfl (Nat.le_of_ble_eq_true rfl) f0 rfl rfl (Nat.le_of_ble_eq_true rfl) (ctX9_byteHere l0 _) (fun r15 m16 hl17 hm18 => ?_)
      refine s_xSi (st := []) [.int r15] hF hD dX9_word_33 cwX9_76 (Nat.le_of_ble_eq_true rfl) (Nat.le_of_ble_eq_true rfl) rfl rfl (Nat.le_of_ble_eq_true rfl) (ctX9_isLetter r15 _) (fun r21 m22 hl23 hm24 => ?_)
      refine s_if_eq (tgt := 52) hF dX9_word_36 rfl (fun c27 => ?_) (fun c27 => ?_)
      · exact sX9_word_52 hF hD l0 l1 _ (isK.mo (isK.mo f0 hm18) hm24)
      · refine s_aload_n hF dX9_word_39 rfl 0 rfl ?_
        refine s_dup hF dX9_word_40 rfl ?_
        refine s_getI (x := (g_I m22 l0 5)) hF dX9_word_41 flX9_25 (isK.mo (isK.mo f0 hm18) hm24) rfl ?_
        refine s_iconst (v := (1 : Int32)) hF dX9_word_44 kI_1 ?_
        refine s_iadd hF dX9_word_45 ?_
        refine s_putI hF dX9_word_46 flX9_25 (isK.mo (isK.mo f0 hm18) hm24) ?_
        refine s_goto (tgt := 18) hF dX9_word_49 rfl ?_
        exact ih l0 l1 _ (isK.mo (isK.mo f0 hm18) hm24)
theorem ctX9_word  (l0 : Nat) (l1 : Nat) (μ : Mem) : ∀ (r : Int32) (μ' : Mem), LX9_word l0 l1 μ = some (r, μ') → CtX yX9_word cX9_word 5 (some .int) 5 [.ref l0, .retAddr l1] μ (encI r) μ' := by
  refine ct_enterX plX9 (Nat.le_of_ble_eq_true rfl) (fun F hF hD hI => ?_)
  unfold LX9_word
  refine sim_gd (fun f0 => ?_)
  refine s_aload_n hF dX9_word_0 rfl 0 rfl ?_
  refine s_xVi (st := []) (ci := 9) [] hF hD dX9_word_1 cwX9_59 (Nat.le_of_ble_eq_true rfl) (Nat.le_of_ble_eq_true rfl) rfl rfl (Nat.le_of_ble_eq_true rfl) f0 rfl rfl (Nat.le_of_ble_eq_true rfl) (ctX9_more l0 _) (fun r1 m2 hl3 hm4 => ?_)
  refine s_if_ne (tgt := 18) hF dX9_word_4 rfl (fun c7 => ?_) (fun c7 => ?_)
  · refine s_aload_n hF dX9_word_7 rfl 0 rfl ?_
    refine s_iconst (v := (1 : Int32)) hF dX9_word_8 kI_1 ?_
    refine s_aload_n hF dX9_word_9 rfl 0 rfl ?_
    refine s_getI (x := (g_I m2 l0 4)) hF dX9_word_10 flX9_28 (isK.mo f0 hm4) rfl ?_
    refine s_xVv (st := []) (ci := 9) [.int (1 : Int32), .int (g_I m2 l0 4)] hF hD dX9_word_13 cwX9_42 (Nat.le_of_ble_eq_true rfl) (Nat.le_of_ble_eq_true rfl) rfl rfl (Nat.le_of_ble_eq_true rfl) (isK.mo f0 hm4) rfl rfl (Nat.le_of_ble_eq_true rfl) (ctX9_fail l0 (1 : Int32) (g_I m2 l0 4) _) (fun r8 m9 hl10 hm11 => ?_)
    refine s_iconst (v := (-1 : Int32)) hF dX9_word_16 kI_m1 ?_
    exact s_iretX hF hD dX9_word_17 rfl
  · exact sX9_word_18 hF hD 100000 l0 l1 _ (isK.mo f0 hm4)
theorem sX3_parseClause_46 {F : Option Fx} (hF : FxO F RX3 cX3_parseClause 4 6) (hD : FxXO F none) (l1 : Nat) (μ : Mem) (f1 : isK μ l1 9 = true) : Sim F encV 46 [(1, .ref l1)] [] μ (mX3_parseClause_46 l1 μ) := by
  unfold mX3_parseClause_46
  refine s_aload_n hF dX3_parseClause_46 rfl 0 rfl ?_
  refine s_iconst (v := (3 : Int32)) hF dX3_parseClause_47 kI_3 ?_
  refine s_aload_n hF dX3_parseClause_48 rfl 0 rfl ?_
  refine s_getIq (x := (g_I μ l1 4)) hF dX3_parseClause_49 fqX3_53 f1 rfl ?_
  refine s_xVv (st := []) (ci := 9) [.int (3 : Int32), .int (g_I μ l1 4)] hF hD dX3_parseClause_52 cwX3_56 (Nat.le_of_ble_eq_true rfl) (Nat.le_of_ble_eq_true rfl) rfl rfl (Nat.le_of_ble_eq_true rfl) f1 rfl rfl (Nat.le_of_ble_eq_true rfl) (ctX9_fail l1 (3 : Int32) (g_I μ l1 4) _) (fun r39 m40 hl41 hm42 => ?_)
  exact s_vretX hF hD dX3_parseClause_55 rfl
theorem sX3_parseClause_91 {F : Option Fx} (hF : FxO F RX3 cX3_parseClause 4 6) (hD : FxXO F none) (l1 : Nat) (μ : Mem) (f1 : isK μ l1 9 = true) : Sim F encV 91 [(1, .ref l1)] [] μ (mX3_parseClause_91 l1 μ) := by
  unfold mX3_parseClause_91
  refine s_aload_n hF dX3_parseClause_91 rfl 0 rfl ?_
  refine s_bipush (v := (59 : Int32)) hF dX3_parseClause_92 kB_59 ?_
  refine s_xVv (st := []) (ci := 9) [.int (59 : Int32)] hF hD dX3_parseClause_94 cwX3_71 (Nat.le_of_ble_eq_true rfl) (Nat.le_of_ble_eq_true rfl) rfl rfl (Nat.le_of_ble_eq_true rfl) f1 rfl rfl (Nat.le_of_ble_eq_true rfl) (ctX9_need l1 (59 : Int32) _) (fun r33 m34 hl35 hm36 => ?_)
  exact s_vretX hF hD dX3_parseClause_97 rfl
theorem sX3_parseClause_56 {F : Option Fx} (hF : FxO F RX3 cX3_parseClause 4 6) (hD : FxXO F none) (l0 : Nat) (l1 : Nat) (l3 : Int32) (μ : Mem) (f0 : isK μ l0 3 = true) (f1 : isK μ l1 9 = true) : Sim F encV 56 [(0, .ref l0), (1, .ref l1), (3, .int l3)] [] μ (mX3_parseClause_56 l0 l1 l3 μ) := by
  unfold mX3_parseClause_56
  refine s_iload_n hF dX3_parseClause_56 rfl 2 rfl ?_
  refine s_if_ne (tgt := 68) hF dX3_parseClause_57 rfl (fun c13 => ?_) (fun c13 => ?_)
  · refine s_aload_n hF dX3_parseClause_60 rfl 0 rfl ?_
    refine s_aload_n hF dX3_parseClause_61 rfl 1 rfl ?_
    refine s_xVv (st := []) (ci := 3) [.ref l1] hF hD dX3_parseClause_62 cwX3_60 (Nat.le_of_ble_eq_true rfl) (Nat.le_of_ble_eq_true rfl) rfl rfl (Nat.le_of_ble_eq_true rfl) f0 rfl rfl (Nat.le_of_ble_eq_true rfl) (ctX3_parsePen l0 l1 _) (fun r14 m15 hl16 hm17 => ?_)
    refine s_goto (tgt := 91) hF dX3_parseClause_65 rfl ?_
    refine s_sub [1] rfl ?_
    exact sX3_parseClause_91 hF hD l1 _ (isK.mo f1 hm17)
  · refine s_iload_n hF dX3_parseClause_68 rfl 2 rfl ?_
    refine s_iconst (v := (1 : Int32)) hF dX3_parseClause_69 kI_1 ?_
    refine s_icmp_ne (tgt := 81) hF dX3_parseClause_70 rfl (fun c20 => ?_) (fun c20 => ?_)
    · refine s_aload_n hF dX3_parseClause_73 rfl 0 rfl ?_
      refine s_aload_n hF dX3_parseClause_74 rfl 1 rfl ?_
      refine s_xVv (st := []) (ci := 3) [.ref l1] hF hD dX3_parseClause_75 cwX3_64 (Nat.le_of_ble_eq_true rfl) (Nat.le_of_ble_eq_true rfl) rfl rfl (Nat.le_of_ble_eq_true rfl) f0 rfl rfl (Nat.le_of_ble_eq_true rfl) (ctX3_parseWire l0 l1 _) (fun r21 m22 hl23 hm24 => ?_)
      refine s_goto (tgt := 91) hF dX3_parseClause_78 rfl ?_
      refine s_sub [1] rfl ?_
      exact sX3_parseClause_91 hF hD l1 _ (isK.mo f1 hm24)
    · refine s_aload_n hF dX3_parseClause_81 rfl 0 rfl ?_
      refine s_aload_n hF dX3_parseClause_82 rfl 1 rfl ?_
      refine s_bipush (v := (24 : Int32)) hF dX3_parseClause_83 kB_24 ?_
      refine s_xVi (st := [.ref l0]) (ci := 9) [.int (24 : Int32)] hF hD dX3_parseClause_85 cwX3_67 (Nat.le_of_ble_eq_true rfl) (Nat.le_of_ble_eq_true rfl) rfl rfl (Nat.le_of_ble_eq_true rfl) f1 rfl rfl (Nat.le_of_ble_eq_true rfl) (ctX9_number l1 (24 : Int32) _) (fun r27 m28 hl29 hm30 => ?_)
      refine s_putI hF dX3_parseClause_88 flX3_34 (isK.mo f0 hm30) ?_
      refine s_sub [1] rfl ?_
      exact sX3_parseClause_91 hF hD l1 _ (isK.mo f1 hm30)
theorem sX3_parseClause_32 {F : Option Fx} (hF : FxO F RX3 cX3_parseClause 4 6) (hD : FxXO F none) (l0 : Nat) (l1 : Nat) (l3 : Int32) (μ : Mem) (f0 : isK μ l0 3 = true) (f1 : isK μ l1 9 = true) : Sim F encV 32 [(0, .ref l0), (1, .ref l1), (3, .int l3)] [] μ (mX3_parseClause_32 l0 l1 l3 μ) := by
  unfold mX3_parseClause_32
  refine s_iload_n hF dX3_parseClause_32 rfl 2 rfl ?_
  refine s_iconst (v := (1 : Int32)) hF dX3_parseClause_33 kI_1 ?_
  refine s_icmp_ne (tgt := 56) hF dX3_parseClause_34 rfl (fun c11 => ?_) (fun c11 => ?_)
  · refine s_aload_n hF dX3_parseClause_37 rfl 0 rfl ?_
    refine s_getI (x := (g_I μ l0 4)) hF dX3_parseClause_38 flX3_31 f0 rfl ?_
    refine s_bipush (v := (16 : Int32)) hF dX3_parseClause_41 kB_16 ?_
    refine s_icmp_lt (tgt := 56) hF dX3_parseClause_43 rfl (fun c12 => ?_) (fun c12 => ?_)
    · exact sX3_parseClause_56 hF hD l0 l1 l3 _ f0 f1
    · refine s_sub [1] rfl ?_
      exact sX3_parseClause_46 hF hD l1 _ f1
  · exact sX3_parseClause_56 hF hD l0 l1 l3 _ f0 f1
theorem ctX3_parseClause  (l0 : Nat) (l1 : Nat) (l2 : Int32) (μ : Mem) : ∀ (r : Unit) (μ' : Mem), LX3_parseClause l0 l1 l2 μ = some (r, μ') → CtX yX3_parseClause cX3_parseClause 4 none 6 [.ref l0, .ref l1, .int l2] μ (encV r) μ' := by
  refine ct_enterX plX3 (Nat.le_of_ble_eq_true rfl) (fun F hF hD hI => ?_)
  unfold LX3_parseClause
  refine sim_gd (fun f0 => ?_)
  refine sim_gd (fun f1 => ?_)
  refine s_aload_n hF dX3_parseClause_0 rfl 1 rfl ?_
  refine s_ldcS (j := 0) hF hD dX3_parseClause_1 rfl ?_
  refine s_xVi (st := []) (ci := 9) [.retAddr (0 : Nat)] hF hD dX3_parseClause_3 cwX3_49 (Nat.le_of_ble_eq_true rfl) (Nat.le_of_ble_eq_true rfl) rfl rfl (Nat.le_of_ble_eq_true rfl) f1 rfl rfl (Nat.le_of_ble_eq_true rfl) (ctX9_word l1 (0 : Nat) _) (fun r1 m2 hl3 hm4 => ?_)
  refine s_istore_n (pls' := [(3, .int r1), (0, .ref l0), (1, .ref l1), (2, .int l2)]) hF dX3_parseClause_6 rfl (by decide) rfl ?_
  refine s_iload_n hF dX3_parseClause_7 rfl 0 rfl ?_
  refine s_iconst (v := (-1 : Int32)) hF dX3_parseClause_8 kI_m1 ?_
  refine s_icmp_ne (tgt := 13) hF dX3_parseClause_9 rfl (fun c7 => ?_) (fun c7 => ?_)
  · exact s_vretX hF hD dX3_parseClause_12 rfl
  · refine s_iload_n hF dX3_parseClause_13 rfl 3 rfl ?_
    refine s_bipush (v := (60 : Int32)) hF dX3_parseClause_14 kB_60 ?_
    refine s_icmp_ge (tgt := 46) hF dX3_parseClause_16 rfl (fun c8 => ?_) (fun c8 => ?_)
    · refine s_sub [2] rfl ?_
      exact sX3_parseClause_46 hF hD l1 _ (isK.mo f1 hm4)
    · refine s_iload_n hF dX3_parseClause_19 rfl 0 rfl ?_
      refine s_if_ne (tgt := 32) hF dX3_parseClause_20 rfl (fun c9 => ?_) (fun c9 => ?_)
      · refine s_aload_n hF dX3_parseClause_23 rfl 1 rfl ?_
        refine s_getI (x := (g_I m2 l0 0)) hF dX3_parseClause_24 flX3_27 (isK.mo f0 hm4) rfl ?_
        refine s_bipush (v := (8 : Int32)) hF dX3_parseClause_27 kB_8 ?_
        refine s_icmp_ge (tgt := 46) hF dX3_parseClause_29 rfl (fun c10 => ?_) (fun c10 => ?_)
        · refine s_sub [2] rfl ?_
          exact sX3_parseClause_46 hF hD l1 _ (isK.mo f1 hm4)
        · refine s_sub [1, 2, 0] rfl ?_
          exact sX3_parseClause_32 hF hD l0 l1 r1 _ (isK.mo f0 hm4) (isK.mo f1 hm4)
      · refine s_sub [1, 2, 0] rfl ?_
        exact sX3_parseClause_32 hF hD l0 l1 r1 _ (isK.mo f0 hm4) (isK.mo f1 hm4)
theorem sX3_parse_18 {F : Option Fx} (hF : FxO F RX3 cX3_parse 3 7) (hD : FxXO F none) : ∀ (fu : Nat) (l0 : Nat) (l1 : Nat) (l2 : Int32) (μ : Mem) (f0 : isK μ l0 3 = true) (f1 : isK μ l1 9 = true), Sim F encV 18 [(0, .ref l0), (1, .ref l1), (2, .int l2)] [] μ (mX3_parse_18 fu l0 l1 l2 μ) := by
  intro fu
  induction fu with
  | zero =>
    intro l0 l1 l2 μ f0 f1
    exact sim_none
  | succ fu ih =>
    intro l0 l1 l2 μ f0 f1
    rw [mX3_parse_18]
    refine s_iload_n hF dX3_parse_18 rfl 2 rfl ?_
    refine s_bipush (v := (60 : Int32)) hF dX3_parse_19 kB_60 ?_
    refine s_icmp_gt (tgt := 43) hF dX3_parse_21 rfl (fun c1 => ?_) (fun c1 => ?_)
    · exact s_vretX hF hD dX3_parse_43 rfl
    · refine s_aload_n hF dX3_parse_24 rfl 1 rfl ?_
      refine s_xVi (st := []) (ci := 9) [] hF hD dX3_parse_25 cwX3_37 (Nat.le_of_ble_eq_true rfl) (Nat.le_of_ble_eq_true rfl) rfl rfl (Nat.le_of_ble_eq_true rfl) f1 rfl rfl (Nat.le_of_ble_eq_true rfl) (ctX9_more l1 _) (fun r2 m3 hl4 hm5 => ?_)
      refine s_if_eq (tgt := 43) hF dX3_parse_28 rfl (fun c8 => ?_) (fun c8 => ?_)
      · exact s_vretX hF hD dX3_parse_43 rfl
      · refine s_aload_n hF dX3_parse_31 rfl 0 rfl ?_
        refine s_aload_n hF dX3_parse_32 rfl 1 rfl ?_
        refine s_iload_n hF dX3_parse_33 rfl 2 rfl ?_
        refine s_xVv (st := []) (ci := 3) [.ref l1, .int l2] hF hD dX3_parse_34 cwX3_43 (Nat.le_of_ble_eq_true rfl) (Nat.le_of_ble_eq_true rfl) rfl rfl (Nat.le_of_ble_eq_true rfl) (isK.mo f0 hm5) rfl rfl (Nat.le_of_ble_eq_true rfl) (ctX3_parseClause l0 l1 l2 _) (fun r9 m10 hl11 hm12 => ?_)
        refine s_iinc (v := (l2 + (1 : Int32))) (pls' := [(2, .int (l2 + (1 : Int32))), (0, .ref l0), (1, .ref l1)]) hF dX3_parse_37 2 rfl rfl (by decide) rfl ?_
        refine s_goto (tgt := 18) hF dX3_parse_40 rfl ?_
        refine s_sub [1, 2, 0] rfl ?_
        exact ih l0 l1 (l2 + (1 : Int32)) _ (isK.mo (isK.mo f0 hm5) hm12) (isK.mo (isK.mo f1 hm5) hm12)
theorem ctX3_parse  (l0 : Nat) (l1 : Nat) (μ : Mem) : ∀ (r : Unit) (μ' : Mem), LX3_parse l0 l1 μ = some (r, μ') → CtX yX3_parse cX3_parse 3 none 7 [.ref l0, .ref l1] μ (encV r) μ' := by
  refine ct_enterX plX3 (Nat.le_of_ble_eq_true rfl) (fun F hF hD hI => ?_)
  unfold LX3_parse
  refine sim_gd (fun f0 => ?_)
  refine sim_gd (fun f1 => ?_)
  refine s_aload_n hF dX3_parse_0 rfl 0 rfl ?_
  refine s_iconst (v := (0 : Int32)) hF dX3_parse_1 kI_0 ?_
  refine s_putI hF dX3_parse_2 flX3_27 f0 ?_
  refine s_aload_n hF dX3_parse_5 rfl 0 rfl ?_
  refine s_iconst (v := (0 : Int32)) hF dX3_parse_6 kI_0 ?_
  refine s_putI hF dX3_parse_7 flX3_31 f0 ?_
  refine s_aload_n hF dX3_parse_10 rfl 0 rfl ?_
  refine s_bipush (v := (8 : Int32)) hF dX3_parse_11 kB_8 ?_
  refine s_putI hF dX3_parse_13 flX3_34 f0 ?_
  refine s_iconst (v := (0 : Int32)) hF dX3_parse_16 kI_0 ?_
  refine s_istore_n (pls' := [(2, .int (0 : Int32)), (0, .ref l0), (1, .ref l1)]) hF dX3_parse_17 rfl (by decide) rfl ?_
  refine s_sub [1, 2, 0] rfl ?_
  exact sX3_parse_18 hF hD 100000 l0 l1 (0 : Int32) _ f0 f1
theorem sX3_hearersOf_4 {F : Option Fx} (hF : FxO F RX3 cX3_hearersOf 4 0) (hD : FxXO F (some .int)) : ∀ (fu : Nat) (l0 : Nat) (l1 : Int32) (l2 : Int32) (l3 : Int32) (μ : Mem) (f0 : isK μ l0 3 = true), Sim F encI 4 [(0, .ref l0), (1, .int l1), (2, .int l2), (3, .int l3)] [] μ (mX3_hearersOf_4 fu l0 l1 l2 l3 μ) := by
  intro fu
  induction fu with
  | zero =>
    intro l0 l1 l2 l3 μ f0
    exact sim_none
  | succ fu ih =>
    intro l0 l1 l2 l3 μ f0
    rw [mX3_hearersOf_4]
    refine s_iload_n hF dX3_hearersOf_4 rfl 3 rfl ?_
    refine s_aload_n hF dX3_hearersOf_5 rfl 0 rfl ?_
    refine s_getI (x := (g_I μ l0 4)) hF dX3_hearersOf_6 flX3_31 f0 rfl ?_
    refine s_icmp_ge (tgt := 39) hF dX3_hearersOf_9 rfl (fun c1 => ?_) (fun c1 => ?_)
    · refine s_iload_n hF dX3_hearersOf_39 rfl 2 rfl ?_
      exact s_iretX hF hD dX3_hearersOf_40 rfl
    · refine s_aload_n hF dX3_hearersOf_12 rfl 0 rfl ?_
      refine sim_gd (fun g2 => ?_)
      refine s_getR (x := (g_R μ l0 5)) hF dX3_hearersOf_13 flX3_21 f0 g2 rfl ?_
      refine s_iload_n hF dX3_hearersOf_16 rfl 3 rfl ?_
      refine sim_gd (fun g3 => ?_)
      refine s_iaload (x := (g_I μ (g_R μ l0 5) l3.toNatClampNeg)) hF dX3_hearersOf_17 g3 rfl ?_
      refine s_iload_n hF dX3_hearersOf_18 rfl 1 rfl ?_
      refine s_icmp_ne (tgt := 33) hF dX3_hearersOf_19 rfl (fun c4 => ?_) (fun c4 => ?_)
      · refine s_iload_n hF dX3_hearersOf_22 rfl 2 rfl ?_
        refine s_iconst (v := (1 : Int32)) hF dX3_hearersOf_23 kI_1 ?_
        refine s_aload_n hF dX3_hearersOf_24 rfl 0 rfl ?_
        refine sim_gd (fun g5 => ?_)
        refine s_getR (x := (g_R μ l0 6)) hF dX3_hearersOf_25 flX3_24 f0 g5 rfl ?_
        refine s_iload_n hF dX3_hearersOf_28 rfl 3 rfl ?_
        refine sim_gd (fun g6 => ?_)
        refine s_iaload (x := (g_I μ (g_R μ l0 6) l3.toNatClampNeg)) hF dX3_hearersOf_29 g6 rfl ?_
        refine s_ishl hF dX3_hearersOf_30 ?_
        refine s_ior hF dX3_hearersOf_31 ?_
        refine s_istore_n (pls' := [(2, .int (l2 ||| ((1 : Int32) <<< ((g_I μ (g_R μ l0 6) l3.toNatClampNeg) &&& 31)))), (0, .ref l0), (1, .int l1), (3, .int l3)]) hF dX3_hearersOf_32 rfl (by decide) rfl ?_
        refine s_iinc (v := (l3 + (1 : Int32))) (pls' := [(3, .int (l3 + (1 : Int32))), (2, .int (l2 ||| ((1 : Int32) <<< ((g_I μ (g_R μ l0 6) l3.toNatClampNeg) &&& 31)))), (0, .ref l0), (1, .int l1)]) hF dX3_hearersOf_33 3 rfl rfl (by decide) rfl ?_
        refine s_goto (tgt := 4) hF dX3_hearersOf_36 rfl ?_
        refine s_sub [2, 3, 1, 0] rfl ?_
        exact ih l0 l1 (l2 ||| ((1 : Int32) <<< ((g_I μ (g_R μ l0 6) l3.toNatClampNeg) &&& 31))) (l3 + (1 : Int32)) _ f0
      · refine s_iinc (v := (l3 + (1 : Int32))) (pls' := [(3, .int (l3 + (1 : Int32))), (0, .ref l0), (1, .int l1), (2, .int l2)]) hF dX3_hearersOf_33 3 rfl rfl (by decide) rfl ?_
        refine s_goto (tgt := 4) hF dX3_hearersOf_36 rfl ?_
        refine s_sub [1, 2, 3, 0] rfl ?_
        exact ih l0 l1 l2 (l3 + (1 : Int32)) _ f0
theorem ctX3_hearersOf  (l0 : Nat) (l1 : Int32) (μ : Mem) : ∀ (r : Int32) (μ' : Mem), LX3_hearersOf l0 l1 μ = some (r, μ') → CtX yX3_hearersOf cX3_hearersOf 4 (some .int) 0 [.ref l0, .int l1] μ (encI r) μ' := by
  refine ct_enterX plX3 (Nat.le_of_ble_eq_true rfl) (fun F hF hD hI => ?_)
  unfold LX3_hearersOf
  refine sim_gd (fun f0 => ?_)
  refine s_iconst (v := (0 : Int32)) hF dX3_hearersOf_0 kI_0 ?_
  refine s_istore_n (pls' := [(2, .int (0 : Int32)), (0, .ref l0), (1, .int l1)]) hF dX3_hearersOf_1 rfl (by decide) rfl ?_
  refine s_iconst (v := (0 : Int32)) hF dX3_hearersOf_2 kI_0 ?_
  refine s_istore_n (pls' := [(3, .int (0 : Int32)), (2, .int (0 : Int32)), (0, .ref l0), (1, .int l1)]) hF dX3_hearersOf_3 rfl (by decide) rfl ?_
  refine s_sub [2, 3, 1, 0] rfl ?_
  exact sX3_hearersOf_4 hF hD 100000 l0 l1 (0 : Int32) (0 : Int32) _ f0
theorem ctX3_isHeardBy  (l0 : Nat) (l1 : Int32) (l2 : Int32) (μ : Mem) : ∀ (r : Int32) (μ' : Mem), LX3_isHeardBy l0 l1 l2 μ = some (r, μ') → CtX yX3_isHeardBy cX3_isHeardBy 3 (some .boolean) 1 [.ref l0, .int l1, .int l2] μ (encI r) μ' := by
  refine ct_enterX plX3 (Nat.le_of_ble_eq_true rfl) (fun F hF hD hI => ?_)
  unfold LX3_isHeardBy
  refine sim_gd (fun f0 => ?_)
  refine s_aload_n hF dX3_isHeardBy_0 rfl 0 rfl ?_
  refine s_iload_n hF dX3_isHeardBy_1 rfl 1 rfl ?_
  refine s_xVi (st := []) (ci := 3) [.int l1] hF hD dX3_isHeardBy_2 cwX3_75 (Nat.le_of_ble_eq_true rfl) (Nat.le_of_ble_eq_true rfl) rfl rfl (Nat.le_of_ble_eq_true rfl) f0 rfl rfl (Nat.le_of_ble_eq_true rfl) (ctX3_hearersOf l0 l1 _) (fun r1 m2 hl3 hm4 => ?_)
  refine s_iload_n hF dX3_isHeardBy_5 rfl 2 rfl ?_
  refine s_ishr hF dX3_isHeardBy_6 ?_
  refine s_iconst (v := (1 : Int32)) hF dX3_isHeardBy_7 kI_1 ?_
  refine s_iand hF dX3_isHeardBy_8 ?_
  refine s_if_eq (tgt := 16) hF dX3_isHeardBy_9 rfl (fun c7 => ?_) (fun c7 => ?_)
  · refine s_iconst (v := (0 : Int32)) hF dX3_isHeardBy_16 kI_0 ?_
    exact s_zretX hF hD dX3_isHeardBy_17 rfl rfl
  · refine s_iconst (v := (1 : Int32)) hF dX3_isHeardBy_12 kI_1 ?_
    refine s_goto (tgt := 17) hF dX3_isHeardBy_13 rfl ?_
    exact s_zretX hF hD dX3_isHeardBy_17 rfl rfl
theorem sX3_heardBy_4 {F : Option Fx} (hF : FxO F RX3 cX3_heardBy 4 0) (hD : FxXO F (some .int)) : ∀ (fu : Nat) (l0 : Nat) (l1 : Int32) (l2 : Int32) (l3 : Int32) (μ : Mem) (f0 : isK μ l0 3 = true), Sim F encI 4 [(0, .ref l0), (1, .int l1), (2, .int l2), (3, .int l3)] [] μ (mX3_heardBy_4 fu l0 l1 l2 l3 μ) := by
  intro fu
  induction fu with
  | zero =>
    intro l0 l1 l2 l3 μ f0
    exact sim_none
  | succ fu ih =>
    intro l0 l1 l2 l3 μ f0
    rw [mX3_heardBy_4]
    refine s_iload_n hF dX3_heardBy_4 rfl 3 rfl ?_
    refine s_aload_n hF dX3_heardBy_5 rfl 0 rfl ?_
    refine s_getI (x := (g_I μ l0 4)) hF dX3_heardBy_6 flX3_31 f0 rfl ?_
    refine s_icmp_ge (tgt := 39) hF dX3_heardBy_9 rfl (fun c1 => ?_) (fun c1 => ?_)
    · refine s_iload_n hF dX3_heardBy_39 rfl 2 rfl ?_
      exact s_iretX hF hD dX3_heardBy_40 rfl
    · refine s_aload_n hF dX3_heardBy_12 rfl 0 rfl ?_
      refine sim_gd (fun g2 => ?_)
      refine s_getR (x := (g_R μ l0 6)) hF dX3_heardBy_13 flX3_24 f0 g2 rfl ?_
      refine s_iload_n hF dX3_heardBy_16 rfl 3 rfl ?_
      refine sim_gd (fun g3 => ?_)
      refine s_iaload (x := (g_I μ (g_R μ l0 6) l3.toNatClampNeg)) hF dX3_heardBy_17 g3 rfl ?_
      refine s_iload_n hF dX3_heardBy_18 rfl 1 rfl ?_
      refine s_icmp_ne (tgt := 33) hF dX3_heardBy_19 rfl (fun c4 => ?_) (fun c4 => ?_)
      · refine s_iload_n hF dX3_heardBy_22 rfl 2 rfl ?_
        refine s_iconst (v := (1 : Int32)) hF dX3_heardBy_23 kI_1 ?_
        refine s_aload_n hF dX3_heardBy_24 rfl 0 rfl ?_
        refine sim_gd (fun g5 => ?_)
        refine s_getR (x := (g_R μ l0 5)) hF dX3_heardBy_25 flX3_21 f0 g5 rfl ?_
        refine s_iload_n hF dX3_heardBy_28 rfl 3 rfl ?_
        refine sim_gd (fun g6 => ?_)
        refine s_iaload (x := (g_I μ (g_R μ l0 5) l3.toNatClampNeg)) hF dX3_heardBy_29 g6 rfl ?_
        refine s_ishl hF dX3_heardBy_30 ?_
        refine s_ior hF dX3_heardBy_31 ?_
        refine s_istore_n (pls' := [(2, .int (l2 ||| ((1 : Int32) <<< ((g_I μ (g_R μ l0 5) l3.toNatClampNeg) &&& 31)))), (0, .ref l0), (1, .int l1), (3, .int l3)]) hF dX3_heardBy_32 rfl (by decide) rfl ?_
        refine s_iinc (v := (l3 + (1 : Int32))) (pls' := [(3, .int (l3 + (1 : Int32))), (2, .int (l2 ||| ((1 : Int32) <<< ((g_I μ (g_R μ l0 5) l3.toNatClampNeg) &&& 31)))), (0, .ref l0), (1, .int l1)]) hF dX3_heardBy_33 3 rfl rfl (by decide) rfl ?_
        refine s_goto (tgt := 4) hF dX3_heardBy_36 rfl ?_
        refine s_sub [2, 3, 1, 0] rfl ?_
        exact ih l0 l1 (l2 ||| ((1 : Int32) <<< ((g_I μ (g_R μ l0 5) l3.toNatClampNeg) &&& 31))) (l3 + (1 : Int32)) _ f0
      · refine s_iinc (v := (l3 + (1 : Int32))) (pls' := [(3, .int (l3 + (1 : Int32))), (0, .ref l0), (1, .int l1), (2, .int l2)]) hF dX3_heardBy_33 3 rfl rfl (by decide) rfl ?_
        refine s_goto (tgt := 4) hF dX3_heardBy_36 rfl ?_
        refine s_sub [1, 2, 3, 0] rfl ?_
        exact ih l0 l1 l2 (l3 + (1 : Int32)) _ f0
theorem ctX3_heardBy  (l0 : Nat) (l1 : Int32) (μ : Mem) : ∀ (r : Int32) (μ' : Mem), LX3_heardBy l0 l1 μ = some (r, μ') → CtX yX3_heardBy cX3_heardBy 4 (some .int) 0 [.ref l0, .int l1] μ (encI r) μ' := by
  refine ct_enterX plX3 (Nat.le_of_ble_eq_true rfl) (fun F hF hD hI => ?_)
  unfold LX3_heardBy
  refine sim_gd (fun f0 => ?_)
  refine s_iconst (v := (0 : Int32)) hF dX3_heardBy_0 kI_0 ?_
  refine s_istore_n (pls' := [(2, .int (0 : Int32)), (0, .ref l0), (1, .int l1)]) hF dX3_heardBy_1 rfl (by decide) rfl ?_
  refine s_iconst (v := (0 : Int32)) hF dX3_heardBy_2 kI_0 ?_
  refine s_istore_n (pls' := [(3, .int (0 : Int32)), (2, .int (0 : Int32)), (0, .ref l0), (1, .int l1)]) hF dX3_heardBy_3 rfl (by decide) rfl ?_
  refine s_sub [2, 3, 1, 0] rfl ?_
  exact sX3_heardBy_4 hF hD 100000 l0 l1 (0 : Int32) (0 : Int32) _ f0
theorem ctX4_init  (l0 : Nat) (μ : Mem) : ∀ (r : Unit) (μ' : Mem), LX4_init l0 μ = some (r, μ') → CtX yX4_init cX4_init 1 none 1 [.ref l0] μ (encV r) μ' := by
  refine ct_enterX plX4 (Nat.le_of_ble_eq_true rfl) (fun F hF hD hI => ?_)
  unfold LX4_init
  refine sim_gd (fun f0 => ?_)
  refine s_aload_n hF dX4_init_0 rfl 0 rfl ?_
  refine s_objInit hF dX4_init_1 mlX4_3 obi obc (Nat.le_of_ble_eq_true rfl) (Nat.le_of_ble_eq_true rfl) ?_
  refine s_aload_n hF dX4_init_4 rfl 0 rfl ?_
  refine s_bipush (v := (8 : Int32)) hF dX4_init_5 kB_8 ?_
  refine s_newIN (8) hF dX4_init_7 ac_int (by decide) rfl (Nat.le_of_ble_eq_true rfl) (fun r1 m2 hk3 hm4 => ?_)
  refine s_putRF hF (hI rfl) dX4_init_9 flX4_11 (isK.mo f0 hm4) ((isK_iff.mp hk3).1) ?_
  refine s_aload_n hF dX4_init_12 rfl 0 rfl ?_
  refine s_sipush (v := (150 : Int32)) hF dX4_init_13 kS_150 ?_
  refine s_newIN (150) hF dX4_init_16 ac_int (by decide) rfl (Nat.le_of_ble_eq_true rfl) (fun r5 m6 hk7 hm8 => ?_)
  refine s_putRF hF (hI rfl) dX4_init_18 flX4_15 (isK.mo (isK.mo f0 hm4) hm8) ((isK_iff.mp hk7).1) ?_
  refine s_aload_n hF dX4_init_21 rfl 0 rfl ?_
  refine s_sipush (v := (150 : Int32)) hF dX4_init_22 kS_150 ?_
  refine s_newIN (150) hF dX4_init_25 ac_int (by decide) rfl (Nat.le_of_ble_eq_true rfl) (fun r9 m10 hk11 hm12 => ?_)
  refine s_putRF hF (hI rfl) dX4_init_27 flX4_18 (isK.mo (isK.mo (isK.mo f0 hm4) hm8) hm12) ((isK_iff.mp hk11).1) ?_
  refine s_aload_n hF dX4_init_30 rfl 0 rfl ?_
  refine s_sipush (v := (150 : Int32)) hF dX4_init_31 kS_150 ?_
  refine s_newIN (150) hF dX4_init_34 ac_int (by decide) rfl (Nat.le_of_ble_eq_true rfl) (fun r13 m14 hk15 hm16 => ?_)
  refine s_putRF hF (hI rfl) dX4_init_36 flX4_21 (isK.mo (isK.mo (isK.mo (isK.mo f0 hm4) hm8) hm12) hm16) ((isK_iff.mp hk15).1) ?_
  refine s_aload_n hF dX4_init_39 rfl 0 rfl ?_
  refine sim_gd (fun g17 => ?_)
  refine s_getR (x := (g_R (p_R m14 l0 4 r13) l0 1)) hF dX4_init_40 flX4_15 (isK.mo (isK.mo (isK.mo (isK.mo f0 hm4) hm8) hm12) hm16) g17 rfl ?_
  refine s_iconst (v := (0 : Int32)) hF dX4_init_43 kI_0 ?_
  refine s_iconst (v := (2 : Int32)) hF dX4_init_44 kI_2 ?_
  refine sim_gd (fun g18 => ?_)
  refine s_iastore hF dX4_init_45 g18 ?_
  refine s_aload_n hF dX4_init_46 rfl 0 rfl ?_
  refine s_iconst (v := (1 : Int32)) hF dX4_init_47 kI_1 ?_
  refine s_putI hF dX4_init_48 flX4_24 (isK.mo (isK.mo (isK.mo (isK.mo f0 hm4) hm8) hm12) hm16) ?_
  exact s_vretX hF hD dX4_init_51 rfl
theorem ctX4_put  (l0 : Nat) (l1 : Int32) (l2 : Int32) (μ : Mem) : ∀ (r : Unit) (μ' : Mem), LX4_put l0 l1 l2 μ = some (r, μ') → CtX yX4_put cX4_put 3 none 0 [.ref l0, .int l1, .int l2] μ (encV r) μ' := by
  refine ct_enterX plX4 (Nat.le_of_ble_eq_true rfl) (fun F hF hD hI => ?_)
  unfold LX4_put
  refine sim_gd (fun f0 => ?_)
  refine s_aload_n hF dX4_put_0 rfl 0 rfl ?_
  refine s_getI (x := (g_I μ l0 3)) hF dX4_put_1 flX4_24 f0 rfl ?_
  refine s_sipush (v := (150 : Int32)) hF dX4_put_4 kS_150 ?_
  refine s_icmp_ge (tgt := 40) hF dX4_put_7 rfl (fun c1 => ?_) (fun c1 => ?_)
  · exact s_vretX hF hD dX4_put_40 rfl
  · refine s_aload_n hF dX4_put_10 rfl 0 rfl ?_
    refine sim_gd (fun g2 => ?_)
    refine s_getR (x := (g_R μ l0 1)) hF dX4_put_11 flX4_15 f0 g2 rfl ?_
    refine s_aload_n hF dX4_put_14 rfl 0 rfl ?_
    refine s_getI (x := (g_I μ l0 3)) hF dX4_put_15 flX4_24 f0 rfl ?_
    refine s_iload_n hF dX4_put_18 rfl 1 rfl ?_
    refine sim_gd (fun g3 => ?_)
    refine s_iastore hF dX4_put_19 g3 ?_
    refine s_aload_n hF dX4_put_20 rfl 0 rfl ?_
    refine sim_gd (fun g4 => ?_)
    refine s_getR (x := (g_R μ l0 2)) hF dX4_put_21 flX4_18 f0 g4 rfl ?_
    refine s_aload_n hF dX4_put_24 rfl 0 rfl ?_
    refine s_getI (x := (g_I (p_I μ (g_R μ l0 1) (g_I μ l0 3).toNatClampNeg l1) l0 3)) hF dX4_put_25 flX4_24 f0 rfl ?_
    refine s_iload_n hF dX4_put_28 rfl 2 rfl ?_
    refine sim_gd (fun g5 => ?_)
    refine s_iastore hF dX4_put_29 g5 ?_
    refine s_aload_n hF dX4_put_30 rfl 0 rfl ?_
    refine s_dup hF dX4_put_31 rfl ?_
    refine s_getI (x := (g_I (p_I (p_I μ (g_R μ l0 1) (g_I μ l0 3).toNatClampNeg l1) (g_R μ l0 2) (g_I (p_I μ (g_R μ l0 1) (g_I μ l0 3).toNatClampNeg l1) l0 3).toNatClampNeg l2) l0 3)) hF dX4_put_32 flX4_24 f0 rfl ?_
    refine s_iconst (v := (1 : Int32)) hF dX4_put_35 kI_1 ?_
    refine s_iadd hF dX4_put_36 ?_
    refine s_putI hF dX4_put_37 flX4_24 f0 ?_
    exact s_vretX hF hD dX4_put_40 rfl
theorem ctX4_clear  (l0 : Nat) (μ : Mem) : ∀ (r : Unit) (μ' : Mem), LX4_clear l0 μ = some (r, μ') → CtX yX4_clear cX4_clear 1 none 1 [.ref l0] μ (encV r) μ' := by
  refine ct_enterX plX4 (Nat.le_of_ble_eq_true rfl) (fun F hF hD hI => ?_)
  unfold LX4_clear
  refine sim_gd (fun f0 => ?_)
  refine s_aload_n hF dX4_clear_0 rfl 0 rfl ?_
  refine s_iconst (v := (0 : Int32)) hF dX4_clear_1 kI_0 ?_
  refine s_putI hF dX4_clear_2 flX4_24 f0 ?_
  refine s_aload_n hF dX4_clear_5 rfl 0 rfl ?_
  refine s_iconst (v := (2 : Int32)) hF dX4_clear_6 kI_2 ?_
  refine s_iconst (v := (0 : Int32)) hF dX4_clear_7 kI_0 ?_
  refine s_xVv (st := []) (ci := 4) [.int (2 : Int32), .int (0 : Int32)] hF hD dX4_clear_8 cwX4_28 (Nat.le_of_ble_eq_true rfl) (Nat.le_of_ble_eq_true rfl) rfl rfl (Nat.le_of_ble_eq_true rfl) f0 rfl rfl (Nat.le_of_ble_eq_true rfl) (ctX4_put l0 (2 : Int32) (0 : Int32) _) (fun r1 m2 hl3 hm4 => ?_)
  exact s_vretX hF hD dX4_clear_11 rfl
theorem ctX9_comes  (l0 : Nat) (l1 : Int32) (μ : Mem) : ∀ (r : Int32) (μ' : Mem), LX9_comes l0 l1 μ = some (r, μ') → CtX yX9_comes cX9_comes 2 (some .boolean) 1 [.ref l0, .int l1] μ (encI r) μ' := by
  refine ct_enterX plX9 (Nat.le_of_ble_eq_true rfl) (fun F hF hD hI => ?_)
  unfold LX9_comes
  refine sim_gd (fun f0 => ?_)
  refine s_aload_n hF dX9_comes_0 rfl 0 rfl ?_
  refine s_getI (x := (g_I μ l0 2)) hF dX9_comes_1 flX9_31 f0 rfl ?_
  refine s_if_ne (tgt := 19) hF dX9_comes_4 rfl (fun c1 => ?_) (fun c1 => ?_)
  · refine s_aload_n hF dX9_comes_7 rfl 0 rfl ?_
    refine s_xVi (st := []) (ci := 9) [] hF hD dX9_comes_8 cwX9_34 (Nat.le_of_ble_eq_true rfl) (Nat.le_of_ble_eq_true rfl) rfl rfl (Nat.le_of_ble_eq_true rfl) f0 rfl rfl (Nat.le_of_ble_eq_true rfl) (ctX9_next l0 _) (fun r2 m3 hl4 hm5 => ?_)
    refine s_iload_n hF dX9_comes_11 rfl 1 rfl ?_
    refine s_icmp_ne (tgt := 19) hF dX9_comes_12 rfl (fun c8 => ?_) (fun c8 => ?_)
    · refine s_iconst (v := (1 : Int32)) hF dX9_comes_15 kI_1 ?_
      refine s_goto (tgt := 20) hF dX9_comes_16 rfl ?_
      exact s_zretX hF hD dX9_comes_20 rfl rfl
    · refine s_iconst (v := (0 : Int32)) hF dX9_comes_19 kI_0 ?_
      exact s_zretX hF hD dX9_comes_20 rfl rfl
  · refine s_iconst (v := (0 : Int32)) hF dX9_comes_19 kI_0 ?_
    exact s_zretX hF hD dX9_comes_20 rfl rfl
theorem sX9_oneOf_2 {F : Option Fx} (hF : FxO F RX9 cX9_oneOf 3 4) (hD : FxXO F (some .int)) : ∀ (fu : Nat) (l0 : Nat) (l1 : Nat) (l2 : Int32) (μ : Mem) (f0 : isK μ l0 9 = true), Sim F encI 2 [(0, .ref l0), (1, .retAddr l1), (2, .int l2)] [] μ (mX9_oneOf_2 fu l0 l1 l2 μ) := by
  intro fu
  induction fu with
  | zero =>
    intro l0 l1 l2 μ f0
    exact sim_none
  | succ fu ih =>
    intro l0 l1 l2 μ f0
    rw [mX9_oneOf_2]
    refine s_iload_n hF dX9_oneOf_2 rfl 2 rfl ?_
    refine s_sload_n hF dX9_oneOf_3 rfl 1 rfl ?_
    refine sim_gd (fun g1 => ?_)
    refine s_xsi (st := [.int l2]) [] hF hD dX9_oneOf_4 cwX9_46 (Nat.le_of_ble_eq_true rfl) (Nat.le_of_ble_eq_true rfl) rfl g1 rfl rfl (Nat.le_of_ble_eq_true rfl) (ctLJ0_length l1 _) (fun r2 m3 hl4 hm5 => ?_)
    refine s_icmp_ge (tgt := 40) hF dX9_oneOf_7 rfl (fun c6 => ?_) (fun c6 => ?_)
    · refine s_iconst (v := (-1 : Int32)) hF dX9_oneOf_40 kI_m1 ?_
      exact s_iretX hF hD dX9_oneOf_41 rfl
    · refine s_aload_n hF dX9_oneOf_10 rfl 0 rfl ?_
      refine s_sload_n hF dX9_oneOf_11 rfl 1 rfl ?_
      refine s_iload_n hF dX9_oneOf_12 rfl 2 rfl ?_
      refine sim_gd (fun g7 => ?_)
      refine s_xsi (st := [.ref l0]) [.int l2] hF hD dX9_oneOf_13 cwX9_51 (Nat.le_of_ble_eq_true rfl) (Nat.le_of_ble_eq_true rfl) rfl g7 rfl rfl (Nat.le_of_ble_eq_true rfl) (ctLJ0_charAt l1 l2 _) (fun r8 m9 hl10 hm11 => ?_)
      refine s_xVi (st := []) (ci := 9) [.int r8] hF hD dX9_oneOf_16 cwX9_55 (Nat.le_of_ble_eq_true rfl) (Nat.le_of_ble_eq_true rfl) rfl rfl (Nat.le_of_ble_eq_true rfl) (isK.mo (isK.mo f0 hm5) hm11) rfl rfl (Nat.le_of_ble_eq_true rfl) (ctX9_comes l0 r8 _) (fun r12 m13 hl14 hm15 => ?_)
      refine s_if_eq (tgt := 34) hF dX9_oneOf_19 rfl (fun c18 => ?_) (fun c18 => ?_)
      · refine s_iinc (v := (l2 + (1 : Int32))) (pls' := [(2, .int (l2 + (1 : Int32))), (0, .ref l0), (1, .retAddr l1)]) hF dX9_oneOf_34 2 rfl rfl (by decide) rfl ?_
        refine s_goto (tgt := 2) hF dX9_oneOf_37 rfl ?_
        refine s_sub [1, 2, 0] rfl ?_
        exact ih l0 l1 (l2 + (1 : Int32)) _ (isK.mo (isK.mo (isK.mo f0 hm5) hm11) hm15)
      · refine s_aload_n hF dX9_oneOf_22 rfl 0 rfl ?_
        refine s_dup hF dX9_oneOf_23 rfl ?_
        refine s_getI (x := (g_I m13 l0 5)) hF dX9_oneOf_24 flX9_25 (isK.mo (isK.mo (isK.mo f0 hm5) hm11) hm15) rfl ?_
        refine s_iconst (v := (1 : Int32)) hF dX9_oneOf_27 kI_1 ?_
        refine s_iadd hF dX9_oneOf_28 ?_
        refine s_putI hF dX9_oneOf_29 flX9_25 (isK.mo (isK.mo (isK.mo f0 hm5) hm11) hm15) ?_
        refine s_iload_n hF dX9_oneOf_32 rfl 2 rfl ?_
        exact s_iretX hF hD dX9_oneOf_33 rfl
theorem ctX9_oneOf  (l0 : Nat) (l1 : Nat) (μ : Mem) : ∀ (r : Int32) (μ' : Mem), LX9_oneOf l0 l1 μ = some (r, μ') → CtX yX9_oneOf cX9_oneOf 3 (some .int) 4 [.ref l0, .retAddr l1] μ (encI r) μ' := by
  refine ct_enterX plX9 (Nat.le_of_ble_eq_true rfl) (fun F hF hD hI => ?_)
  unfold LX9_oneOf
  refine sim_gd (fun f0 => ?_)
  refine s_iconst (v := (0 : Int32)) hF dX9_oneOf_0 kI_0 ?_
  refine s_istore_n (pls' := [(2, .int (0 : Int32)), (0, .ref l0), (1, .retAddr l1)]) hF dX9_oneOf_1 rfl (by decide) rfl ?_
  refine s_sub [1, 2, 0] rfl ?_
  exact sX9_oneOf_2 hF hD 100000 l0 l1 (0 : Int32) _ f0
theorem ctX4_parseBracket {rec : Nat → Nat → Int32 → Mem → Option (Unit × Mem)} {w : Nat} (hB : 6 ≤ w) (hrec : ∀ (l0 : Nat) (l1 : Nat) (l2 : Int32) (μ : Mem) (r : Unit) (μ' : Mem), rec l0 l1 l2 μ = some (r, μ') → CtX yX4_parseSum cX4_parseSum 5 none w [.ref l0, .ref l1, .int l2] μ (encV r) μ') (l0 : Nat) (l1 : Nat) (l2 : Int32) (μ : Mem) : ∀ (r : Unit) (μ' : Mem), LX4_parseBracket rec l0 l1 l2 μ = some (r, μ') → CtX yX4_parseBracket cX4_parseBracket 3 none (w + 1) [.ref l0, .ref l1, .int l2] μ (encV r) μ' := by
  refine ct_enterX plX4 (Nat.le_of_ble_eq_true rfl) (fun F hF hD hI => ?_)
  unfold LX4_parseBracket
  refine sim_gd (fun f0 => ?_)
  refine sim_gd (fun f1 => ?_)
  refine s_iload_n hF dX4_parseBracket_0 rfl 2 rfl ?_
  refine s_bipush (v := (6 : Int32)) hF dX4_parseBracket_1 kB_6 ?_
  refine s_icmp_lt (tgt := 16) hF dX4_parseBracket_3 rfl (fun c1 => ?_) (fun c1 => ?_)
  · refine s_aload_n hF dX4_parseBracket_16 rfl 1 rfl ?_
    refine s_bipush (v := (40 : Int32)) hF dX4_parseBracket_17 kB_40 ?_
    refine s_xVv (st := []) (ci := 9) [.int (40 : Int32)] hF hD dX4_parseBracket_19 cwX4_85 (by omega) (Nat.le_of_ble_eq_true rfl) rfl rfl (Nat.le_of_ble_eq_true rfl) f1 rfl rfl (Nat.le_of_ble_eq_true rfl) (ctX9_need l1 (40 : Int32) _) (fun r2 m3 hl4 hm5 => ?_)
    refine s_aload_n hF dX4_parseBracket_22 rfl 0 rfl ?_
    refine s_aload_n hF dX4_parseBracket_23 rfl 1 rfl ?_
    refine s_iload_n hF dX4_parseBracket_24 rfl 2 rfl ?_
    refine s_iconst (v := (1 : Int32)) hF dX4_parseBracket_25 kI_1 ?_
    refine s_iadd hF dX4_parseBracket_26 ?_
    refine s_xVv (st := []) (ci := 4) [.ref l1, .int (l2 + (1 : Int32))] hF hD dX4_parseBracket_27 cwX4_32 (by omega) (Nat.le_of_ble_eq_true rfl) rfl rfl (Nat.le_of_ble_eq_true rfl) (isK.mo f0 hm5) rfl rfl (Nat.le_of_ble_eq_true rfl) (hrec l0 l1 (l2 + (1 : Int32)) _) (fun r8 m9 hl10 hm11 => ?_)
    refine s_aload_n hF dX4_parseBracket_30 rfl 1 rfl ?_
    refine s_bipush (v := (41 : Int32)) hF dX4_parseBracket_31 kB_41 ?_
    refine s_xVv (st := []) (ci := 9) [.int (41 : Int32)] hF hD dX4_parseBracket_33 cwX4_85 (by omega) (Nat.le_of_ble_eq_true rfl) rfl rfl (Nat.le_of_ble_eq_true rfl) (isK.mo (isK.mo f1 hm5) hm11) rfl rfl (Nat.le_of_ble_eq_true rfl) (ctX9_need l1 (41 : Int32) _) (fun r14 m15 hl16 hm17 => ?_)
    exact s_vretX hF hD dX4_parseBracket_36 rfl
  · refine s_aload_n hF dX4_parseBracket_6 rfl 1 rfl ?_
    refine s_iconst (v := (3 : Int32)) hF dX4_parseBracket_7 kI_3 ?_
    refine s_aload_n hF dX4_parseBracket_8 rfl 1 rfl ?_
    refine s_getIq (x := (g_I μ l1 4)) hF dX4_parseBracket_9 fqX4_79 f1 rfl ?_
    refine s_xVv (st := []) (ci := 9) [.int (3 : Int32), .int (g_I μ l1 4)] hF hD dX4_parseBracket_12 cwX4_82 (by omega) (Nat.le_of_ble_eq_true rfl) rfl rfl (Nat.le_of_ble_eq_true rfl) f1 rfl rfl (Nat.le_of_ble_eq_true rfl) (ctX9_fail l1 (3 : Int32) (g_I μ l1 4) _) (fun r20 m21 hl22 hm23 => ?_)
    exact s_vretX hF hD dX4_parseBracket_15 rfl
theorem ctX4_parsePair {rec : Nat → Nat → Int32 → Mem → Option (Unit × Mem)} {w : Nat} (hB : 6 ≤ w) (hrec : ∀ (l0 : Nat) (l1 : Nat) (l2 : Int32) (μ : Mem) (r : Unit) (μ' : Mem), rec l0 l1 l2 μ = some (r, μ') → CtX yX4_parseSum cX4_parseSum 5 none w [.ref l0, .ref l1, .int l2] μ (encV r) μ') (l0 : Nat) (l1 : Nat) (l2 : Int32) (l3 : Int32) (μ : Mem) : ∀ (r : Unit) (μ' : Mem), LX4_parsePair rec l0 l1 l2 l3 μ = some (r, μ') → CtX yX4_parsePair cX4_parsePair 4 none (w + 1) [.ref l0, .ref l1, .int l2, .int l3] μ (encV r) μ' := by
  refine ct_enterX plX4 (Nat.le_of_ble_eq_true rfl) (fun F hF hD hI => ?_)
  unfold LX4_parsePair
  refine sim_gd (fun f0 => ?_)
  refine sim_gd (fun f1 => ?_)
  refine s_iload_n hF dX4_parsePair_0 rfl 3 rfl ?_
  refine s_bipush (v := (6 : Int32)) hF dX4_parsePair_1 kB_6 ?_
  refine s_icmp_lt (tgt := 16) hF dX4_parsePair_3 rfl (fun c1 => ?_) (fun c1 => ?_)
  · refine s_aload_n hF dX4_parsePair_16 rfl 1 rfl ?_
    refine s_bipush (v := (91 : Int32)) hF dX4_parsePair_17 kB_91 ?_
    refine s_xVv (st := []) (ci := 9) [.int (91 : Int32)] hF hD dX4_parsePair_19 cwX4_85 (by omega) (Nat.le_of_ble_eq_true rfl) rfl rfl (Nat.le_of_ble_eq_true rfl) f1 rfl rfl (Nat.le_of_ble_eq_true rfl) (ctX9_need l1 (91 : Int32) _) (fun r2 m3 hl4 hm5 => ?_)
    refine s_aload_n hF dX4_parsePair_22 rfl 0 rfl ?_
    refine s_aload_n hF dX4_parsePair_23 rfl 1 rfl ?_
    refine s_iload_n hF dX4_parsePair_24 rfl 3 rfl ?_
    refine s_iconst (v := (1 : Int32)) hF dX4_parsePair_25 kI_1 ?_
    refine s_iadd hF dX4_parsePair_26 ?_
    refine s_xVv (st := []) (ci := 4) [.ref l1, .int (l3 + (1 : Int32))] hF hD dX4_parsePair_27 cwX4_32 (by omega) (Nat.le_of_ble_eq_true rfl) rfl rfl (Nat.le_of_ble_eq_true rfl) (isK.mo f0 hm5) rfl rfl (Nat.le_of_ble_eq_true rfl) (hrec l0 l1 (l3 + (1 : Int32)) _) (fun r8 m9 hl10 hm11 => ?_)
    refine s_aload_n hF dX4_parsePair_30 rfl 1 rfl ?_
    refine s_bipush (v := (44 : Int32)) hF dX4_parsePair_31 kB_44 ?_
    refine s_xVv (st := []) (ci := 9) [.int (44 : Int32)] hF hD dX4_parsePair_33 cwX4_85 (by omega) (Nat.le_of_ble_eq_true rfl) rfl rfl (Nat.le_of_ble_eq_true rfl) (isK.mo (isK.mo f1 hm5) hm11) rfl rfl (Nat.le_of_ble_eq_true rfl) (ctX9_need l1 (44 : Int32) _) (fun r14 m15 hl16 hm17 => ?_)
    refine s_aload_n hF dX4_parsePair_36 rfl 0 rfl ?_
    refine s_aload_n hF dX4_parsePair_37 rfl 1 rfl ?_
    refine s_iload_n hF dX4_parsePair_38 rfl 3 rfl ?_
    refine s_iconst (v := (1 : Int32)) hF dX4_parsePair_39 kI_1 ?_
    refine s_iadd hF dX4_parsePair_40 ?_
    refine s_xVv (st := []) (ci := 4) [.ref l1, .int (l3 + (1 : Int32))] hF hD dX4_parsePair_41 cwX4_32 (by omega) (Nat.le_of_ble_eq_true rfl) rfl rfl (Nat.le_of_ble_eq_true rfl) (isK.mo (isK.mo (isK.mo f0 hm5) hm11) hm17) rfl rfl (Nat.le_of_ble_eq_true rfl) (hrec l0 l1 (l3 + (1 : Int32)) _) (fun r20 m21 hl22 hm23 => ?_)
    refine s_aload_n hF dX4_parsePair_44 rfl 1 rfl ?_
    refine s_bipush (v := (93 : Int32)) hF dX4_parsePair_45 kB_93 ?_
    refine s_xVv (st := []) (ci := 9) [.int (93 : Int32)] hF hD dX4_parsePair_47 cwX4_85 (by omega) (Nat.le_of_ble_eq_true rfl) rfl rfl (Nat.le_of_ble_eq_true rfl) (isK.mo (isK.mo (isK.mo (isK.mo f1 hm5) hm11) hm17) hm23) rfl rfl (Nat.le_of_ble_eq_true rfl) (ctX9_need l1 (93 : Int32) _) (fun r26 m27 hl28 hm29 => ?_)
    refine s_aload_n hF dX4_parsePair_50 rfl 0 rfl ?_
    refine s_iload_n hF dX4_parsePair_51 rfl 2 rfl ?_
    refine s_iconst (v := (0 : Int32)) hF dX4_parsePair_52 kI_0 ?_
    refine s_xVv (st := []) (ci := 4) [.int l2, .int (0 : Int32)] hF hD dX4_parsePair_53 cwX4_28 (by omega) (Nat.le_of_ble_eq_true rfl) rfl rfl (Nat.le_of_ble_eq_true rfl) (isK.mo (isK.mo (isK.mo (isK.mo (isK.mo f0 hm5) hm11) hm17) hm23) hm29) rfl rfl (Nat.le_of_ble_eq_true rfl) (ctX4_put l0 l2 (0 : Int32) _) (fun r32 m33 hl34 hm35 => ?_)
    exact s_vretX hF hD dX4_parsePair_56 rfl
  · refine s_aload_n hF dX4_parsePair_6 rfl 1 rfl ?_
    refine s_iconst (v := (3 : Int32)) hF dX4_parsePair_7 kI_3 ?_
    refine s_aload_n hF dX4_parsePair_8 rfl 1 rfl ?_
    refine s_getIq (x := (g_I μ l1 4)) hF dX4_parsePair_9 fqX4_79 f1 rfl ?_
    refine s_xVv (st := []) (ci := 9) [.int (3 : Int32), .int (g_I μ l1 4)] hF hD dX4_parsePair_12 cwX4_82 (by omega) (Nat.le_of_ble_eq_true rfl) rfl rfl (Nat.le_of_ble_eq_true rfl) f1 rfl rfl (Nat.le_of_ble_eq_true rfl) (ctX9_fail l1 (3 : Int32) (g_I μ l1 4) _) (fun r38 m39 hl40 hm41 => ?_)
    exact s_vretX hF hD dX4_parsePair_15 rfl
theorem sX4_parseUnit_60 {F : Option Fx} {rec : Nat → Nat → Int32 → Mem → Option (Unit × Mem)} {w : Nat} (hB : 6 ≤ w) (hrec : ∀ (l0 : Nat) (l1 : Nat) (l2 : Int32) (μ : Mem) (r : Unit) (μ' : Mem), rec l0 l1 l2 μ = some (r, μ') → CtX yX4_parseSum cX4_parseSum 5 none w [.ref l0, .ref l1, .int l2] μ (encV r) μ') (hF : FxO F RX4 cX4_parseUnit 4 (w + 2)) (hD : FxXO F none) (l0 : Nat) (l1 : Nat) (l2 : Int32) (l3 : Int32) (μ : Mem) (f0 : isK μ l0 4 = true) (f1 : isK μ l1 9 = true) : Sim F encV 60 [(0, .ref l0), (1, .ref l1), (2, .int l2), (3, .int l3)] [] μ (mX4_parseUnit_60 rec l0 l1 l2 l3 μ) := by
  unfold mX4_parseUnit_60
  refine s_aload_n hF dX4_parseUnit_60 rfl 0 rfl ?_
  refine s_aload_n hF dX4_parseUnit_61 rfl 1 rfl ?_
  refine s_iload_n hF dX4_parseUnit_62 rfl 3 rfl ?_
  refine s_iload_n hF dX4_parseUnit_63 rfl 2 rfl ?_
  refine s_xVv (st := []) (ci := 4) [.ref l1, .int l3, .int l2] hF hD dX4_parseUnit_64 cwX4_75 (by omega) (Nat.le_of_ble_eq_true rfl) rfl rfl (Nat.le_of_ble_eq_true rfl) f0 rfl rfl (Nat.le_of_ble_eq_true rfl) (ctX4_parsePair hB hrec l0 l1 l3 l2 _) (fun r47 m48 hl49 hm50 => ?_)
  refine s_goto (tgt := 76) hF dX4_parseUnit_67 rfl ?_
  exact s_vretX hF hD dX4_parseUnit_76 rfl
theorem ctX4_parseUnit {rec : Nat → Nat → Int32 → Mem → Option (Unit × Mem)} {w : Nat} (hB : 6 ≤ w) (hrec : ∀ (l0 : Nat) (l1 : Nat) (l2 : Int32) (μ : Mem) (r : Unit) (μ' : Mem), rec l0 l1 l2 μ = some (r, μ') → CtX yX4_parseSum cX4_parseSum 5 none w [.ref l0, .ref l1, .int l2] μ (encV r) μ') (l0 : Nat) (l1 : Nat) (l2 : Int32) (μ : Mem) : ∀ (r : Unit) (μ' : Mem), LX4_parseUnit rec l0 l1 l2 μ = some (r, μ') → CtX yX4_parseUnit cX4_parseUnit 4 none (w + 2) [.ref l0, .ref l1, .int l2] μ (encV r) μ' := by
  refine ct_enterX plX4 (Nat.le_of_ble_eq_true rfl) (fun F hF hD hI => ?_)
  unfold LX4_parseUnit
  refine sim_gd (fun f0 => ?_)
  refine sim_gd (fun f1 => ?_)
  refine s_aload_n hF dX4_parseUnit_0 rfl 1 rfl ?_
  refine s_xVi (st := []) (ci := 9) [] hF hD dX4_parseUnit_1 cwX4_55 (by omega) (Nat.le_of_ble_eq_true rfl) rfl rfl (Nat.le_of_ble_eq_true rfl) f1 rfl rfl (Nat.le_of_ble_eq_true rfl) (ctX9_digitComes l1 _) (fun r1 m2 hl3 hm4 => ?_)
  refine s_if_eq (tgt := 23) hF dX4_parseUnit_4 rfl (fun c7 => ?_) (fun c7 => ?_)
  · refine s_aload_n hF dX4_parseUnit_23 rfl 1 rfl ?_
    refine s_bipush (v := (40 : Int32)) hF dX4_parseUnit_24 kB_40 ?_
    refine s_xVi (st := []) (ci := 9) [.int (40 : Int32)] hF hD dX4_parseUnit_26 cwX4_63 (by omega) (Nat.le_of_ble_eq_true rfl) rfl rfl (Nat.le_of_ble_eq_true rfl) (isK.mo f1 hm4) rfl rfl (Nat.le_of_ble_eq_true rfl) (ctX9_comes l1 (40 : Int32) _) (fun r8 m9 hl10 hm11 => ?_)
    refine s_if_eq (tgt := 41) hF dX4_parseUnit_29 rfl (fun c14 => ?_) (fun c14 => ?_)
    · refine s_aload_n hF dX4_parseUnit_41 rfl 1 rfl ?_
      refine s_ldcS (j := 1) hF hD dX4_parseUnit_42 rfl ?_
      refine s_xVi (st := []) (ci := 9) [.retAddr (1 : Nat)] hF hD dX4_parseUnit_44 cwX4_72 (by omega) (Nat.le_of_ble_eq_true rfl) rfl rfl (Nat.le_of_ble_eq_true rfl) (isK.mo (isK.mo f1 hm4) hm11) rfl rfl (Nat.le_of_ble_eq_true rfl) (ctX9_word l1 (1 : Nat) _) (fun r15 m16 hl17 hm18 => ?_)
      refine s_istore_n (pls' := [(3, .int r15), (0, .ref l0), (1, .ref l1), (2, .int l2)]) hF dX4_parseUnit_47 rfl (by decide) rfl ?_
      refine s_iload_n hF dX4_parseUnit_48 rfl 0 rfl ?_
      refine s_bipush (v := (8 : Int32)) hF dX4_parseUnit_49 kB_8 ?_
      refine s_icmp_eq (tgt := 60) hF dX4_parseUnit_51 rfl (fun c21 => ?_) (fun c21 => ?_)
      · refine s_sub [1, 2, 3, 0] rfl ?_
        exact sX4_parseUnit_60 hB hrec hF hD l0 l1 l2 r15 _ (isK.mo (isK.mo (isK.mo f0 hm4) hm11) hm18) (isK.mo (isK.mo (isK.mo f1 hm4) hm11) hm18)
      · refine s_iload_n hF dX4_parseUnit_54 rfl 0 rfl ?_
        refine s_bipush (v := (9 : Int32)) hF dX4_parseUnit_55 kB_9 ?_
        refine s_icmp_ne (tgt := 70) hF dX4_parseUnit_57 rfl (fun c22 => ?_) (fun c22 => ?_)
        · refine s_sub [1, 2, 3, 0] rfl ?_
          exact sX4_parseUnit_60 hB hrec hF hD l0 l1 l2 r15 _ (isK.mo (isK.mo (isK.mo f0 hm4) hm11) hm18) (isK.mo (isK.mo (isK.mo f1 hm4) hm11) hm18)
        · refine s_aload_n hF dX4_parseUnit_70 rfl 1 rfl ?_
          refine s_iload_n hF dX4_parseUnit_71 rfl 0 rfl ?_
          refine s_iconst (v := (0 : Int32)) hF dX4_parseUnit_72 kI_0 ?_
          refine s_xVv (st := []) (ci := 4) [.int r15, .int (0 : Int32)] hF hD dX4_parseUnit_73 cwX4_28 (by omega) (Nat.le_of_ble_eq_true rfl) rfl rfl (Nat.le_of_ble_eq_true rfl) (isK.mo (isK.mo (isK.mo f0 hm4) hm11) hm18) rfl rfl (Nat.le_of_ble_eq_true rfl) (ctX4_put l0 r15 (0 : Int32) _) (fun r23 m24 hl25 hm26 => ?_)
          exact s_vretX hF hD dX4_parseUnit_76 rfl
    · refine s_aload_n hF dX4_parseUnit_32 rfl 0 rfl ?_
      refine s_aload_n hF dX4_parseUnit_33 rfl 1 rfl ?_
      refine s_iload_n hF dX4_parseUnit_34 rfl 2 rfl ?_
      refine s_xVv (st := []) (ci := 4) [.ref l1, .int l2] hF hD dX4_parseUnit_35 cwX4_67 (by omega) (Nat.le_of_ble_eq_true rfl) rfl rfl (Nat.le_of_ble_eq_true rfl) (isK.mo (isK.mo f0 hm4) hm11) rfl rfl (Nat.le_of_ble_eq_true rfl) (ctX4_parseBracket hB hrec l0 l1 l2 _) (fun r29 m30 hl31 hm32 => ?_)
      refine s_goto (tgt := 76) hF dX4_parseUnit_38 rfl ?_
      exact s_vretX hF hD dX4_parseUnit_76 rfl
  · refine s_aload_n hF dX4_parseUnit_7 rfl 0 rfl ?_
    refine s_bipush (v := (15 : Int32)) hF dX4_parseUnit_8 kB_15 ?_
    refine s_aload_n hF dX4_parseUnit_10 rfl 1 rfl ?_
    refine s_sipush (v := (999 : Int32)) hF dX4_parseUnit_11 kS_999 ?_
    refine s_xVi (st := [.int (15 : Int32), .ref l0]) (ci := 9) [.int (999 : Int32)] hF hD dX4_parseUnit_14 cwX4_59 (by omega) (Nat.le_of_ble_eq_true rfl) rfl rfl (Nat.le_of_ble_eq_true rfl) (isK.mo f1 hm4) rfl rfl (Nat.le_of_ble_eq_true rfl) (ctX9_number l1 (999 : Int32) _) (fun r35 m36 hl37 hm38 => ?_)
    refine s_xVv (st := []) (ci := 4) [.int (15 : Int32), .int r35] hF hD dX4_parseUnit_17 cwX4_28 (by omega) (Nat.le_of_ble_eq_true rfl) rfl rfl (Nat.le_of_ble_eq_true rfl) (isK.mo (isK.mo f0 hm4) hm38) rfl rfl (Nat.le_of_ble_eq_true rfl) (ctX4_put l0 (15 : Int32) r35 _) (fun r41 m42 hl43 hm44 => ?_)
    refine s_goto (tgt := 76) hF dX4_parseUnit_20 rfl ?_
    exact s_vretX hF hD dX4_parseUnit_76 rfl
theorem sX4_parseProduct_8 {F : Option Fx} {rec : Nat → Nat → Int32 → Mem → Option (Unit × Mem)} {w : Nat} (hB : 6 ≤ w) (hrec : ∀ (l0 : Nat) (l1 : Nat) (l2 : Int32) (μ : Mem) (r : Unit) (μ' : Mem), rec l0 l1 l2 μ = some (r, μ') → CtX yX4_parseSum cX4_parseSum 5 none w [.ref l0, .ref l1, .int l2] μ (encV r) μ') (hF : FxO F RX4 cX4_parseProduct 5 (w + 3)) (hD : FxXO F none) : ∀ (fu : Nat) (l0 : Nat) (l1 : Nat) (l2 : Int32) (l3 : Int32) (μ : Mem) (f0 : isK μ l0 4 = true) (f1 : isK μ l1 9 = true), Sim F encV 8 [(0, .ref l0), (1, .ref l1), (2, .int l2), (3, .int l3)] [] μ (mX4_parseProduct_8 rec fu l0 l1 l2 l3 μ) := by
  intro fu
  induction fu with
  | zero =>
    intro l0 l1 l2 l3 μ f0 f1
    exact sim_none
  | succ fu ih =>
    intro l0 l1 l2 l3 μ f0 f1
    rw [mX4_parseProduct_8]
    refine s_iload_n hF dX4_parseProduct_8 rfl 3 rfl ?_
    refine s_sipush (v := (150 : Int32)) hF dX4_parseProduct_9 kS_150 ?_
    refine s_icmp_ge (tgt := 52) hF dX4_parseProduct_12 rfl (fun c7 => ?_) (fun c7 => ?_)
    · exact s_vretX hF hD dX4_parseProduct_52 rfl
    · refine s_aload_n hF dX4_parseProduct_15 rfl 1 rfl ?_
      refine s_ldcS (j := 4) hF hD dX4_parseProduct_16 rfl ?_
      refine s_xVi (st := []) (ci := 9) [.retAddr (4 : Nat)] hF hD dX4_parseProduct_18 cwX4_46 (by omega) (Nat.le_of_ble_eq_true rfl) rfl rfl (Nat.le_of_ble_eq_true rfl) f1 rfl rfl (Nat.le_of_ble_eq_true rfl) (ctX9_oneOf l1 (4 : Nat) _) (fun r8 m9 hl10 hm11 => ?_)
      refine s_istore (pls' := [(4, .int r8), (0, .ref l0), (1, .ref l1), (2, .int l2), (3, .int l3)]) hF dX4_parseProduct_21 (by decide) rfl ?_
      refine s_iload hF dX4_parseProduct_23 0 rfl ?_
      refine s_iconst (v := (-1 : Int32)) hF dX4_parseProduct_25 kI_m1 ?_
      refine s_icmp_ne (tgt := 30) hF dX4_parseProduct_26 rfl (fun c14 => ?_) (fun c14 => ?_)
      · exact s_vretX hF hD dX4_parseProduct_29 rfl
      · refine s_aload_n hF dX4_parseProduct_30 rfl 1 rfl ?_
        refine s_aload_n hF dX4_parseProduct_31 rfl 2 rfl ?_
        refine s_iload_n hF dX4_parseProduct_32 rfl 3 rfl ?_
        refine s_xVv (st := []) (ci := 4) [.ref l1, .int l2] hF hD dX4_parseProduct_33 cwX4_50 (by omega) (Nat.le_of_ble_eq_true rfl) rfl rfl (Nat.le_of_ble_eq_true rfl) (isK.mo f0 hm11) rfl rfl (Nat.le_of_ble_eq_true rfl) (ctX4_parseUnit hB hrec l0 l1 l2 _) (fun r15 m16 hl17 hm18 => ?_)
        refine s_aload_n hF dX4_parseProduct_36 rfl 1 rfl ?_
        refine s_bipush (v := (12 : Int32)) hF dX4_parseProduct_37 kB_12 ?_
        refine s_iload hF dX4_parseProduct_39 0 rfl ?_
        refine s_iadd hF dX4_parseProduct_41 ?_
        refine s_iconst (v := (0 : Int32)) hF dX4_parseProduct_42 kI_0 ?_
        refine s_xVv (st := []) (ci := 4) [.int ((12 : Int32) + r8), .int (0 : Int32)] hF hD dX4_parseProduct_43 cwX4_28 (by omega) (Nat.le_of_ble_eq_true rfl) rfl rfl (Nat.le_of_ble_eq_true rfl) (isK.mo (isK.mo f0 hm11) hm18) rfl rfl (Nat.le_of_ble_eq_true rfl) (ctX4_put l0 ((12 : Int32) + r8) (0 : Int32) _) (fun r21 m22 hl23 hm24 => ?_)
        refine s_iinc (v := (l3 + (1 : Int32))) (pls' := [(3, .int (l3 + (1 : Int32))), (4, .int r8), (0, .ref l0), (1, .ref l1), (2, .int l2)]) hF dX4_parseProduct_46 4 rfl rfl (by decide) rfl ?_
        refine s_goto (tgt := 8) hF dX4_parseProduct_49 rfl ?_
        refine s_sub [2, 3, 4, 0] rfl ?_
        exact ih l0 l1 l2 (l3 + (1 : Int32)) _ (isK.mo (isK.mo (isK.mo f0 hm11) hm18) hm24) (isK.mo (isK.mo (isK.mo f1 hm11) hm18) hm24)
theorem ctX4_parseProduct {rec : Nat → Nat → Int32 → Mem → Option (Unit × Mem)} {w : Nat} (hB : 6 ≤ w) (hrec : ∀ (l0 : Nat) (l1 : Nat) (l2 : Int32) (μ : Mem) (r : Unit) (μ' : Mem), rec l0 l1 l2 μ = some (r, μ') → CtX yX4_parseSum cX4_parseSum 5 none w [.ref l0, .ref l1, .int l2] μ (encV r) μ') (l0 : Nat) (l1 : Nat) (l2 : Int32) (μ : Mem) : ∀ (r : Unit) (μ' : Mem), LX4_parseProduct rec l0 l1 l2 μ = some (r, μ') → CtX yX4_parseProduct cX4_parseProduct 5 none (w + 3) [.ref l0, .ref l1, .int l2] μ (encV r) μ' := by
  refine ct_enterX plX4 (Nat.le_of_ble_eq_true rfl) (fun F hF hD hI => ?_)
  unfold LX4_parseProduct
  refine sim_gd (fun f0 => ?_)
  refine sim_gd (fun f1 => ?_)
  refine s_aload_n hF dX4_parseProduct_0 rfl 0 rfl ?_
  refine s_aload_n hF dX4_parseProduct_1 rfl 1 rfl ?_
  refine s_iload_n hF dX4_parseProduct_2 rfl 2 rfl ?_
  refine s_xVv (st := []) (ci := 4) [.ref l1, .int l2] hF hD dX4_parseProduct_3 cwX4_50 (by omega) (Nat.le_of_ble_eq_true rfl) rfl rfl (Nat.le_of_ble_eq_true rfl) f0 rfl rfl (Nat.le_of_ble_eq_true rfl) (ctX4_parseUnit hB hrec l0 l1 l2 _) (fun r1 m2 hl3 hm4 => ?_)
  refine s_iconst (v := (0 : Int32)) hF dX4_parseProduct_6 kI_0 ?_
  refine s_istore_n (pls' := [(3, .int (0 : Int32)), (0, .ref l0), (1, .ref l1), (2, .int l2)]) hF dX4_parseProduct_7 rfl (by decide) rfl ?_
  refine s_sub [1, 2, 3, 0] rfl ?_
  exact sX4_parseProduct_8 hB hrec hF hD 100000 l0 l1 l2 (0 : Int32) _ (isK.mo f0 hm4) (isK.mo f1 hm4)
theorem sX4_parseSum_8 {F : Option Fx} {rec : Nat → Nat → Int32 → Mem → Option (Unit × Mem)} {w : Nat} (hB : 6 ≤ w) (hrec : ∀ (l0 : Nat) (l1 : Nat) (l2 : Int32) (μ : Mem) (r : Unit) (μ' : Mem), rec l0 l1 l2 μ = some (r, μ') → CtX yX4_parseSum cX4_parseSum 5 none w [.ref l0, .ref l1, .int l2] μ (encV r) μ') (hF : FxO F RX4 cX4_parseSum 5 (w + 4)) (hD : FxXO F none) : ∀ (fu : Nat) (l0 : Nat) (l1 : Nat) (l2 : Int32) (l3 : Int32) (μ : Mem) (f0 : isK μ l0 4 = true) (f1 : isK μ l1 9 = true), Sim F encV 8 [(0, .ref l0), (1, .ref l1), (2, .int l2), (3, .int l3)] [] μ (mX4_parseSum_8 rec fu l0 l1 l2 l3 μ) := by
  intro fu
  induction fu with
  | zero =>
    intro l0 l1 l2 l3 μ f0 f1
    exact sim_none
  | succ fu ih =>
    intro l0 l1 l2 l3 μ f0 f1
    rw [mX4_parseSum_8]
    refine s_iload_n hF dX4_parseSum_8 rfl 3 rfl ?_
    refine s_sipush (v := (150 : Int32)) hF dX4_parseSum_9 kS_150 ?_
    refine s_icmp_ge (tgt := 52) hF dX4_parseSum_12 rfl (fun c7 => ?_) (fun c7 => ?_)
    · exact s_vretX hF hD dX4_parseSum_52 rfl
    · refine s_aload_n hF dX4_parseSum_15 rfl 1 rfl ?_
      refine s_ldcS (j := 3) hF hD dX4_parseSum_16 rfl ?_
      refine s_xVi (st := []) (ci := 9) [.retAddr (3 : Nat)] hF hD dX4_parseSum_18 cwX4_46 (by omega) (Nat.le_of_ble_eq_true rfl) rfl rfl (Nat.le_of_ble_eq_true rfl) f1 rfl rfl (Nat.le_of_ble_eq_true rfl) (ctX9_oneOf l1 (3 : Nat) _) (fun r8 m9 hl10 hm11 => ?_)
      refine s_istore (pls' := [(4, .int r8), (0, .ref l0), (1, .ref l1), (2, .int l2), (3, .int l3)]) hF dX4_parseSum_21 (by decide) rfl ?_
      refine s_iload hF dX4_parseSum_23 0 rfl ?_
      refine s_iconst (v := (-1 : Int32)) hF dX4_parseSum_25 kI_m1 ?_
      refine s_icmp_ne (tgt := 30) hF dX4_parseSum_26 rfl (fun c14 => ?_) (fun c14 => ?_)
      · exact s_vretX hF hD dX4_parseSum_29 rfl
      · refine s_aload_n hF dX4_parseSum_30 rfl 1 rfl ?_
        refine s_aload_n hF dX4_parseSum_31 rfl 2 rfl ?_
        refine s_iload_n hF dX4_parseSum_32 rfl 3 rfl ?_
        refine s_xVv (st := []) (ci := 4) [.ref l1, .int l2] hF hD dX4_parseSum_33 cwX4_41 (by omega) (Nat.le_of_ble_eq_true rfl) rfl rfl (Nat.le_of_ble_eq_true rfl) (isK.mo f0 hm11) rfl rfl (Nat.le_of_ble_eq_true rfl) (ctX4_parseProduct hB hrec l0 l1 l2 _) (fun r15 m16 hl17 hm18 => ?_)
        refine s_aload_n hF dX4_parseSum_36 rfl 1 rfl ?_
        refine s_bipush (v := (10 : Int32)) hF dX4_parseSum_37 kB_10 ?_
        refine s_iload hF dX4_parseSum_39 0 rfl ?_
        refine s_iadd hF dX4_parseSum_41 ?_
        refine s_iconst (v := (0 : Int32)) hF dX4_parseSum_42 kI_0 ?_
        refine s_xVv (st := []) (ci := 4) [.int ((10 : Int32) + r8), .int (0 : Int32)] hF hD dX4_parseSum_43 cwX4_28 (by omega) (Nat.le_of_ble_eq_true rfl) rfl rfl (Nat.le_of_ble_eq_true rfl) (isK.mo (isK.mo f0 hm11) hm18) rfl rfl (Nat.le_of_ble_eq_true rfl) (ctX4_put l0 ((10 : Int32) + r8) (0 : Int32) _) (fun r21 m22 hl23 hm24 => ?_)
        refine s_iinc (v := (l3 + (1 : Int32))) (pls' := [(3, .int (l3 + (1 : Int32))), (4, .int r8), (0, .ref l0), (1, .ref l1), (2, .int l2)]) hF dX4_parseSum_46 4 rfl rfl (by decide) rfl ?_
        refine s_goto (tgt := 8) hF dX4_parseSum_49 rfl ?_
        refine s_sub [2, 3, 4, 0] rfl ?_
        exact ih l0 l1 l2 (l3 + (1 : Int32)) _ (isK.mo (isK.mo (isK.mo f0 hm11) hm18) hm24) (isK.mo (isK.mo (isK.mo f1 hm11) hm18) hm24)
theorem ctX4_parseSum_b {rec : Nat → Nat → Int32 → Mem → Option (Unit × Mem)} {w : Nat} (hB : 6 ≤ w) (hrec : ∀ (l0 : Nat) (l1 : Nat) (l2 : Int32) (μ : Mem) (r : Unit) (μ' : Mem), rec l0 l1 l2 μ = some (r, μ') → CtX yX4_parseSum cX4_parseSum 5 none w [.ref l0, .ref l1, .int l2] μ (encV r) μ') (l0 : Nat) (l1 : Nat) (l2 : Int32) (μ : Mem) : ∀ (r : Unit) (μ' : Mem), LX4_parseSum_b rec l0 l1 l2 μ = some (r, μ') → CtX yX4_parseSum cX4_parseSum 5 none (w + 4) [.ref l0, .ref l1, .int l2] μ (encV r) μ' := by
  refine ct_enterX plX4 (Nat.le_of_ble_eq_true rfl) (fun F hF hD hI => ?_)
  unfold LX4_parseSum_b
  refine sim_gd (fun f0 => ?_)
  refine sim_gd (fun f1 => ?_)
  refine s_aload_n hF dX4_parseSum_0 rfl 0 rfl ?_
  refine s_aload_n hF dX4_parseSum_1 rfl 1 rfl ?_
  refine s_iload_n hF dX4_parseSum_2 rfl 2 rfl ?_
  refine s_xVv (st := []) (ci := 4) [.ref l1, .int l2] hF hD dX4_parseSum_3 cwX4_41 (by omega) (Nat.le_of_ble_eq_true rfl) rfl rfl (Nat.le_of_ble_eq_true rfl) f0 rfl rfl (Nat.le_of_ble_eq_true rfl) (ctX4_parseProduct hB hrec l0 l1 l2 _) (fun r1 m2 hl3 hm4 => ?_)
  refine s_iconst (v := (0 : Int32)) hF dX4_parseSum_6 kI_0 ?_
  refine s_istore_n (pls' := [(3, .int (0 : Int32)), (0, .ref l0), (1, .ref l1), (2, .int l2)]) hF dX4_parseSum_7 rfl (by decide) rfl ?_
  refine s_sub [1, 2, 3, 0] rfl ?_
  exact sX4_parseSum_8 hB hrec hF hD 100000 l0 l1 l2 (0 : Int32) _ (isK.mo f0 hm4) (isK.mo f1 hm4)
theorem ctX4_parseSum : ∀ (d : Nat) (l0 : Nat) (l1 : Nat) (l2 : Int32) (μ : Mem) (r : Unit) (μ' : Mem), LX4_parseSum d l0 l1 l2 μ = some (r, μ') → CtX yX4_parseSum cX4_parseSum 5 none (6 + 4 * d) [.ref l0, .ref l1, .int l2] μ (encV r) μ'
  | 0, _, _, _, _ => fun r μ' h => by cases h
  | d + 1, l0, l1, l2, μ => fun r μ' h => ctX4_parseSum_b (Nat.le_add_right _ _) (fun l0 l1 l2 μ r μ' h => ctX4_parseSum d l0 l1 l2 μ r μ' h) l0 l1 l2 μ r μ' h
theorem ctX9_needEnd  (l0 : Nat) (μ : Mem) : ∀ (r : Unit) (μ' : Mem), LX9_needEnd l0 μ = some (r, μ') → CtX yX9_needEnd cX9_needEnd 1 none 2 [.ref l0] μ (encV r) μ' := by
  refine ct_enterX plX9 (Nat.le_of_ble_eq_true rfl) (fun F hF hD hI => ?_)
  unfold LX9_needEnd
  refine sim_gd (fun f0 => ?_)
  refine s_aload_n hF dX9_needEnd_0 rfl 0 rfl ?_
  refine s_xVi (st := []) (ci := 9) [] hF hD dX9_needEnd_1 cwX9_59 (Nat.le_of_ble_eq_true rfl) (Nat.le_of_ble_eq_true rfl) rfl rfl (Nat.le_of_ble_eq_true rfl) f0 rfl rfl (Nat.le_of_ble_eq_true rfl) (ctX9_more l0 _) (fun r1 m2 hl3 hm4 => ?_)
  refine s_if_eq (tgt := 16) hF dX9_needEnd_4 rfl (fun c7 => ?_) (fun c7 => ?_)
  · exact s_vretX hF hD dX9_needEnd_16 rfl
  · refine s_aload_n hF dX9_needEnd_7 rfl 0 rfl ?_
    refine s_iconst (v := (1 : Int32)) hF dX9_needEnd_8 kI_1 ?_
    refine s_aload_n hF dX9_needEnd_9 rfl 0 rfl ?_
    refine s_getI (x := (g_I m2 l0 4)) hF dX9_needEnd_10 flX9_28 (isK.mo f0 hm4) rfl ?_
    refine s_xVv (st := []) (ci := 9) [.int (1 : Int32), .int (g_I m2 l0 4)] hF hD dX9_needEnd_13 cwX9_42 (Nat.le_of_ble_eq_true rfl) (Nat.le_of_ble_eq_true rfl) rfl rfl (Nat.le_of_ble_eq_true rfl) (isK.mo f0 hm4) rfl rfl (Nat.le_of_ble_eq_true rfl) (ctX9_fail l0 (1 : Int32) (g_I m2 l0 4) _) (fun r8 m9 hl10 hm11 => ?_)
    exact s_vretX hF hD dX9_needEnd_16 rfl
theorem ctX4_parse  (l0 : Nat) (l1 : Nat) (μ : Mem) : ∀ (r : Unit) (μ' : Mem), LX4_parse l0 l1 μ = some (r, μ') → CtX yX4_parse cX4_parse 2 none 67 [.ref l0, .ref l1] μ (encV r) μ' := by
  refine ct_enterX plX4 (Nat.le_of_ble_eq_true rfl) (fun F hF hD hI => ?_)
  unfold LX4_parse
  refine sim_gd (fun f0 => ?_)
  refine sim_gd (fun f1 => ?_)
  refine s_aload_n hF dX4_parse_0 rfl 0 rfl ?_
  refine s_iconst (v := (0 : Int32)) hF dX4_parse_1 kI_0 ?_
  refine s_putI hF dX4_parse_2 flX4_24 f0 ?_
  refine s_aload_n hF dX4_parse_5 rfl 0 rfl ?_
  refine s_aload_n hF dX4_parse_6 rfl 1 rfl ?_
  refine s_iconst (v := (0 : Int32)) hF dX4_parse_7 kI_0 ?_
  refine s_xVv (st := []) (ci := 4) [.ref l1, .int (0 : Int32)] hF hD dX4_parse_8 cwX4_32 (Nat.le_of_ble_eq_true rfl) (Nat.le_of_ble_eq_true rfl) rfl rfl (Nat.le_of_ble_eq_true rfl) f0 rfl rfl (Nat.le_of_ble_eq_true rfl) (ctX4_parseSum 12 l0 l1 (0 : Int32) _) (fun r1 m2 hl3 hm4 => ?_)
  refine s_aload_n hF dX4_parse_11 rfl 1 rfl ?_
  refine s_xVv (st := []) (ci := 9) [] hF hD dX4_parse_12 cwX4_36 (Nat.le_of_ble_eq_true rfl) (Nat.le_of_ble_eq_true rfl) rfl rfl (Nat.le_of_ble_eq_true rfl) (isK.mo f1 hm4) rfl rfl (Nat.le_of_ble_eq_true rfl) (ctX9_needEnd l1 _) (fun r7 m8 hl9 hm10 => ?_)
  exact s_vretX hF hD dX4_parse_15 rfl
theorem ctX11_distance  (l0 : Int32) (l1 : Int32) (μ : Mem) : ∀ (r : Int32) (μ' : Mem), LX11_distance l0 l1 μ = some (r, μ') → CtX yX11_distance cX11_distance 2 (some .int) 1 [.int l0, .int l1] μ (encI r) μ' := by
  refine ct_enterX plX11 (Nat.le_of_ble_eq_true rfl) (fun F hF hD hI => ?_)
  unfold LX11_distance
  refine s_ldc2 (v := (2147483647 : Int64)) hF dX11_distance_0 cwX11_389 ?_
  refine s_iload_n hF dX11_distance_3 rfl 0 rfl ?_
  refine s_i2l hF dX11_distance_4 ?_
  refine s_iload_n hF dX11_distance_5 rfl 1 rfl ?_
  refine s_i2l hF dX11_distance_6 ?_
  refine s_lsub hF dX11_distance_7 ?_
  refine s_absL hF dX11_distance_8 mlX11_391 mt_sabsL mt_i mt_cabsL (Nat.le_of_ble_eq_true rfl) (Nat.le_of_ble_eq_true rfl) ?_
  refine s_minL hF dX11_distance_11 mlX11_395 mt_sminL mt_i mt_cminL (Nat.le_of_ble_eq_true rfl) (Nat.le_of_ble_eq_true rfl) ?_
  refine s_l2i hF dX11_distance_14 ?_
  exact s_iretX hF hD dX11_distance_15 rfl
theorem ctX4_together  (l0 : Int32) (l1 : Int32) (l2 : Int32) (μ : Mem) : ∀ (r : Int32) (μ' : Mem), LX4_together l0 l1 l2 μ = some (r, μ') → CtX yX4_together cX4_together 3 (some .int) 1 [.int l0, .int l1, .int l2] μ (encI r) μ' := by
  refine ct_enterX plX4 (Nat.le_of_ble_eq_true rfl) (fun F hF hD hI => ?_)
  unfold LX4_together
  refine s_iload_n hF dX4_together_0 rfl 0 rfl ?_
  refine sim_if (fun c1 => ?_) (fun c1 => ?_)
  · refine s_tin (v := (8 : Int32)) (tgt := 44) hF dX4_together_1 c1 (by decide) (by decide) rfl rfl ?_
    refine s_iload_n hF dX4_together_44 rfl 1 rfl ?_
    refine s_iload_n hF dX4_together_45 rfl 2 rfl ?_
    refine s_min hF dX4_together_46 mlX4_127 mt_smin mt_i mt_cmin (Nat.le_of_ble_eq_true rfl) (Nat.le_of_ble_eq_true rfl) ?_
    exact s_iretX hF hD dX4_together_49 rfl
  · refine sim_if (fun c2 => ?_) (fun c2 => ?_)
    · refine s_tin (v := (9 : Int32)) (tgt := 50) hF dX4_together_1 c2 (by decide) (by decide) rfl rfl ?_
      refine s_iload_n hF dX4_together_50 rfl 1 rfl ?_
      refine s_iload_n hF dX4_together_51 rfl 2 rfl ?_
      refine s_max hF dX4_together_52 mlX4_132 mt_smax mt_i mt_cmax (Nat.le_of_ble_eq_true rfl) (Nat.le_of_ble_eq_true rfl) ?_
      exact s_iretX hF hD dX4_together_55 rfl
    · refine sim_if (fun c3 => ?_) (fun c3 => ?_)
      · refine s_tin (v := (10 : Int32)) (tgt := 56) hF dX4_together_1 c3 (by decide) (by decide) rfl rfl ?_
        refine s_iload_n hF dX4_together_56 rfl 1 rfl ?_
        refine s_iload_n hF dX4_together_57 rfl 2 rfl ?_
        refine s_iadd hF dX4_together_58 ?_
        exact s_iretX hF hD dX4_together_59 rfl
      · refine sim_if (fun c4 => ?_) (fun c4 => ?_)
        · refine s_tin (v := (11 : Int32)) (tgt := 60) hF dX4_together_1 c4 (by decide) (by decide) rfl rfl ?_
          refine s_iload_n hF dX4_together_60 rfl 1 rfl ?_
          refine s_iload_n hF dX4_together_61 rfl 2 rfl ?_
          refine s_isub hF dX4_together_62 ?_
          exact s_iretX hF hD dX4_together_63 rfl
        · refine sim_if (fun c5 => ?_) (fun c5 => ?_)
          · refine s_tin (v := (12 : Int32)) (tgt := 64) hF dX4_together_1 c5 (by decide) (by decide) rfl rfl ?_
            refine s_iload_n hF dX4_together_64 rfl 1 rfl ?_
            refine s_iload_n hF dX4_together_65 rfl 2 rfl ?_
            refine s_imul hF dX4_together_66 ?_
            exact s_iretX hF hD dX4_together_67 rfl
          · refine sim_if (fun c6 => ?_) (fun c6 => ?_)
            · refine s_tin (v := (13 : Int32)) (tgt := 68) hF dX4_together_1 c6 (by decide) (by decide) rfl rfl ?_
              refine s_iload_n hF dX4_together_68 rfl 2 rfl ?_
              refine s_if_ne (tgt := 76) hF dX4_together_69 rfl (fun c7 => ?_) (fun c7 => ?_)
              · refine s_iconst (v := (0 : Int32)) hF dX4_together_72 kI_0 ?_
                refine s_goto (tgt := 79) hF dX4_together_73 rfl ?_
                exact s_iretX hF hD dX4_together_79 rfl
              · refine s_iload_n hF dX4_together_76 rfl 1 rfl ?_
                refine s_iload_n hF dX4_together_77 rfl 2 rfl ?_
                refine sim_gd (fun g8 => ?_)
                refine s_idiv hF dX4_together_78 g8 ?_
                exact s_iretX hF hD dX4_together_79 rfl
            · refine sim_if (fun c9 => ?_) (fun c9 => ?_)
              · refine s_tin (v := (14 : Int32)) (tgt := 80) hF dX4_together_1 c9 (by decide) (by decide) rfl rfl ?_
                refine s_iload_n hF dX4_together_80 rfl 2 rfl ?_
                refine s_if_ne (tgt := 88) hF dX4_together_81 rfl (fun c10 => ?_) (fun c10 => ?_)
                · refine s_iconst (v := (0 : Int32)) hF dX4_together_84 kI_0 ?_
                  refine s_goto (tgt := 91) hF dX4_together_85 rfl ?_
                  exact s_iretX hF hD dX4_together_91 rfl
                · refine s_iload_n hF dX4_together_88 rfl 1 rfl ?_
                  refine s_iload_n hF dX4_together_89 rfl 2 rfl ?_
                  refine sim_gd (fun g11 => ?_)
                  refine s_irem hF dX4_together_90 g11 ?_
                  exact s_iretX hF hD dX4_together_91 rfl
              · refine s_tout (tgt := 92) hF dX4_together_1 (by have e0 := i32_ne c1 (k := (8 : Int32)) (n := 8) rfl; have e1 := i32_ne c2 (k := (9 : Int32)) (n := 9) rfl; have e2 := i32_ne c3 (k := (10 : Int32)) (n := 10) rfl; have e3 := i32_ne c4 (k := (11 : Int32)) (n := 11) rfl; have e4 := i32_ne c5 (k := (12 : Int32)) (n := 12) rfl; have e5 := i32_ne c6 (k := (13 : Int32)) (n := 13) rfl; have e6 := i32_ne c9 (k := (14 : Int32)) (n := 14) rfl; omega) rfl ?_
                refine s_iconst (v := (0 : Int32)) hF dX4_together_92 kI_0 ?_
                exact s_iretX hF hD dX4_together_93 rfl
theorem sX4_levelOfGiven_35 {F : Option Fx} (q4 : Nat → Int32 → Int32 → Mem → Option (Int32 × Mem)) (hF : FxO F RX4 cX4_levelOfGiven 4 2) (hD : FxXO F (some .int)) (hq4 : ∀ (l0 : Nat) (l1 : Int32) (l2 : Int32) (μ : Mem) (_ : isK μ l0 4 = true), Sim F encI 4 [(0, .ref l0), (1, .int l1), (2, .int l2)] [] μ (q4 l0 l1 l2 μ)) (l0 : Nat) (l1 : Int32) (l2 : Int32) (l3 : Int32) (μ : Mem) (f0 : isK μ l0 4 = true) : Sim F encI 35 [(0, .ref l0), (1, .int l1), (2, .int l2), (3, .int l3)] [] μ (mX4_levelOfGiven_35 q4 l0 l1 l2 l3 μ) := by
  unfold mX4_levelOfGiven_35
  refine s_iload_n hF dX4_levelOfGiven_35 rfl 1 rfl ?_
  refine s_sipush (v := (150 : Int32)) hF dX4_levelOfGiven_36 kS_150 ?_
  refine s_icmp_ge (tgt := 109) hF dX4_levelOfGiven_39 rfl (fun c20 => ?_) (fun c20 => ?_)
  · refine s_iinc (v := (l2 + (1 : Int32))) (pls' := [(2, .int (l2 + (1 : Int32))), (0, .ref l0), (1, .int l1), (3, .int l3)]) hF dX4_levelOfGiven_109 2 rfl rfl (by decide) rfl ?_
    refine s_goto (tgt := 4) hF dX4_levelOfGiven_112 rfl ?_
    refine s_sub [1, 2, 0] rfl ?_
    exact hq4 l0 l1 (l2 + (1 : Int32)) _ f0
  · refine s_aload_n hF dX4_levelOfGiven_42 rfl 0 rfl ?_
    refine sim_gd (fun g21 => ?_)
    refine s_getR (x := (g_R μ l0 4)) hF dX4_levelOfGiven_43 flX4_21 f0 g21 rfl ?_
    refine s_iload_n hF dX4_levelOfGiven_46 rfl 1 rfl ?_
    refine s_iload_n hF dX4_levelOfGiven_47 rfl 3 rfl ?_
    refine s_bipush (v := (15 : Int32)) hF dX4_levelOfGiven_48 kB_15 ?_
    refine s_icmp_ne (tgt := 62) hF dX4_levelOfGiven_50 rfl (fun c22 => ?_) (fun c22 => ?_)
    · refine s_aload_n hF dX4_levelOfGiven_53 rfl 0 rfl ?_
      refine sim_gd (fun g23 => ?_)
      refine s_getR (x := (g_R μ l0 2)) hF dX4_levelOfGiven_54 flX4_18 f0 g23 rfl ?_
      refine s_iload_n hF dX4_levelOfGiven_57 rfl 2 rfl ?_
      refine sim_gd (fun g24 => ?_)
      refine s_iaload (x := (g_I μ (g_R μ l0 2) l2.toNatClampNeg)) hF dX4_levelOfGiven_58 g24 rfl ?_
      refine s_goto (tgt := 68) hF dX4_levelOfGiven_59 rfl ?_
      refine sim_gd (fun g25 => ?_)
      refine s_iastore hF dX4_levelOfGiven_68 g25 ?_
      refine s_iinc (v := (l1 + (1 : Int32))) (pls' := [(1, .int (l1 + (1 : Int32))), (0, .ref l0), (2, .int l2), (3, .int l3)]) hF dX4_levelOfGiven_69 1 rfl rfl (by decide) rfl ?_
      refine s_goto (tgt := 109) hF dX4_levelOfGiven_72 rfl ?_
      refine s_iinc (v := (l2 + (1 : Int32))) (pls' := [(2, .int (l2 + (1 : Int32))), (1, .int (l1 + (1 : Int32))), (0, .ref l0), (3, .int l3)]) hF dX4_levelOfGiven_109 2 rfl rfl (by decide) rfl ?_
      refine s_goto (tgt := 4) hF dX4_levelOfGiven_112 rfl ?_
      refine s_sub [2, 1, 0] rfl ?_
      exact hq4 l0 (l1 + (1 : Int32)) (l2 + (1 : Int32)) _ f0
    · refine s_aload_n hF dX4_levelOfGiven_62 rfl 0 rfl ?_
      refine sim_gd (fun g26 => ?_)
      refine s_getR (x := (g_R μ l0 0)) hF dX4_levelOfGiven_63 flX4_11 f0 g26 rfl ?_
      refine s_iload_n hF dX4_levelOfGiven_66 rfl 3 rfl ?_
      refine sim_gd (fun g27 => ?_)
      refine s_iaload (x := (g_I μ (g_R μ l0 0) l3.toNatClampNeg)) hF dX4_levelOfGiven_67 g27 rfl ?_
      refine sim_gd (fun g28 => ?_)
      refine s_iastore hF dX4_levelOfGiven_68 g28 ?_
      refine s_iinc (v := (l1 + (1 : Int32))) (pls' := [(1, .int (l1 + (1 : Int32))), (0, .ref l0), (2, .int l2), (3, .int l3)]) hF dX4_levelOfGiven_69 1 rfl rfl (by decide) rfl ?_
      refine s_goto (tgt := 109) hF dX4_levelOfGiven_72 rfl ?_
      refine s_iinc (v := (l2 + (1 : Int32))) (pls' := [(2, .int (l2 + (1 : Int32))), (1, .int (l1 + (1 : Int32))), (0, .ref l0), (3, .int l3)]) hF dX4_levelOfGiven_109 2 rfl rfl (by decide) rfl ?_
      refine s_goto (tgt := 4) hF dX4_levelOfGiven_112 rfl ?_
      refine s_sub [2, 1, 0] rfl ?_
      exact hq4 l0 (l1 + (1 : Int32)) (l2 + (1 : Int32)) _ f0
theorem sX4_levelOfGiven_75 {F : Option Fx} (q4 : Nat → Int32 → Int32 → Mem → Option (Int32 × Mem)) (hF : FxO F RX4 cX4_levelOfGiven 4 2) (hD : FxXO F (some .int)) (hq4 : ∀ (l0 : Nat) (l1 : Int32) (l2 : Int32) (μ : Mem) (_ : isK μ l0 4 = true), Sim F encI 4 [(0, .ref l0), (1, .int l1), (2, .int l2)] [] μ (q4 l0 l1 l2 μ)) (l0 : Nat) (l1 : Int32) (l2 : Int32) (l3 : Int32) (μ : Mem) (f0 : isK μ l0 4 = true) : Sim F encI 75 [(0, .ref l0), (1, .int l1), (2, .int l2), (3, .int l3)] [] μ (mX4_levelOfGiven_75 q4 l0 l1 l2 l3 μ) := by
  unfold mX4_levelOfGiven_75
  refine s_iload_n hF dX4_levelOfGiven_75 rfl 1 rfl ?_
  refine s_iconst (v := (2 : Int32)) hF dX4_levelOfGiven_76 kI_2 ?_
  refine s_icmp_lt (tgt := 109) hF dX4_levelOfGiven_77 rfl (fun c9 => ?_) (fun c9 => ?_)
  · refine s_iinc (v := (l2 + (1 : Int32))) (pls' := [(2, .int (l2 + (1 : Int32))), (0, .ref l0), (1, .int l1), (3, .int l3)]) hF dX4_levelOfGiven_109 2 rfl rfl (by decide) rfl ?_
    refine s_goto (tgt := 4) hF dX4_levelOfGiven_112 rfl ?_
    refine s_sub [1, 2, 0] rfl ?_
    exact hq4 l0 l1 (l2 + (1 : Int32)) _ f0
  · refine s_iinc (v := (l1 + (-1 : Int32))) (pls' := [(1, .int (l1 + (-1 : Int32))), (0, .ref l0), (2, .int l2), (3, .int l3)]) hF dX4_levelOfGiven_80 1 rfl rfl (by decide) rfl ?_
    refine s_aload_n hF dX4_levelOfGiven_83 rfl 1 rfl ?_
    refine sim_gd (fun g10 => ?_)
    refine s_getR (x := (g_R μ l0 4)) hF dX4_levelOfGiven_84 flX4_21 f0 g10 rfl ?_
    refine s_iload_n hF dX4_levelOfGiven_87 rfl 0 rfl ?_
    refine s_iconst (v := (1 : Int32)) hF dX4_levelOfGiven_88 kI_1 ?_
    refine s_isub hF dX4_levelOfGiven_89 ?_
    refine s_iload_n hF dX4_levelOfGiven_90 rfl 3 rfl ?_
    refine s_aload_n hF dX4_levelOfGiven_91 rfl 1 rfl ?_
    refine s_getR (x := (g_R μ l0 4)) hF dX4_levelOfGiven_92 flX4_21 f0 g10 rfl ?_
    refine s_iload_n hF dX4_levelOfGiven_95 rfl 0 rfl ?_
    refine s_iconst (v := (1 : Int32)) hF dX4_levelOfGiven_96 kI_1 ?_
    refine s_isub hF dX4_levelOfGiven_97 ?_
    refine sim_gd (fun g11 => ?_)
    refine s_iaload (x := (g_I μ (g_R μ l0 4) ((l1 + (-1 : Int32)) - (1 : Int32)).toNatClampNeg)) hF dX4_levelOfGiven_98 g11 rfl ?_
    refine s_aload_n hF dX4_levelOfGiven_99 rfl 1 rfl ?_
    refine s_getR (x := (g_R μ l0 4)) hF dX4_levelOfGiven_100 flX4_21 f0 g10 rfl ?_
    refine s_iload_n hF dX4_levelOfGiven_103 rfl 0 rfl ?_
    refine sim_gd (fun g12 => ?_)
    refine s_iaload (x := (g_I μ (g_R μ l0 4) (l1 + (-1 : Int32)).toNatClampNeg)) hF dX4_levelOfGiven_104 g12 rfl ?_
    refine s_xSi (st := [.int ((l1 + (-1 : Int32)) - (1 : Int32)), .ref (g_R μ l0 4)]) [.int l3, .int (g_I μ (g_R μ l0 4) ((l1 + (-1 : Int32)) - (1 : Int32)).toNatClampNeg), .int (g_I μ (g_R μ l0 4) (l1 + (-1 : Int32)).toNatClampNeg)] hF hD dX4_levelOfGiven_105 cwX4_123 (Nat.le_of_ble_eq_true rfl) (Nat.le_of_ble_eq_true rfl) rfl rfl (Nat.le_of_ble_eq_true rfl) (ctX4_together l3 (g_I μ (g_R μ l0 4) ((l1 + (-1 : Int32)) - (1 : Int32)).toNatClampNeg) (g_I μ (g_R μ l0 4) (l1 + (-1 : Int32)).toNatClampNeg) _) (fun r13 m14 hl15 hm16 => ?_)
    refine sim_gd (fun g19 => ?_)
    refine s_iastore hF dX4_levelOfGiven_108 g19 ?_
    refine s_iinc (v := (l2 + (1 : Int32))) (pls' := [(2, .int (l2 + (1 : Int32))), (1, .int (l1 + (-1 : Int32))), (0, .ref l0), (3, .int l3)]) hF dX4_levelOfGiven_109 2 rfl rfl (by decide) rfl ?_
    refine s_goto (tgt := 4) hF dX4_levelOfGiven_112 rfl ?_
    refine s_sub [2, 1, 0] rfl ?_
    exact hq4 l0 (l1 + (-1 : Int32)) (l2 + (1 : Int32)) _ (isK.mo f0 hm16)
theorem sX4_levelOfGiven_4 {F : Option Fx} (hF : FxO F RX4 cX4_levelOfGiven 4 2) (hD : FxXO F (some .int)) : ∀ (fu : Nat) (l0 : Nat) (l1 : Int32) (l2 : Int32) (μ : Mem) (f0 : isK μ l0 4 = true), Sim F encI 4 [(0, .ref l0), (1, .int l1), (2, .int l2)] [] μ (mX4_levelOfGiven_4 fu l0 l1 l2 μ) := by
  intro fu
  induction fu with
  | zero =>
    intro l0 l1 l2 μ f0
    exact sim_none
  | succ fu ih =>
    intro l0 l1 l2 μ f0
    rw [mX4_levelOfGiven_4]
    refine s_iload_n hF dX4_levelOfGiven_4 rfl 2 rfl ?_
    refine s_aload_n hF dX4_levelOfGiven_5 rfl 0 rfl ?_
    refine s_getI (x := (g_I μ l0 3)) hF dX4_levelOfGiven_6 flX4_24 f0 rfl ?_
    refine s_icmp_ge (tgt := 115) hF dX4_levelOfGiven_9 rfl (fun c1 => ?_) (fun c1 => ?_)
    · refine s_iconst (v := (0 : Int32)) hF dX4_levelOfGiven_115 kI_0 ?_
      refine s_bipush (v := (99 : Int32)) hF dX4_levelOfGiven_116 kB_99 ?_
      refine s_aload_n hF dX4_levelOfGiven_118 rfl 0 rfl ?_
      refine sim_gd (fun g2 => ?_)
      refine s_getR (x := (g_R μ l0 4)) hF dX4_levelOfGiven_119 flX4_21 f0 g2 rfl ?_
      refine s_iconst (v := (0 : Int32)) hF dX4_levelOfGiven_122 kI_0 ?_
      refine sim_gd (fun g3 => ?_)
      refine s_iaload (x := (g_I μ (g_R μ l0 4) (0 : Int32).toNatClampNeg)) hF dX4_levelOfGiven_123 g3 rfl ?_
      refine s_min hF dX4_levelOfGiven_124 mlX4_127 mt_smin mt_i mt_cmin (Nat.le_of_ble_eq_true rfl) (Nat.le_of_ble_eq_true rfl) ?_
      refine s_max hF dX4_levelOfGiven_127 mlX4_132 mt_smax mt_i mt_cmax (Nat.le_of_ble_eq_true rfl) (Nat.le_of_ble_eq_true rfl) ?_
      exact s_iretX hF hD dX4_levelOfGiven_130 rfl
    · refine s_aload_n hF dX4_levelOfGiven_12 rfl 0 rfl ?_
      refine sim_gd (fun g4 => ?_)
      refine s_getR (x := (g_R μ l0 1)) hF dX4_levelOfGiven_13 flX4_15 f0 g4 rfl ?_
      refine s_iload_n hF dX4_levelOfGiven_16 rfl 2 rfl ?_
      refine sim_gd (fun g5 => ?_)
      refine s_iaload (x := (g_I μ (g_R μ l0 1) l2.toNatClampNeg)) hF dX4_levelOfGiven_17 g5 rfl ?_
      refine s_istore_n (pls' := [(3, .int (g_I μ (g_R μ l0 1) l2.toNatClampNeg)), (0, .ref l0), (1, .int l1), (2, .int l2)]) hF dX4_levelOfGiven_18 rfl (by decide) rfl ?_
      refine s_iload_n hF dX4_levelOfGiven_19 rfl 0 rfl ?_
      refine s_bipush (v := (15 : Int32)) hF dX4_levelOfGiven_20 kB_15 ?_
      refine s_icmp_eq (tgt := 35) hF dX4_levelOfGiven_22 rfl (fun c6 => ?_) (fun c6 => ?_)
      · refine s_sub [1, 2, 3, 0] rfl ?_
        exact sX4_levelOfGiven_35 (fun l0 l1 l2 μ => mX4_levelOfGiven_4 fu l0 l1 l2 μ) hF hD ih l0 l1 l2 (g_I μ (g_R μ l0 1) l2.toNatClampNeg) _ f0
      · refine s_iload_n hF dX4_levelOfGiven_25 rfl 0 rfl ?_
        refine s_if_lt (tgt := 75) hF dX4_levelOfGiven_26 rfl (fun c7 => ?_) (fun c7 => ?_)
        · refine s_sub [1, 2, 3, 0] rfl ?_
          exact sX4_levelOfGiven_75 (fun l0 l1 l2 μ => mX4_levelOfGiven_4 fu l0 l1 l2 μ) hF hD ih l0 l1 l2 (g_I μ (g_R μ l0 1) l2.toNatClampNeg) _ f0
        · refine s_iload_n hF dX4_levelOfGiven_29 rfl 0 rfl ?_
          refine s_bipush (v := (8 : Int32)) hF dX4_levelOfGiven_30 kB_8 ?_
          refine s_icmp_ge (tgt := 75) hF dX4_levelOfGiven_32 rfl (fun c8 => ?_) (fun c8 => ?_)
          · refine s_sub [1, 2, 3, 0] rfl ?_
            exact sX4_levelOfGiven_75 (fun l0 l1 l2 μ => mX4_levelOfGiven_4 fu l0 l1 l2 μ) hF hD ih l0 l1 l2 (g_I μ (g_R μ l0 1) l2.toNatClampNeg) _ f0
          · refine s_sub [1, 2, 3, 0] rfl ?_
            exact sX4_levelOfGiven_35 (fun l0 l1 l2 μ => mX4_levelOfGiven_4 fu l0 l1 l2 μ) hF hD ih l0 l1 l2 (g_I μ (g_R μ l0 1) l2.toNatClampNeg) _ f0
theorem ctX4_levelOfGiven  (l0 : Nat) (μ : Mem) : ∀ (r : Int32) (μ' : Mem), LX4_levelOfGiven l0 μ = some (r, μ') → CtX yX4_levelOfGiven cX4_levelOfGiven 4 (some .int) 2 [.ref l0] μ (encI r) μ' := by
  refine ct_enterX plX4 (Nat.le_of_ble_eq_true rfl) (fun F hF hD hI => ?_)
  unfold LX4_levelOfGiven
  refine sim_gd (fun f0 => ?_)
  refine s_iconst (v := (0 : Int32)) hF dX4_levelOfGiven_0 kI_0 ?_
  refine s_istore_n (pls' := [(1, .int (0 : Int32)), (0, .ref l0)]) hF dX4_levelOfGiven_1 rfl (by decide) rfl ?_
  refine s_iconst (v := (0 : Int32)) hF dX4_levelOfGiven_2 kI_0 ?_
  refine s_istore_n (pls' := [(2, .int (0 : Int32)), (1, .int (0 : Int32)), (0, .ref l0)]) hF dX4_levelOfGiven_3 rfl (by decide) rfl ?_
  refine s_sub [2, 1, 0] rfl ?_
  exact sX4_levelOfGiven_4 hF hD 100000 l0 (0 : Int32) (0 : Int32) _ f0
theorem ctX5_jams  (l0 : Nat) (μ : Mem) : ∀ (r : Int32) (μ' : Mem), LX5_jams l0 μ = some (r, μ') → CtX yX5_jams cX5_jams 1 (some .boolean) 0 [.ref l0] μ (encI r) μ' := by
  refine ct_enterX plX5 (Nat.le_of_ble_eq_true rfl) (fun F hF hD hI => ?_)
  unfold LX5_jams
  refine sim_gd (fun f0 => ?_)
  refine s_aload_n hF dX5_jams_0 rfl 0 rfl ?_
  refine s_getI (x := (g_I μ l0 2)) hF dX5_jams_1 flX5_33 f0 rfl ?_
  refine s_if_ne (tgt := 19) hF dX5_jams_4 rfl (fun c1 => ?_) (fun c1 => ?_)
  · refine s_aload_n hF dX5_jams_7 rfl 0 rfl ?_
    refine s_getI (x := (g_I μ l0 0)) hF dX5_jams_8 flX5_27 f0 rfl ?_
    refine s_iconst (v := (4 : Int32)) hF dX5_jams_11 kI_4 ?_
    refine s_icmp_gt (tgt := 19) hF dX5_jams_12 rfl (fun c2 => ?_) (fun c2 => ?_)
    · refine s_iconst (v := (0 : Int32)) hF dX5_jams_19 kI_0 ?_
      exact s_zretX hF hD dX5_jams_20 rfl rfl
    · refine s_iconst (v := (1 : Int32)) hF dX5_jams_15 kI_1 ?_
      refine s_goto (tgt := 20) hF dX5_jams_16 rfl ?_
      exact s_zretX hF hD dX5_jams_20 rfl rfl
  · refine s_iconst (v := (0 : Int32)) hF dX5_jams_19 kI_0 ?_
    exact s_zretX hF hD dX5_jams_20 rfl rfl
theorem ctX5_isReal  (l0 : Nat) (μ : Mem) : ∀ (r : Int32) (μ' : Mem), LX5_isReal l0 μ = some (r, μ') → CtX yX5_isReal cX5_isReal 1 (some .boolean) 0 [.ref l0] μ (encI r) μ' := by
  refine ct_enterX plX5 (Nat.le_of_ble_eq_true rfl) (fun F hF hD hI => ?_)
  unfold LX5_isReal
  refine sim_gd (fun f0 => ?_)
  refine s_aload_n hF dX5_isReal_0 rfl 0 rfl ?_
  refine s_getI (x := (g_I μ l0 0)) hF dX5_isReal_1 flX5_27 f0 rfl ?_
  refine s_iconst (v := (5 : Int32)) hF dX5_isReal_4 kI_5 ?_
  refine s_icmp_eq (tgt := 17) hF dX5_isReal_5 rfl (fun c1 => ?_) (fun c1 => ?_)
  · refine s_iconst (v := (1 : Int32)) hF dX5_isReal_17 kI_1 ?_
    refine s_goto (tgt := 22) hF dX5_isReal_18 rfl ?_
    exact s_zretX hF hD dX5_isReal_22 rfl rfl
  · refine s_aload_n hF dX5_isReal_8 rfl 0 rfl ?_
    refine s_getI (x := (g_I μ l0 0)) hF dX5_isReal_9 flX5_27 f0 rfl ?_
    refine s_bipush (v := (6 : Int32)) hF dX5_isReal_12 kB_6 ?_
    refine s_icmp_ne (tgt := 21) hF dX5_isReal_14 rfl (fun c2 => ?_) (fun c2 => ?_)
    · refine s_iconst (v := (1 : Int32)) hF dX5_isReal_17 kI_1 ?_
      refine s_goto (tgt := 22) hF dX5_isReal_18 rfl ?_
      exact s_zretX hF hD dX5_isReal_22 rfl rfl
    · refine s_iconst (v := (0 : Int32)) hF dX5_isReal_21 kI_0 ?_
      exact s_zretX hF hD dX5_isReal_22 rfl rfl
theorem ctX5_markTaken  (l0 : Nat) (l1 : Int32) (μ : Mem) : ∀ (r : Int32) (μ' : Mem), LX5_markTaken l0 l1 μ = some (r, μ') → CtX yX5_markTaken cX5_markTaken 2 (some .int) 0 [.ref l0, .int l1] μ (encI r) μ' := by
  refine ct_enterX plX5 (Nat.le_of_ble_eq_true rfl) (fun F hF hD hI => ?_)
  unfold LX5_markTaken
  refine sim_gd (fun f0 => ?_)
  refine s_aload_n hF dX5_markTaken_0 rfl 0 rfl ?_
  refine s_getI (x := (g_I μ l0 2)) hF dX5_markTaken_1 flX5_33 f0 rfl ?_
  refine s_if_eq (tgt := 9) hF dX5_markTaken_4 rfl (fun c1 => ?_) (fun c1 => ?_)
  · refine s_iload_n hF dX5_markTaken_9 rfl 1 rfl ?_
    refine s_if_eq (tgt := 20) hF dX5_markTaken_10 rfl (fun c2 => ?_) (fun c2 => ?_)
    · refine s_iconst (v := (2 : Int32)) hF dX5_markTaken_20 kI_2 ?_
      exact s_iretX hF hD dX5_markTaken_21 rfl
    · refine s_aload_n hF dX5_markTaken_13 rfl 0 rfl ?_
      refine s_getI (x := (g_I μ l0 1)) hF dX5_markTaken_14 flX5_30 f0 rfl ?_
      refine s_if_ne (tgt := 22) hF dX5_markTaken_17 rfl (fun c3 => ?_) (fun c3 => ?_)
      · refine s_iconst (v := (2 : Int32)) hF dX5_markTaken_20 kI_2 ?_
        exact s_iretX hF hD dX5_markTaken_21 rfl
      · refine s_iload_n hF dX5_markTaken_22 rfl 1 rfl ?_
        refine s_if_le (tgt := 30) hF dX5_markTaken_23 rfl (fun c4 => ?_) (fun c4 => ?_)
        · refine s_iconst (v := (-1 : Int32)) hF dX5_markTaken_30 kI_m1 ?_
          exact s_iretX hF hD dX5_markTaken_31 rfl
        · refine s_iconst (v := (1 : Int32)) hF dX5_markTaken_26 kI_1 ?_
          refine s_goto (tgt := 31) hF dX5_markTaken_27 rfl ?_
          exact s_iretX hF hD dX5_markTaken_31 rfl
  · refine s_iconst (v := (0 : Int32)) hF dX5_markTaken_7 kI_0 ?_
    exact s_iretX hF hD dX5_markTaken_8 rfl
theorem ctX5_readOf  (l0 : Int32) (l1 : UInt64) (μ : Mem) : ∀ (r : Int32) (μ' : Mem), LX5_readOf l0 l1 μ = some (r, μ') → CtX yX5_readOf cX5_readOf 3 (some .int) 0 [.int l0, .double l1] μ (encI r) μ' := by
  refine ct_enterX plX5 (Nat.le_of_ble_eq_true rfl) (fun F hF hD hI => ?_)
  unfold LX5_readOf
  refine s_iload_n hF dX5_readOf_0 rfl 0 rfl ?_
  refine sim_if (fun c1 => ?_) (fun c1 => ?_)
  · refine s_tin (v := (-1 : Int32)) (tgt := 34) hF dX5_readOf_1 c1 (by decide) (by decide) rfl rfl ?_
    refine s_ldc (v := (-2147483648 : Int32)) hF dX5_readOf_34 cwX5_100 ?_
    exact s_iretX hF hD dX5_readOf_36 rfl
  · refine sim_if (fun c2 => ?_) (fun c2 => ?_)
    · refine s_tin (v := (0 : Int32)) (tgt := 28) hF dX5_readOf_1 c2 (by decide) (by decide) rfl rfl ?_
      refine s_dload_n hF dX5_readOf_28 rfl 1 rfl ?_
      refine s_d2iA hF dX5_readOf_29 (al64 _) ?_
      exact s_iretX hF hD dX5_readOf_30 rfl
    · refine sim_if (fun c3 => ?_) (fun c3 => ?_)
      · refine s_tin (v := (1 : Int32)) (tgt := 31) hF dX5_readOf_1 c3 (by decide) (by decide) rfl rfl ?_
        refine s_ldc (v := (2147483647 : Int32)) hF dX5_readOf_31 cwX5_99 ?_
        exact s_iretX hF hD dX5_readOf_33 rfl
      · refine s_tout (tgt := 37) hF dX5_readOf_1 (by have e0 := i32_ne c1 (k := (-1 : Int32)) (n := -1) rfl; have e1 := i32_ne c2 (k := (0 : Int32)) (n := 0) rfl; have e2 := i32_ne c3 (k := (1 : Int32)) (n := 1) rfl; omega) rfl ?_
        refine s_iconst (v := (0 : Int32)) hF dX5_readOf_37 kI_0 ?_
        exact s_iretX hF hD dX5_readOf_38 rfl
theorem ctX5_realTaken  (l0 : Nat) (l1 : Int32) (μ : Mem) : ∀ (r : UInt64) (μ' : Mem), LX5_realTaken l0 l1 μ = some (r, μ') → CtX yX5_realTaken cX5_realTaken 2 (some .double) 0 [.ref l0, .int l1] μ (encD r) μ' := by
  refine ct_enterX plX5 (Nat.le_of_ble_eq_true rfl) (fun F hF hD hI => ?_)
  unfold LX5_realTaken
  refine sim_gd (fun f0 => ?_)
  refine s_aload_n hF dX5_realTaken_0 rfl 0 rfl ?_
  refine s_getI (x := (g_I μ l0 2)) hF dX5_realTaken_1 flX5_33 f0 rfl ?_
  refine s_if_ne (tgt := 9) hF dX5_realTaken_4 rfl (fun c1 => ?_) (fun c1 => ?_)
  · refine s_dconst0 hF dX5_realTaken_7 ?_
    exact s_dretX hF hD dX5_realTaken_8 rfl
  · refine s_aload_n hF dX5_realTaken_9 rfl 0 rfl ?_
    refine s_getI (x := (g_I μ l0 0)) hF dX5_realTaken_10 flX5_27 f0 rfl ?_
    refine s_iconst (v := (5 : Int32)) hF dX5_realTaken_13 kI_5 ?_
    refine s_icmp_ne (tgt := 33) hF dX5_realTaken_14 rfl (fun c2 => ?_) (fun c2 => ?_)
    · refine s_iload_n hF dX5_realTaken_17 rfl 1 rfl ?_
      refine s_i2f hF dX5_realTaken_18 ?_
      refine s_aload_n hF dX5_realTaken_19 rfl 0 rfl ?_
      refine s_getI (x := (g_I μ l0 1)) hF dX5_realTaken_20 flX5_30 f0 rfl ?_
      refine s_i2f hF dX5_realTaken_23 ?_
      refine sim_gd (fun g3 => ?_)
      refine s_fmulX hF dX5_realTaken_24 (nn32_ok g3) ?_
      refine s_aload_n hF dX5_realTaken_25 rfl 0 rfl ?_
      refine s_getI (x := (g_I μ l0 2)) hF dX5_realTaken_26 flX5_33 f0 rfl ?_
      refine s_i2f hF dX5_realTaken_29 ?_
      refine sim_gd (fun g4 => ?_)
      refine s_fdivX hF dX5_realTaken_30 (nn32_ok g4) ?_
      refine sim_gd (fun g5 => ?_)
      refine s_f2dX hF dX5_realTaken_31 (nn64_ok g5) ?_
      exact s_dretX hF hD dX5_realTaken_32 rfl
    · refine s_iload_n hF dX5_realTaken_33 rfl 1 rfl ?_
      refine s_i2d hF dX5_realTaken_34 ?_
      refine s_aload_n hF dX5_realTaken_35 rfl 0 rfl ?_
      refine s_getI (x := (g_I μ l0 1)) hF dX5_realTaken_36 flX5_30 f0 rfl ?_
      refine s_i2d hF dX5_realTaken_39 ?_
      refine sim_gd (fun g6 => ?_)
      refine s_dmulX hF dX5_realTaken_40 (nn64_ok g6) ?_
      refine s_aload_n hF dX5_realTaken_41 rfl 0 rfl ?_
      refine s_getI (x := (g_I μ l0 2)) hF dX5_realTaken_42 flX5_33 f0 rfl ?_
      refine s_i2d hF dX5_realTaken_45 ?_
      refine sim_gd (fun g7 => ?_)
      refine s_ddivX hF dX5_realTaken_46 (nn64_ok g7) ?_
      exact s_dretX hF hD dX5_realTaken_47 rfl
theorem ctX5_wholeTaken  (l0 : Nat) (l1 : Int32) (μ : Mem) : ∀ (r : Int64) (μ' : Mem), LX5_wholeTaken l0 l1 μ = some (r, μ') → CtX yX5_wholeTaken cX5_wholeTaken 2 (some .long) 0 [.ref l0, .int l1] μ (encL r) μ' := by
  refine ct_enterX plX5 (Nat.le_of_ble_eq_true rfl) (fun F hF hD hI => ?_)
  unfold LX5_wholeTaken
  refine sim_gd (fun f0 => ?_)
  refine s_aload_n hF dX5_wholeTaken_0 rfl 0 rfl ?_
  refine s_getI (x := (g_I μ l0 0)) hF dX5_wholeTaken_1 flX5_27 f0 rfl ?_
  refine s_bipush (v := (7 : Int32)) hF dX5_wholeTaken_4 kB_7 ?_
  refine s_icmp_ne (tgt := 24) hF dX5_wholeTaken_6 rfl (fun c1 => ?_) (fun c1 => ?_)
  · refine s_iload_n hF dX5_wholeTaken_9 rfl 1 rfl ?_
    refine s_aload_n hF dX5_wholeTaken_10 rfl 0 rfl ?_
    refine s_getI (x := (g_I μ l0 1)) hF dX5_wholeTaken_11 flX5_30 f0 rfl ?_
    refine s_imul hF dX5_wholeTaken_14 ?_
    refine s_aload_n hF dX5_wholeTaken_15 rfl 0 rfl ?_
    refine s_getI (x := (g_I μ l0 2)) hF dX5_wholeTaken_16 flX5_33 f0 rfl ?_
    refine s_iadd hF dX5_wholeTaken_19 ?_
    refine s_iconst (v := (1 : Int32)) hF dX5_wholeTaken_20 kI_1 ?_
    refine s_iand hF dX5_wholeTaken_21 ?_
    refine s_i2l hF dX5_wholeTaken_22 ?_
    exact s_lretX hF hD dX5_wholeTaken_23 rfl
  · refine s_aload_n hF dX5_wholeTaken_24 rfl 0 rfl ?_
    refine s_getI (x := (g_I μ l0 2)) hF dX5_wholeTaken_25 flX5_33 f0 rfl ?_
    refine s_if_ne (tgt := 33) hF dX5_wholeTaken_28 rfl (fun c2 => ?_) (fun c2 => ?_)
    · refine s_lconst (v := (0 : Int64)) hF dX5_wholeTaken_31 kL_0 ?_
      exact s_lretX hF hD dX5_wholeTaken_32 rfl
    · refine s_aload_n hF dX5_wholeTaken_33 rfl 0 rfl ?_
      refine s_getI (x := (g_I μ l0 0)) hF dX5_wholeTaken_34 flX5_27 f0 rfl ?_
      refine sim_if (fun c3 => ?_) (fun c3 => ?_)
      · refine s_tin (v := (0 : Int32)) (tgt := 68) hF dX5_wholeTaken_37 c3 (by decide) (by decide) rfl rfl ?_
        refine s_iload_n hF dX5_wholeTaken_68 rfl 1 rfl ?_
        refine s_aload_n hF dX5_wholeTaken_69 rfl 0 rfl ?_
        refine s_getI (x := (g_I μ l0 1)) hF dX5_wholeTaken_70 flX5_30 f0 rfl ?_
        refine s_imul hF dX5_wholeTaken_73 ?_
        refine s_aload_n hF dX5_wholeTaken_74 rfl 0 rfl ?_
        refine s_getI (x := (g_I μ l0 2)) hF dX5_wholeTaken_75 flX5_33 f0 rfl ?_
        refine sim_gd (fun g4 => ?_)
        refine s_idiv hF dX5_wholeTaken_78 g4 ?_
        refine s_i2b hF dX5_wholeTaken_79 ?_
        refine s_i2l hF dX5_wholeTaken_80 ?_
        exact s_lretX hF hD dX5_wholeTaken_81 rfl
      · refine sim_if (fun c5 => ?_) (fun c5 => ?_)
        · refine s_tin (v := (1 : Int32)) (tgt := 82) hF dX5_wholeTaken_37 c5 (by decide) (by decide) rfl rfl ?_
          refine s_iload_n hF dX5_wholeTaken_82 rfl 1 rfl ?_
          refine s_aload_n hF dX5_wholeTaken_83 rfl 0 rfl ?_
          refine s_getI (x := (g_I μ l0 1)) hF dX5_wholeTaken_84 flX5_30 f0 rfl ?_
          refine s_imul hF dX5_wholeTaken_87 ?_
          refine s_aload_n hF dX5_wholeTaken_88 rfl 0 rfl ?_
          refine s_getI (x := (g_I μ l0 2)) hF dX5_wholeTaken_89 flX5_33 f0 rfl ?_
          refine sim_gd (fun g6 => ?_)
          refine s_idiv hF dX5_wholeTaken_92 g6 ?_
          refine s_i2s hF dX5_wholeTaken_93 ?_
          refine s_i2l hF dX5_wholeTaken_94 ?_
          exact s_lretX hF hD dX5_wholeTaken_95 rfl
        · refine sim_if (fun c7 => ?_) (fun c7 => ?_)
          · refine s_tin (v := (2 : Int32)) (tgt := 96) hF dX5_wholeTaken_37 c7 (by decide) (by decide) rfl rfl ?_
            refine s_iload_n hF dX5_wholeTaken_96 rfl 1 rfl ?_
            refine s_aload_n hF dX5_wholeTaken_97 rfl 0 rfl ?_
            refine s_getI (x := (g_I μ l0 1)) hF dX5_wholeTaken_98 flX5_30 f0 rfl ?_
            refine s_imul hF dX5_wholeTaken_101 ?_
            refine s_aload_n hF dX5_wholeTaken_102 rfl 0 rfl ?_
            refine s_getI (x := (g_I μ l0 2)) hF dX5_wholeTaken_103 flX5_33 f0 rfl ?_
            refine sim_gd (fun g8 => ?_)
            refine s_idiv hF dX5_wholeTaken_106 g8 ?_
            refine s_i2c hF dX5_wholeTaken_107 ?_
            refine s_i2l hF dX5_wholeTaken_108 ?_
            exact s_lretX hF hD dX5_wholeTaken_109 rfl
          · refine sim_if (fun c9 => ?_) (fun c9 => ?_)
            · refine s_tin (v := (3 : Int32)) (tgt := 110) hF dX5_wholeTaken_37 c9 (by decide) (by decide) rfl rfl ?_
              refine s_iload_n hF dX5_wholeTaken_110 rfl 1 rfl ?_
              refine s_aload_n hF dX5_wholeTaken_111 rfl 0 rfl ?_
              refine s_getI (x := (g_I μ l0 1)) hF dX5_wholeTaken_112 flX5_30 f0 rfl ?_
              refine s_imul hF dX5_wholeTaken_115 ?_
              refine s_aload_n hF dX5_wholeTaken_116 rfl 0 rfl ?_
              refine s_getI (x := (g_I μ l0 2)) hF dX5_wholeTaken_117 flX5_33 f0 rfl ?_
              refine sim_gd (fun g10 => ?_)
              refine s_idiv hF dX5_wholeTaken_120 g10 ?_
              refine s_i2l hF dX5_wholeTaken_121 ?_
              exact s_lretX hF hD dX5_wholeTaken_122 rfl
            · refine s_tout (tgt := 123) hF dX5_wholeTaken_37 (by have e0 := i32_ne c3 (k := (0 : Int32)) (n := 0) rfl; have e1 := i32_ne c5 (k := (1 : Int32)) (n := 1) rfl; have e2 := i32_ne c7 (k := (2 : Int32)) (n := 2) rfl; have e3 := i32_ne c9 (k := (3 : Int32)) (n := 3) rfl; omega) rfl ?_
              refine s_iload_n hF dX5_wholeTaken_123 rfl 1 rfl ?_
              refine s_i2l hF dX5_wholeTaken_124 ?_
              refine s_aload_n hF dX5_wholeTaken_125 rfl 0 rfl ?_
              refine s_getI (x := (g_I μ l0 1)) hF dX5_wholeTaken_126 flX5_30 f0 rfl ?_
              refine s_i2l hF dX5_wholeTaken_129 ?_
              refine s_lmul hF dX5_wholeTaken_130 ?_
              refine s_aload_n hF dX5_wholeTaken_131 rfl 0 rfl ?_
              refine s_getI (x := (g_I μ l0 2)) hF dX5_wholeTaken_132 flX5_33 f0 rfl ?_
              refine s_i2l hF dX5_wholeTaken_135 ?_
              refine sim_gd (fun g11 => ?_)
              refine s_ldiv hF dX5_wholeTaken_136 g11 ?_
              exact s_lretX hF hD dX5_wholeTaken_137 rfl
