theorem ctX11_span  (l0 : Nat) (l1 : Int32) (l2 : Int32) (l3 : Int32) (l4 : Int32) (l5 : Int32) (l6 : Int32) (μ : Mem) : ∀ (r : (Nat ⊕ Int32)) (μ' : Mem), LX11_span l0 l1 l2 l3 l4 l5 l6 μ = some (r, μ') → CtX yX11_span cX11_span 11 (some .int) 10 [.ref l0, .int l1, .int l2, .int l3, .int l4, .int l5, .int l6] μ ((encX encI) r) μ' := by
  refine ct_enterX plX11 (Nat.le_of_ble_eq_true rfl) (fun F hF hD hI => ?_)
  unfold LX11_span
  refine sim_gd (fun f0 => ?_)
  refine s_aload_n hF dX11_span_0 rfl 0 rfl ?_
  refine s_iload_n hF dX11_span_1 rfl 2 rfl ?_
  refine s_iconst (v := (1 : Int32)) hF dX11_span_2 kI_1 ?_
  refine s_bipush (v := (20 : Int32)) hF dX11_span_3 kB_20 ?_
  refine s_tVv (st := []) (ci := 11) [.int l2, .int (1 : Int32), .int (20 : Int32)] hF hD dX11_span_5 cwX11_189 (Nat.le_of_ble_eq_true rfl) (Nat.le_of_ble_eq_true rfl) rfl rfl (Nat.le_of_ble_eq_true rfl) f0 rfl rfl (Nat.le_of_ble_eq_true rfl) (ctX11_needWithin l0 l2 (1 : Int32) (20 : Int32) _) (fun r1 m2 hl3 hm4 => ?_)
  refine s_aload_n hF dX11_span_8 rfl 0 rfl ?_
  refine s_iload_n hF dX11_span_9 rfl 3 rfl ?_
  refine s_iconst (v := (1 : Int32)) hF dX11_span_10 kI_1 ?_
  refine s_bipush (v := (96 : Int32)) hF dX11_span_11 kB_96 ?_
  refine s_tVv (st := []) (ci := 11) [.int l3, .int (1 : Int32), .int (96 : Int32)] hF hD dX11_span_13 cwX11_189 (Nat.le_of_ble_eq_true rfl) (Nat.le_of_ble_eq_true rfl) rfl rfl (Nat.le_of_ble_eq_true rfl) (isK.mo f0 hm4) rfl rfl (Nat.le_of_ble_eq_true rfl) (ctX11_needWithin l0 l3 (1 : Int32) (96 : Int32) _) (fun r7 m8 hl9 hm10 => ?_)
  refine s_aload_n hF dX11_span_16 rfl 0 rfl ?_
  refine s_iload hF dX11_span_17 4 rfl ?_
  refine s_iconst (v := (0 : Int32)) hF dX11_span_19 kI_0 ?_
  refine s_bipush (v := (16 : Int32)) hF dX11_span_20 kB_16 ?_
  refine s_tVv (st := []) (ci := 11) [.int l4, .int (0 : Int32), .int (16 : Int32)] hF hD dX11_span_22 cwX11_189 (Nat.le_of_ble_eq_true rfl) (Nat.le_of_ble_eq_true rfl) rfl rfl (Nat.le_of_ble_eq_true rfl) (isK.mo (isK.mo f0 hm4) hm10) rfl rfl (Nat.le_of_ble_eq_true rfl) (ctX11_needWithin l0 l4 (0 : Int32) (16 : Int32) _) (fun r13 m14 hl15 hm16 => ?_)
  refine s_aload_n hF dX11_span_25 rfl 0 rfl ?_
  refine s_iload hF dX11_span_26 5 rfl ?_
  refine s_iconst (v := (0 : Int32)) hF dX11_span_28 kI_0 ?_
  refine s_iconst (v := (2 : Int32)) hF dX11_span_29 kI_2 ?_
  refine s_tVv (st := []) (ci := 11) [.int l5, .int (0 : Int32), .int (2 : Int32)] hF hD dX11_span_30 cwX11_189 (Nat.le_of_ble_eq_true rfl) (Nat.le_of_ble_eq_true rfl) rfl rfl (Nat.le_of_ble_eq_true rfl) (isK.mo (isK.mo (isK.mo f0 hm4) hm10) hm16) rfl rfl (Nat.le_of_ble_eq_true rfl) (ctX11_needWithin l0 l5 (0 : Int32) (2 : Int32) _) (fun r19 m20 hl21 hm22 => ?_)
  refine s_aload_n hF dX11_span_33 rfl 0 rfl ?_
  refine s_iload hF dX11_span_34 6 rfl ?_
  refine s_iconst (v := (0 : Int32)) hF dX11_span_36 kI_0 ?_
  refine s_aload_n hF dX11_span_37 rfl 0 rfl ?_
  refine sim_gd (fun g25 => ?_)
  refine s_getR (x := (g_R m20 l0 9)) hF dX11_span_38 flX11_68 (isK.mo (isK.mo (isK.mo (isK.mo f0 hm4) hm10) hm16) hm22) g25 rfl ?_
  refine sim_gd (fun g26 => ?_)
  refine s_getIq (x := (g_I m20 (g_R m20 l0 9) 0)) hF dX11_span_41 fqX11_144 g26 rfl ?_
  refine s_iconst (v := (1 : Int32)) hF dX11_span_44 kI_1 ?_
  refine s_isub hF dX11_span_45 ?_
  refine s_tVv (st := []) (ci := 11) [.int l6, .int (0 : Int32), .int ((g_I m20 (g_R m20 l0 9) 0) - (1 : Int32))] hF hD dX11_span_46 cwX11_189 (Nat.le_of_ble_eq_true rfl) (Nat.le_of_ble_eq_true rfl) rfl rfl (Nat.le_of_ble_eq_true rfl) (isK.mo (isK.mo (isK.mo (isK.mo f0 hm4) hm10) hm16) hm22) rfl rfl (Nat.le_of_ble_eq_true rfl) (ctX11_needWithin l0 l6 (0 : Int32) ((g_I m20 (g_R m20 l0 9) 0) - (1 : Int32)) _) (fun r27 m28 hl29 hm30 => ?_)
  refine s_ldcw (v := (2147483647 : Int32)) hF dX11_span_49 cwX11_269 ?_
  refine s_istore (pls' := [(7, .int (2147483647 : Int32)), (0, .ref l0), (1, .int l1), (2, .int l2), (3, .int l3), (4, .int l4), (5, .int l5), (6, .int l6)]) hF dX11_span_52 (by decide) rfl ?_
  refine s_iconst (v := (0 : Int32)) hF dX11_span_54 kI_0 ?_
  refine s_istore (pls' := [(8, .int (0 : Int32)), (7, .int (2147483647 : Int32)), (0, .ref l0), (1, .int l1), (2, .int l2), (3, .int l3), (4, .int l4), (5, .int l5), (6, .int l6)]) hF dX11_span_55 (by decide) rfl ?_
  refine s_iconst (v := (0 : Int32)) hF dX11_span_57 kI_0 ?_
  refine s_istore (pls' := [(9, .int (0 : Int32)), (8, .int (0 : Int32)), (7, .int (2147483647 : Int32)), (0, .ref l0), (1, .int l1), (2, .int l2), (3, .int l3), (4, .int l4), (5, .int l5), (6, .int l6)]) hF dX11_span_58 (by decide) rfl ?_
  refine s_iconst (v := (0 : Int32)) hF dX11_span_60 kI_0 ?_
  refine s_istore (pls' := [(10, .int (0 : Int32)), (9, .int (0 : Int32)), (8, .int (0 : Int32)), (7, .int (2147483647 : Int32)), (0, .ref l0), (1, .int l1), (2, .int l2), (3, .int l3), (4, .int l4), (5, .int l5), (6, .int l6)]) hF dX11_span_61 (by decide) rfl ?_
  refine s_sub [4, 5, 6, 7, 8, 9, 10, 3, 2, 1, 0] rfl ?_
  exact sX11_span_63 hF hD 100000 l0 l1 l2 l3 l4 l5 l6 (2147483647 : Int32) (0 : Int32) (0 : Int32) (0 : Int32) _ (isK.mo (isK.mo (isK.mo (isK.mo (isK.mo f0 hm4) hm10) hm16) hm22) hm30)
theorem ctX11_image  (l0 : Nat) (μ : Mem) : ∀ (r : Int32) (μ' : Mem), LX11_image l0 μ = some (r, μ') → CtX yX11_image cX11_image 1 (some .int) 5 [.ref l0] μ (encI r) μ' := by
  refine ct_enterX plX11 (Nat.le_of_ble_eq_true rfl) (fun F hF hD hI => ?_)
  unfold LX11_image
  refine sim_gd (fun f0 => ?_)
  refine s_aload_n hF dX11_image_0 rfl 0 rfl ?_
  refine sim_gd (fun g1 => ?_)
  refine s_getR (x := (g_R μ l0 2)) hF dX11_image_1 flX11_26 f0 g1 rfl ?_
  refine sim_gd (fun g2 => ?_)
  refine s_getIq (x := (g_I μ (g_R μ l0 2) 5)) hF dX11_image_4 fqX11_359 g2 rfl ?_
  refine s_iconst (v := (3 : Int32)) hF dX11_image_7 kI_3 ?_
  refine s_icmp_lt (tgt := 13) hF dX11_image_8 rfl (fun c3 => ?_) (fun c3 => ?_)
  · refine s_aload_n hF dX11_image_13 rfl 0 rfl ?_
    refine s_getR (x := (g_R μ l0 2)) hF dX11_image_14 flX11_26 f0 g1 rfl ?_
    refine s_aload_n hF dX11_image_17 rfl 0 rfl ?_
    refine sim_gd (fun g4 => ?_)
    refine s_getR (x := (g_R μ l0 3)) hF dX11_image_18 flX11_33 f0 g4 rfl ?_
    refine s_xVv (st := []) (ci := 2) [.ref (g_R μ l0 3)] hF hD dX11_image_21 cwX11_362 (Nat.le_of_ble_eq_true rfl) (Nat.le_of_ble_eq_true rfl) rfl rfl (Nat.le_of_ble_eq_true rfl) g2 rfl rfl (Nat.le_of_ble_eq_true rfl) (ctX2_takeImage (g_R μ l0 2) (g_R μ l0 3) _) (fun r5 m6 hl7 hm8 => ?_)
    refine s_aload_n hF dX11_image_24 rfl 0 rfl ?_
    refine sim_gd (fun g11 => ?_)
    refine s_getR (x := (g_R m6 l0 2)) hF dX11_image_25 flX11_26 (isK.mo f0 hm8) g11 rfl ?_
    refine sim_gd (fun g12 => ?_)
    refine s_getIq (x := (g_I m6 (g_R m6 l0 2) 5)) hF dX11_image_28 fqX11_359 g12 rfl ?_
    exact s_iretX hF hD dX11_image_31 rfl
  · refine s_iconst (v := (-1 : Int32)) hF dX11_image_11 kI_m1 ?_
    exact s_iretX hF hD dX11_image_12 rfl
theorem ctX11_restore  (l0 : Nat) (μ : Mem) : ∀ (r : Int32) (μ' : Mem), LX11_restore l0 μ = some (r, μ') → CtX yX11_restore cX11_restore 1 (some .int) 5 [.ref l0] μ (encI r) μ' := by
  refine ct_enterX plX11 (Nat.le_of_ble_eq_true rfl) (fun F hF hD hI => ?_)
  unfold LX11_restore
  refine sim_gd (fun f0 => ?_)
  refine s_aload_n hF dX11_restore_0 rfl 0 rfl ?_
  refine sim_gd (fun g1 => ?_)
  refine s_getR (x := (g_R μ l0 2)) hF dX11_restore_1 flX11_26 f0 g1 rfl ?_
  refine sim_gd (fun g2 => ?_)
  refine s_getIq (x := (g_I μ (g_R μ l0 2) 5)) hF dX11_restore_4 fqX11_359 g2 rfl ?_
  refine s_if_ne (tgt := 12) hF dX11_restore_7 rfl (fun c3 => ?_) (fun c3 => ?_)
  · refine s_iconst (v := (-1 : Int32)) hF dX11_restore_10 kI_m1 ?_
    exact s_iretX hF hD dX11_restore_11 rfl
  · refine s_aload_n hF dX11_restore_12 rfl 0 rfl ?_
    refine s_getR (x := (g_R μ l0 2)) hF dX11_restore_13 flX11_26 f0 g1 rfl ?_
    refine s_aload_n hF dX11_restore_16 rfl 0 rfl ?_
    refine sim_gd (fun g4 => ?_)
    refine s_getR (x := (g_R μ l0 3)) hF dX11_restore_17 flX11_33 f0 g4 rfl ?_
    refine s_xVv (st := []) (ci := 2) [.ref (g_R μ l0 3)] hF hD dX11_restore_20 cwX11_365 (Nat.le_of_ble_eq_true rfl) (Nat.le_of_ble_eq_true rfl) rfl rfl (Nat.le_of_ble_eq_true rfl) g2 rfl rfl (Nat.le_of_ble_eq_true rfl) (ctX2_giveBack (g_R μ l0 2) (g_R μ l0 3) _) (fun r5 m6 hl7 hm8 => ?_)
    refine s_aload_n hF dX11_restore_23 rfl 0 rfl ?_
    refine s_iconst (v := (0 : Int32)) hF dX11_restore_24 kI_0 ?_
    refine s_putI hF dX11_restore_25 flX11_141 (isK.mo f0 hm8) ?_
    refine s_aload_n hF dX11_restore_28 rfl 0 rfl ?_
    refine sim_gd (fun g11 => ?_)
    refine s_getR (x := (g_R m6 l0 2)) hF dX11_restore_29 flX11_26 (isK.mo f0 hm8) g11 rfl ?_
    refine sim_gd (fun g12 => ?_)
    refine s_getIq (x := (g_I (p_I m6 l0 17 (0 : Int32)) (g_R m6 l0 2) 5)) hF dX11_restore_32 fqX11_359 g12 rfl ?_
    exact s_iretX hF hD dX11_restore_35 rfl
theorem ctX11_status  (l0 : Nat) (l1 : Int32) (μ : Mem) : ∀ (r : Int32) (μ' : Mem), LX11_status l0 l1 μ = some (r, μ') → CtX yX11_status cX11_status 2 (some .int) 0 [.ref l0, .int l1] μ (encI r) μ' := by
  refine ct_enterX plX11 (Nat.le_of_ble_eq_true rfl) (fun F hF hD hI => ?_)
  unfold LX11_status
  refine sim_gd (fun f0 => ?_)
  refine s_iload_n hF dX11_status_0 rfl 1 rfl ?_
  refine s_if_lt (tgt := 18) hF dX11_status_1 rfl (fun c1 => ?_) (fun c1 => ?_)
  · refine s_iconst (v := (-1 : Int32)) hF dX11_status_18 kI_m1 ?_
    exact s_iretX hF hD dX11_status_19 rfl
  · refine s_iload_n hF dX11_status_4 rfl 1 rfl ?_
    refine s_iconst (v := (5 : Int32)) hF dX11_status_5 kI_5 ?_
    refine s_icmp_ge (tgt := 18) hF dX11_status_6 rfl (fun c2 => ?_) (fun c2 => ?_)
    · refine s_iconst (v := (-1 : Int32)) hF dX11_status_18 kI_m1 ?_
      exact s_iretX hF hD dX11_status_19 rfl
    · refine s_aload_n hF dX11_status_9 rfl 0 rfl ?_
      refine sim_gd (fun g3 => ?_)
      refine s_getR (x := (g_R μ l0 8)) hF dX11_status_10 flX11_62 f0 g3 rfl ?_
      refine s_iload_n hF dX11_status_13 rfl 1 rfl ?_
      refine sim_gd (fun g4 => ?_)
      refine s_iaload (x := (g_I μ (g_R μ l0 8) l1.toNatClampNeg)) hF dX11_status_14 g4 rfl ?_
      refine s_goto (tgt := 19) hF dX11_status_15 rfl ?_
      exact s_iretX hF hD dX11_status_19 rfl
theorem ctX11_count  (l0 : Nat) (l1 : Int32) (μ : Mem) : ∀ (r : Int32) (μ' : Mem), LX11_count l0 l1 μ = some (r, μ') → CtX yX11_count cX11_count 2 (some .int) 0 [.ref l0, .int l1] μ (encI r) μ' := by
  refine ct_enterX plX11 (Nat.le_of_ble_eq_true rfl) (fun F hF hD hI => ?_)
  unfold LX11_count
  refine sim_gd (fun f0 => ?_)
  refine s_iload_n hF dX11_count_0 rfl 1 rfl ?_
  refine sim_if (fun c1 => ?_) (fun c1 => ?_)
  · refine s_tin (v := (0 : Int32)) (tgt := 28) hF dX11_count_1 c1 (by decide) (by decide) rfl rfl ?_
    refine s_aload_n hF dX11_count_28 rfl 0 rfl ?_
    refine sim_gd (fun g2 => ?_)
    refine s_getR (x := (g_R μ l0 2)) hF dX11_count_29 flX11_26 f0 g2 rfl ?_
    refine sim_gd (fun g3 => ?_)
    refine s_getIq (x := (g_I μ (g_R μ l0 2) 5)) hF dX11_count_32 fqX11_359 g3 rfl ?_
    exact s_iretX hF hD dX11_count_35 rfl
  · refine sim_if (fun c4 => ?_) (fun c4 => ?_)
    · refine s_tin (v := (1 : Int32)) (tgt := 36) hF dX11_count_1 c4 (by decide) (by decide) rfl rfl ?_
      refine s_aload_n hF dX11_count_36 rfl 0 rfl ?_
      refine sim_gd (fun g5 => ?_)
      refine s_getR (x := (g_R μ l0 0)) hF dX11_count_37 flX11_10 f0 g5 rfl ?_
      refine sim_gd (fun g6 => ?_)
      refine s_getIq (x := (g_I μ (g_R μ l0 0) 1)) hF dX11_count_40 fqX11_105 g6 rfl ?_
      exact s_iretX hF hD dX11_count_43 rfl
    · refine sim_if (fun c7 => ?_) (fun c7 => ?_)
      · refine s_tin (v := (2 : Int32)) (tgt := 44) hF dX11_count_1 c7 (by decide) (by decide) rfl rfl ?_
        refine s_aload_n hF dX11_count_44 rfl 0 rfl ?_
        refine sim_gd (fun g8 => ?_)
        refine s_getR (x := (g_R μ l0 2)) hF dX11_count_45 flX11_26 f0 g8 rfl ?_
        refine sim_gd (fun g9 => ?_)
        refine s_getIq (x := (g_I μ (g_R μ l0 2) 4)) hF dX11_count_48 fqX11_148 g9 rfl ?_
        exact s_iretX hF hD dX11_count_51 rfl
      · refine s_tout (tgt := 52) hF dX11_count_1 (by have e0 := i32_ne c1 (k := (0 : Int32)) (n := 0) rfl; have e1 := i32_ne c4 (k := (1 : Int32)) (n := 1) rfl; have e2 := i32_ne c7 (k := (2 : Int32)) (n := 2) rfl; omega) rfl ?_
        refine s_iconst (v := (-1 : Int32)) hF dX11_count_52 kI_m1 ?_
        exact s_iretX hF hD dX11_count_53 rfl
