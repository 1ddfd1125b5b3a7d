theorem ctX5_outOf  (l0 : Nat) (l1 : Int32) (μ : Mem) : ∀ (r : Int32) (μ' : Mem), LX5_outOf l0 l1 μ = some (r, μ') → CtX yX5_outOf cX5_outOf 2 (some .int) 1 [.ref l0, .int l1] μ (encI r) μ' := by
  refine ct_enterX plX5 (Nat.le_of_ble_eq_true rfl) (fun F hF hD hI => ?_)
  unfold LX5_outOf
  refine sim_gd (fun f0 => ?_)
  refine s_aload_n hF dX5_outOf_0 rfl 0 rfl ?_
  refine s_xVi (st := []) (ci := 5) [] hF hD dX5_outOf_1 cwX5_64 (Nat.le_of_ble_eq_true rfl) (Nat.le_of_ble_eq_true rfl) rfl rfl (Nat.le_of_ble_eq_true rfl) f0 rfl rfl (Nat.le_of_ble_eq_true rfl) (ctX5_isReal l0 _) (fun r1 m2 hl3 hm4 => ?_)
  refine s_if_eq (tgt := 23) hF dX5_outOf_4 rfl (fun c7 => ?_) (fun c7 => ?_)
  · refine s_aload_n hF dX5_outOf_23 rfl 0 rfl ?_
    refine s_iload_n hF dX5_outOf_24 rfl 1 rfl ?_
    refine s_xVl (st := []) (ci := 5) [.int l1] hF hD dX5_outOf_25 cwX5_75 (Nat.le_of_ble_eq_true rfl) (Nat.le_of_ble_eq_true rfl) rfl rfl (Nat.le_of_ble_eq_true rfl) (isK.mo f0 hm4) rfl rfl (Nat.le_of_ble_eq_true rfl) (ctX5_wholeTaken l0 l1 _) (fun r8 m9 hl10 hm11 => ?_)
    refine s_l2i hF dX5_outOf_28 ?_
    exact s_iretX hF hD dX5_outOf_29 rfl
  · refine s_aload_n hF dX5_outOf_7 rfl 0 rfl ?_
    refine s_iload_n hF dX5_outOf_8 rfl 1 rfl ?_
    refine s_xVi (st := []) (ci := 5) [.int l1] hF hD dX5_outOf_9 cwX5_71 (Nat.le_of_ble_eq_true rfl) (Nat.le_of_ble_eq_true rfl) rfl rfl (Nat.le_of_ble_eq_true rfl) (isK.mo f0 hm4) rfl rfl (Nat.le_of_ble_eq_true rfl) (ctX5_markTaken l0 l1 _) (fun r14 m15 hl16 hm17 => ?_)
    refine s_aload_n hF dX5_outOf_12 rfl 0 rfl ?_
    refine s_iload_n hF dX5_outOf_13 rfl 1 rfl ?_
    refine s_xVd (st := [.int r14]) (ci := 5) [.int l1] hF hD dX5_outOf_14 cwX5_67 (Nat.le_of_ble_eq_true rfl) (Nat.le_of_ble_eq_true rfl) rfl rfl (Nat.le_of_ble_eq_true rfl) (isK.mo (isK.mo f0 hm4) hm17) rfl rfl (Nat.le_of_ble_eq_true rfl) (ctX5_realTaken l0 l1 _) (fun r20 m21 y24 hl22 hm23 ha25 => ?_)
    refine sim_gd (fun g26 => ?_)
    have e9 := (al64_nn ha25 (nn64_ok g26)).symm
    subst e9
    refine s_xSi (st := []) [.int r14, .double r20] hF hD dX5_outOf_17 cwX5_88 (Nat.le_of_ble_eq_true rfl) (Nat.le_of_ble_eq_true rfl) rfl rfl (Nat.le_of_ble_eq_true rfl) (ctX5_readOf r14 r20 _) (fun r27 m28 hl29 hm30 => ?_)
    refine s_goto (tgt := 29) hF dX5_outOf_20 rfl ?_
    exact s_iretX hF hD dX5_outOf_29 rfl
theorem sX4_levelBy_66 {F : Option Fx} (hF : FxO F RX4 cX4_levelBy 6 3) (hD : FxXO F (some .int)) (l0 : Nat) (l1 : Nat) (l2 : Int32) (l4 : Nat) (k0 : Int32) (k1 : Int32) (k2 : Nat) (μ : Mem) (f0 : isK μ l0 4 = true) (f1 : isK μ l1 8 = true) (f4 : isK μ l4 5 = true) : Sim F encI 66 [(0, .ref l0), (1, .ref l1), (2, .int l2), (4, .ref l4)] [.int k0, .int k1, .ref k2] μ (mX4_levelBy_66 l0 l1 l2 l4 k0 k1 k2 μ) := by
  unfold mX4_levelBy_66
  refine sim_gd (fun g34 => ?_)
  refine s_iastore hF dX4_levelBy_66 g34 ?_
  refine s_aload_n hF dX4_levelBy_67 rfl 0 rfl ?_
  refine sim_gd (fun g35 => ?_)
  refine s_getR (x := (g_R μ l0 0)) hF dX4_levelBy_68 flX4_11 f0 g35 rfl ?_
  refine s_iconst (v := (3 : Int32)) hF dX4_levelBy_71 kI_3 ?_
  refine s_aload hF dX4_levelBy_72 3 rfl ?_
  refine s_getIq (x := (g_I (p_I μ k2 k1.toNatClampNeg k0) l4 4)) hF dX4_levelBy_74 fqX4_107 f4 rfl ?_
  refine sim_gd (fun g36 => ?_)
  refine s_iastore hF dX4_levelBy_77 g36 ?_
  refine s_aload_n hF dX4_levelBy_78 rfl 0 rfl ?_
  refine s_getR (x := (g_R μ l0 0)) hF dX4_levelBy_79 flX4_11 f0 g35 rfl ?_
  refine s_iconst (v := (4 : Int32)) hF dX4_levelBy_82 kI_4 ?_
  refine s_aload_n hF dX4_levelBy_83 rfl 1 rfl ?_
  refine s_getIq (x := (g_I (p_I (p_I μ k2 k1.toNatClampNeg k0) (g_R μ l0 0) (3 : Int32).toNatClampNeg (g_I (p_I μ k2 k1.toNatClampNeg k0) l4 4)) l1 2)) hF dX4_levelBy_84 fqX4_110 f1 rfl ?_
  refine sim_gd (fun g37 => ?_)
  refine s_iastore hF dX4_levelBy_87 g37 ?_
  refine s_aload_n hF dX4_levelBy_88 rfl 0 rfl ?_
  refine s_getR (x := (g_R μ l0 0)) hF dX4_levelBy_89 flX4_11 f0 g35 rfl ?_
  refine s_iconst (v := (5 : Int32)) hF dX4_levelBy_92 kI_5 ?_
  refine s_iload_n hF dX4_levelBy_93 rfl 2 rfl ?_
  refine sim_gd (fun g38 => ?_)
  refine s_iastore hF dX4_levelBy_94 g38 ?_
  refine s_aload_n hF dX4_levelBy_95 rfl 0 rfl ?_
  refine s_getR (x := (g_R μ l0 0)) hF dX4_levelBy_96 flX4_11 f0 g35 rfl ?_
  refine s_bipush (v := (6 : Int32)) hF dX4_levelBy_99 kB_6 ?_
  refine s_aload hF dX4_levelBy_101 3 rfl ?_
  refine s_getIq (x := (g_I (p_I (p_I (p_I (p_I μ k2 k1.toNatClampNeg k0) (g_R μ l0 0) (3 : Int32).toNatClampNeg (g_I (p_I μ k2 k1.toNatClampNeg k0) l4 4)) (g_R μ l0 0) (4 : Int32).toNatClampNeg (g_I (p_I (p_I μ k2 k1.toNatClampNeg k0) (g_R μ l0 0) (3 : Int32).toNatClampNeg (g_I (p_I μ k2 k1.toNatClampNeg k0) l4 4)) l1 2)) (g_R μ l0 0) (5 : Int32).toNatClampNeg l2) l4 1)) hF dX4_levelBy_103 fqX4_113 f4 rfl ?_
  refine sim_gd (fun g39 => ?_)
  refine s_iastore hF dX4_levelBy_106 g39 ?_
  refine s_aload_n hF dX4_levelBy_107 rfl 0 rfl ?_
  refine s_getR (x := (g_R μ l0 0)) hF dX4_levelBy_108 flX4_11 f0 g35 rfl ?_
  refine s_bipush (v := (7 : Int32)) hF dX4_levelBy_111 kB_7 ?_
  refine s_aload hF dX4_levelBy_113 3 rfl ?_
  refine s_getIq (x := (g_I (p_I (p_I (p_I (p_I (p_I μ k2 k1.toNatClampNeg k0) (g_R μ l0 0) (3 : Int32).toNatClampNeg (g_I (p_I μ k2 k1.toNatClampNeg k0) l4 4)) (g_R μ l0 0) (4 : Int32).toNatClampNeg (g_I (p_I (p_I μ k2 k1.toNatClampNeg k0) (g_R μ l0 0) (3 : Int32).toNatClampNeg (g_I (p_I μ k2 k1.toNatClampNeg k0) l4 4)) l1 2)) (g_R μ l0 0) (5 : Int32).toNatClampNeg l2) (g_R μ l0 0) (6 : Int32).toNatClampNeg (g_I (p_I (p_I (p_I (p_I μ k2 k1.toNatClampNeg k0) (g_R μ l0 0) (3 : Int32).toNatClampNeg (g_I (p_I μ k2 k1.toNatClampNeg k0) l4 4)) (g_R μ l0 0) (4 : Int32).toNatClampNeg (g_I (p_I (p_I μ k2 k1.toNatClampNeg k0) (g_R μ l0 0) (3 : Int32).toNatClampNeg (g_I (p_I μ k2 k1.toNatClampNeg k0) l4 4)) l1 2)) (g_R μ l0 0) (5 : Int32).toNatClampNeg l2) l4 1)) l4 2)) hF dX4_levelBy_115 fqX4_116 f4 rfl ?_
  refine sim_gd (fun g40 => ?_)
  refine s_iastore hF dX4_levelBy_118 g40 ?_
  refine s_aload_n hF dX4_levelBy_119 rfl 0 rfl ?_
  refine s_xVi (st := []) (ci := 4) [] hF hD dX4_levelBy_120 cwX4_119 (Nat.le_of_ble_eq_true rfl) (Nat.le_of_ble_eq_true rfl) rfl rfl (Nat.le_of_ble_eq_true rfl) f0 rfl rfl (Nat.le_of_ble_eq_true rfl) (ctX4_levelOfGiven l0 _) (fun r41 m42 hl43 hm44 => ?_)
  exact s_iretX hF hD dX4_levelBy_123 rfl
theorem sX4_levelBy_26 {F : Option Fx} (hF : FxO F RX4 cX4_levelBy 6 3) (hD : FxXO F (some .int)) (l0 : Nat) (l1 : Nat) (l2 : Int32) (l3 : Int32) (l4 : Nat) (k0 : Int32) (μ : Mem) (f0 : isK μ l0 4 = true) (f1 : isK μ l1 8 = true) (f4 : isK μ l4 5 = true) : Sim F encI 26 [(0, .ref l0), (1, .ref l1), (2, .int l2), (3, .int l3), (4, .ref l4)] [.int k0] μ (mX4_levelBy_26 l0 l1 l2 l3 l4 k0 μ) := by
  unfold mX4_levelBy_26
  refine s_istore (pls' := [(5, .int k0), (0, .ref l0), (1, .ref l1), (2, .int l2), (3, .int l3), (4, .ref l4)]) hF dX4_levelBy_26 (by decide) rfl ?_
  refine s_aload_n hF dX4_levelBy_28 rfl 1 rfl ?_
  refine sim_gd (fun g18 => ?_)
  refine s_getR (x := (g_R μ l0 0)) hF dX4_levelBy_29 flX4_11 f0 g18 rfl ?_
  refine s_iconst (v := (0 : Int32)) hF dX4_levelBy_32 kI_0 ?_
  refine s_iload_n hF dX4_levelBy_33 rfl 4 rfl ?_
  refine sim_gd (fun g19 => ?_)
  refine s_iastore hF dX4_levelBy_34 g19 ?_
  refine s_aload_n hF dX4_levelBy_35 rfl 1 rfl ?_
  refine s_getR (x := (g_R μ l0 0)) hF dX4_levelBy_36 flX4_11 f0 g18 rfl ?_
  refine s_iconst (v := (1 : Int32)) hF dX4_levelBy_39 kI_1 ?_
  refine s_iload hF dX4_levelBy_40 0 rfl ?_
  refine sim_gd (fun g20 => ?_)
  refine s_iastore hF dX4_levelBy_42 g20 ?_
  refine s_aload_n hF dX4_levelBy_43 rfl 1 rfl ?_
  refine s_getR (x := (g_R μ l0 0)) hF dX4_levelBy_44 flX4_11 f0 g18 rfl ?_
  refine s_iconst (v := (2 : Int32)) hF dX4_levelBy_47 kI_2 ?_
  refine s_aload hF dX4_levelBy_48 5 rfl ?_
  refine s_xVi (st := [.int (2 : Int32), .ref (g_R μ l0 0)]) (ci := 5) [] hF hD dX4_levelBy_50 cwX4_95 (Nat.le_of_ble_eq_true rfl) (Nat.le_of_ble_eq_true rfl) rfl rfl (Nat.le_of_ble_eq_true rfl) f4 rfl rfl (Nat.le_of_ble_eq_true rfl) (ctX5_jams l4 _) (fun r21 m22 hl23 hm24 => ?_)
  refine s_if_eq (tgt := 60) hF dX4_levelBy_53 rfl (fun c27 => ?_) (fun c27 => ?_)
  · refine s_iload_n hF dX4_levelBy_60 rfl 4 rfl ?_
    refine s_iload hF dX4_levelBy_61 0 rfl ?_
    refine s_xSNi (st := [.int (2 : Int32), .ref (g_R μ l0 0)]) [.int l3, .int k0] hF hD dX4_levelBy_63 cwX4_103 (Nat.le_of_ble_eq_true rfl) (Nat.le_of_ble_eq_true rfl) rfl rfl (Nat.le_of_ble_eq_true rfl) (ctX11_distance l3 k0 _) (fun r28 m29 hl30 hm31 => ?_)
    refine s_sub [1, 2, 3, 5] rfl ?_
    exact sX4_levelBy_66 hF hD l0 l1 l2 l4 r28 (2 : Int32) (g_R μ l0 0) _ (isK.mo (isK.mo f0 hm24) hm31) (isK.mo (isK.mo f1 hm24) hm31) (isK.mo (isK.mo f4 hm24) hm31)
  · refine s_iconst (v := (0 : Int32)) hF dX4_levelBy_56 kI_0 ?_
    refine s_goto (tgt := 66) hF dX4_levelBy_57 rfl ?_
    refine s_sub [1, 2, 3, 5] rfl ?_
    exact sX4_levelBy_66 hF hD l0 l1 l2 l4 (0 : Int32) (2 : Int32) (g_R μ l0 0) _ (isK.mo f0 hm24) (isK.mo f1 hm24) (isK.mo f4 hm24)
theorem ctX4_levelBy  (l0 : Nat) (l1 : Nat) (l2 : Int32) (l3 : Int32) (μ : Mem) : ∀ (r : Int32) (μ' : Mem), LX4_levelBy l0 l1 l2 l3 μ = some (r, μ') → CtX yX4_levelBy cX4_levelBy 6 (some .int) 3 [.ref l0, .ref l1, .int l2, .int l3] μ (encI r) μ' := by
  refine ct_enterX plX4 (Nat.le_of_ble_eq_true rfl) (fun F hF hD hI => ?_)
  unfold LX4_levelBy
  refine sim_gd (fun f0 => ?_)
  refine sim_gd (fun f1 => ?_)
  refine s_aload_n hF dX4_levelBy_0 rfl 1 rfl ?_
  refine sim_gd (fun g1 => ?_)
  refine s_getRq (x := (g_R μ l1 0)) hF dX4_levelBy_1 fqX4_89 f1 g1 rfl ?_
  refine s_iload_n hF dX4_levelBy_4 rfl 2 rfl ?_
  refine sim_gd (fun g2 => ?_)
  refine sim_gd (fun g3 => ?_)
  refine s_aaload (x := (g_R μ (g_R μ l1 0) l2.toNatClampNeg)) hF dX4_levelBy_5 (by decide) (by decide) g2 g3 rfl ?_
  refine sim_gd (fun g4 => ?_)
  refine s_astore (pls' := [(4, .ref (g_R μ (g_R μ l1 0) l2.toNatClampNeg)), (0, .ref l0), (1, .ref l1), (2, .int l2), (3, .int l3)]) hF dX4_levelBy_6 (by decide) rfl ?_
  refine s_aload hF dX4_levelBy_8 0 rfl ?_
  refine s_xVi (st := []) (ci := 5) [] hF hD dX4_levelBy_10 cwX4_95 (Nat.le_of_ble_eq_true rfl) (Nat.le_of_ble_eq_true rfl) rfl rfl (Nat.le_of_ble_eq_true rfl) g4 rfl rfl (Nat.le_of_ble_eq_true rfl) (ctX5_jams (g_R μ (g_R μ l1 0) l2.toNatClampNeg) _) (fun r5 m6 hl7 hm8 => ?_)
  refine s_if_eq (tgt := 20) hF dX4_levelBy_13 rfl (fun c11 => ?_) (fun c11 => ?_)
  · refine s_aload hF dX4_levelBy_20 0 rfl ?_
    refine s_iload_n hF dX4_levelBy_22 rfl 4 rfl ?_
    refine s_xVi (st := []) (ci := 5) [.int l3] hF hD dX4_levelBy_23 cwX4_100 (Nat.le_of_ble_eq_true rfl) (Nat.le_of_ble_eq_true rfl) rfl rfl (Nat.le_of_ble_eq_true rfl) (isK.mo g4 hm8) rfl rfl (Nat.le_of_ble_eq_true rfl) (ctX5_outOf (g_R μ (g_R μ l1 0) l2.toNatClampNeg) l3 _) (fun r12 m13 hl14 hm15 => ?_)
    refine s_sub [1, 2, 3, 4, 0] rfl ?_
    exact sX4_levelBy_26 hF hD l0 l1 l2 l3 (g_R μ (g_R μ l1 0) l2.toNatClampNeg) r12 _ (isK.mo (isK.mo f0 hm8) hm15) (isK.mo (isK.mo f1 hm8) hm15) (isK.mo (isK.mo g4 hm8) hm15)
  · refine s_iconst (v := (0 : Int32)) hF dX4_levelBy_16 kI_0 ?_
    refine s_goto (tgt := 26) hF dX4_levelBy_17 rfl ?_
    refine s_sub [1, 2, 3, 4, 0] rfl ?_
    exact sX4_levelBy_26 hF hD l0 l1 l2 l3 (g_R μ (g_R μ l1 0) l2.toNatClampNeg) (0 : Int32) _ (isK.mo f0 hm8) (isK.mo f1 hm8) (isK.mo g4 hm8)
theorem ctX5_clearPlace  (l0 : Nat) (l1 : Int32) (μ : Mem) : ∀ (r : Unit) (μ' : Mem), LX5_clearPlace l0 l1 μ = some (r, μ') → CtX yX5_clearPlace cX5_clearPlace 2 none 0 [.ref l0, .int l1] μ (encV r) μ' := by
  refine ct_enterX plX5 (Nat.le_of_ble_eq_true rfl) (fun F hF hD hI => ?_)
  unfold LX5_clearPlace
  refine sim_gd (fun f0 => ?_)
  refine s_aload_n hF dX5_clearPlace_0 rfl 0 rfl ?_
  refine sim_gd (fun g1 => ?_)
  refine s_getR (x := (g_R μ l0 5)) hF dX5_clearPlace_1 flX5_15 f0 g1 rfl ?_
  refine s_iload_n hF dX5_clearPlace_4 rfl 1 rfl ?_
  refine s_lconst (v := (0 : Int64)) hF dX5_clearPlace_5 kL_0 ?_
  refine sim_gd (fun g2 => ?_)
  refine s_lastore hF dX5_clearPlace_6 g2 ?_
  refine s_aload_n hF dX5_clearPlace_7 rfl 0 rfl ?_
  refine sim_gd (fun g3 => ?_)
  refine s_getR (x := (g_R μ l0 6)) hF dX5_clearPlace_8 flX5_19 f0 g3 rfl ?_
  refine s_iload_n hF dX5_clearPlace_11 rfl 1 rfl ?_
  refine s_dconst0 hF dX5_clearPlace_12 ?_
  refine sim_gd (fun g4 => ?_)
  refine s_dastore hF dX5_clearPlace_13 g4 ?_
  refine s_aload_n hF dX5_clearPlace_14 rfl 0 rfl ?_
  refine sim_gd (fun g5 => ?_)
  refine s_getR (x := (g_R μ l0 7)) hF dX5_clearPlace_15 flX5_23 f0 g5 rfl ?_
  refine s_iload_n hF dX5_clearPlace_18 rfl 1 rfl ?_
  refine s_iconst (v := (0 : Int32)) hF dX5_clearPlace_19 kI_0 ?_
  refine sim_gd (fun g6 => ?_)
  refine s_bastore hF dX5_clearPlace_20 g6 ?_
  exact s_vretX hF hD dX5_clearPlace_21 rfl
theorem sX5_newSheet_12 {F : Option Fx} (hF : FxO F RX5 cX5_newSheet 3 1) (hD : FxXO F none) : ∀ (fu : Nat) (l0 : Nat) (l2 : Int32) (μ : Mem) (f0 : isK μ l0 5 = true), Sim F encV 12 [(0, .ref l0), (2, .int l2)] [] μ (mX5_newSheet_12 fu l0 l2 μ) := by
  intro fu
  induction fu with
  | zero =>
    intro l0 l2 μ f0
    exact sim_none
  | succ fu ih =>
    intro l0 l2 μ f0
    rw [mX5_newSheet_12]
    refine s_iload_n hF dX5_newSheet_12 rfl 1 rfl ?_
    refine s_bipush (v := (24 : Int32)) hF dX5_newSheet_13 kB_24 ?_
    refine s_icmp_ge (tgt := 29) hF dX5_newSheet_15 rfl (fun c1 => ?_) (fun c1 => ?_)
    · exact s_vretX hF hD dX5_newSheet_29 rfl
    · refine s_aload_n hF dX5_newSheet_18 rfl 0 rfl ?_
      refine s_iload_n hF dX5_newSheet_19 rfl 1 rfl ?_
      refine s_xVv (st := []) (ci := 5) [.int l2] hF hD dX5_newSheet_20 cwX5_53 (Nat.le_of_ble_eq_true rfl) (Nat.le_of_ble_eq_true rfl) rfl rfl (Nat.le_of_ble_eq_true rfl) f0 rfl rfl (Nat.le_of_ble_eq_true rfl) (ctX5_clearPlace l0 l2 _) (fun r2 m3 hl4 hm5 => ?_)
      refine s_iinc (v := (l2 + (1 : Int32))) (pls' := [(2, .int (l2 + (1 : Int32))), (0, .ref l0)]) hF dX5_newSheet_23 1 rfl rfl (by decide) rfl ?_
      refine s_goto (tgt := 12) hF dX5_newSheet_26 rfl ?_
      refine s_sub [1, 0] rfl ?_
      exact ih l0 (l2 + (1 : Int32)) _ (isK.mo f0 hm5)
theorem ctX5_newSheet  (l0 : Nat) (l1 : Int32) (μ : Mem) : ∀ (r : Unit) (μ' : Mem), LX5_newSheet l0 l1 μ = some (r, μ') → CtX yX5_newSheet cX5_newSheet 3 none 1 [.ref l0, .int l1] μ (encV r) μ' := by
  refine ct_enterX plX5 (Nat.le_of_ble_eq_true rfl) (fun F hF hD hI => ?_)
  unfold LX5_newSheet
  refine sim_gd (fun f0 => ?_)
  refine s_aload_n hF dX5_newSheet_0 rfl 0 rfl ?_
  refine s_iload_n hF dX5_newSheet_1 rfl 1 rfl ?_
  refine s_putI hF dX5_newSheet_2 flX5_9 f0 ?_
  refine s_aload_n hF dX5_newSheet_5 rfl 0 rfl ?_
  refine s_iconst (v := (0 : Int32)) hF dX5_newSheet_6 kI_0 ?_
  refine s_putI hF dX5_newSheet_7 flX5_40 f0 ?_
  refine s_iconst (v := (0 : Int32)) hF dX5_newSheet_10 kI_0 ?_
  refine s_istore_n (pls' := [(2, .int (0 : Int32)), (0, .ref l0), (1, .int l1)]) hF dX5_newSheet_11 rfl (by decide) rfl ?_
  refine s_sub [1, 0] rfl ?_
  exact sX5_newSheet_12 hF hD 100000 l0 (0 : Int32) _ f0
theorem ctX5_begin  (l0 : Nat) (l1 : Int32) (l2 : Int32) (l3 : Int32) (l4 : Int32) (μ : Mem) : ∀ (r : Unit) (μ' : Mem), LX5_begin l0 l1 l2 l3 l4 μ = some (r, μ') → CtX yX5_begin cX5_begin 5 none 2 [.ref l0, .int l1, .int l2, .int l3, .int l4] μ (encV r) μ' := by
  refine ct_enterX plX5 (Nat.le_of_ble_eq_true rfl) (fun F hF hD hI => ?_)
  unfold LX5_begin
  refine sim_gd (fun f0 => ?_)
  refine s_aload_n hF dX5_begin_0 rfl 0 rfl ?_
  refine s_iload_n hF dX5_begin_1 rfl 1 rfl ?_
  refine s_putI hF dX5_begin_2 flX5_27 f0 ?_
  refine s_aload_n hF dX5_begin_5 rfl 0 rfl ?_
  refine s_iload_n hF dX5_begin_6 rfl 2 rfl ?_
  refine s_putI hF dX5_begin_7 flX5_30 f0 ?_
  refine s_aload_n hF dX5_begin_10 rfl 0 rfl ?_
  refine s_iload_n hF dX5_begin_11 rfl 3 rfl ?_
  refine s_putI hF dX5_begin_12 flX5_33 f0 ?_
  refine s_aload_n hF dX5_begin_15 rfl 0 rfl ?_
  refine s_iload hF dX5_begin_16 4 rfl ?_
  refine s_xVv (st := []) (ci := 5) [.int l4] hF hD dX5_begin_18 cwX5_36 (Nat.le_of_ble_eq_true rfl) (Nat.le_of_ble_eq_true rfl) rfl rfl (Nat.le_of_ble_eq_true rfl) f0 rfl rfl (Nat.le_of_ble_eq_true rfl) (ctX5_newSheet l0 l4 _) (fun r1 m2 hl3 hm4 => ?_)
  exact s_vretX hF hD dX5_begin_21 rfl
theorem ctX5_freePlaces  (l0 : Nat) (μ : Mem) : ∀ (r : Int32) (μ' : Mem), LX5_freePlaces l0 μ = some (r, μ') → CtX yX5_freePlaces cX5_freePlaces 1 (some .int) 0 [.ref l0] μ (encI r) μ' := by
  refine ct_enterX plX5 (Nat.le_of_ble_eq_true rfl) (fun F hF hD hI => ?_)
  unfold LX5_freePlaces
  refine sim_gd (fun f0 => ?_)
  refine s_aload_n hF dX5_freePlaces_0 rfl 0 rfl ?_
  refine s_getI (x := (g_I μ l0 3)) hF dX5_freePlaces_1 flX5_9 f0 rfl ?_
  refine s_iconst (v := (-1 : Int32)) hF dX5_freePlaces_4 kI_m1 ?_
  refine s_icmp_ne (tgt := 12) hF dX5_freePlaces_5 rfl (fun c1 => ?_) (fun c1 => ?_)
  · refine s_iconst (v := (0 : Int32)) hF dX5_freePlaces_8 kI_0 ?_
    refine s_goto (tgt := 21) hF dX5_freePlaces_9 rfl ?_
    exact s_iretX hF hD dX5_freePlaces_21 rfl
  · refine s_aload_n hF dX5_freePlaces_12 rfl 0 rfl ?_
    refine s_getI (x := (g_I μ l0 3)) hF dX5_freePlaces_13 flX5_9 f0 rfl ?_
    refine s_aload_n hF dX5_freePlaces_16 rfl 0 rfl ?_
    refine s_getI (x := (g_I μ l0 4)) hF dX5_freePlaces_17 flX5_40 f0 rfl ?_
    refine s_isub hF dX5_freePlaces_20 ?_
    exact s_iretX hF hD dX5_freePlaces_21 rfl
theorem ctX5_canWrite  (l0 : Nat) (μ : Mem) : ∀ (r : Int32) (μ' : Mem), LX5_canWrite l0 μ = some (r, μ') → CtX yX5_canWrite cX5_canWrite 1 (some .boolean) 1 [.ref l0] μ (encI r) μ' := by
  refine ct_enterX plX5 (Nat.le_of_ble_eq_true rfl) (fun F hF hD hI => ?_)
  unfold LX5_canWrite
  refine sim_gd (fun f0 => ?_)
  refine s_aload_n hF dX5_canWrite_0 rfl 0 rfl ?_
  refine s_xVi (st := []) (ci := 5) [] hF hD dX5_canWrite_1 cwX5_56 (Nat.le_of_ble_eq_true rfl) (Nat.le_of_ble_eq_true rfl) rfl rfl (Nat.le_of_ble_eq_true rfl) f0 rfl rfl (Nat.le_of_ble_eq_true rfl) (ctX5_jams l0 _) (fun r1 m2 hl3 hm4 => ?_)
  refine s_if_ne (tgt := 18) hF dX5_canWrite_4 rfl (fun c7 => ?_) (fun c7 => ?_)
  · refine s_aload_n hF dX5_canWrite_7 rfl 0 rfl ?_
    refine s_xVi (st := []) (ci := 5) [] hF hD dX5_canWrite_8 cwX5_60 (Nat.le_of_ble_eq_true rfl) (Nat.le_of_ble_eq_true rfl) rfl rfl (Nat.le_of_ble_eq_true rfl) (isK.mo f0 hm4) rfl rfl (Nat.le_of_ble_eq_true rfl) (ctX5_freePlaces l0 _) (fun r8 m9 hl10 hm11 => ?_)
    refine s_if_le (tgt := 18) hF dX5_canWrite_11 rfl (fun c14 => ?_) (fun c14 => ?_)
    · refine s_iconst (v := (0 : Int32)) hF dX5_canWrite_18 kI_0 ?_
      exact s_zretX hF hD dX5_canWrite_19 rfl rfl
    · refine s_iconst (v := (1 : Int32)) hF dX5_canWrite_14 kI_1 ?_
      refine s_goto (tgt := 19) hF dX5_canWrite_15 rfl ?_
      exact s_zretX hF hD dX5_canWrite_19 rfl rfl
  · refine s_iconst (v := (0 : Int32)) hF dX5_canWrite_18 kI_0 ?_
    exact s_zretX hF hD dX5_canWrite_19 rfl rfl
theorem sX5_write_53 {F : Option Fx} (hF : FxO F RX5 cX5_write 2 1) (hD : FxXO F none) (l0 : Nat) (μ : Mem) (f0 : isK μ l0 5 = true) : Sim F encV 53 [(0, .ref l0)] [] μ (mX5_write_53 l0 μ) := by
  unfold mX5_write_53
  refine s_aload_n hF dX5_write_53 rfl 0 rfl ?_
  refine s_dup hF dX5_write_54 rfl ?_
  refine s_getI (x := (g_I μ l0 4)) hF dX5_write_55 flX5_40 f0 rfl ?_
  refine s_iconst (v := (1 : Int32)) hF dX5_write_58 kI_1 ?_
  refine s_iadd hF dX5_write_59 ?_
  refine s_putI hF dX5_write_60 flX5_40 f0 ?_
  exact s_vretX hF hD dX5_write_63 rfl
theorem ctX5_write  (l0 : Nat) (l1 : Int32) (μ : Mem) : ∀ (r : Unit) (μ' : Mem), LX5_write l0 l1 μ = some (r, μ') → CtX yX5_write cX5_write 2 none 1 [.ref l0, .int l1] μ (encV r) μ' := by
  refine ct_enterX plX5 (Nat.le_of_ble_eq_true rfl) (fun F hF hD hI => ?_)
  unfold LX5_write
  refine sim_gd (fun f0 => ?_)
  refine s_aload_n hF dX5_write_0 rfl 0 rfl ?_
  refine s_xVi (st := []) (ci := 5) [] hF hD dX5_write_1 cwX5_64 (Nat.le_of_ble_eq_true rfl) (Nat.le_of_ble_eq_true rfl) rfl rfl (Nat.le_of_ble_eq_true rfl) f0 rfl rfl (Nat.le_of_ble_eq_true rfl) (ctX5_isReal l0 _) (fun r1 m2 hl3 hm4 => ?_)
  refine s_if_eq (tgt := 39) hF dX5_write_4 rfl (fun c7 => ?_) (fun c7 => ?_)
  · refine s_aload_n hF dX5_write_39 rfl 0 rfl ?_
    refine sim_gd (fun g8 => ?_)
    refine s_getR (x := (g_R m2 l0 5)) hF dX5_write_40 flX5_15 (isK.mo f0 hm4) g8 rfl ?_
    refine s_aload_n hF dX5_write_43 rfl 0 rfl ?_
    refine s_getI (x := (g_I m2 l0 4)) hF dX5_write_44 flX5_40 (isK.mo f0 hm4) rfl ?_
    refine s_aload_n hF dX5_write_47 rfl 0 rfl ?_
    refine s_iload_n hF dX5_write_48 rfl 1 rfl ?_
    refine s_xVl (st := [.int (g_I m2 l0 4), .ref (g_R m2 l0 5)]) (ci := 5) [.int l1] hF hD dX5_write_49 cwX5_75 (Nat.le_of_ble_eq_true rfl) (Nat.le_of_ble_eq_true rfl) rfl rfl (Nat.le_of_ble_eq_true rfl) (isK.mo f0 hm4) rfl rfl (Nat.le_of_ble_eq_true rfl) (ctX5_wholeTaken l0 l1 _) (fun r9 m10 hl11 hm12 => ?_)
    refine sim_gd (fun g15 => ?_)
    refine s_lastore hF dX5_write_52 g15 ?_
    refine s_sub [0] rfl ?_
    exact sX5_write_53 hF hD l0 _ (isK.mo (isK.mo f0 hm4) hm12)
  · refine s_aload_n hF dX5_write_7 rfl 0 rfl ?_
    refine sim_gd (fun g16 => ?_)
    refine s_getR (x := (g_R m2 l0 6)) hF dX5_write_8 flX5_19 (isK.mo f0 hm4) g16 rfl ?_
    refine s_aload_n hF dX5_write_11 rfl 0 rfl ?_
    refine s_getI (x := (g_I m2 l0 4)) hF dX5_write_12 flX5_40 (isK.mo f0 hm4) rfl ?_
    refine s_aload_n hF dX5_write_15 rfl 0 rfl ?_
    refine s_iload_n hF dX5_write_16 rfl 1 rfl ?_
    refine s_xVd (st := [.int (g_I m2 l0 4), .ref (g_R m2 l0 6)]) (ci := 5) [.int l1] hF hD dX5_write_17 cwX5_67 (Nat.le_of_ble_eq_true rfl) (Nat.le_of_ble_eq_true rfl) rfl rfl (Nat.le_of_ble_eq_true rfl) (isK.mo f0 hm4) rfl rfl (Nat.le_of_ble_eq_true rfl) (ctX5_realTaken l0 l1 _) (fun r17 m18 y21 hl19 hm20 ha22 => ?_)
    refine sim_gd (fun g23 => ?_)
    have e9 := (al64_nn ha22 (nn64_ok g23)).symm
    subst e9
    refine sim_gd (fun g24 => ?_)
    refine s_dastore hF dX5_write_20 g24 ?_
    refine s_aload_n hF dX5_write_21 rfl 0 rfl ?_
    refine sim_gd (fun g25 => ?_)
    refine s_getR (x := (g_R m18 l0 7)) hF dX5_write_22 flX5_23 (isK.mo (isK.mo f0 hm4) hm20) g25 rfl ?_
    refine s_aload_n hF dX5_write_25 rfl 0 rfl ?_
    refine s_getI (x := (g_I m18 l0 4)) hF dX5_write_26 flX5_40 (isK.mo (isK.mo f0 hm4) hm20) rfl ?_
    refine s_aload_n hF dX5_write_29 rfl 0 rfl ?_
    refine s_iload_n hF dX5_write_30 rfl 1 rfl ?_
    refine s_xVi (st := [.int (g_I m18 l0 4), .ref (g_R m18 l0 7)]) (ci := 5) [.int l1] hF hD dX5_write_31 cwX5_71 (Nat.le_of_ble_eq_true rfl) (Nat.le_of_ble_eq_true rfl) rfl rfl (Nat.le_of_ble_eq_true rfl) (isK.mo (isK.mo f0 hm4) hm20) rfl rfl (Nat.le_of_ble_eq_true rfl) (ctX5_markTaken l0 l1 _) (fun r26 m27 hl28 hm29 => ?_)
    refine s_i2b hF dX5_write_34 ?_
    refine sim_gd (fun g32 => ?_)
    refine s_bastore hF dX5_write_35 g32 ?_
    refine s_goto (tgt := 53) hF dX5_write_36 rfl ?_
    refine s_sub [0] rfl ?_
    exact sX5_write_53 hF hD l0 _ (isK.mo (isK.mo (isK.mo f0 hm4) hm20) hm29)
theorem ctX5_wipe  (l0 : Nat) (μ : Mem) : ∀ (r : Int32) (μ' : Mem), LX5_wipe l0 μ = some (r, μ') → CtX yX5_wipe cX5_wipe 1 (some .boolean) 2 [.ref l0] μ (encI r) μ' := by
  refine ct_enterX plX5 (Nat.le_of_ble_eq_true rfl) (fun F hF hD hI => ?_)
  unfold LX5_wipe
  refine sim_gd (fun f0 => ?_)
  refine s_aload_n hF dX5_wipe_0 rfl 0 rfl ?_
  refine s_getI (x := (g_I μ l0 4)) hF dX5_wipe_1 flX5_40 f0 rfl ?_
  refine s_if_ne (tgt := 9) hF dX5_wipe_4 rfl (fun c1 => ?_) (fun c1 => ?_)
  · refine s_iconst (v := (0 : Int32)) hF dX5_wipe_7 kI_0 ?_
    exact s_zretX hF hD dX5_wipe_8 rfl rfl
  · refine s_aload_n hF dX5_wipe_9 rfl 0 rfl ?_
    refine s_aload_n hF dX5_wipe_10 rfl 0 rfl ?_
    refine s_getI (x := (g_I μ l0 3)) hF dX5_wipe_11 flX5_9 f0 rfl ?_
    refine s_xVv (st := []) (ci := 5) [.int (g_I μ l0 3)] hF hD dX5_wipe_14 cwX5_36 (Nat.le_of_ble_eq_true rfl) (Nat.le_of_ble_eq_true rfl) rfl rfl (Nat.le_of_ble_eq_true rfl) f0 rfl rfl (Nat.le_of_ble_eq_true rfl) (ctX5_newSheet l0 (g_I μ l0 3) _) (fun r2 m3 hl4 hm5 => ?_)
    refine s_iconst (v := (1 : Int32)) hF dX5_wipe_17 kI_1 ?_
    exact s_zretX hF hD dX5_wipe_18 rfl rfl
theorem ctX5_tear  (l0 : Nat) (μ : Mem) : ∀ (r : Int32) (μ' : Mem), LX5_tear l0 μ = some (r, μ') → CtX yX5_tear cX5_tear 1 (some .boolean) 2 [.ref l0] μ (encI r) μ' := by
  refine ct_enterX plX5 (Nat.le_of_ble_eq_true rfl) (fun F hF hD hI => ?_)
  unfold LX5_tear
  refine sim_gd (fun f0 => ?_)
  refine s_aload_n hF dX5_tear_0 rfl 0 rfl ?_
  refine s_getI (x := (g_I μ l0 3)) hF dX5_tear_1 flX5_9 f0 rfl ?_
  refine s_iconst (v := (-1 : Int32)) hF dX5_tear_4 kI_m1 ?_
  refine s_icmp_ne (tgt := 10) hF dX5_tear_5 rfl (fun c1 => ?_) (fun c1 => ?_)
  · refine s_iconst (v := (0 : Int32)) hF dX5_tear_8 kI_0 ?_
    exact s_zretX hF hD dX5_tear_9 rfl rfl
  · refine s_aload_n hF dX5_tear_10 rfl 0 rfl ?_
    refine s_iconst (v := (-1 : Int32)) hF dX5_tear_11 kI_m1 ?_
    refine s_xVv (st := []) (ci := 5) [.int (-1 : Int32)] hF hD dX5_tear_12 cwX5_36 (Nat.le_of_ble_eq_true rfl) (Nat.le_of_ble_eq_true rfl) rfl rfl (Nat.le_of_ble_eq_true rfl) f0 rfl rfl (Nat.le_of_ble_eq_true rfl) (ctX5_newSheet l0 (-1 : Int32) _) (fun r2 m3 hl4 hm5 => ?_)
    refine s_iconst (v := (1 : Int32)) hF dX5_tear_15 kI_1 ?_
    exact s_zretX hF hD dX5_tear_16 rfl rfl
theorem ctX5_lay  (l0 : Nat) (l1 : Int32) (μ : Mem) : ∀ (r : Int32) (μ' : Mem), LX5_lay l0 l1 μ = some (r, μ') → CtX yX5_lay cX5_lay 2 (some .boolean) 2 [.ref l0, .int l1] μ (encI r) μ' := by
  refine ct_enterX plX5 (Nat.le_of_ble_eq_true rfl) (fun F hF hD hI => ?_)
  unfold LX5_lay
  refine sim_gd (fun f0 => ?_)
  refine s_iload_n hF dX5_lay_0 rfl 1 rfl ?_
  refine s_if_lt (tgt := 10) hF dX5_lay_1 rfl (fun c1 => ?_) (fun c1 => ?_)
  · refine s_iconst (v := (0 : Int32)) hF dX5_lay_10 kI_0 ?_
    exact s_zretX hF hD dX5_lay_11 rfl rfl
  · refine s_iload_n hF dX5_lay_4 rfl 1 rfl ?_
    refine s_bipush (v := (24 : Int32)) hF dX5_lay_5 kB_24 ?_
    refine s_icmp_le (tgt := 12) hF dX5_lay_7 rfl (fun c2 => ?_) (fun c2 => ?_)
    · refine s_aload_n hF dX5_lay_12 rfl 0 rfl ?_
      refine s_iload_n hF dX5_lay_13 rfl 1 rfl ?_
      refine s_xVv (st := []) (ci := 5) [.int l1] hF hD dX5_lay_14 cwX5_36 (Nat.le_of_ble_eq_true rfl) (Nat.le_of_ble_eq_true rfl) rfl rfl (Nat.le_of_ble_eq_true rfl) f0 rfl rfl (Nat.le_of_ble_eq_true rfl) (ctX5_newSheet l0 l1 _) (fun r3 m4 hl5 hm6 => ?_)
      refine s_iconst (v := (1 : Int32)) hF dX5_lay_17 kI_1 ?_
      exact s_zretX hF hD dX5_lay_18 rfl rfl
    · refine s_iconst (v := (0 : Int32)) hF dX5_lay_10 kI_0 ?_
      exact s_zretX hF hD dX5_lay_11 rfl rfl
theorem ctX5_takeCopy  (l0 : Nat) (l1 : Nat) (l2 : Int32) (μ : Mem) : ∀ (r : Int32) (μ' : Mem), LX5_takeCopy l0 l1 l2 μ = some (r, μ') → CtX yX5_takeCopy cX5_takeCopy 3 (some .boolean) 2 [.ref l0, .ref l1, .int l2] μ (encI r) μ' := by
  refine ct_enterX plX5 (Nat.le_of_ble_eq_true rfl) (fun F hF hD hI => ?_)
  unfold LX5_takeCopy
  refine sim_gd (fun f0 => ?_)
  refine sim_gd (fun f1 => ?_)
  refine s_aload_n hF dX5_takeCopy_0 rfl 0 rfl ?_
  refine s_getI (x := (g_I μ l0 0)) hF dX5_takeCopy_1 flX5_27 f0 rfl ?_
  refine s_aload_n hF dX5_takeCopy_4 rfl 1 rfl ?_
  refine s_getI (x := (g_I μ l1 0)) hF dX5_takeCopy_5 flX5_27 f1 rfl ?_
  refine s_icmp_ne (tgt := 43) hF dX5_takeCopy_8 rfl (fun c1 => ?_) (fun c1 => ?_)
  · refine s_aload_n hF dX5_takeCopy_11 rfl 0 rfl ?_
    refine s_getI (x := (g_I μ l0 3)) hF dX5_takeCopy_12 flX5_9 f0 rfl ?_
    refine s_iconst (v := (-1 : Int32)) hF dX5_takeCopy_15 kI_m1 ?_
    refine s_icmp_eq (tgt := 43) hF dX5_takeCopy_16 rfl (fun c2 => ?_) (fun c2 => ?_)
    · refine s_iconst (v := (0 : Int32)) hF dX5_takeCopy_43 kI_0 ?_
      exact s_zretX hF hD dX5_takeCopy_44 rfl rfl
    · refine s_aload_n hF dX5_takeCopy_19 rfl 1 rfl ?_
      refine s_getI (x := (g_I μ l1 3)) hF dX5_takeCopy_20 flX5_9 f1 rfl ?_
      refine s_iconst (v := (-1 : Int32)) hF dX5_takeCopy_23 kI_m1 ?_
      refine s_icmp_eq (tgt := 43) hF dX5_takeCopy_24 rfl (fun c3 => ?_) (fun c3 => ?_)
      · refine s_iconst (v := (0 : Int32)) hF dX5_takeCopy_43 kI_0 ?_
        exact s_zretX hF hD dX5_takeCopy_44 rfl rfl
      · refine s_iload_n hF dX5_takeCopy_27 rfl 2 rfl ?_
        refine s_aload_n hF dX5_takeCopy_28 rfl 0 rfl ?_
        refine s_getI (x := (g_I μ l0 3)) hF dX5_takeCopy_29 flX5_9 f0 rfl ?_
        refine s_icmp_gt (tgt := 43) hF dX5_takeCopy_32 rfl (fun c4 => ?_) (fun c4 => ?_)
        · refine s_iconst (v := (0 : Int32)) hF dX5_takeCopy_43 kI_0 ?_
          exact s_zretX hF hD dX5_takeCopy_44 rfl rfl
        · refine s_iload_n hF dX5_takeCopy_35 rfl 2 rfl ?_
          refine s_aload_n hF dX5_takeCopy_36 rfl 1 rfl ?_
          refine s_getI (x := (g_I μ l1 3)) hF dX5_takeCopy_37 flX5_9 f1 rfl ?_
          refine s_icmp_le (tgt := 45) hF dX5_takeCopy_40 rfl (fun c5 => ?_) (fun c5 => ?_)
          · refine s_aload_n hF dX5_takeCopy_45 rfl 0 rfl ?_
            refine s_aload_n hF dX5_takeCopy_46 rfl 1 rfl ?_
            refine s_iload_n hF dX5_takeCopy_47 rfl 2 rfl ?_
            refine s_xVv (st := []) (ci := 5) [.ref l1, .int l2] hF hD dX5_takeCopy_48 cwX5_43 (Nat.le_of_ble_eq_true rfl) (Nat.le_of_ble_eq_true rfl) rfl rfl (Nat.le_of_ble_eq_true rfl) f0 rfl rfl (Nat.le_of_ble_eq_true rfl) (ctX5_copyPlaces l0 l1 l2 _) (fun r6 m7 hl8 hm9 => ?_)
            refine s_aload_n hF dX5_takeCopy_51 rfl 0 rfl ?_
            refine s_aload_n hF dX5_takeCopy_52 rfl 0 rfl ?_
            refine s_getI (x := (g_I m7 l0 4)) hF dX5_takeCopy_53 flX5_40 (isK.mo f0 hm9) rfl ?_
            refine s_aload_n hF dX5_takeCopy_56 rfl 1 rfl ?_
            refine s_getI (x := (g_I m7 l1 4)) hF dX5_takeCopy_57 flX5_40 (isK.mo f1 hm9) rfl ?_
            refine s_iload_n hF dX5_takeCopy_60 rfl 2 rfl ?_
            refine s_min hF dX5_takeCopy_61 mlX5_79 mt_smin mt_i mt_cmin (Nat.le_of_ble_eq_true rfl) (Nat.le_of_ble_eq_true rfl) ?_
            refine s_max hF dX5_takeCopy_64 mlX5_85 mt_smax mt_i mt_cmax (Nat.le_of_ble_eq_true rfl) (Nat.le_of_ble_eq_true rfl) ?_
            refine s_putI hF dX5_takeCopy_67 flX5_40 (isK.mo f0 hm9) ?_
            refine s_iconst (v := (1 : Int32)) hF dX5_takeCopy_70 kI_1 ?_
            exact s_zretX hF hD dX5_takeCopy_71 rfl rfl
          · refine s_iconst (v := (0 : Int32)) hF dX5_takeCopy_43 kI_0 ?_
            exact s_zretX hF hD dX5_takeCopy_44 rfl rfl
  · refine s_iconst (v := (0 : Int32)) hF dX5_takeCopy_43 kI_0 ?_
    exact s_zretX hF hD dX5_takeCopy_44 rfl rfl
theorem sX5_tune_18 {F : Option Fx} (hF : FxO F RX5 cX5_tune 3 0) (hD : FxXO F (some .boolean)) (l0 : Nat) (l1 : Int32) (l2 : Int32) (μ : Mem) (f0 : isK μ l0 5 = true) : Sim F encI 18 [(0, .ref l0), (1, .int l1), (2, .int l2)] [] μ (mX5_tune_18 l0 l1 l2 μ) := by
  unfold mX5_tune_18
  refine s_aload_n hF dX5_tune_18 rfl 0 rfl ?_
  refine s_iload_n hF dX5_tune_19 rfl 1 rfl ?_
  refine s_putI hF dX5_tune_20 flX5_30 f0 ?_
  refine s_aload_n hF dX5_tune_23 rfl 0 rfl ?_
  refine s_iload_n hF dX5_tune_24 rfl 2 rfl ?_
  refine s_putI hF dX5_tune_25 flX5_33 f0 ?_
  refine s_iconst (v := (1 : Int32)) hF dX5_tune_28 kI_1 ?_
  exact s_zretX hF hD dX5_tune_29 rfl rfl
theorem ctX5_tune  (l0 : Nat) (l1 : Int32) (l2 : Int32) (μ : Mem) : ∀ (r : Int32) (μ' : Mem), LX5_tune l0 l1 l2 μ = some (r, μ') → CtX yX5_tune cX5_tune 3 (some .boolean) 0 [.ref l0, .int l1, .int l2] μ (encI r) μ' := by
  refine ct_enterX plX5 (Nat.le_of_ble_eq_true rfl) (fun F hF hD hI => ?_)
  unfold LX5_tune
  refine sim_gd (fun f0 => ?_)
  refine s_aload_n hF dX5_tune_0 rfl 0 rfl ?_
  refine s_getI (x := (g_I μ l0 1)) hF dX5_tune_1 flX5_30 f0 rfl ?_
  refine s_iload_n hF dX5_tune_4 rfl 1 rfl ?_
  refine s_icmp_ne (tgt := 18) hF dX5_tune_5 rfl (fun c1 => ?_) (fun c1 => ?_)
  · refine s_aload_n hF dX5_tune_8 rfl 0 rfl ?_
    refine s_getI (x := (g_I μ l0 2)) hF dX5_tune_9 flX5_33 f0 rfl ?_
    refine s_iload_n hF dX5_tune_12 rfl 2 rfl ?_
    refine s_icmp_ne (tgt := 18) hF dX5_tune_13 rfl (fun c2 => ?_) (fun c2 => ?_)
    · refine s_iconst (v := (0 : Int32)) hF dX5_tune_16 kI_0 ?_
      exact s_zretX hF hD dX5_tune_17 rfl rfl
    · exact sX5_tune_18 hF hD l0 l1 l2 _ f0
  · exact sX5_tune_18 hF hD l0 l1 l2 _ f0
theorem ctX5_moveUp  (l0 : Nat) (μ : Mem) : ∀ (r : Unit) (μ' : Mem), LX5_moveUp l0 μ = some (r, μ') → CtX yX5_moveUp cX5_moveUp 1 none 1 [.ref l0] μ (encV r) μ' := by
  refine ct_enterX plX5 (Nat.le_of_ble_eq_true rfl) (fun F hF hD hI => ?_)
  unfold LX5_moveUp
  refine sim_gd (fun f0 => ?_)
  refine s_aload_n hF dX5_moveUp_0 rfl 0 rfl ?_
  refine s_getI (x := (g_I μ l0 4)) hF dX5_moveUp_1 flX5_40 f0 rfl ?_
  refine s_if_ne (tgt := 8) hF dX5_moveUp_4 rfl (fun c1 => ?_) (fun c1 => ?_)
  · exact s_vretX hF hD dX5_moveUp_7 rfl
  · refine s_aload_n hF dX5_moveUp_8 rfl 0 rfl ?_
    refine s_dup hF dX5_moveUp_9 rfl ?_
    refine s_getI (x := (g_I μ l0 4)) hF dX5_moveUp_10 flX5_40 f0 rfl ?_
    refine s_iconst (v := (1 : Int32)) hF dX5_moveUp_13 kI_1 ?_
    refine s_isub hF dX5_moveUp_14 ?_
    refine s_putI hF dX5_moveUp_15 flX5_40 f0 ?_
    refine s_aload_n hF dX5_moveUp_18 rfl 0 rfl ?_
    refine sim_gd (fun g2 => ?_)
    refine s_getR (x := (g_R μ l0 5)) hF dX5_moveUp_19 flX5_15 f0 g2 rfl ?_
    refine s_iconst (v := (1 : Int32)) hF dX5_moveUp_22 kI_1 ?_
    refine s_aload_n hF dX5_moveUp_23 rfl 0 rfl ?_
    refine s_getR (x := (g_R μ l0 5)) hF dX5_moveUp_24 flX5_15 f0 g2 rfl ?_
    refine s_iconst (v := (0 : Int32)) hF dX5_moveUp_27 kI_0 ?_
    refine s_aload_n hF dX5_moveUp_28 rfl 0 rfl ?_
    refine s_getI (x := (g_I (p_I μ l0 4 ((g_I μ l0 4) - (1 : Int32))) l0 4)) hF dX5_moveUp_29 flX5_40 f0 rfl ?_
    refine sim_gd (fun g3 => ?_)
    refine s_cpL hF dX5_moveUp_32 mlX5_47 cp_n cp_s cp_i (Nat.le_of_ble_eq_true rfl) (Nat.le_of_ble_eq_true rfl) g3 ?_
    refine s_aload_n hF dX5_moveUp_35 rfl 0 rfl ?_
    refine sim_gd (fun g4 => ?_)
    refine s_getR (x := (g_R μ l0 6)) hF dX5_moveUp_36 flX5_19 f0 g4 rfl ?_
    refine s_iconst (v := (1 : Int32)) hF dX5_moveUp_39 kI_1 ?_
    refine s_aload_n hF dX5_moveUp_40 rfl 0 rfl ?_
    refine s_getR (x := (g_R μ l0 6)) hF dX5_moveUp_41 flX5_19 f0 g4 rfl ?_
    refine s_iconst (v := (0 : Int32)) hF dX5_moveUp_44 kI_0 ?_
    refine s_aload_n hF dX5_moveUp_45 rfl 0 rfl ?_
    refine s_getI (x := (g_I (p_I μ l0 4 ((g_I μ l0 4) - (1 : Int32))) l0 4)) hF dX5_moveUp_46 flX5_40 f0 rfl ?_
    refine sim_gd (fun g5 => ?_)
    refine s_cpD hF dX5_moveUp_49 mlX5_47 cp_n cp_s cp_i (Nat.le_of_ble_eq_true rfl) (Nat.le_of_ble_eq_true rfl) g5 ?_
    refine s_aload_n hF dX5_moveUp_52 rfl 0 rfl ?_
    refine sim_gd (fun g6 => ?_)
    refine s_getR (x := (g_R μ l0 7)) hF dX5_moveUp_53 flX5_23 f0 g6 rfl ?_
    refine s_iconst (v := (1 : Int32)) hF dX5_moveUp_56 kI_1 ?_
    refine s_aload_n hF dX5_moveUp_57 rfl 0 rfl ?_
    refine s_getR (x := (g_R μ l0 7)) hF dX5_moveUp_58 flX5_23 f0 g6 rfl ?_
    refine s_iconst (v := (0 : Int32)) hF dX5_moveUp_61 kI_0 ?_
    refine s_aload_n hF dX5_moveUp_62 rfl 0 rfl ?_
    refine s_getI (x := (g_I (p_I μ l0 4 ((g_I μ l0 4) - (1 : Int32))) l0 4)) hF dX5_moveUp_63 flX5_40 f0 rfl ?_
    refine sim_gd (fun g7 => ?_)
    refine s_cpB hF dX5_moveUp_66 mlX5_47 cp_n cp_s cp_i (Nat.le_of_ble_eq_true rfl) (Nat.le_of_ble_eq_true rfl) g7 ?_
    refine s_aload_n hF dX5_moveUp_69 rfl 0 rfl ?_
    refine s_aload_n hF dX5_moveUp_70 rfl 0 rfl ?_
    refine s_getI (x := (g_I (p_cpI (p_I μ l0 4 ((g_I μ l0 4) - (1 : Int32))) (g_R μ l0 7) (g_R μ l0 7) (1 : Int32).toNatClampNeg (0 : Int32).toNatClampNeg (g_I (p_I μ l0 4 ((g_I μ l0 4) - (1 : Int32))) l0 4).toNatClampNeg) l0 4)) hF dX5_moveUp_71 flX5_40 f0 rfl ?_
    refine s_xVv (st := []) (ci := 5) [.int (g_I (p_cpI (p_I μ l0 4 ((g_I μ l0 4) - (1 : Int32))) (g_R μ l0 7) (g_R μ l0 7) (1 : Int32).toNatClampNeg (0 : Int32).toNatClampNeg (g_I (p_I μ l0 4 ((g_I μ l0 4) - (1 : Int32))) l0 4).toNatClampNeg) l0 4)] hF hD dX5_moveUp_74 cwX5_53 (Nat.le_of_ble_eq_true rfl) (Nat.le_of_ble_eq_true rfl) rfl rfl (Nat.le_of_ble_eq_true rfl) f0 rfl rfl (Nat.le_of_ble_eq_true rfl) (ctX5_clearPlace l0 (g_I (p_cpI (p_I μ l0 4 ((g_I μ l0 4) - (1 : Int32))) (g_R μ l0 7) (g_R μ l0 7) (1 : Int32).toNatClampNeg (0 : Int32).toNatClampNeg (g_I (p_I μ l0 4 ((g_I μ l0 4) - (1 : Int32))) l0 4).toNatClampNeg) l0 4) _) (fun r8 m9 hl10 hm11 => ?_)
    exact s_vretX hF hD dX5_moveUp_77 rfl
theorem ctX5_readAt  (l0 : Nat) (l1 : Int32) (μ : Mem) : ∀ (r : Int32) (μ' : Mem), LX5_readAt l0 l1 μ = some (r, μ') → CtX yX5_readAt cX5_readAt 2 (some .int) 1 [.ref l0, .int l1] μ (encI r) μ' := by
  refine ct_enterX plX5 (Nat.le_of_ble_eq_true rfl) (fun F hF hD hI => ?_)
  unfold LX5_readAt
  refine sim_gd (fun f0 => ?_)
  refine s_aload_n hF dX5_readAt_0 rfl 0 rfl ?_
  refine s_xVi (st := []) (ci := 5) [] hF hD dX5_readAt_1 cwX5_64 (Nat.le_of_ble_eq_true rfl) (Nat.le_of_ble_eq_true rfl) rfl rfl (Nat.le_of_ble_eq_true rfl) f0 rfl rfl (Nat.le_of_ble_eq_true rfl) (ctX5_isReal l0 _) (fun r1 m2 hl3 hm4 => ?_)
  refine s_if_eq (tgt := 25) hF dX5_readAt_4 rfl (fun c7 => ?_) (fun c7 => ?_)
  · refine s_aload_n hF dX5_readAt_25 rfl 0 rfl ?_
    refine sim_gd (fun g8 => ?_)
    refine s_getR (x := (g_R m2 l0 5)) hF dX5_readAt_26 flX5_15 (isK.mo f0 hm4) g8 rfl ?_
    refine s_iload_n hF dX5_readAt_29 rfl 1 rfl ?_
    refine sim_gd (fun g9 => ?_)
    refine s_laload (x := (g_L m2 (g_R m2 l0 5) l1.toNatClampNeg)) hF dX5_readAt_30 g9 rfl ?_
    refine s_l2i hF dX5_readAt_31 ?_
    exact s_iretX hF hD dX5_readAt_32 rfl
  · refine s_aload_n hF dX5_readAt_7 rfl 0 rfl ?_
    refine sim_gd (fun g10 => ?_)
    refine s_getR (x := (g_R m2 l0 7)) hF dX5_readAt_8 flX5_23 (isK.mo f0 hm4) g10 rfl ?_
    refine s_iload_n hF dX5_readAt_11 rfl 1 rfl ?_
    refine sim_gd (fun g11 => ?_)
    refine s_baload (x := (g_I m2 (g_R m2 l0 7) l1.toNatClampNeg)) hF dX5_readAt_12 g11 rfl ?_
    refine s_aload_n hF dX5_readAt_13 rfl 0 rfl ?_
    refine sim_gd (fun g12 => ?_)
    refine s_getR (x := (g_R m2 l0 6)) hF dX5_readAt_14 flX5_19 (isK.mo f0 hm4) g12 rfl ?_
    refine s_iload_n hF dX5_readAt_17 rfl 1 rfl ?_
    refine sim_gd (fun g13 => ?_)
    refine s_daload (x := (g_D m2 (g_R m2 l0 6) l1.toNatClampNeg)) hF dX5_readAt_18 g13 rfl ?_
    refine s_xSi (st := []) [.int (g_I m2 (g_R m2 l0 7) l1.toNatClampNeg), .double (g_D m2 (g_R m2 l0 6) l1.toNatClampNeg)] hF hD dX5_readAt_19 cwX5_88 (Nat.le_of_ble_eq_true rfl) (Nat.le_of_ble_eq_true rfl) rfl rfl (Nat.le_of_ble_eq_true rfl) (ctX5_readOf (g_I m2 (g_R m2 l0 7) l1.toNatClampNeg) (g_D m2 (g_R m2 l0 6) l1.toNatClampNeg) _) (fun r14 m15 hl16 hm17 => ?_)
    refine s_goto (tgt := 32) hF dX5_readAt_22 rfl ?_
    exact s_iretX hF hD dX5_readAt_32 rfl
theorem sX5_strangeRecords_27 {F : Option Fx} (q4 : Nat → Int32 → Int32 → Int32 → Mem → Option (Int32 × Mem)) (hF : FxO F RX5 cX5_strangeRecords 5 0) (hD : FxXO F (some .int)) (hq4 : ∀ (l0 : Nat) (l1 : Int32) (l2 : Int32) (l3 : Int32) (μ : Mem) (_ : isK μ l0 5 = true), Sim F encI 4 [(0, .ref l0), (1, .int l1), (2, .int l2), (3, .int l3)] [] μ (q4 l0 l1 l2 l3 μ)) (l0 : Nat) (l1 : Int32) (l2 : Int32) (l3 : Int32) (k0 : Int32) (μ : Mem) (f0 : isK μ l0 5 = true) : Sim F encI 27 [(0, .ref l0), (1, .int l1), (2, .int l2), (3, .int l3)] [.int k0] μ (mX5_strangeRecords_27 q4 l0 l1 l2 l3 k0 μ) := by
  unfold mX5_strangeRecords_27
  refine s_istore (pls' := [(4, .int k0), (0, .ref l0), (1, .int l1), (2, .int l2), (3, .int l3)]) hF dX5_strangeRecords_27 (by decide) rfl ?_
  refine s_aload_n hF dX5_strangeRecords_29 rfl 1 rfl ?_
  refine sim_gd (fun g5 => ?_)
  refine s_getR (x := (g_R μ l0 7)) hF dX5_strangeRecords_30 flX5_23 f0 g5 rfl ?_
  refine s_iload_n hF dX5_strangeRecords_33 rfl 4 rfl ?_
  refine sim_gd (fun g6 => ?_)
  refine s_baload (x := (g_I μ (g_R μ l0 7) l3.toNatClampNeg)) hF dX5_strangeRecords_34 g6 rfl ?_
  refine s_if_eq (tgt := 47) hF dX5_strangeRecords_35 rfl (fun c7 => ?_) (fun c7 => ?_)
  · refine s_iinc (v := (l3 + (1 : Int32))) (pls' := [(3, .int (l3 + (1 : Int32))), (4, .int k0), (0, .ref l0), (1, .int l1), (2, .int l2)]) hF dX5_strangeRecords_47 4 rfl rfl (by decide) rfl ?_
    refine s_goto (tgt := 4) hF dX5_strangeRecords_50 rfl ?_
    refine s_sub [2, 3, 4, 0] rfl ?_
    exact hq4 l0 l1 l2 (l3 + (1 : Int32)) _ f0
  · refine s_iload hF dX5_strangeRecords_38 0 rfl ?_
    refine s_iload_n hF dX5_strangeRecords_40 rfl 2 rfl ?_
    refine s_icmp_eq (tgt := 47) hF dX5_strangeRecords_41 rfl (fun c8 => ?_) (fun c8 => ?_)
    · refine s_iinc (v := (l3 + (1 : Int32))) (pls' := [(3, .int (l3 + (1 : Int32))), (4, .int k0), (0, .ref l0), (1, .int l1), (2, .int l2)]) hF dX5_strangeRecords_47 4 rfl rfl (by decide) rfl ?_
      refine s_goto (tgt := 4) hF dX5_strangeRecords_50 rfl ?_
      refine s_sub [2, 3, 4, 0] rfl ?_
      exact hq4 l0 l1 l2 (l3 + (1 : Int32)) _ f0
    · refine s_iinc (v := (l2 + (1 : Int32))) (pls' := [(2, .int (l2 + (1 : Int32))), (4, .int k0), (0, .ref l0), (1, .int l1), (3, .int l3)]) hF dX5_strangeRecords_44 3 rfl rfl (by decide) rfl ?_
      refine s_iinc (v := (l3 + (1 : Int32))) (pls' := [(3, .int (l3 + (1 : Int32))), (2, .int (l2 + (1 : Int32))), (4, .int k0), (0, .ref l0), (1, .int l1)]) hF dX5_strangeRecords_47 4 rfl rfl (by decide) rfl ?_
      refine s_goto (tgt := 4) hF dX5_strangeRecords_50 rfl ?_
      refine s_sub [3, 4, 1, 0] rfl ?_
      exact hq4 l0 l1 (l2 + (1 : Int32)) (l3 + (1 : Int32)) _ f0
theorem sX5_strangeRecords_4 {F : Option Fx} (hF : FxO F RX5 cX5_strangeRecords 5 0) (hD : FxXO F (some .int)) : ∀ (fu : Nat) (l0 : Nat) (l1 : Int32) (l2 : Int32) (l3 : Int32) (μ : Mem) (f0 : isK μ l0 5 = true), Sim F encI 4 [(0, .ref l0), (1, .int l1), (2, .int l2), (3, .int l3)] [] μ (mX5_strangeRecords_4 fu l0 l1 l2 l3 μ) := by
  intro fu
  induction fu with
  | zero =>
    intro l0 l1 l2 l3 μ f0
    exact sim_none
  | succ fu ih =>
    intro l0 l1 l2 l3 μ f0
    rw [mX5_strangeRecords_4]
    refine s_iload_n hF dX5_strangeRecords_4 rfl 3 rfl ?_
    refine s_aload_n hF dX5_strangeRecords_5 rfl 0 rfl ?_
    refine s_getI (x := (g_I μ l0 4)) hF dX5_strangeRecords_6 flX5_40 f0 rfl ?_
    refine s_icmp_ge (tgt := 53) hF dX5_strangeRecords_9 rfl (fun c1 => ?_) (fun c1 => ?_)
    · refine s_iload_n hF dX5_strangeRecords_53 rfl 2 rfl ?_
      exact s_iretX hF hD dX5_strangeRecords_54 rfl
    · refine s_aload_n hF dX5_strangeRecords_12 rfl 0 rfl ?_
      refine sim_gd (fun g2 => ?_)
      refine s_getR (x := (g_R μ l0 7)) hF dX5_strangeRecords_13 flX5_23 f0 g2 rfl ?_
      refine s_iload_n hF dX5_strangeRecords_16 rfl 3 rfl ?_
      refine sim_gd (fun g3 => ?_)
      refine s_baload (x := (g_I μ (g_R μ l0 7) l3.toNatClampNeg)) hF dX5_strangeRecords_17 g3 rfl ?_
      refine s_iconst (v := (2 : Int32)) hF dX5_strangeRecords_18 kI_2 ?_
      refine s_icmp_ne (tgt := 26) hF dX5_strangeRecords_19 rfl (fun c4 => ?_) (fun c4 => ?_)
      · refine s_iconst (v := (1 : Int32)) hF dX5_strangeRecords_22 kI_1 ?_
        refine s_goto (tgt := 27) hF dX5_strangeRecords_23 rfl ?_
        exact sX5_strangeRecords_27 (fun l0 l1 l2 l3 μ => mX5_strangeRecords_4 fu l0 l1 l2 l3 μ) hF hD ih l0 l1 l2 l3 (1 : Int32) _ f0
      · refine s_iconst (v := (0 : Int32)) hF dX5_strangeRecords_26 kI_0 ?_
        exact sX5_strangeRecords_27 (fun l0 l1 l2 l3 μ => mX5_strangeRecords_4 fu l0 l1 l2 l3 μ) hF hD ih l0 l1 l2 l3 (0 : Int32) _ f0
theorem ctX5_strangeRecords  (l0 : Nat) (l1 : Int32) (μ : Mem) : ∀ (r : Int32) (μ' : Mem), LX5_strangeRecords l0 l1 μ = some (r, μ') → CtX yX5_strangeRecords cX5_strangeRecords 5 (some .int) 0 [.ref l0, .int l1] μ (encI r) μ' := by
  refine ct_enterX plX5 (Nat.le_of_ble_eq_true rfl) (fun F hF hD hI => ?_)
  unfold LX5_strangeRecords
  refine sim_gd (fun f0 => ?_)
  refine s_iconst (v := (0 : Int32)) hF dX5_strangeRecords_0 kI_0 ?_
  refine s_istore_n (pls' := [(2, .int (0 : Int32)), (0, .ref l0), (1, .int l1)]) hF dX5_strangeRecords_1 rfl (by decide) rfl ?_
  refine s_iconst (v := (0 : Int32)) hF dX5_strangeRecords_2 kI_0 ?_
  refine s_istore_n (pls' := [(3, .int (0 : Int32)), (2, .int (0 : Int32)), (0, .ref l0), (1, .int l1)]) hF dX5_strangeRecords_3 rfl (by decide) rfl ?_
  refine s_sub [2, 3, 1, 0] rfl ?_
  exact sX5_strangeRecords_4 hF hD 100000 l0 l1 (0 : Int32) (0 : Int32) _ f0
theorem ctX5_isLess  (l0 : Nat) (l1 : Int32) (l2 : Int32) (μ : Mem) : ∀ (r : Int32) (μ' : Mem), LX5_isLess l0 l1 l2 μ = some (r, μ') → CtX yX5_isLess cX5_isLess 3 (some .boolean) 0 [.ref l0, .int l1, .int l2] μ (encI r) μ' := by
  refine ct_enterX plX5 (Nat.le_of_ble_eq_true rfl) (fun F hF hD hI => ?_)
  unfold LX5_isLess
  refine sim_gd (fun f0 => ?_)
  refine s_aload_n hF dX5_isLess_0 rfl 0 rfl ?_
  refine sim_gd (fun g1 => ?_)
  refine s_getR (x := (g_R μ l0 7)) hF dX5_isLess_1 flX5_23 f0 g1 rfl ?_
  refine s_iload_n hF dX5_isLess_4 rfl 1 rfl ?_
  refine sim_gd (fun g2 => ?_)
  refine s_baload (x := (g_I μ (g_R μ l0 7) l1.toNatClampNeg)) hF dX5_isLess_5 g2 rfl ?_
  refine s_aload_n hF dX5_isLess_6 rfl 0 rfl ?_
  refine s_getR (x := (g_R μ l0 7)) hF dX5_isLess_7 flX5_23 f0 g1 rfl ?_
  refine s_iload_n hF dX5_isLess_10 rfl 2 rfl ?_
  refine sim_gd (fun g3 => ?_)
  refine s_baload (x := (g_I μ (g_R μ l0 7) l2.toNatClampNeg)) hF dX5_isLess_11 g3 rfl ?_
  refine s_icmp_eq (tgt := 36) hF dX5_isLess_12 rfl (fun c4 => ?_) (fun c4 => ?_)
  · refine s_aload_n hF dX5_isLess_36 rfl 0 rfl ?_
    refine sim_gd (fun g5 => ?_)
    refine s_getR (x := (g_R μ l0 5)) hF dX5_isLess_37 flX5_15 f0 g5 rfl ?_
    refine s_iload_n hF dX5_isLess_40 rfl 1 rfl ?_
    refine sim_gd (fun g6 => ?_)
    refine s_laload (x := (g_L μ (g_R μ l0 5) l1.toNatClampNeg)) hF dX5_isLess_41 g6 rfl ?_
    refine s_aload_n hF dX5_isLess_42 rfl 0 rfl ?_
    refine s_getR (x := (g_R μ l0 5)) hF dX5_isLess_43 flX5_15 f0 g5 rfl ?_
    refine s_iload_n hF dX5_isLess_46 rfl 2 rfl ?_
    refine sim_gd (fun g7 => ?_)
    refine s_laload (x := (g_L μ (g_R μ l0 5) l2.toNatClampNeg)) hF dX5_isLess_47 g7 rfl ?_
    refine s_lcmp hF dX5_isLess_48 ?_
    refine s_if_lt (tgt := 68) hF dX5_isLess_49 rfl (fun c8 => ?_) (fun c8 => ?_)
    · refine s_iconst (v := (1 : Int32)) hF dX5_isLess_68 kI_1 ?_
      refine s_goto (tgt := 73) hF dX5_isLess_69 rfl ?_
      exact s_zretX hF hD dX5_isLess_73 rfl rfl
    · refine s_aload_n hF dX5_isLess_52 rfl 0 rfl ?_
      refine sim_gd (fun g9 => ?_)
      refine s_getR (x := (g_R μ l0 6)) hF dX5_isLess_53 flX5_19 f0 g9 rfl ?_
      refine s_iload_n hF dX5_isLess_56 rfl 1 rfl ?_
      refine sim_gd (fun g10 => ?_)
      refine s_daload (x := (g_D μ (g_R μ l0 6) l1.toNatClampNeg)) hF dX5_isLess_57 g10 rfl ?_
      refine s_aload_n hF dX5_isLess_58 rfl 0 rfl ?_
      refine s_getR (x := (g_R μ l0 6)) hF dX5_isLess_59 flX5_19 f0 g9 rfl ?_
      refine s_iload_n hF dX5_isLess_62 rfl 2 rfl ?_
      refine sim_gd (fun g11 => ?_)
      refine s_daload (x := (g_D μ (g_R μ l0 6) l2.toNatClampNeg)) hF dX5_isLess_63 g11 rfl ?_
      refine s_dcmpA hF dX5_isLess_64 (al64 _) (al64 _) ?_
      refine s_if_ge (tgt := 72) hF dX5_isLess_65 rfl (fun c12 => ?_) (fun c12 => ?_)
      · refine s_iconst (v := (0 : Int32)) hF dX5_isLess_72 kI_0 ?_
        exact s_zretX hF hD dX5_isLess_73 rfl rfl
      · refine s_iconst (v := (1 : Int32)) hF dX5_isLess_68 kI_1 ?_
        refine s_goto (tgt := 73) hF dX5_isLess_69 rfl ?_
        exact s_zretX hF hD dX5_isLess_73 rfl rfl
  · refine s_aload_n hF dX5_isLess_15 rfl 0 rfl ?_
    refine s_getR (x := (g_R μ l0 7)) hF dX5_isLess_16 flX5_23 f0 g1 rfl ?_
    refine s_iload_n hF dX5_isLess_19 rfl 1 rfl ?_
    refine s_baload (x := (g_I μ (g_R μ l0 7) l1.toNatClampNeg)) hF dX5_isLess_20 g2 rfl ?_
    refine s_aload_n hF dX5_isLess_21 rfl 0 rfl ?_
    refine s_getR (x := (g_R μ l0 7)) hF dX5_isLess_22 flX5_23 f0 g1 rfl ?_
    refine s_iload_n hF dX5_isLess_25 rfl 2 rfl ?_
    refine s_baload (x := (g_I μ (g_R μ l0 7) l2.toNatClampNeg)) hF dX5_isLess_26 g3 rfl ?_
    refine s_icmp_ge (tgt := 34) hF dX5_isLess_27 rfl (fun c13 => ?_) (fun c13 => ?_)
    · refine s_iconst (v := (0 : Int32)) hF dX5_isLess_34 kI_0 ?_
      exact s_zretX hF hD dX5_isLess_35 rfl rfl
    · refine s_iconst (v := (1 : Int32)) hF dX5_isLess_30 kI_1 ?_
      refine s_goto (tgt := 35) hF dX5_isLess_31 rfl ?_
      exact s_zretX hF hD dX5_isLess_35 rfl rfl
theorem sX5_extremePlace_4 {F : Option Fx} (hF : FxO F RX5 cX5_extremePlace 4 1) (hD : FxXO F (some .int)) : ∀ (fu : Nat) (l0 : Nat) (l1 : Int32) (l2 : Int32) (l3 : Int32) (μ : Mem) (f0 : isK μ l0 5 = true), Sim F encI 4 [(0, .ref l0), (1, .int l1), (2, .int l2), (3, .int l3)] [] μ (mX5_extremePlace_4 fu l0 l1 l2 l3 μ) := by
  intro fu
  induction fu with
  | zero =>
    intro l0 l1 l2 l3 μ f0
    exact sim_none
  | succ fu ih =>
    intro l0 l1 l2 l3 μ f0
    rw [mX5_extremePlace_4]
    refine s_iload_n hF dX5_extremePlace_4 rfl 3 rfl ?_
    refine s_aload_n hF dX5_extremePlace_5 rfl 0 rfl ?_
    refine s_getI (x := (g_I μ l0 4)) hF dX5_extremePlace_6 flX5_40 f0 rfl ?_
    refine s_icmp_ge (tgt := 63) hF dX5_extremePlace_9 rfl (fun c1 => ?_) (fun c1 => ?_)
    · refine s_iload_n hF dX5_extremePlace_63 rfl 2 rfl ?_
      exact s_iretX hF hD dX5_extremePlace_64 rfl
    · refine s_aload_n hF dX5_extremePlace_12 rfl 0 rfl ?_
      refine sim_gd (fun g2 => ?_)
      refine s_getR (x := (g_R μ l0 7)) hF dX5_extremePlace_13 flX5_23 f0 g2 rfl ?_
      refine s_iload_n hF dX5_extremePlace_16 rfl 3 rfl ?_
      refine sim_gd (fun g3 => ?_)
      refine s_baload (x := (g_I μ (g_R μ l0 7) l3.toNatClampNeg)) hF dX5_extremePlace_17 g3 rfl ?_
      refine s_iconst (v := (2 : Int32)) hF dX5_extremePlace_18 kI_2 ?_
      refine s_icmp_ne (tgt := 25) hF dX5_extremePlace_19 rfl (fun c4 => ?_) (fun c4 => ?_)
      · refine s_goto (tgt := 57) hF dX5_extremePlace_22 rfl ?_
        refine s_iinc (v := (l3 + (1 : Int32))) (pls' := [(3, .int (l3 + (1 : Int32))), (0, .ref l0), (1, .int l1), (2, .int l2)]) hF dX5_extremePlace_57 3 rfl rfl (by decide) rfl ?_
        refine s_goto (tgt := 4) hF dX5_extremePlace_60 rfl ?_
        refine s_sub [1, 2, 3, 0] rfl ?_
        exact ih l0 l1 l2 (l3 + (1 : Int32)) _ f0
      · refine s_iload_n hF dX5_extremePlace_25 rfl 2 rfl ?_
        refine s_iconst (v := (-1 : Int32)) hF dX5_extremePlace_26 kI_m1 ?_
        refine s_icmp_eq (tgt := 55) hF dX5_extremePlace_27 rfl (fun c5 => ?_) (fun c5 => ?_)
        · refine s_iload_n hF dX5_extremePlace_55 rfl 3 rfl ?_
          refine s_istore_n (pls' := [(2, .int l3), (0, .ref l0), (1, .int l1), (3, .int l3)]) hF dX5_extremePlace_56 rfl (by decide) rfl ?_
          refine s_iinc (v := (l3 + (1 : Int32))) (pls' := [(3, .int (l3 + (1 : Int32))), (2, .int l3), (0, .ref l0), (1, .int l1)]) hF dX5_extremePlace_57 3 rfl rfl (by decide) rfl ?_
          refine s_goto (tgt := 4) hF dX5_extremePlace_60 rfl ?_
          refine s_sub [2, 3, 1, 0] rfl ?_
          exact ih l0 l1 l3 (l3 + (1 : Int32)) _ f0
        · refine s_iload_n hF dX5_extremePlace_30 rfl 1 rfl ?_
          refine s_if_eq (tgt := 46) hF dX5_extremePlace_31 rfl (fun c6 => ?_) (fun c6 => ?_)
          · refine s_aload_n hF dX5_extremePlace_46 rfl 0 rfl ?_
            refine s_iload_n hF dX5_extremePlace_47 rfl 2 rfl ?_
            refine s_iload_n hF dX5_extremePlace_48 rfl 3 rfl ?_
            refine s_xVi (st := []) (ci := 5) [.int l2, .int l3] hF hD dX5_extremePlace_49 cwX5_92 (Nat.le_of_ble_eq_true rfl) (Nat.le_of_ble_eq_true rfl) rfl rfl (Nat.le_of_ble_eq_true rfl) f0 rfl rfl (Nat.le_of_ble_eq_true rfl) (ctX5_isLess l0 l2 l3 _) (fun r7 m8 hl9 hm10 => ?_)
            refine s_if_eq (tgt := 57) hF dX5_extremePlace_52 rfl (fun c13 => ?_) (fun c13 => ?_)
            · refine s_iinc (v := (l3 + (1 : Int32))) (pls' := [(3, .int (l3 + (1 : Int32))), (0, .ref l0), (1, .int l1), (2, .int l2)]) hF dX5_extremePlace_57 3 rfl rfl (by decide) rfl ?_
              refine s_goto (tgt := 4) hF dX5_extremePlace_60 rfl ?_
              refine s_sub [1, 2, 3, 0] rfl ?_
              exact ih l0 l1 l2 (l3 + (1 : Int32)) _ (isK.mo f0 hm10)
            · refine s_iload_n hF dX5_extremePlace_55 rfl 3 rfl ?_
              refine s_istore_n (pls' := [(2, .int l3), (0, .ref l0), (1, .int l1), (3, .int l3)]) hF dX5_extremePlace_56 rfl (by decide) rfl ?_
              refine s_iinc (v := (l3 + (1 : Int32))) (pls' := [(3, .int (l3 + (1 : Int32))), (2, .int l3), (0, .ref l0), (1, .int l1)]) hF dX5_extremePlace_57 3 rfl rfl (by decide) rfl ?_
              refine s_goto (tgt := 4) hF dX5_extremePlace_60 rfl ?_
              refine s_sub [2, 3, 1, 0] rfl ?_
              exact ih l0 l1 l3 (l3 + (1 : Int32)) _ (isK.mo f0 hm10)
          · refine s_aload_n hF dX5_extremePlace_34 rfl 0 rfl ?_
            refine s_iload_n hF dX5_extremePlace_35 rfl 3 rfl ?_
            refine s_iload_n hF dX5_extremePlace_36 rfl 2 rfl ?_
            refine s_xVi (st := []) (ci := 5) [.int l3, .int l2] hF hD dX5_extremePlace_37 cwX5_92 (Nat.le_of_ble_eq_true rfl) (Nat.le_of_ble_eq_true rfl) rfl rfl (Nat.le_of_ble_eq_true rfl) f0 rfl rfl (Nat.le_of_ble_eq_true rfl) (ctX5_isLess l0 l3 l2 _) (fun r14 m15 hl16 hm17 => ?_)
            refine s_if_eq (tgt := 57) hF dX5_extremePlace_40 rfl (fun c20 => ?_) (fun c20 => ?_)
            · refine s_iinc (v := (l3 + (1 : Int32))) (pls' := [(3, .int (l3 + (1 : Int32))), (0, .ref l0), (1, .int l1), (2, .int l2)]) hF dX5_extremePlace_57 3 rfl rfl (by decide) rfl ?_
              refine s_goto (tgt := 4) hF dX5_extremePlace_60 rfl ?_
              refine s_sub [1, 2, 3, 0] rfl ?_
              exact ih l0 l1 l2 (l3 + (1 : Int32)) _ (isK.mo f0 hm17)
            · refine s_goto (tgt := 55) hF dX5_extremePlace_43 rfl ?_
              refine s_iload_n hF dX5_extremePlace_55 rfl 3 rfl ?_
              refine s_istore_n (pls' := [(2, .int l3), (0, .ref l0), (1, .int l1), (3, .int l3)]) hF dX5_extremePlace_56 rfl (by decide) rfl ?_
              refine s_iinc (v := (l3 + (1 : Int32))) (pls' := [(3, .int (l3 + (1 : Int32))), (2, .int l3), (0, .ref l0), (1, .int l1)]) hF dX5_extremePlace_57 3 rfl rfl (by decide) rfl ?_
              refine s_goto (tgt := 4) hF dX5_extremePlace_60 rfl ?_
              refine s_sub [2, 3, 1, 0] rfl ?_
              exact ih l0 l1 l3 (l3 + (1 : Int32)) _ (isK.mo f0 hm17)
theorem ctX5_extremePlace  (l0 : Nat) (l1 : Int32) (μ : Mem) : ∀ (r : Int32) (μ' : Mem), LX5_extremePlace l0 l1 μ = some (r, μ') → CtX yX5_extremePlace cX5_extremePlace 4 (some .int) 1 [.ref l0, .int l1] μ (encI r) μ' := by
  refine ct_enterX plX5 (Nat.le_of_ble_eq_true rfl) (fun F hF hD hI => ?_)
  unfold LX5_extremePlace
  refine sim_gd (fun f0 => ?_)
  refine s_iconst (v := (-1 : Int32)) hF dX5_extremePlace_0 kI_m1 ?_
  refine s_istore_n (pls' := [(2, .int (-1 : Int32)), (0, .ref l0), (1, .int l1)]) hF dX5_extremePlace_1 rfl (by decide) rfl ?_
  refine s_iconst (v := (0 : Int32)) hF dX5_extremePlace_2 kI_0 ?_
  refine s_istore_n (pls' := [(3, .int (0 : Int32)), (2, .int (-1 : Int32)), (0, .ref l0), (1, .int l1)]) hF dX5_extremePlace_3 rfl (by decide) rfl ?_
  refine s_sub [2, 3, 1, 0] rfl ?_
  exact sX5_extremePlace_4 hF hD 100000 l0 l1 (-1 : Int32) (0 : Int32) _ f0
theorem sX5_isLike_45 {F : Option Fx} (hF : FxO F RX5 cX5_isLike 3 2) (hD : FxXO F (some .boolean)) : ∀ (fu : Nat) (l0 : Nat) (l1 : Nat) (l2 : Int32) (μ : Mem) (f0 : isK μ l0 5 = true) (f1 : isK μ l1 5 = true), Sim F encI 45 [(0, .ref l0), (1, .ref l1), (2, .int l2)] [] μ (mX5_isLike_45 fu l0 l1 l2 μ) := by
  intro fu
  induction fu with
  | zero =>
    intro l0 l1 l2 μ f0 f1
    exact sim_none
  | succ fu ih =>
    intro l0 l1 l2 μ f0 f1
    rw [mX5_isLike_45]
    refine s_iload_n hF dX5_isLike_45 rfl 2 rfl ?_
    refine s_aload_n hF dX5_isLike_46 rfl 0 rfl ?_
    refine s_getI (x := (g_I μ l0 4)) hF dX5_isLike_47 flX5_40 f0 rfl ?_
    refine s_icmp_ge (tgt := 74) hF dX5_isLike_50 rfl (fun c5 => ?_) (fun c5 => ?_)
    · refine s_iconst (v := (1 : Int32)) hF dX5_isLike_74 kI_1 ?_
      exact s_zretX hF hD dX5_isLike_75 rfl rfl
    · refine s_aload_n hF dX5_isLike_53 rfl 0 rfl ?_
      refine s_iload_n hF dX5_isLike_54 rfl 2 rfl ?_
      refine s_xVi (st := []) (ci := 5) [.int l2] hF hD dX5_isLike_55 cwX5_96 (Nat.le_of_ble_eq_true rfl) (Nat.le_of_ble_eq_true rfl) rfl rfl (Nat.le_of_ble_eq_true rfl) f0 rfl rfl (Nat.le_of_ble_eq_true rfl) (ctX5_readAt l0 l2 _) (fun r6 m7 hl8 hm9 => ?_)
      refine s_aload_n hF dX5_isLike_58 rfl 1 rfl ?_
      refine s_iload_n hF dX5_isLike_59 rfl 2 rfl ?_
      refine s_xVi (st := [.int r6]) (ci := 5) [.int l2] hF hD dX5_isLike_60 cwX5_96 (Nat.le_of_ble_eq_true rfl) (Nat.le_of_ble_eq_true rfl) rfl rfl (Nat.le_of_ble_eq_true rfl) (isK.mo f1 hm9) rfl rfl (Nat.le_of_ble_eq_true rfl) (ctX5_readAt l1 l2 _) (fun r12 m13 hl14 hm15 => ?_)
      refine s_icmp_eq (tgt := 68) hF dX5_isLike_63 rfl (fun c18 => ?_) (fun c18 => ?_)
      · refine s_iinc (v := (l2 + (1 : Int32))) (pls' := [(2, .int (l2 + (1 : Int32))), (0, .ref l0), (1, .ref l1)]) hF dX5_isLike_68 2 rfl rfl (by decide) rfl ?_
        refine s_goto (tgt := 45) hF dX5_isLike_71 rfl ?_
        refine s_sub [1, 2, 0] rfl ?_
        exact ih l0 l1 (l2 + (1 : Int32)) _ (isK.mo (isK.mo f0 hm9) hm15) (isK.mo (isK.mo f1 hm9) hm15)
      · refine s_iconst (v := (0 : Int32)) hF dX5_isLike_66 kI_0 ?_
        exact s_zretX hF hD dX5_isLike_67 rfl rfl
theorem ctX5_isLike  (l0 : Nat) (l1 : Nat) (μ : Mem) : ∀ (r : Int32) (μ' : Mem), LX5_isLike l0 l1 μ = some (r, μ') → CtX yX5_isLike cX5_isLike 3 (some .boolean) 2 [.ref l0, .ref l1] μ (encI r) μ' := by
  refine ct_enterX plX5 (Nat.le_of_ble_eq_true rfl) (fun F hF hD hI => ?_)
  unfold LX5_isLike
  refine sim_gd (fun f0 => ?_)
  refine sim_gd (fun f1 => ?_)
  refine s_aload_n hF dX5_isLike_0 rfl 0 rfl ?_
  refine s_getI (x := (g_I μ l0 3)) hF dX5_isLike_1 flX5_9 f0 rfl ?_
  refine s_iconst (v := (-1 : Int32)) hF dX5_isLike_4 kI_m1 ?_
  refine s_icmp_eq (tgt := 41) hF dX5_isLike_5 rfl (fun c1 => ?_) (fun c1 => ?_)
  · refine s_iconst (v := (0 : Int32)) hF dX5_isLike_41 kI_0 ?_
    exact s_zretX hF hD dX5_isLike_42 rfl rfl
  · refine s_aload_n hF dX5_isLike_8 rfl 0 rfl ?_
    refine s_getI (x := (g_I μ l0 0)) hF dX5_isLike_9 flX5_27 f0 rfl ?_
    refine s_aload_n hF dX5_isLike_12 rfl 1 rfl ?_
    refine s_getI (x := (g_I μ l1 0)) hF dX5_isLike_13 flX5_27 f1 rfl ?_
    refine s_icmp_ne (tgt := 41) hF dX5_isLike_16 rfl (fun c2 => ?_) (fun c2 => ?_)
    · refine s_aload_n hF dX5_isLike_19 rfl 0 rfl ?_
      refine s_getI (x := (g_I μ l0 3)) hF dX5_isLike_20 flX5_9 f0 rfl ?_
      refine s_aload_n hF dX5_isLike_23 rfl 1 rfl ?_
      refine s_getI (x := (g_I μ l1 3)) hF dX5_isLike_24 flX5_9 f1 rfl ?_
      refine s_icmp_ne (tgt := 41) hF dX5_isLike_27 rfl (fun c3 => ?_) (fun c3 => ?_)
      · refine s_aload_n hF dX5_isLike_30 rfl 0 rfl ?_
        refine s_getI (x := (g_I μ l0 4)) hF dX5_isLike_31 flX5_40 f0 rfl ?_
        refine s_aload_n hF dX5_isLike_34 rfl 1 rfl ?_
        refine s_getI (x := (g_I μ l1 4)) hF dX5_isLike_35 flX5_40 f1 rfl ?_
        refine s_icmp_eq (tgt := 43) hF dX5_isLike_38 rfl (fun c4 => ?_) (fun c4 => ?_)
        · refine s_iconst (v := (0 : Int32)) hF dX5_isLike_43 kI_0 ?_
          refine s_istore_n (pls' := [(2, .int (0 : Int32)), (0, .ref l0), (1, .ref l1)]) hF dX5_isLike_44 rfl (by decide) rfl ?_
          refine s_sub [1, 2, 0] rfl ?_
          exact sX5_isLike_45 hF hD 100000 l0 l1 (0 : Int32) _ f0 f1
        · refine s_iconst (v := (0 : Int32)) hF dX5_isLike_41 kI_0 ?_
          exact s_zretX hF hD dX5_isLike_42 rfl rfl
      · refine s_iconst (v := (0 : Int32)) hF dX5_isLike_41 kI_0 ?_
        exact s_zretX hF hD dX5_isLike_42 rfl rfl
    · refine s_iconst (v := (0 : Int32)) hF dX5_isLike_41 kI_0 ?_
      exact s_zretX hF hD dX5_isLike_42 rfl rfl
theorem ctX6_init  (l0 : Nat) (μ : Mem) : ∀ (r : Unit) (μ' : Mem), LX6_init l0 μ = some (r, μ') → CtX yX6_init cX6_init 1 none 1 [.ref l0] μ (encV r) μ' := by
  refine ct_enterX plX6 (Nat.le_of_ble_eq_true rfl) (fun F hF hD hI => ?_)
  unfold LX6_init
  refine sim_gd (fun f0 => ?_)
  refine s_aload_n hF dX6_init_0 rfl 0 rfl ?_
  refine s_objInit hF dX6_init_1 mlX6_3 obi obc (Nat.le_of_ble_eq_true rfl) (Nat.le_of_ble_eq_true rfl) ?_
  refine s_aload_n hF dX6_init_4 rfl 0 rfl ?_
  refine s_bipush (v := (8 : Int32)) hF dX6_init_5 kB_8 ?_
  refine s_newIN (8) hF dX6_init_7 ac_int (by decide) rfl (Nat.le_of_ble_eq_true rfl) (fun r1 m2 hk3 hm4 => ?_)
  refine s_putRF hF (hI rfl) dX6_init_9 flX6_9 (isK.mo f0 hm4) ((isK_iff.mp hk3).1) ?_
  refine s_aload_n hF dX6_init_12 rfl 0 rfl ?_
  refine s_bipush (v := (8 : Int32)) hF dX6_init_13 kB_8 ?_
  refine s_newIN (8) hF dX6_init_15 ac_int (by decide) rfl (Nat.le_of_ble_eq_true rfl) (fun r5 m6 hk7 hm8 => ?_)
  refine s_putRF hF (hI rfl) dX6_init_17 flX6_15 (isK.mo (isK.mo f0 hm4) hm8) ((isK_iff.mp hk7).1) ?_
  exact s_vretX hF hD dX6_init_20 rfl
theorem sX6_weigh_36 {F : Option Fx} (hF : FxO F RX6 cX6_weigh 4 1) (hD : FxXO F none) (l0 : Nat) (l1 : Int32) (l2 : Int32) (k0 : Int32) (μ : Mem) (f0 : isK μ l0 6 = true) : Sim F encV 36 [(0, .ref l0), (1, .int l1), (2, .int l2)] [.int k0] μ (mX6_weigh_36 l0 l1 l2 k0 μ) := by
  unfold mX6_weigh_36
  refine s_istore_n (pls' := [(3, .int k0), (0, .ref l0), (1, .int l1), (2, .int l2)]) hF dX6_weigh_36 rfl (by decide) rfl ?_
  refine s_iload_n hF dX6_weigh_37 rfl 0 rfl ?_
  refine s_if_eq (tgt := 65) hF dX6_weigh_38 rfl (fun c5 => ?_) (fun c5 => ?_)
  · exact s_vretX hF hD dX6_weigh_65 rfl
  · refine s_aload_n hF dX6_weigh_41 rfl 1 rfl ?_
    refine s_iload_n hF dX6_weigh_42 rfl 2 rfl ?_
    refine s_putI hF dX6_weigh_43 flX6_30 f0 ?_
    refine s_aload_n hF dX6_weigh_46 rfl 1 rfl ?_
    refine s_iload_n hF dX6_weigh_47 rfl 3 rfl ?_
    refine s_putI hF dX6_weigh_48 flX6_33 f0 ?_
    refine s_aload_n hF dX6_weigh_51 rfl 1 rfl ?_
    refine sim_gd (fun g6 => ?_)
    refine s_getR (x := (g_R μ l0 3)) hF dX6_weigh_52 flX6_15 f0 g6 rfl ?_
    refine s_iconst (v := (0 : Int32)) hF dX6_weigh_55 kI_0 ?_
    refine s_aload_n hF dX6_weigh_56 rfl 1 rfl ?_
    refine sim_gd (fun g7 => ?_)
    refine s_getR (x := (g_R μ l0 0)) hF dX6_weigh_57 flX6_9 f0 g7 rfl ?_
    refine s_iconst (v := (0 : Int32)) hF dX6_weigh_60 kI_0 ?_
    refine s_iload_n hF dX6_weigh_61 rfl 2 rfl ?_
    refine sim_gd (fun g8 => ?_)
    refine s_cpI hF dX6_weigh_62 mlX6_72 cp_n cp_s cp_i (Nat.le_of_ble_eq_true rfl) (Nat.le_of_ble_eq_true rfl) g8 ?_
    exact s_vretX hF hD dX6_weigh_65 rfl
theorem ctX6_weigh  (l0 : Nat) (l1 : Int32) (l2 : Int32) (μ : Mem) : ∀ (r : Unit) (μ' : Mem), LX6_weigh l0 l1 l2 μ = some (r, μ') → CtX yX6_weigh cX6_weigh 4 none 1 [.ref l0, .int l1, .int l2] μ (encV r) μ' := by
  refine ct_enterX plX6 (Nat.le_of_ble_eq_true rfl) (fun F hF hD hI => ?_)
  unfold LX6_weigh
  refine sim_gd (fun f0 => ?_)
  refine s_aload_n hF dX6_weigh_0 rfl 0 rfl ?_
  refine s_getI (x := (g_I μ l0 1)) hF dX6_weigh_1 flX6_30 f0 rfl ?_
  refine s_if_eq (tgt := 31) hF dX6_weigh_4 rfl (fun c1 => ?_) (fun c1 => ?_)
  · refine s_iconst (v := (1 : Int32)) hF dX6_weigh_31 kI_1 ?_
    refine s_goto (tgt := 36) hF dX6_weigh_32 rfl ?_
    exact sX6_weigh_36 hF hD l0 l1 l2 (1 : Int32) _ f0
  · refine s_iload_n hF dX6_weigh_7 rfl 2 rfl ?_
    refine s_aload_n hF dX6_weigh_8 rfl 0 rfl ?_
    refine s_getI (x := (g_I μ l0 2)) hF dX6_weigh_9 flX6_33 f0 rfl ?_
    refine s_icmp_lt (tgt := 31) hF dX6_weigh_12 rfl (fun c2 => ?_) (fun c2 => ?_)
    · refine s_iconst (v := (1 : Int32)) hF dX6_weigh_31 kI_1 ?_
      refine s_goto (tgt := 36) hF dX6_weigh_32 rfl ?_
      exact sX6_weigh_36 hF hD l0 l1 l2 (1 : Int32) _ f0
    · refine s_iload_n hF dX6_weigh_15 rfl 2 rfl ?_
      refine s_aload_n hF dX6_weigh_16 rfl 0 rfl ?_
      refine s_getI (x := (g_I μ l0 2)) hF dX6_weigh_17 flX6_33 f0 rfl ?_
      refine s_icmp_ne (tgt := 35) hF dX6_weigh_20 rfl (fun c3 => ?_) (fun c3 => ?_)
      · refine s_iload_n hF dX6_weigh_23 rfl 1 rfl ?_
        refine s_aload_n hF dX6_weigh_24 rfl 0 rfl ?_
        refine s_getI (x := (g_I μ l0 1)) hF dX6_weigh_25 flX6_30 f0 rfl ?_
        refine s_icmp_ge (tgt := 35) hF dX6_weigh_28 rfl (fun c4 => ?_) (fun c4 => ?_)
        · refine s_iconst (v := (0 : Int32)) hF dX6_weigh_35 kI_0 ?_
          exact sX6_weigh_36 hF hD l0 l1 l2 (0 : Int32) _ f0
        · refine s_iconst (v := (1 : Int32)) hF dX6_weigh_31 kI_1 ?_
          refine s_goto (tgt := 36) hF dX6_weigh_32 rfl ?_
          exact sX6_weigh_36 hF hD l0 l1 l2 (1 : Int32) _ f0
      · refine s_iconst (v := (0 : Int32)) hF dX6_weigh_35 kI_0 ?_
        exact sX6_weigh_36 hF hD l0 l1 l2 (0 : Int32) _ f0
theorem sX6_goOn_92 {F : Option Fx} {rec : Nat → Int32 → Int32 → Int32 → Int32 → Int32 → Mem → Option (Unit × Mem)} {w : Nat} (hB : 2 ≤ w) (hrec : ∀ (l0 : Nat) (l1 : Int32) (l2 : Int32) (l3 : Int32) (l4 : Int32) (l5 : Int32) (μ : Mem) (r : Unit) (μ' : Mem), rec l0 l1 l2 l3 l4 l5 μ = some (r, μ') → CtX yX6_goOn cX6_goOn 9 none w [.ref l0, .int l1, .int l2, .int l3, .int l4, .int l5] μ (encV r) μ') (hF : FxO F RX6 cX6_goOn 9 (w + 1)) (hD : FxXO F none) : ∀ (fu : Nat) (l0 : Nat) (l1 : Int32) (l2 : Int32) (l5 : Int32) (l6 : Int32) (l7 : Int32) (l8 : Int32) (μ : Mem) (f0 : isK μ l0 6 = true), Sim F encV 92 [(0, .ref l0), (1, .int l1), (2, .int l2), (5, .int l5), (6, .int l6), (7, .int l7), (8, .int l8)] [] μ (mX6_goOn_92 rec fu l0 l1 l2 l5 l6 l7 l8 μ) := by
  intro fu
  induction fu with
  | zero =>
    intro l0 l1 l2 l5 l6 l7 l8 μ f0
    exact sim_none
  | succ fu ih =>
    intro l0 l1 l2 l5 l6 l7 l8 μ f0
    rw [mX6_goOn_92]
    refine s_iload hF dX6_goOn_92 6 rfl ?_
    refine s_aload_n hF dX6_goOn_94 rfl 0 rfl ?_
    refine sim_gd (fun g43 => ?_)
    refine s_getR (x := (g_R μ l0 5)) hF dX6_goOn_95 flX6_22 f0 g43 rfl ?_
    refine sim_gd (fun g44 => ?_)
    refine s_getIq (x := (g_I μ (g_R μ l0 5) 0)) hF dX6_goOn_98 fqX6_64 g44 rfl ?_
    refine s_icmp_ge (tgt := 148) hF dX6_goOn_101 rfl (fun c45 => ?_) (fun c45 => ?_)
    · exact s_vretX hF hD dX6_goOn_148 rfl
    · refine s_iload hF dX6_goOn_104 5 rfl ?_
      refine s_iload hF dX6_goOn_106 6 rfl ?_
      refine s_ishr hF dX6_goOn_108 ?_
      refine s_iconst (v := (1 : Int32)) hF dX6_goOn_109 kI_1 ?_
      refine s_iand hF dX6_goOn_110 ?_
      refine s_if_ne (tgt := 142) hF dX6_goOn_111 rfl (fun c46 => ?_) (fun c46 => ?_)
      · refine s_aload_n hF dX6_goOn_114 rfl 0 rfl ?_
        refine s_getR (x := (g_R μ l0 5)) hF dX6_goOn_115 flX6_22 f0 g43 rfl ?_
        refine s_iload_n hF dX6_goOn_118 rfl 1 rfl ?_
        refine s_iload hF dX6_goOn_119 6 rfl ?_
        refine s_xVi (st := []) (ci := 3) [.int l1, .int l8] hF hD dX6_goOn_121 cwX6_68 (by omega) (Nat.le_of_ble_eq_true rfl) rfl rfl (Nat.le_of_ble_eq_true rfl) g44 rfl rfl (Nat.le_of_ble_eq_true rfl) (ctX3_isHeardBy (g_R μ l0 5) l1 l8 _) (fun r47 m48 hl49 hm50 => ?_)
        refine s_if_eq (tgt := 142) hF dX6_goOn_124 rfl (fun c53 => ?_) (fun c53 => ?_)
        · refine s_iinc (v := (l8 + (1 : Int32))) (pls' := [(8, .int (l8 + (1 : Int32))), (0, .ref l0), (1, .int l1), (2, .int l2), (5, .int l5), (6, .int l6), (7, .int l7)]) hF dX6_goOn_142 6 rfl rfl (by decide) rfl ?_
          refine s_goto (tgt := 92) hF dX6_goOn_145 rfl ?_
          refine s_sub [1, 2, 3, 4, 5, 6, 0] rfl ?_
          exact ih l0 l1 l2 l5 l6 l7 (l8 + (1 : Int32)) _ (isK.mo f0 hm50)
        · refine s_aload_n hF dX6_goOn_127 rfl 0 rfl ?_
          refine s_iload hF dX6_goOn_128 6 rfl ?_
          refine s_iload_n hF dX6_goOn_130 rfl 2 rfl ?_
          refine s_iconst (v := (1 : Int32)) hF dX6_goOn_131 kI_1 ?_
          refine s_iadd hF dX6_goOn_132 ?_
          refine s_iload hF dX6_goOn_133 5 rfl ?_
          refine s_iload hF dX6_goOn_135 4 rfl ?_
          refine s_iload hF dX6_goOn_137 3 rfl ?_
          refine s_xSv (st := []) [.ref l0, .int l8, .int (l2 + (1 : Int32)), .int l7, .int l6, .int l5] hF hD dX6_goOn_139 cwX6_36 (by omega) (Nat.le_of_ble_eq_true rfl) rfl rfl (Nat.le_of_ble_eq_true rfl) (hrec l0 l8 (l2 + (1 : Int32)) l7 l6 l5 _) (fun r54 m55 hl56 hm57 => ?_)
          refine s_iinc (v := (l8 + (1 : Int32))) (pls' := [(8, .int (l8 + (1 : Int32))), (0, .ref l0), (1, .int l1), (2, .int l2), (5, .int l5), (6, .int l6), (7, .int l7)]) hF dX6_goOn_142 6 rfl rfl (by decide) rfl ?_
          refine s_goto (tgt := 92) hF dX6_goOn_145 rfl ?_
          refine s_sub [1, 2, 3, 4, 5, 6, 0] rfl ?_
          exact ih l0 l1 l2 l5 l6 l7 (l8 + (1 : Int32)) _ (isK.mo (isK.mo f0 hm50) hm57)
      · refine s_iinc (v := (l8 + (1 : Int32))) (pls' := [(8, .int (l8 + (1 : Int32))), (0, .ref l0), (1, .int l1), (2, .int l2), (5, .int l5), (6, .int l6), (7, .int l7)]) hF dX6_goOn_142 6 rfl rfl (by decide) rfl ?_
        refine s_goto (tgt := 92) hF dX6_goOn_145 rfl ?_
        refine s_sub [1, 2, 3, 4, 5, 6, 0] rfl ?_
        exact ih l0 l1 l2 l5 l6 l7 (l8 + (1 : Int32)) _ f0
theorem ctX6_goOn_b {rec : Nat → Int32 → Int32 → Int32 → Int32 → Int32 → Mem → Option (Unit × Mem)} {w : Nat} (hB : 2 ≤ w) (hrec : ∀ (l0 : Nat) (l1 : Int32) (l2 : Int32) (l3 : Int32) (l4 : Int32) (l5 : Int32) (μ : Mem) (r : Unit) (μ' : Mem), rec l0 l1 l2 l3 l4 l5 μ = some (r, μ') → CtX yX6_goOn cX6_goOn 9 none w [.ref l0, .int l1, .int l2, .int l3, .int l4, .int l5] μ (encV r) μ') (l0 : Nat) (l1 : Int32) (l2 : Int32) (l3 : Int32) (l4 : Int32) (l5 : Int32) (μ : Mem) : ∀ (r : Unit) (μ' : Mem), LX6_goOn_b rec l0 l1 l2 l3 l4 l5 μ = some (r, μ') → CtX yX6_goOn cX6_goOn 9 none (w + 1) [.ref l0, .int l1, .int l2, .int l3, .int l4, .int l5] μ (encV r) μ' := by
  refine ct_enterX plX6 (Nat.le_of_ble_eq_true rfl) (fun F hF hD hI => ?_)
  unfold LX6_goOn_b
  refine sim_gd (fun f0 => ?_)
  refine s_iload_n hF dX6_goOn_0 rfl 2 rfl ?_
  refine s_bipush (v := (8 : Int32)) hF dX6_goOn_1 kB_8 ?_
  refine s_icmp_ge (tgt := 35) hF dX6_goOn_3 rfl (fun c1 => ?_) (fun c1 => ?_)
  · exact s_vretX hF hD dX6_goOn_35 rfl
  · refine s_aload_n hF dX6_goOn_6 rfl 0 rfl ?_
    refine sim_if (fun c2 => ?_) (fun c2 => ?_)
    · refine s_getR (x := (g_R μ l0 4)) hF dX6_goOn_7 flX6_18 f0 c2 rfl ?_
      refine s_ifnull_r hF dX6_goOn_10 ?_
      refine s_aload_n hF dX6_goOn_13 rfl 0 rfl ?_
      refine sim_if (fun c3 => ?_) (fun c3 => ?_)
      · refine s_getR (x := (g_R μ l0 5)) hF dX6_goOn_14 flX6_22 f0 c3 rfl ?_
        refine s_ifnull_r hF dX6_goOn_17 ?_
        refine s_aload_n hF dX6_goOn_20 rfl 0 rfl ?_
        refine s_getR (x := (g_R μ l0 4)) hF dX6_goOn_21 flX6_18 f0 c2 rfl ?_
        refine sim_gd (fun g4 => ?_)
        refine sim_gd (fun g5 => ?_)
        refine s_getRq (x := (g_R μ (g_R μ l0 4) 0)) hF dX6_goOn_24 fqX6_40 g4 g5 rfl ?_
        refine s_iload_n hF dX6_goOn_27 rfl 1 rfl ?_
        refine sim_gd (fun g6 => ?_)
        refine sim_gd (fun g7 => ?_)
        refine s_aaload (x := (g_R μ (g_R μ (g_R μ l0 4) 0) l1.toNatClampNeg)) hF dX6_goOn_28 (by decide) (by decide) g6 g7 rfl ?_
        refine sim_gd (fun g14 => ?_)
        refine s_xVi (st := []) (ci := 5) [] hF hD dX6_goOn_29 cwX6_46 (by omega) (Nat.le_of_ble_eq_true rfl) rfl rfl (Nat.le_of_ble_eq_true rfl) g14 rfl rfl (Nat.le_of_ble_eq_true rfl) (ctX5_jams (g_R μ (g_R μ (g_R μ l0 4) 0) l1.toNatClampNeg) _) (fun r8 m9 hl10 hm11 => ?_)
        refine s_if_eq (tgt := 36) hF dX6_goOn_32 rfl (fun c15 => ?_) (fun c15 => ?_)
        · refine s_aload_n hF dX6_goOn_36 rfl 0 rfl ?_
          refine sim_gd (fun g16 => ?_)
          refine s_getR (x := (g_R m9 l0 3)) hF dX6_goOn_37 flX6_15 (isK.mo f0 hm11) g16 rfl ?_
          refine s_iload_n hF dX6_goOn_40 rfl 2 rfl ?_
          refine s_iload_n hF dX6_goOn_41 rfl 1 rfl ?_
          refine sim_gd (fun g17 => ?_)
          refine s_iastore hF dX6_goOn_42 g17 ?_
          refine s_aload_n hF dX6_goOn_43 rfl 0 rfl ?_
          refine sim_gd (fun g18 => ?_)
          refine s_getR (x := (g_R m9 l0 4)) hF dX6_goOn_44 flX6_18 (isK.mo f0 hm11) g18 rfl ?_
          refine sim_gd (fun g19 => ?_)
          refine sim_gd (fun g20 => ?_)
          refine s_getRq (x := (g_R m9 (g_R m9 l0 4) 0)) hF dX6_goOn_47 fqX6_40 g19 g20 rfl ?_
          refine s_iload_n hF dX6_goOn_50 rfl 1 rfl ?_
          refine sim_gd (fun g21 => ?_)
          refine sim_gd (fun g22 => ?_)
          refine s_aaload (x := (g_R m9 (g_R m9 (g_R m9 l0 4) 0) l1.toNatClampNeg)) hF dX6_goOn_51 (by decide) (by decide) g21 g22 rfl ?_
          refine s_iload hF dX6_goOn_52 4 rfl ?_
          refine sim_gd (fun g29 => ?_)
          refine s_xVi (st := []) (ci := 5) [.int l4] hF hD dX6_goOn_54 cwX6_52 (by omega) (Nat.le_of_ble_eq_true rfl) rfl rfl (Nat.le_of_ble_eq_true rfl) g29 rfl rfl (Nat.le_of_ble_eq_true rfl) (ctX5_outOf (g_R m9 (g_R m9 (g_R m9 l0 4) 0) l1.toNatClampNeg) l4 _) (fun r23 m24 hl25 hm26 => ?_)
          refine s_istore (pls' := [(6, .int r23), (0, .ref l0), (1, .int l1), (2, .int l2), (3, .int l3), (4, .int l4), (5, .int l5)]) hF dX6_goOn_57 (by decide) rfl ?_
          refine s_iload_n hF dX6_goOn_59 rfl 2 rfl ?_
          refine s_aload_n hF dX6_goOn_60 rfl 1 rfl ?_
          refine s_getI (x := (g_I m24 l0 6)) hF dX6_goOn_61 flX6_26 (isK.mo (isK.mo f0 hm11) hm26) rfl ?_
          refine s_icmp_ne (tgt := 82) hF dX6_goOn_64 rfl (fun c30 => ?_) (fun c30 => ?_)
          · refine s_aload_n hF dX6_goOn_67 rfl 1 rfl ?_
            refine s_iload_n hF dX6_goOn_68 rfl 3 rfl ?_
            refine s_iconst (v := (1 : Int32)) hF dX6_goOn_69 kI_1 ?_
            refine s_iadd hF dX6_goOn_70 ?_
            refine s_iload hF dX6_goOn_71 6 rfl ?_
            refine s_iload hF dX6_goOn_73 0 rfl ?_
            refine s_xSNi (st := [.int (l2 + (1 : Int32)), .ref l0]) [.int l5, .int r23] hF hD dX6_goOn_75 cwX6_56 (by omega) (Nat.le_of_ble_eq_true rfl) rfl rfl (Nat.le_of_ble_eq_true rfl) (ctX11_distance l5 r23 _) (fun r31 m32 hl33 hm34 => ?_)
            refine s_xVv (st := []) (ci := 6) [.int (l2 + (1 : Int32)), .int r31] hF hD dX6_goOn_78 cwX6_60 (by omega) (Nat.le_of_ble_eq_true rfl) rfl rfl (Nat.le_of_ble_eq_true rfl) (isK.mo (isK.mo (isK.mo f0 hm11) hm26) hm34) rfl rfl (Nat.le_of_ble_eq_true rfl) (ctX6_weigh l0 (l2 + (1 : Int32)) r31 _) (fun r37 m38 hl39 hm40 => ?_)
            exact s_vretX hF hD dX6_goOn_81 rfl
          · refine s_iload_n hF dX6_goOn_82 rfl 4 rfl ?_
            refine s_iconst (v := (1 : Int32)) hF dX6_goOn_83 kI_1 ?_
            refine s_iload_n hF dX6_goOn_84 rfl 2 rfl ?_
            refine s_ishl hF dX6_goOn_85 ?_
            refine s_ior hF dX6_goOn_86 ?_
            refine s_istore (pls' := [(7, .int (l3 ||| ((1 : Int32) <<< (l1 &&& 31)))), (6, .int r23), (0, .ref l0), (1, .int l1), (2, .int l2), (3, .int l3), (4, .int l4), (5, .int l5)]) hF dX6_goOn_87 (by decide) rfl ?_
            refine s_iconst (v := (0 : Int32)) hF dX6_goOn_89 kI_0 ?_
            refine s_istore (pls' := [(8, .int (0 : Int32)), (7, .int (l3 ||| ((1 : Int32) <<< (l1 &&& 31)))), (6, .int r23), (0, .ref l0), (1, .int l1), (2, .int l2), (3, .int l3), (4, .int l4), (5, .int l5)]) hF dX6_goOn_90 (by decide) rfl ?_
            refine s_sub [3, 4, 5, 8, 2, 1, 0] rfl ?_
            exact sX6_goOn_92 hB hrec hF hD 100000 l0 l1 l2 l5 r23 (l3 ||| ((1 : Int32) <<< (l1 &&& 31))) (0 : Int32) _ (isK.mo (isK.mo f0 hm11) hm26)
        · exact s_vretX hF hD dX6_goOn_35 rfl
      · refine s_getN hF dX6_goOn_14 flX6_22 f0 (by omega) ?_
        refine s_ifnull_n (tgt := 35) hF dX6_goOn_17 rfl ?_
        exact s_vretX hF hD dX6_goOn_35 rfl
    · refine s_getN hF dX6_goOn_7 flX6_18 f0 (by omega) ?_
      refine s_ifnull_n (tgt := 35) hF dX6_goOn_10 rfl ?_
      exact s_vretX hF hD dX6_goOn_35 rfl
theorem ctX6_goOn : ∀ (d : Nat) (l0 : Nat) (l1 : Int32) (l2 : Int32) (l3 : Int32) (l4 : Int32) (l5 : Int32) (μ : Mem) (r : Unit) (μ' : Mem), LX6_goOn d l0 l1 l2 l3 l4 l5 μ = some (r, μ') → CtX yX6_goOn cX6_goOn 9 none (2 + 1 * d) [.ref l0, .int l1, .int l2, .int l3, .int l4, .int l5] μ (encV r) μ'
  | 0, _, _, _, _, _, _, _ => fun r μ' h => by cases h
  | d + 1, l0, l1, l2, l3, l4, l5, μ => fun r μ' h => ctX6_goOn_b (Nat.le_add_right _ _) (fun l0 l1 l2 l3 l4 l5 μ r μ' h => ctX6_goOn d l0 l1 l2 l3 l4 l5 μ r μ' h) l0 l1 l2 l3 l4 l5 μ r μ' h
theorem ctX6_search  (l0 : Nat) (l1 : Nat) (l2 : Nat) (l3 : Int32) (l4 : Int32) (l5 : Int32) (μ : Mem) : ∀ (r : Unit) (μ' : Mem), LX6_search l0 l1 l2 l3 l4 l5 μ = some (r, μ') → CtX yX6_search cX6_search 6 none 15 [.ref l0, .ref l1, .ref l2, .int l3, .int l4, .int l5] μ (encV r) μ' := by
  refine ct_enterX plX6 (Nat.le_of_ble_eq_true rfl) (fun F hF hD hI => ?_)
  unfold LX6_search
  refine sim_gd (fun f0 => ?_)
  refine sim_gd (fun f1 => ?_)
  refine sim_gd (fun f2 => ?_)
  refine s_aload_n hF dX6_search_0 rfl 0 rfl ?_
  refine s_aload_n hF dX6_search_1 rfl 1 rfl ?_
  refine s_putR hF dX6_search_2 flX6_18 f0 ((isK_iff.mp f1).1) ?_
  refine s_aload_n hF dX6_search_5 rfl 0 rfl ?_
  refine s_aload_n hF dX6_search_6 rfl 2 rfl ?_
  refine s_putR hF dX6_search_7 flX6_22 f0 ((isK_iff.mp f2).1) ?_
  refine s_aload_n hF dX6_search_10 rfl 0 rfl ?_
  refine s_iload hF dX6_search_11 4 rfl ?_
  refine s_putI hF dX6_search_13 flX6_26 f0 ?_
  refine s_aload_n hF dX6_search_16 rfl 0 rfl ?_
  refine s_iconst (v := (0 : Int32)) hF dX6_search_17 kI_0 ?_
  refine s_putI hF dX6_search_18 flX6_30 f0 ?_
  refine s_aload_n hF dX6_search_21 rfl 0 rfl ?_
  refine s_iconst (v := (0 : Int32)) hF dX6_search_22 kI_0 ?_
  refine s_putI hF dX6_search_23 flX6_33 f0 ?_
  refine s_aload_n hF dX6_search_26 rfl 0 rfl ?_
  refine s_iload_n hF dX6_search_27 rfl 3 rfl ?_
  refine s_iconst (v := (0 : Int32)) hF dX6_search_28 kI_0 ?_
  refine s_iconst (v := (0 : Int32)) hF dX6_search_29 kI_0 ?_
  refine s_iload hF dX6_search_30 5 rfl ?_
  refine s_iload hF dX6_search_32 5 rfl ?_
  refine s_xSv (st := []) [.ref l0, .int l3, .int (0 : Int32), .int (0 : Int32), .int l5, .int l5] hF hD dX6_search_34 cwX6_36 (Nat.le_of_ble_eq_true rfl) (Nat.le_of_ble_eq_true rfl) rfl rfl (Nat.le_of_ble_eq_true rfl) (ctX6_goOn 12 l0 l3 (0 : Int32) (0 : Int32) l5 l5 _) (fun r1 m2 hl3 hm4 => ?_)
  exact s_vretX hF hD dX6_search_37 rfl
theorem ctX7_init  (l0 : Nat) (μ : Mem) : ∀ (r : Unit) (μ' : Mem), LX7_init l0 μ = some (r, μ') → CtX yX7_init cX7_init 1 none 3 [.ref l0] μ (encV r) μ' := by
  refine ct_enterX plX7 (Nat.le_of_ble_eq_true rfl) (fun F hF hD hI => ?_)
  unfold LX7_init
  refine sim_gd (fun f0 => ?_)
  refine s_aload_n hF dX7_init_0 rfl 0 rfl ?_
  refine s_objInit hF dX7_init_1 mlX7_3 obi obc (Nat.le_of_ble_eq_true rfl) (Nat.le_of_ble_eq_true rfl) ?_
  refine s_aload_n hF dX7_init_4 rfl 0 rfl ?_
  refine s_newN hF dX7_init_5 clX7_9 insX8 wnX8 ckX8 (fun r1 m2 hk3 hm4 => ?_)
  refine s_dup hF dX7_init_8 rfl ?_
  refine s_xIv (st := [.ref r1, .ref l0]) [] hF hD dX7_init_9 cwX7_11 (Nat.le_of_ble_eq_true rfl) (Nat.le_of_ble_eq_true rfl) rfl rfl (Nat.le_of_ble_eq_true rfl) (ctX8_init r1 _) (fun r5 m6 hl7 hm8 => ?_)
  refine s_putRF hF (hI rfl) dX7_init_12 flX7_12 (isK.mo (isK.mo f0 hm4) hm8) ((isK_iff.mp (isK.mo hk3 hm8)).1) ?_
  exact s_vretX hF hD dX7_init_15 rfl
theorem ctX7_drawnBy  (l0 : Nat) (l1 : Int32) (μ : Mem) : ∀ (r : Int32) (μ' : Mem), LX7_drawnBy l0 l1 μ = some (r, μ') → CtX yX7_drawnBy cX7_drawnBy 2 (some .int) 0 [.ref l0, .int l1] μ (encI r) μ' := by
  refine ct_enterX plX7 (Nat.le_of_ble_eq_true rfl) (fun F hF hD hI => ?_)
  unfold LX7_drawnBy
  refine sim_gd (fun f0 => ?_)
  refine s_aload_n hF dX7_drawnBy_0 rfl 0 rfl ?_
  refine s_aload_n hF dX7_drawnBy_1 rfl 0 rfl ?_
  refine s_getI (x := (g_I μ l0 1)) hF dX7_drawnBy_2 flX7_29 f0 rfl ?_
  refine s_ldc (v := (1103515245 : Int32)) hF dX7_drawnBy_5 cwX7_65 ?_
  refine s_imul hF dX7_drawnBy_7 ?_
  refine s_sipush (v := (12345 : Int32)) hF dX7_drawnBy_8 kS_12345 ?_
  refine s_iadd hF dX7_drawnBy_11 ?_
  refine s_putI hF dX7_drawnBy_12 flX7_29 f0 ?_
  refine s_iload_n hF dX7_drawnBy_15 rfl 1 rfl ?_
  refine s_if_le (tgt := 35) hF dX7_drawnBy_16 rfl (fun c1 => ?_) (fun c1 => ?_)
  · refine s_iconst (v := (0 : Int32)) hF dX7_drawnBy_35 kI_0 ?_
    exact s_iretX hF hD dX7_drawnBy_36 rfl
  · refine s_aload_n hF dX7_drawnBy_19 rfl 0 rfl ?_
    refine s_getI (x := (g_I (p_I μ l0 1 (((g_I μ l0 1) * (1103515245 : Int32)) + (12345 : Int32))) l0 1)) hF dX7_drawnBy_20 flX7_29 f0 rfl ?_
    refine s_bipush (v := (16 : Int32)) hF dX7_drawnBy_23 kB_16 ?_
    refine s_iushr hF dX7_drawnBy_25 rfl ?_
    refine s_sipush (v := (32767 : Int32)) hF dX7_drawnBy_26 kS_32767 ?_
    refine s_iand hF dX7_drawnBy_29 ?_
    refine s_iload_n hF dX7_drawnBy_30 rfl 1 rfl ?_
    refine sim_gd (fun g2 => ?_)
    refine s_irem hF dX7_drawnBy_31 g2 ?_
    refine s_goto (tgt := 36) hF dX7_drawnBy_32 rfl ?_
    exact s_iretX hF hD dX7_drawnBy_36 rfl
theorem sX8_endDay_2 {F : Option Fx} (hF : FxO F RX8 cX8_endDay 2 2) (hD : FxXO F none) : ∀ (fu : Nat) (l0 : Nat) (l1 : Int32) (μ : Mem) (f0 : isK μ l0 8 = true), Sim F encV 2 [(0, .ref l0), (1, .int l1)] [] μ (mX8_endDay_2 fu l0 l1 μ) := by
  intro fu
  induction fu with
  | zero =>
    intro l0 l1 μ f0
    exact sim_none
  | succ fu ih =>
    intro l0 l1 μ f0
    rw [mX8_endDay_2]
    refine s_iload_n hF dX8_endDay_2 rfl 1 rfl ?_
    refine s_aload_n hF dX8_endDay_3 rfl 0 rfl ?_
    refine s_getI (x := (g_I μ l0 1)) hF dX8_endDay_4 flX8_23 f0 rfl ?_
    refine s_icmp_ge (tgt := 25) hF dX8_endDay_7 rfl (fun c1 => ?_) (fun c1 => ?_)
    · refine s_aload_n hF dX8_endDay_25 rfl 0 rfl ?_
      refine s_dup hF dX8_endDay_26 rfl ?_
      refine s_getI (x := (g_I μ l0 2)) hF dX8_endDay_27 flX8_26 f0 rfl ?_
      refine s_iconst (v := (1 : Int32)) hF dX8_endDay_30 kI_1 ?_
      refine s_iadd hF dX8_endDay_31 ?_
      refine s_putI hF dX8_endDay_32 flX8_26 f0 ?_
      exact s_vretX hF hD dX8_endDay_35 rfl
    · refine s_aload_n hF dX8_endDay_10 rfl 0 rfl ?_
      refine sim_gd (fun g2 => ?_)
      refine s_getR (x := (g_R μ l0 0)) hF dX8_endDay_11 flX8_11 f0 g2 rfl ?_
      refine s_iload_n hF dX8_endDay_14 rfl 1 rfl ?_
      refine sim_gd (fun g3 => ?_)
      refine sim_gd (fun g4 => ?_)
      refine s_aaload (x := (g_R μ (g_R μ l0 0) l1.toNatClampNeg)) hF dX8_endDay_15 (by decide) (by decide) g3 g4 rfl ?_
      refine sim_gd (fun g11 => ?_)
      refine s_xVv (st := []) (ci := 5) [] hF hD dX8_endDay_16 cwX8_80 (Nat.le_of_ble_eq_true rfl) (Nat.le_of_ble_eq_true rfl) rfl rfl (Nat.le_of_ble_eq_true rfl) g11 rfl rfl (Nat.le_of_ble_eq_true rfl) (ctX5_moveUp (g_R μ (g_R μ l0 0) l1.toNatClampNeg) _) (fun r5 m6 hl7 hm8 => ?_)
      refine s_iinc (v := (l1 + (1 : Int32))) (pls' := [(1, .int (l1 + (1 : Int32))), (0, .ref l0)]) hF dX8_endDay_19 1 rfl rfl (by decide) rfl ?_
      refine s_goto (tgt := 2) hF dX8_endDay_22 rfl ?_
      refine s_sub [1, 0] rfl ?_
      exact ih l0 (l1 + (1 : Int32)) _ (isK.mo f0 hm8)
theorem ctX8_endDay  (l0 : Nat) (μ : Mem) : ∀ (r : Unit) (μ' : Mem), LX8_endDay l0 μ = some (r, μ') → CtX yX8_endDay cX8_endDay 2 none 2 [.ref l0] μ (encV r) μ' := by
  refine ct_enterX plX8 (Nat.le_of_ble_eq_true rfl) (fun F hF hD hI => ?_)
  unfold LX8_endDay
  refine sim_gd (fun f0 => ?_)
  refine s_iconst (v := (0 : Int32)) hF dX8_endDay_0 kI_0 ?_
  refine s_istore_n (pls' := [(1, .int (0 : Int32)), (0, .ref l0)]) hF dX8_endDay_1 rfl (by decide) rfl ?_
  refine s_sub [1, 0] rfl ?_
  exact sX8_endDay_2 hF hD 100000 l0 (0 : Int32) _ f0
theorem sX8_write_36 {F : Option Fx} (hF : FxO F RX8 cX8_write 4 4) (hD : FxXO F (some .boolean)) (l0 : Nat) (l1 : Int32) (l2 : Int32) (μ : Mem) (f0 : isK μ l0 8 = true) : Sim F encI 36 [(0, .ref l0), (1, .int l1), (2, .int l2)] [] μ (mX8_write_36 l0 l1 l2 μ) := by
  unfold mX8_write_36
  refine s_aload_n hF dX8_write_36 rfl 0 rfl ?_
  refine sim_gd (fun g19 => ?_)
  refine s_getR (x := (g_R μ l0 0)) hF dX8_write_37 flX8_11 f0 g19 rfl ?_
  refine s_iload_n hF dX8_write_40 rfl 1 rfl ?_
  refine sim_gd (fun g20 => ?_)
  refine sim_gd (fun g21 => ?_)
  refine s_aaload (x := (g_R μ (g_R μ l0 0) l1.toNatClampNeg)) hF dX8_write_41 (by decide) (by decide) g20 g21 rfl ?_
  refine s_iload_n hF dX8_write_42 rfl 2 rfl ?_
  refine sim_gd (fun g28 => ?_)
  refine s_xVv (st := []) (ci := 5) [.int l2] hF hD dX8_write_43 cwX8_69 (Nat.le_of_ble_eq_true rfl) (Nat.le_of_ble_eq_true rfl) rfl rfl (Nat.le_of_ble_eq_true rfl) g28 rfl rfl (Nat.le_of_ble_eq_true rfl) (ctX5_write (g_R μ (g_R μ l0 0) l1.toNatClampNeg) l2 _) (fun r22 m23 hl24 hm25 => ?_)
  refine s_aload_n hF dX8_write_46 rfl 0 rfl ?_
  refine s_dup hF dX8_write_47 rfl ?_
  refine s_getI (x := (g_I m23 l0 4)) hF dX8_write_48 flX8_32 (isK.mo f0 hm25) rfl ?_
  refine s_iconst (v := (1 : Int32)) hF dX8_write_51 kI_1 ?_
  refine s_iadd hF dX8_write_52 ?_
  refine s_putI hF dX8_write_53 flX8_32 (isK.mo f0 hm25) ?_
  refine s_iconst (v := (1 : Int32)) hF dX8_write_56 kI_1 ?_
  exact s_zretX hF hD dX8_write_57 rfl rfl
theorem ctX8_write  (l0 : Nat) (l1 : Int32) (l2 : Int32) (l3 : Nat) (μ : Mem) : ∀ (r : Int32) (μ' : Mem), LX8_write l0 l1 l2 l3 μ = some (r, μ') → CtX yX8_write cX8_write 4 (some .boolean) 4 [.ref l0, .int l1, .int l2, .ref l3] μ (encI r) μ' := by
  refine ct_enterX plX8 (Nat.le_of_ble_eq_true rfl) (fun F hF hD hI => ?_)
  unfold LX8_write
  refine sim_gd (fun f0 => ?_)
  refine sim_gd (fun f3 => ?_)
  refine s_aload_n hF dX8_write_0 rfl 0 rfl ?_
  refine sim_gd (fun g1 => ?_)
  refine s_getR (x := (g_R μ l0 0)) hF dX8_write_1 flX8_11 f0 g1 rfl ?_
  refine s_iload_n hF dX8_write_4 rfl 1 rfl ?_
  refine sim_gd (fun g2 => ?_)
  refine sim_gd (fun g3 => ?_)
  refine s_aaload (x := (g_R μ (g_R μ l0 0) l1.toNatClampNeg)) hF dX8_write_5 (by decide) (by decide) g2 g3 rfl ?_
  refine sim_gd (fun g10 => ?_)
  refine s_xVi (st := []) (ci := 5) [] hF hD dX8_write_6 cwX8_59 (Nat.le_of_ble_eq_true rfl) (Nat.le_of_ble_eq_true rfl) rfl rfl (Nat.le_of_ble_eq_true rfl) g10 rfl rfl (Nat.le_of_ble_eq_true rfl) (ctX5_canWrite (g_R μ (g_R μ l0 0) l1.toNatClampNeg) _) (fun r4 m5 hl6 hm7 => ?_)
  refine s_if_ne (tgt := 14) hF dX8_write_9 rfl (fun c11 => ?_) (fun c11 => ?_)
  · refine s_iconst (v := (0 : Int32)) hF dX8_write_12 kI_0 ?_
    exact s_zretX hF hD dX8_write_13 rfl rfl
  · refine s_aload_n hF dX8_write_14 rfl 3 rfl ?_
    refine s_aload_n hF dX8_write_15 rfl 0 rfl ?_
    refine s_iload_n hF dX8_write_16 rfl 1 rfl ?_
    refine s_iload_n hF dX8_write_17 rfl 2 rfl ?_
    refine s_xVi (st := []) (ci := 4) [.ref l0, .int l1, .int l2] hF hD dX8_write_18 cwX8_63 (Nat.le_of_ble_eq_true rfl) (Nat.le_of_ble_eq_true rfl) rfl rfl (Nat.le_of_ble_eq_true rfl) (isK.mo f3 hm7) rfl rfl (Nat.le_of_ble_eq_true rfl) (ctX4_levelBy l3 l0 l1 l2 _) (fun r12 m13 hl14 hm15 => ?_)
    refine s_bipush (v := (50 : Int32)) hF dX8_write_21 kB_50 ?_
    refine s_icmp_lt (tgt := 36) hF dX8_write_23 rfl (fun c18 => ?_) (fun c18 => ?_)
    · refine s_sub [0, 1, 2] rfl ?_
      exact sX8_write_36 hF hD l0 l1 l2 _ (isK.mo (isK.mo f0 hm7) hm15)
    · refine s_aload_n hF dX8_write_26 rfl 0 rfl ?_
      refine s_dup hF dX8_write_27 rfl ?_
      refine s_getI (x := (g_I m13 l0 3)) hF dX8_write_28 flX8_29 (isK.mo (isK.mo f0 hm7) hm15) rfl ?_
      refine s_iconst (v := (1 : Int32)) hF dX8_write_31 kI_1 ?_
      refine s_iadd hF dX8_write_32 ?_
      refine s_putI hF dX8_write_33 flX8_29 (isK.mo (isK.mo f0 hm7) hm15) ?_
      refine s_sub [0, 1, 2] rfl ?_
      exact sX8_write_36 hF hD l0 l1 l2 _ (isK.mo (isK.mo f0 hm7) hm15)
theorem ctX8_hear  (l0 : Nat) (l1 : Int32) (l2 : Int32) (l3 : Nat) (μ : Mem) : ∀ (r : Int32) (μ' : Mem), LX8_hear l0 l1 l2 l3 μ = some (r, μ') → CtX yX8_hear cX8_hear 5 (some .boolean) 5 [.ref l0, .int l1, .int l2, .ref l3] μ (encI r) μ' := by
  refine ct_enterX plX8 (Nat.le_of_ble_eq_true rfl) (fun F hF hD hI => ?_)
  unfold LX8_hear
  refine sim_gd (fun f0 => ?_)
  refine sim_gd (fun f3 => ?_)
  refine s_aload_n hF dX8_hear_0 rfl 0 rfl ?_
  refine sim_gd (fun g1 => ?_)
  refine s_getR (x := (g_R μ l0 0)) hF dX8_hear_1 flX8_11 f0 g1 rfl ?_
  refine s_iload_n hF dX8_hear_4 rfl 1 rfl ?_
  refine sim_gd (fun g2 => ?_)
  refine sim_gd (fun g3 => ?_)
  refine s_aaload (x := (g_R μ (g_R μ l0 0) l1.toNatClampNeg)) hF dX8_hear_5 (by decide) (by decide) g2 g3 rfl ?_
  refine sim_gd (fun g4 => ?_)
  refine s_astore (pls' := [(4, .ref (g_R μ (g_R μ l0 0) l1.toNatClampNeg)), (0, .ref l0), (1, .int l1), (2, .int l2), (3, .ref l3)]) hF dX8_hear_6 (by decide) rfl ?_
  refine s_aload hF dX8_hear_8 0 rfl ?_
  refine s_getIq (x := (g_I μ (g_R μ (g_R μ l0 0) l1.toNatClampNeg) 4)) hF dX8_hear_10 fqX8_56 g4 rfl ?_
  refine s_if_le (tgt := 41) hF dX8_hear_13 rfl (fun c5 => ?_) (fun c5 => ?_)
  · refine s_iconst (v := (0 : Int32)) hF dX8_hear_41 kI_0 ?_
    exact s_zretX hF hD dX8_hear_42 rfl rfl
  · refine s_aload_n hF dX8_hear_16 rfl 1 rfl ?_
    refine s_iload_n hF dX8_hear_17 rfl 3 rfl ?_
    refine s_aload hF dX8_hear_18 0 rfl ?_
    refine s_aload hF dX8_hear_20 0 rfl ?_
    refine s_getIq (x := (g_I μ (g_R μ (g_R μ l0 0) l1.toNatClampNeg) 4)) hF dX8_hear_22 fqX8_56 g4 rfl ?_
    refine s_iconst (v := (1 : Int32)) hF dX8_hear_25 kI_1 ?_
    refine s_isub hF dX8_hear_26 ?_
    refine s_xVi (st := [.int l2, .ref l0]) (ci := 5) [.int ((g_I μ (g_R μ (g_R μ l0 0) l1.toNatClampNeg) 4) - (1 : Int32))] hF hD dX8_hear_27 cwX8_73 (Nat.le_of_ble_eq_true rfl) (Nat.le_of_ble_eq_true rfl) rfl rfl (Nat.le_of_ble_eq_true rfl) g4 rfl rfl (Nat.le_of_ble_eq_true rfl) (ctX5_readAt (g_R μ (g_R μ l0 0) l1.toNatClampNeg) ((g_I μ (g_R μ (g_R μ l0 0) l1.toNatClampNeg) 4) - (1 : Int32)) _) (fun r6 m7 hl8 hm9 => ?_)
    refine s_aload_n hF dX8_hear_30 rfl 4 rfl ?_
    refine s_xVi (st := []) (ci := 8) [.int l2, .int r6, .ref l3] hF hD dX8_hear_31 cwX8_77 (Nat.le_of_ble_eq_true rfl) (Nat.le_of_ble_eq_true rfl) rfl rfl (Nat.le_of_ble_eq_true rfl) (isK.mo f0 hm9) rfl rfl (Nat.le_of_ble_eq_true rfl) (ctX8_write l0 l2 r6 l3 _) (fun r12 m13 hl14 hm15 => ?_)
    refine s_if_eq (tgt := 41) hF dX8_hear_34 rfl (fun c18 => ?_) (fun c18 => ?_)
    · refine s_iconst (v := (0 : Int32)) hF dX8_hear_41 kI_0 ?_
      exact s_zretX hF hD dX8_hear_42 rfl rfl
    · refine s_iconst (v := (1 : Int32)) hF dX8_hear_37 kI_1 ?_
      refine s_goto (tgt := 42) hF dX8_hear_38 rfl ?_
      exact s_zretX hF hD dX8_hear_42 rfl rfl
theorem sX7_playDay_85 {F : Option Fx} (hF : FxO F RX7 cX7_playDay 5 6) (hD : FxXO F none) (l0 : Nat) (μ : Mem) (f0 : isK μ l0 7 = true) : Sim F encV 85 [(0, .ref l0)] [] μ (mX7_playDay_85 l0 μ) := by
  unfold mX7_playDay_85
  refine s_aload_n hF dX7_playDay_85 rfl 0 rfl ?_
  refine sim_gd (fun g48 => ?_)
  refine s_getR (x := (g_R μ l0 0)) hF dX7_playDay_86 flX7_12 f0 g48 rfl ?_
  refine sim_gd (fun g55 => ?_)
  refine s_xVv (st := []) (ci := 8) [] hF hD dX7_playDay_89 cwX7_62 (Nat.le_of_ble_eq_true rfl) (Nat.le_of_ble_eq_true rfl) rfl rfl (Nat.le_of_ble_eq_true rfl) g55 rfl rfl (Nat.le_of_ble_eq_true rfl) (ctX8_endDay (g_R μ l0 0) _) (fun r49 m50 hl51 hm52 => ?_)
  exact s_vretX hF hD dX7_playDay_92 rfl
theorem sX7_playDay_35 {F : Option Fx} (hF : FxO F RX7 cX7_playDay 5 6) (hD : FxXO F none) (l0 : Nat) (l1 : Nat) (l2 : Nat) (l3 : Int32) (μ : Mem) (f0 : isK μ l0 7 = true) (f1 : isK μ l1 3 = true) (f2 : isK μ l2 4 = true) : Sim F encV 35 [(0, .ref l0), (1, .ref l1), (2, .ref l2), (3, .int l3)] [] μ (mX7_playDay_35 l0 l1 l2 l3 μ) := by
  unfold mX7_playDay_35
  refine s_aload_n hF dX7_playDay_35 rfl 1 rfl ?_
  refine s_getIq (x := (g_I μ l1 4)) hF dX7_playDay_36 fqX7_49 f1 rfl ?_
  refine s_if_le (tgt := 85) hF dX7_playDay_39 rfl (fun c22 => ?_) (fun c22 => ?_)
  · refine s_sub [0] rfl ?_
    exact sX7_playDay_85 hF hD l0 _ f0
  · refine s_aload_n hF dX7_playDay_42 rfl 0 rfl ?_
    refine s_bipush (v := (16 : Int32)) hF dX7_playDay_43 kB_16 ?_
    refine s_xVi (st := []) (ci := 7) [.int (16 : Int32)] hF hD dX7_playDay_45 cwX7_41 (Nat.le_of_ble_eq_true rfl) (Nat.le_of_ble_eq_true rfl) rfl rfl (Nat.le_of_ble_eq_true rfl) f0 rfl rfl (Nat.le_of_ble_eq_true rfl) (ctX7_drawnBy l0 (16 : Int32) _) (fun r23 m24 hl25 hm26 => ?_)
    refine s_iload_n hF dX7_playDay_48 rfl 3 rfl ?_
    refine s_icmp_ge (tgt := 85) hF dX7_playDay_49 rfl (fun c29 => ?_) (fun c29 => ?_)
    · refine s_sub [0] rfl ?_
      exact sX7_playDay_85 hF hD l0 _ (isK.mo f0 hm26)
    · refine s_aload_n hF dX7_playDay_52 rfl 0 rfl ?_
      refine s_aload_n hF dX7_playDay_53 rfl 1 rfl ?_
      refine s_getIq (x := (g_I m24 l1 4)) hF dX7_playDay_54 fqX7_49 (isK.mo f1 hm26) rfl ?_
      refine s_xVi (st := []) (ci := 7) [.int (g_I m24 l1 4)] hF hD dX7_playDay_57 cwX7_41 (Nat.le_of_ble_eq_true rfl) (Nat.le_of_ble_eq_true rfl) rfl rfl (Nat.le_of_ble_eq_true rfl) (isK.mo f0 hm26) rfl rfl (Nat.le_of_ble_eq_true rfl) (ctX7_drawnBy l0 (g_I m24 l1 4) _) (fun r30 m31 hl32 hm33 => ?_)
      refine s_istore (pls' := [(4, .int r30), (0, .ref l0), (1, .ref l1), (2, .ref l2), (3, .int l3)]) hF dX7_playDay_60 (by decide) rfl ?_
      refine s_aload_n hF dX7_playDay_62 rfl 1 rfl ?_
      refine sim_gd (fun g36 => ?_)
      refine s_getR (x := (g_R m31 l0 0)) hF dX7_playDay_63 flX7_12 (isK.mo (isK.mo f0 hm26) hm33) g36 rfl ?_
      refine s_aload_n hF dX7_playDay_66 rfl 2 rfl ?_
      refine sim_gd (fun g37 => ?_)
      refine s_getRq (x := (g_R m31 l1 5)) hF dX7_playDay_67 fqX7_52 (isK.mo (isK.mo f1 hm26) hm33) g37 rfl ?_
      refine s_iload hF dX7_playDay_70 0 rfl ?_
      refine sim_gd (fun g38 => ?_)
      refine s_iaload (x := (g_I m31 (g_R m31 l1 5) r30.toNatClampNeg)) hF dX7_playDay_72 g38 rfl ?_
      refine s_aload_n hF dX7_playDay_73 rfl 2 rfl ?_
      refine sim_gd (fun g39 => ?_)
      refine s_getRq (x := (g_R m31 l1 6)) hF dX7_playDay_74 fqX7_56 (isK.mo (isK.mo f1 hm26) hm33) g39 rfl ?_
      refine s_iload hF dX7_playDay_77 0 rfl ?_
      refine sim_gd (fun g40 => ?_)
      refine s_iaload (x := (g_I m31 (g_R m31 l1 6) r30.toNatClampNeg)) hF dX7_playDay_79 g40 rfl ?_
      refine s_aload_n hF dX7_playDay_80 rfl 3 rfl ?_
      refine sim_gd (fun g47 => ?_)
      refine s_xVi (st := []) (ci := 8) [.int (g_I m31 (g_R m31 l1 5) r30.toNatClampNeg), .int (g_I m31 (g_R m31 l1 6) r30.toNatClampNeg), .ref l2] hF hD dX7_playDay_81 cwX7_59 (Nat.le_of_ble_eq_true rfl) (Nat.le_of_ble_eq_true rfl) rfl rfl (Nat.le_of_ble_eq_true rfl) g47 rfl rfl (Nat.le_of_ble_eq_true rfl) (ctX8_hear (g_R m31 l0 0) (g_I m31 (g_R m31 l1 5) r30.toNatClampNeg) (g_I m31 (g_R m31 l1 6) r30.toNatClampNeg) l2 _) (fun r41 m42 hl43 hm44 => ?_)
      refine s_pop hF dX7_playDay_84 rfl ?_
      refine s_sub [1] rfl ?_
      exact sX7_playDay_85 hF hD l0 _ (isK.mo (isK.mo (isK.mo f0 hm26) hm33) hm44)
theorem ctX7_playDay  (l0 : Nat) (l1 : Nat) (l2 : Nat) (l3 : Int32) (μ : Mem) : ∀ (r : Unit) (μ' : Mem), LX7_playDay l0 l1 l2 l3 μ = some (r, μ') → CtX yX7_playDay cX7_playDay 5 none 6 [.ref l0, .ref l1, .ref l2, .int l3] μ (encV r) μ' := by
  refine ct_enterX plX7 (Nat.le_of_ble_eq_true rfl) (fun F hF hD hI => ?_)
  unfold LX7_playDay
  refine sim_gd (fun f0 => ?_)
  refine sim_gd (fun f1 => ?_)
  refine sim_gd (fun f2 => ?_)
  refine s_aload_n hF dX7_playDay_0 rfl 1 rfl ?_
  refine s_getIq (x := (g_I μ l1 0)) hF dX7_playDay_1 fqX7_36 f1 rfl ?_
  refine s_if_le (tgt := 35) hF dX7_playDay_4 rfl (fun c1 => ?_) (fun c1 => ?_)
  · exact sX7_playDay_35 hF hD l0 l1 l2 l3 _ f0 f1 f2
  · refine s_aload_n hF dX7_playDay_7 rfl 0 rfl ?_
    refine s_aload_n hF dX7_playDay_8 rfl 1 rfl ?_
    refine s_getIq (x := (g_I μ l1 0)) hF dX7_playDay_9 fqX7_36 f1 rfl ?_
    refine s_xVi (st := []) (ci := 7) [.int (g_I μ l1 0)] hF hD dX7_playDay_12 cwX7_41 (Nat.le_of_ble_eq_true rfl) (Nat.le_of_ble_eq_true rfl) rfl rfl (Nat.le_of_ble_eq_true rfl) f0 rfl rfl (Nat.le_of_ble_eq_true rfl) (ctX7_drawnBy l0 (g_I μ l1 0) _) (fun r2 m3 hl4 hm5 => ?_)
    refine s_istore (pls' := [(4, .int r2), (0, .ref l0), (1, .ref l1), (2, .ref l2), (3, .int l3)]) hF dX7_playDay_15 (by decide) rfl ?_
    refine s_aload_n hF dX7_playDay_17 rfl 1 rfl ?_
    refine sim_gd (fun g8 => ?_)
    refine s_getR (x := (g_R m3 l0 0)) hF dX7_playDay_18 flX7_12 (isK.mo f0 hm5) g8 rfl ?_
    refine s_iload hF dX7_playDay_21 0 rfl ?_
    refine s_aload_n hF dX7_playDay_23 rfl 1 rfl ?_
    refine s_sipush (v := (10000 : Int32)) hF dX7_playDay_24 kS_10000 ?_
    refine s_xVi (st := [.int r2, .ref (g_R m3 l0 0)]) (ci := 7) [.int (10000 : Int32)] hF hD dX7_playDay_27 cwX7_41 (Nat.le_of_ble_eq_true rfl) (Nat.le_of_ble_eq_true rfl) rfl rfl (Nat.le_of_ble_eq_true rfl) (isK.mo f0 hm5) rfl rfl (Nat.le_of_ble_eq_true rfl) (ctX7_drawnBy l0 (10000 : Int32) _) (fun r9 m10 hl11 hm12 => ?_)
    refine s_aload_n hF dX7_playDay_30 rfl 3 rfl ?_
    refine sim_gd (fun g21 => ?_)
    refine s_xVi (st := []) (ci := 8) [.int r2, .int r9, .ref l2] hF hD dX7_playDay_31 cwX7_45 (Nat.le_of_ble_eq_true rfl) (Nat.le_of_ble_eq_true rfl) rfl rfl (Nat.le_of_ble_eq_true rfl) g21 rfl rfl (Nat.le_of_ble_eq_true rfl) (ctX8_write (g_R m3 l0 0) r2 r9 l2 _) (fun r15 m16 hl17 hm18 => ?_)
    refine s_pop hF dX7_playDay_34 rfl ?_
    refine s_sub [1, 2, 3, 4] rfl ?_
    exact sX7_playDay_35 hF hD l0 l1 l2 l3 _ (isK.mo (isK.mo (isK.mo f0 hm5) hm12) hm18) (isK.mo (isK.mo (isK.mo f1 hm5) hm12) hm18) (isK.mo (isK.mo (isK.mo f2 hm5) hm12) hm18)
theorem sX7_play_33 {F : Option Fx} (hF : FxO F RX7 cX7_play 8 7) (hD : FxXO F none) : ∀ (fu : Nat) (l0 : Nat) (l2 : Nat) (l3 : Nat) (l5 : Int32) (l6 : Int32) (l7 : Int32) (μ : Mem) (f0 : isK μ l0 7 = true) (f2 : isK μ l2 3 = true) (f3 : isK μ l3 4 = true), Sim F encV 33 [(0, .ref l0), (2, .ref l2), (3, .ref l3), (5, .int l5), (6, .int l6), (7, .int l7)] [] μ (mX7_play_33 fu l0 l2 l3 l5 l6 l7 μ) := by
  intro fu
  induction fu with
  | zero =>
    intro l0 l2 l3 l5 l6 l7 μ f0 f2 f3
    exact sim_none
  | succ fu ih =>
    intro l0 l2 l3 l5 l6 l7 μ f0 f2 f3
    rw [mX7_play_33]
    refine s_iload hF dX7_play_33 5 rfl ?_
    refine s_iload hF dX7_play_35 3 rfl ?_
    refine s_icmp_ge (tgt := 54) hF dX7_play_37 rfl (fun c11 => ?_) (fun c11 => ?_)
    · exact s_vretX hF hD dX7_play_54 rfl
    · refine s_aload_n hF dX7_play_40 rfl 0 rfl ?_
      refine s_aload_n hF dX7_play_41 rfl 1 rfl ?_
      refine s_aload_n hF dX7_play_42 rfl 2 rfl ?_
      refine s_iload hF dX7_play_43 4 rfl ?_
      refine s_xVv (st := []) (ci := 7) [.ref l2, .ref l3, .int l6] hF hD dX7_play_45 cwX7_32 (Nat.le_of_ble_eq_true rfl) (Nat.le_of_ble_eq_true rfl) rfl rfl (Nat.le_of_ble_eq_true rfl) f0 rfl rfl (Nat.le_of_ble_eq_true rfl) (ctX7_playDay l0 l2 l3 l6 _) (fun r12 m13 hl14 hm15 => ?_)
      refine s_iinc (v := (l7 + (1 : Int32))) (pls' := [(7, .int (l7 + (1 : Int32))), (0, .ref l0), (2, .ref l2), (3, .ref l3), (5, .int l5), (6, .int l6)]) hF dX7_play_48 5 rfl rfl (by decide) rfl ?_
      refine s_goto (tgt := 33) hF dX7_play_51 rfl ?_
      refine s_sub [1, 2, 3, 4, 5, 0] rfl ?_
      exact ih l0 l2 l3 l5 l6 (l7 + (1 : Int32)) _ (isK.mo f0 hm15) (isK.mo f2 hm15) (isK.mo f3 hm15)
theorem ctX7_play  (l0 : Nat) (l1 : Nat) (l2 : Nat) (l3 : Nat) (l4 : Int32) (l5 : Int32) (l6 : Int32) (μ : Mem) : ∀ (r : Unit) (μ' : Mem), LX7_play l0 l1 l2 l3 l4 l5 l6 μ = some (r, μ') → CtX yX7_play cX7_play 8 none 7 [.ref l0, .ref l1, .ref l2, .ref l3, .int l4, .int l5, .int l6] μ (encV r) μ' := by
  refine ct_enterX plX7 (Nat.le_of_ble_eq_true rfl) (fun F hF hD hI => ?_)
  unfold LX7_play
  refine sim_gd (fun f0 => ?_)
  refine sim_gd (fun f1 => ?_)
  refine sim_gd (fun f2 => ?_)
  refine sim_gd (fun f3 => ?_)
  refine s_aload_n hF dX7_play_0 rfl 0 rfl ?_
  refine sim_gd (fun g1 => ?_)
  refine s_getR (x := (g_R μ l0 0)) hF dX7_play_1 flX7_12 f0 g1 rfl ?_
  refine s_aload_n hF dX7_play_4 rfl 1 rfl ?_
  refine sim_gd (fun g8 => ?_)
  refine s_xVv (st := []) (ci := 8) [.ref l1] hF hD dX7_play_5 cwX7_18 (Nat.le_of_ble_eq_true rfl) (Nat.le_of_ble_eq_true rfl) rfl rfl (Nat.le_of_ble_eq_true rfl) g8 rfl rfl (Nat.le_of_ble_eq_true rfl) (ctX8_copyFrom (g_R μ l0 0) l1 _) (fun r2 m3 hl4 hm5 => ?_)
  refine s_aload_n hF dX7_play_8 rfl 0 rfl ?_
  refine sim_gd (fun g9 => ?_)
  refine s_getR (x := (g_R m3 l0 0)) hF dX7_play_9 flX7_12 (isK.mo f0 hm5) g9 rfl ?_
  refine s_iconst (v := (0 : Int32)) hF dX7_play_12 kI_0 ?_
  refine sim_gd (fun g10 => ?_)
  refine s_putIq hF dX7_play_13 fqX7_22 g10 ?_
  refine s_aload_n hF dX7_play_16 rfl 0 rfl ?_
  refine s_getR (x := (g_R m3 l0 0)) hF dX7_play_17 flX7_12 (isK.mo f0 hm5) g9 rfl ?_
  refine s_iconst (v := (0 : Int32)) hF dX7_play_20 kI_0 ?_
  refine s_putIq hF dX7_play_21 fqX7_26 g10 ?_
  refine s_aload_n hF dX7_play_24 rfl 0 rfl ?_
  refine s_iload hF dX7_play_25 4 rfl ?_
  refine s_putI hF dX7_play_27 flX7_29 (isK.mo f0 hm5) ?_
  refine s_iconst (v := (0 : Int32)) hF dX7_play_30 kI_0 ?_
  refine s_istore (pls' := [(7, .int (0 : Int32)), (0, .ref l0), (1, .ref l1), (2, .ref l2), (3, .ref l3), (4, .int l4), (5, .int l5), (6, .int l6)]) hF dX7_play_31 (by decide) rfl ?_
  refine s_sub [1, 3, 4, 6, 7, 0] rfl ?_
  exact sX7_play_33 hF hD 100000 l0 l2 l3 l5 l6 (0 : Int32) _ (isK.mo f0 hm5) (isK.mo f2 hm5) (isK.mo f3 hm5)
theorem sX8_begin_25 {F : Option Fx} (hF : FxO F RX8 cX8_begin 3 3) (hD : FxXO F none) : ∀ (fu : Nat) (l0 : Nat) (l1 : Nat) (l2 : Int32) (μ : Mem) (f0 : isK μ l0 8 = true) (f1 : isK μ l1 3 = true), Sim F encV 25 [(0, .ref l0), (1, .ref l1), (2, .int l2)] [] μ (mX8_begin_25 fu l0 l1 l2 μ) := by
  intro fu
  induction fu with
  | zero =>
    intro l0 l1 l2 μ f0 f1
    exact sim_none
  | succ fu ih =>
    intro l0 l1 l2 μ f0 f1
    rw [mX8_begin_25]
    refine s_iload_n hF dX8_begin_25 rfl 2 rfl ?_
    refine s_aload_n hF dX8_begin_26 rfl 0 rfl ?_
    refine s_getI (x := (g_I μ l0 1)) hF dX8_begin_27 flX8_23 f0 rfl ?_
    refine s_icmp_ge (tgt := 70) hF dX8_begin_30 rfl (fun c1 => ?_) (fun c1 => ?_)
    · exact s_vretX hF hD dX8_begin_70 rfl
    · refine s_aload_n hF dX8_begin_33 rfl 0 rfl ?_
      refine sim_gd (fun g2 => ?_)
      refine s_getR (x := (g_R μ l0 0)) hF dX8_begin_34 flX8_11 f0 g2 rfl ?_
      refine s_iload_n hF dX8_begin_37 rfl 2 rfl ?_
      refine sim_gd (fun g3 => ?_)
      refine sim_gd (fun g4 => ?_)
      refine s_aaload (x := (g_R μ (g_R μ l0 0) l2.toNatClampNeg)) hF dX8_begin_38 (by decide) (by decide) g3 g4 rfl ?_
      refine s_aload_n hF dX8_begin_39 rfl 1 rfl ?_
      refine sim_gd (fun g5 => ?_)
      refine s_getRq (x := (g_R μ l1 1)) hF dX8_begin_40 fqX8_35 f1 g5 rfl ?_
      refine s_iload_n hF dX8_begin_43 rfl 2 rfl ?_
      refine sim_gd (fun g6 => ?_)
      refine s_iaload (x := (g_I μ (g_R μ l1 1) l2.toNatClampNeg)) hF dX8_begin_44 g6 rfl ?_
      refine s_aload_n hF dX8_begin_45 rfl 1 rfl ?_
      refine sim_gd (fun g7 => ?_)
      refine s_getRq (x := (g_R μ l1 2)) hF dX8_begin_46 fqX8_39 f1 g7 rfl ?_
      refine s_iload_n hF dX8_begin_49 rfl 2 rfl ?_
      refine sim_gd (fun g8 => ?_)
      refine s_iaload (x := (g_I μ (g_R μ l1 2) l2.toNatClampNeg)) hF dX8_begin_50 g8 rfl ?_
      refine s_aload_n hF dX8_begin_51 rfl 1 rfl ?_
      refine sim_gd (fun g9 => ?_)
      refine s_getRq (x := (g_R μ l1 3)) hF dX8_begin_52 fqX8_42 f1 g9 rfl ?_
      refine s_iload_n hF dX8_begin_55 rfl 2 rfl ?_
      refine sim_gd (fun g10 => ?_)
      refine s_iaload (x := (g_I μ (g_R μ l1 3) l2.toNatClampNeg)) hF dX8_begin_56 g10 rfl ?_
      refine s_aload_n hF dX8_begin_57 rfl 1 rfl ?_
      refine s_getIq (x := (g_I μ l1 7)) hF dX8_begin_58 fqX8_45 f1 rfl ?_
      refine sim_gd (fun g17 => ?_)
      refine s_xVv (st := []) (ci := 5) [.int (g_I μ (g_R μ l1 1) l2.toNatClampNeg), .int (g_I μ (g_R μ l1 2) l2.toNatClampNeg), .int (g_I μ (g_R μ l1 3) l2.toNatClampNeg), .int (g_I μ l1 7)] hF hD dX8_begin_61 cwX8_48 (Nat.le_of_ble_eq_true rfl) (Nat.le_of_ble_eq_true rfl) rfl rfl (Nat.le_of_ble_eq_true rfl) g17 rfl rfl (Nat.le_of_ble_eq_true rfl) (ctX5_begin (g_R μ (g_R μ l0 0) l2.toNatClampNeg) (g_I μ (g_R μ l1 1) l2.toNatClampNeg) (g_I μ (g_R μ l1 2) l2.toNatClampNeg) (g_I μ (g_R μ l1 3) l2.toNatClampNeg) (g_I μ l1 7) _) (fun r11 m12 hl13 hm14 => ?_)
      refine s_iinc (v := (l2 + (1 : Int32))) (pls' := [(2, .int (l2 + (1 : Int32))), (0, .ref l0), (1, .ref l1)]) hF dX8_begin_64 2 rfl rfl (by decide) rfl ?_
      refine s_goto (tgt := 25) hF dX8_begin_67 rfl ?_
      refine s_sub [1, 2, 0] rfl ?_
      exact ih l0 l1 (l2 + (1 : Int32)) _ (isK.mo f0 hm14) (isK.mo f1 hm14)
theorem ctX8_begin  (l0 : Nat) (l1 : Nat) (μ : Mem) : ∀ (r : Unit) (μ' : Mem), LX8_begin l0 l1 μ = some (r, μ') → CtX yX8_begin cX8_begin 3 none 3 [.ref l0, .ref l1] μ (encV r) μ' := by
  refine ct_enterX plX8 (Nat.le_of_ble_eq_true rfl) (fun F hF hD hI => ?_)
  unfold LX8_begin
  refine sim_gd (fun f0 => ?_)
  refine sim_gd (fun f1 => ?_)
  refine s_aload_n hF dX8_begin_0 rfl 0 rfl ?_
  refine s_aload_n hF dX8_begin_1 rfl 1 rfl ?_
  refine s_getIq (x := (g_I μ l1 0)) hF dX8_begin_2 fqX8_18 f1 rfl ?_
  refine s_putI hF dX8_begin_5 flX8_23 f0 ?_
  refine s_aload_n hF dX8_begin_8 rfl 0 rfl ?_
  refine s_iconst (v := (0 : Int32)) hF dX8_begin_9 kI_0 ?_
  refine s_putI hF dX8_begin_10 flX8_26 f0 ?_
  refine s_aload_n hF dX8_begin_13 rfl 0 rfl ?_
  refine s_iconst (v := (0 : Int32)) hF dX8_begin_14 kI_0 ?_
  refine s_putI hF dX8_begin_15 flX8_29 f0 ?_
  refine s_aload_n hF dX8_begin_18 rfl 0 rfl ?_
  refine s_iconst (v := (0 : Int32)) hF dX8_begin_19 kI_0 ?_
  refine s_putI hF dX8_begin_20 flX8_32 f0 ?_
  refine s_iconst (v := (0 : Int32)) hF dX8_begin_23 kI_0 ?_
  refine s_istore_n (pls' := [(2, .int (0 : Int32)), (0, .ref l0), (1, .ref l1)]) hF dX8_begin_24 rfl (by decide) rfl ?_
  refine s_sub [1, 2, 0] rfl ?_
  exact sX8_begin_25 hF hD 100000 l0 l1 (0 : Int32) _ f0 f1
theorem sX8_records_4 {F : Option Fx} (hF : FxO F RX8 cX8_records 3 0) (hD : FxXO F (some .int)) : ∀ (fu : Nat) (l0 : Nat) (l1 : Int32) (l2 : Int32) (μ : Mem) (f0 : isK μ l0 8 = true), Sim F encI 4 [(0, .ref l0), (1, .int l1), (2, .int l2)] [] μ (mX8_records_4 fu l0 l1 l2 μ) := by
  intro fu
  induction fu with
  | zero =>
    intro l0 l1 l2 μ f0
    exact sim_none
  | succ fu ih =>
    intro l0 l1 l2 μ f0
    rw [mX8_records_4]
    refine s_iload_n hF dX8_records_4 rfl 2 rfl ?_
    refine s_aload_n hF dX8_records_5 rfl 0 rfl ?_
    refine s_getI (x := (g_I μ l0 1)) hF dX8_records_6 flX8_23 f0 rfl ?_
    refine s_icmp_ge (tgt := 30) hF dX8_records_9 rfl (fun c1 => ?_) (fun c1 => ?_)
    · refine s_iload_n hF dX8_records_30 rfl 1 rfl ?_
      exact s_iretX hF hD dX8_records_31 rfl
    · refine s_iload_n hF dX8_records_12 rfl 1 rfl ?_
      refine s_aload_n hF dX8_records_13 rfl 0 rfl ?_
      refine sim_gd (fun g2 => ?_)
      refine s_getR (x := (g_R μ l0 0)) hF dX8_records_14 flX8_11 f0 g2 rfl ?_
      refine s_iload_n hF dX8_records_17 rfl 2 rfl ?_
      refine sim_gd (fun g3 => ?_)
      refine sim_gd (fun g4 => ?_)
      refine s_aaload (x := (g_R μ (g_R μ l0 0) l2.toNatClampNeg)) hF dX8_records_18 (by decide) (by decide) g3 g4 rfl ?_
      refine sim_gd (fun g5 => ?_)
      refine s_getIq (x := (g_I μ (g_R μ (g_R μ l0 0) l2.toNatClampNeg) 4)) hF dX8_records_19 fqX8_56 g5 rfl ?_
      refine s_iadd hF dX8_records_22 ?_
      refine s_istore_n (pls' := [(1, .int (l1 + (g_I μ (g_R μ (g_R μ l0 0) l2.toNatClampNeg) 4))), (0, .ref l0), (2, .int l2)]) hF dX8_records_23 rfl (by decide) rfl ?_
      refine s_iinc (v := (l2 + (1 : Int32))) (pls' := [(2, .int (l2 + (1 : Int32))), (1, .int (l1 + (g_I μ (g_R μ (g_R μ l0 0) l2.toNatClampNeg) 4))), (0, .ref l0)]) hF dX8_records_24 2 rfl rfl (by decide) rfl ?_
      refine s_goto (tgt := 4) hF dX8_records_27 rfl ?_
      refine s_sub [2, 1, 0] rfl ?_
      exact ih l0 (l1 + (g_I μ (g_R μ (g_R μ l0 0) l2.toNatClampNeg) 4)) (l2 + (1 : Int32)) _ f0
theorem ctX8_records  (l0 : Nat) (μ : Mem) : ∀ (r : Int32) (μ' : Mem), LX8_records l0 μ = some (r, μ') → CtX yX8_records cX8_records 3 (some .int) 0 [.ref l0] μ (encI r) μ' := by
  refine ct_enterX plX8 (Nat.le_of_ble_eq_true rfl) (fun F hF hD hI => ?_)
  unfold LX8_records
  refine sim_gd (fun f0 => ?_)
  refine s_iconst (v := (0 : Int32)) hF dX8_records_0 kI_0 ?_
  refine s_istore_n (pls' := [(1, .int (0 : Int32)), (0, .ref l0)]) hF dX8_records_1 rfl (by decide) rfl ?_
  refine s_iconst (v := (0 : Int32)) hF dX8_records_2 kI_0 ?_
  refine s_istore_n (pls' := [(2, .int (0 : Int32)), (1, .int (0 : Int32)), (0, .ref l0)]) hF dX8_records_3 rfl (by decide) rfl ?_
  refine s_sub [2, 1, 0] rfl ?_
  exact sX8_records_4 hF hD 100000 l0 (0 : Int32) (0 : Int32) _ f0
theorem ctX9_init  (l0 : Nat) (μ : Mem) : ∀ (r : Unit) (μ' : Mem), LX9_init l0 μ = some (r, μ') → CtX yX9_init cX9_init 1 none 1 [.ref l0] μ (encV r) μ' := by
  refine ct_enterX plX9 (Nat.le_of_ble_eq_true rfl) (fun F hF hD hI => ?_)
  unfold LX9_init
  refine sim_gd (fun f0 => ?_)
  refine s_aload_n hF dX9_init_0 rfl 0 rfl ?_
  refine s_objInit hF dX9_init_1 mlX9_3 obi obc (Nat.le_of_ble_eq_true rfl) (Nat.le_of_ble_eq_true rfl) ?_
  refine s_aload_n hF dX9_init_4 rfl 0 rfl ?_
  refine s_sipush (v := (600 : Int32)) hF dX9_init_5 kS_600 ?_
  refine s_newBN (600) hF dX9_init_8 ac_byte (by decide) rfl (Nat.le_of_ble_eq_true rfl) (fun r1 m2 hk3 hm4 => ?_)
  refine s_putRF hF (hI rfl) dX9_init_10 flX9_9 (isK.mo f0 hm4) ((isK_iff.mp hk3).1) ?_
  refine s_aload_n hF dX9_init_13 rfl 0 rfl ?_
  refine s_iconst (v := (-1 : Int32)) hF dX9_init_14 kI_m1 ?_
  refine s_putI hF dX9_init_15 flX9_15 (isK.mo f0 hm4) ?_
  exact s_vretX hF hD dX9_init_18 rfl
theorem sX9_put_3 {F : Option Fx} (hF : FxO F RX9 cX9_put 3 0) (hD : FxXO F none) : ∀ (fu : Nat) (l0 : Nat) (l1 : Int32) (l2 : Int32) (μ : Mem) (f0 : isK μ l0 9 = true), Sim F encV 3 [(0, .ref l0), (1, .int l1), (2, .int l2)] [] μ (mX9_put_3 fu l0 l1 l2 μ) := by
  intro fu
  induction fu with
  | zero =>
    intro l0 l1 l2 μ f0
    exact sim_none
  | succ fu ih =>
    intro l0 l1 l2 μ f0
    rw [mX9_put_3]
    refine s_iload_n hF dX9_put_3 rfl 2 rfl ?_
    refine s_if_lt (tgt := 46) hF dX9_put_4 rfl (fun c1 => ?_) (fun c1 => ?_)
    · exact s_vretX hF hD dX9_put_46 rfl
    · refine s_aload_n hF dX9_put_7 rfl 0 rfl ?_
      refine s_getI (x := (g_I μ l0 1)) hF dX9_put_8 flX9_19 f0 rfl ?_
      refine s_sipush (v := (600 : Int32)) hF dX9_put_11 kS_600 ?_
      refine s_icmp_ge (tgt := 46) hF dX9_put_14 rfl (fun c2 => ?_) (fun c2 => ?_)
      · exact s_vretX hF hD dX9_put_46 rfl
      · refine s_aload_n hF dX9_put_17 rfl 0 rfl ?_
        refine sim_gd (fun g3 => ?_)
        refine s_getR (x := (g_R μ l0 0)) hF dX9_put_18 flX9_9 f0 g3 rfl ?_
        refine s_aload_n hF dX9_put_21 rfl 0 rfl ?_
        refine s_getI (x := (g_I μ l0 1)) hF dX9_put_22 flX9_19 f0 rfl ?_
        refine s_iload_n hF dX9_put_25 rfl 1 rfl ?_
        refine s_iload_n hF dX9_put_26 rfl 2 rfl ?_
        refine s_ishr hF dX9_put_27 ?_
        refine s_i2b hF dX9_put_28 ?_
        refine sim_gd (fun g4 => ?_)
        refine s_bastore hF dX9_put_29 g4 ?_
        refine s_aload_n hF dX9_put_30 rfl 0 rfl ?_
        refine s_dup hF dX9_put_31 rfl ?_
        refine s_getI (x := (g_I (p_I μ (g_R μ l0 0) (g_I μ l0 1).toNatClampNeg (vp_nar .byte ((l1 >>> (l2 &&& 31)).toInt8.toInt32))) l0 1)) hF dX9_put_32 flX9_19 f0 rfl ?_
        refine s_iconst (v := (1 : Int32)) hF dX9_put_35 kI_1 ?_
        refine s_iadd hF dX9_put_36 ?_
        refine s_putI hF dX9_put_37 flX9_19 f0 ?_
        refine s_iinc (v := (l2 + (-8 : Int32))) (pls' := [(2, .int (l2 + (-8 : Int32))), (0, .ref l0), (1, .int l1)]) hF dX9_put_40 2 rfl rfl (by decide) rfl ?_
        refine s_goto (tgt := 3) hF dX9_put_43 rfl ?_
        refine s_sub [1, 2, 0] rfl ?_
        exact ih l0 l1 (l2 + (-8 : Int32)) _ f0
theorem ctX9_put  (l0 : Nat) (l1 : Int32) (μ : Mem) : ∀ (r : Unit) (μ' : Mem), LX9_put l0 l1 μ = some (r, μ') → CtX yX9_put cX9_put 3 none 0 [.ref l0, .int l1] μ (encV r) μ' := by
  refine ct_enterX plX9 (Nat.le_of_ble_eq_true rfl) (fun F hF hD hI => ?_)
  unfold LX9_put
  refine sim_gd (fun f0 => ?_)
  refine s_bipush (v := (24 : Int32)) hF dX9_put_0 kB_24 ?_
  refine s_istore_n (pls' := [(2, .int (24 : Int32)), (0, .ref l0), (1, .int l1)]) hF dX9_put_2 rfl (by decide) rfl ?_
  refine s_sub [1, 2, 0] rfl ?_
  exact sX9_put_3 hF hD 100000 l0 l1 (24 : Int32) _ f0
theorem ctX9_open  (l0 : Nat) (l1 : Int32) (μ : Mem) : ∀ (r : Unit) (μ' : Mem), LX9_open l0 l1 μ = some (r, μ') → CtX yX9_open cX9_open 2 none 0 [.ref l0, .int l1] μ (encV r) μ' := by
  refine ct_enterX plX9 (Nat.le_of_ble_eq_true rfl) (fun F hF hD hI => ?_)
  unfold LX9_open
  refine sim_gd (fun f0 => ?_)
  refine s_aload_n hF dX9_open_0 rfl 0 rfl ?_
  refine s_iload_n hF dX9_open_1 rfl 1 rfl ?_
  refine s_putI hF dX9_open_2 flX9_22 f0 ?_
  refine s_aload_n hF dX9_open_5 rfl 0 rfl ?_
  refine s_iconst (v := (0 : Int32)) hF dX9_open_6 kI_0 ?_
  refine s_putI hF dX9_open_7 flX9_25 f0 ?_
  refine s_aload_n hF dX9_open_10 rfl 0 rfl ?_
  refine s_iconst (v := (0 : Int32)) hF dX9_open_11 kI_0 ?_
  refine s_putI hF dX9_open_12 flX9_28 f0 ?_
  refine s_aload_n hF dX9_open_15 rfl 0 rfl ?_
  refine s_iconst (v := (0 : Int32)) hF dX9_open_16 kI_0 ?_
  refine s_putI hF dX9_open_17 flX9_19 f0 ?_
  refine s_aload_n hF dX9_open_20 rfl 0 rfl ?_
  refine s_iconst (v := (0 : Int32)) hF dX9_open_21 kI_0 ?_
  refine s_putI hF dX9_open_22 flX9_31 f0 ?_
  refine s_aload_n hF dX9_open_25 rfl 0 rfl ?_
  refine s_iconst (v := (-1 : Int32)) hF dX9_open_26 kI_m1 ?_
  refine s_putI hF dX9_open_27 flX9_15 f0 ?_
  exact s_vretX hF hD dX9_open_30 rfl
theorem ctX9_failed  (l0 : Nat) (μ : Mem) : ∀ (r : Int32) (μ' : Mem), LX9_failed l0 μ = some (r, μ') → CtX yX9_failed cX9_failed 1 (some .boolean) 0 [.ref l0] μ (encI r) μ' := by
  refine ct_enterX plX9 (Nat.le_of_ble_eq_true rfl) (fun F hF hD hI => ?_)
  unfold LX9_failed
  refine sim_gd (fun f0 => ?_)
  refine s_aload_n hF dX9_failed_0 rfl 0 rfl ?_
  refine s_getI (x := (g_I μ l0 2)) hF dX9_failed_1 flX9_31 f0 rfl ?_
  refine s_if_eq (tgt := 11) hF dX9_failed_4 rfl (fun c1 => ?_) (fun c1 => ?_)
  · refine s_iconst (v := (0 : Int32)) hF dX9_failed_11 kI_0 ?_
    exact s_zretX hF hD dX9_failed_12 rfl rfl
  · refine s_iconst (v := (1 : Int32)) hF dX9_failed_7 kI_1 ?_
    refine s_goto (tgt := 12) hF dX9_failed_8 rfl ?_
    exact s_zretX hF hD dX9_failed_12 rfl rfl
theorem ctX10_init  (l0 : Nat) (μ : Mem) : ∀ (r : Unit) (μ' : Mem), LX10_init l0 μ = some (r, μ') → CtX yX10_init cX10_init 1 none 1 [.ref l0] μ (encV r) μ' := by
  refine ct_enterX plX10 (Nat.le_of_ble_eq_true rfl) (fun F hF hD hI => ?_)
  unfold LX10_init
  refine sim_gd (fun f0 => ?_)
  refine s_aload_n hF dX10_init_0 rfl 0 rfl ?_
  refine s_objInit hF dX10_init_1 mlX10_3 obi obc (Nat.le_of_ble_eq_true rfl) (Nat.le_of_ble_eq_true rfl) ?_
  refine s_aload_n hF dX10_init_4 rfl 0 rfl ?_
  refine s_bipush (v := (37 : Int32)) hF dX10_init_5 kB_37 ?_
  refine s_newIN (37) hF dX10_init_7 ac_int (by decide) rfl (Nat.le_of_ble_eq_true rfl) (fun r1 m2 hk3 hm4 => ?_)
  refine s_putRF hF (hI rfl) dX10_init_9 flX10_11 (isK.mo f0 hm4) ((isK_iff.mp hk3).1) ?_
  refine s_aload_n hF dX10_init_12 rfl 0 rfl ?_
  refine s_bipush (v := (37 : Int32)) hF dX10_init_13 kB_37 ?_
  refine s_newIN (37) hF dX10_init_15 ac_int (by decide) rfl (Nat.le_of_ble_eq_true rfl) (fun r5 m6 hk7 hm8 => ?_)
  refine s_putRF hF (hI rfl) dX10_init_17 flX10_15 (isK.mo (isK.mo f0 hm4) hm8) ((isK_iff.mp hk7).1) ?_
  refine s_aload_n hF dX10_init_20 rfl 0 rfl ?_
  refine s_bipush (v := (37 : Int32)) hF dX10_init_21 kB_37 ?_
  refine s_newIN (37) hF dX10_init_23 ac_int (by decide) rfl (Nat.le_of_ble_eq_true rfl) (fun r9 m10 hk11 hm12 => ?_)
  refine s_putRF hF (hI rfl) dX10_init_25 flX10_18 (isK.mo (isK.mo (isK.mo f0 hm4) hm8) hm12) ((isK_iff.mp hk11).1) ?_
  refine s_aload_n hF dX10_init_28 rfl 0 rfl ?_
  refine s_bipush (v := (37 : Int32)) hF dX10_init_29 kB_37 ?_
  refine s_newIN (37) hF dX10_init_31 ac_int (by decide) rfl (Nat.le_of_ble_eq_true rfl) (fun r13 m14 hk15 hm16 => ?_)
  refine s_putRF hF (hI rfl) dX10_init_33 flX10_21 (isK.mo (isK.mo (isK.mo (isK.mo f0 hm4) hm8) hm12) hm16) ((isK_iff.mp hk15).1) ?_
  refine s_aload_n hF dX10_init_36 rfl 0 rfl ?_
  refine s_bipush (v := (37 : Int32)) hF dX10_init_37 kB_37 ?_
  refine s_newIN (37) hF dX10_init_39 ac_int (by decide) rfl (Nat.le_of_ble_eq_true rfl) (fun r17 m18 hk19 hm20 => ?_)
  refine s_putRF hF (hI rfl) dX10_init_41 flX10_24 (isK.mo (isK.mo (isK.mo (isK.mo (isK.mo f0 hm4) hm8) hm12) hm16) hm20) ((isK_iff.mp hk19).1) ?_
  exact s_vretX hF hD dX10_init_44 rfl
theorem ctX10_firstMost  (l0 : Int32) (l1 : Nat) (μ : Mem) : ∀ (r : Int32) (μ' : Mem), LX10_firstMost l0 l1 μ = some (r, μ') → CtX yX10_firstMost cX10_firstMost 2 (some .int) 0 [.int l0, .ref l1] μ (encI r) μ' := by
  refine ct_enterX plX10 (Nat.le_of_ble_eq_true rfl) (fun F hF hD hI => ?_)
  unfold LX10_firstMost
  refine sim_gd (fun f1 => ?_)
  refine s_iload_n hF dX10_firstMost_0 rfl 0 rfl ?_
  refine sim_if (fun c1 => ?_) (fun c1 => ?_)
  · refine s_lkp (off := 41) (tgt := 42) hF dX10_firstMost_1 (by decide) (by rw [c1]; decide) rfl ?_
    refine s_aload_n hF dX10_firstMost_42 rfl 1 rfl ?_
    refine s_getIq (x := (g_I μ l1 4)) hF dX10_firstMost_43 fqX10_86 f1 rfl ?_
    refine s_iconst (v := (1 : Int32)) hF dX10_firstMost_46 kI_1 ?_
    refine s_isub hF dX10_firstMost_47 ?_
    exact s_iretX hF hD dX10_firstMost_48 rfl
  · refine sim_if (fun c2 => ?_) (fun c2 => ?_)
    · refine s_lkp (off := 35) (tgt := 36) hF dX10_firstMost_1 (by decide) (by rw [c2]; decide) rfl ?_
      refine s_bipush (v := (-2 : Int32)) hF dX10_firstMost_36 kB_m2 ?_
      exact s_iretX hF hD dX10_firstMost_38 rfl
    · refine sim_if (fun c3 => ?_) (fun c3 => ?_)
      · refine s_lkp (off := 38) (tgt := 39) hF dX10_firstMost_1 (by decide) (by rw [c3]; decide) rfl ?_
        refine s_bipush (v := (60 : Int32)) hF dX10_firstMost_39 kB_60 ?_
        exact s_iretX hF hD dX10_firstMost_41 rfl
      · refine s_lkp (off := 48) (tgt := 49) hF dX10_firstMost_1 (by decide) (by have e0 := i32_ne c1 (k := (2 : Int32)) (n := 2) rfl; have e1 := i32_ne c2 (k := (8 : Int32)) (n := 8) rfl; have e2 := i32_ne c3 (k := (9 : Int32)) (n := 9) rfl; simp [Op.lookupswitch.offset, e0, Ne.symm e0, e1, Ne.symm e1, e2, Ne.symm e2]) rfl ?_
        refine s_aload_n hF dX10_firstMost_49 rfl 1 rfl ?_
        refine s_getIq (x := (g_I μ l1 0)) hF dX10_firstMost_50 fqX10_91 f1 rfl ?_
        refine s_iconst (v := (1 : Int32)) hF dX10_firstMost_53 kI_1 ?_
        refine s_isub hF dX10_firstMost_54 ?_
        exact s_iretX hF hD dX10_firstMost_55 rfl
theorem ctX10_operand  (l0 : Nat) (l1 : Int32) (μ : Mem) : ∀ (r : Int32) (μ' : Mem), LX10_operand l0 l1 μ = some (r, μ') → CtX yX10_operand cX10_operand 2 (some .int) 3 [.ref l0, .int l1] μ (encI r) μ' := by
  refine ct_enterX plX10 (Nat.le_of_ble_eq_true rfl) (fun F hF hD hI => ?_)
  unfold LX10_operand
  refine sim_gd (fun f0 => ?_)
  refine s_iload_n hF dX10_operand_0 rfl 1 rfl ?_
  refine s_bipush (v := (-2 : Int32)) hF dX10_operand_1 kB_m2 ?_
  refine s_icmp_ne (tgt := 10) hF dX10_operand_3 rfl (fun c1 => ?_) (fun c1 => ?_)
  · refine s_iconst (v := (0 : Int32)) hF dX10_operand_6 kI_0 ?_
    refine s_goto (tgt := 15) hF dX10_operand_7 rfl ?_
    exact s_iretX hF hD dX10_operand_15 rfl
  · refine s_aload_n hF dX10_operand_10 rfl 0 rfl ?_
    refine s_iload_n hF dX10_operand_11 rfl 1 rfl ?_
    refine s_xVi (st := []) (ci := 9) [.int l1] hF hD dX10_operand_12 cwX10_83 (Nat.le_of_ble_eq_true rfl) (Nat.le_of_ble_eq_true rfl) rfl rfl (Nat.le_of_ble_eq_true rfl) f0 rfl rfl (Nat.le_of_ble_eq_true rfl) (ctX9_number l0 l1 _) (fun r2 m3 hl4 hm5 => ?_)
    exact s_iretX hF hD dX10_operand_15 rfl
theorem ctX10_secondMost  (l0 : Int32) (l1 : Nat) (μ : Mem) : ∀ (r : Int32) (μ' : Mem), LX10_secondMost l0 l1 μ = some (r, μ') → CtX yX10_secondMost cX10_secondMost 2 (some .int) 0 [.int l0, .ref l1] μ (encI r) μ' := by
  refine ct_enterX plX10 (Nat.le_of_ble_eq_true rfl) (fun F hF hD hI => ?_)
  unfold LX10_secondMost
  refine sim_gd (fun f1 => ?_)
  refine s_iload_n hF dX10_secondMost_0 rfl 0 rfl ?_
  refine sim_if (fun c1 => ?_) (fun c1 => ?_)
  · refine s_tin (v := (0 : Int32)) (tgt := 48) hF dX10_secondMost_1 c1 (by decide) (by decide) rfl rfl ?_
    refine s_ldc (v := (99999999 : Int32)) hF dX10_secondMost_48 cwX10_94 ?_
    exact s_iretX hF hD dX10_secondMost_50 rfl
  · refine sim_if (fun c2 => ?_) (fun c2 => ?_)
    · refine s_tin (v := (1 : Int32)) (tgt := 48) hF dX10_secondMost_1 c2 (by decide) (by decide) rfl rfl ?_
      refine s_ldc (v := (99999999 : Int32)) hF dX10_secondMost_48 cwX10_94 ?_
      exact s_iretX hF hD dX10_secondMost_50 rfl
    · refine sim_if (fun c3 => ?_) (fun c3 => ?_)
      · refine s_tin (v := (2 : Int32)) (tgt := 64) hF dX10_secondMost_1 c3 (by decide) (by decide) rfl rfl ?_
        refine s_bipush (v := (-2 : Int32)) hF dX10_secondMost_64 kB_m2 ?_
        exact s_iretX hF hD dX10_secondMost_66 rfl
      · refine sim_if (fun c4 => ?_) (fun c4 => ?_)
        · refine s_tin (v := (3 : Int32)) (tgt := 64) hF dX10_secondMost_1 c4 (by decide) (by decide) rfl rfl ?_
          refine s_bipush (v := (-2 : Int32)) hF dX10_secondMost_64 kB_m2 ?_
          exact s_iretX hF hD dX10_secondMost_66 rfl
        · refine sim_if (fun c5 => ?_) (fun c5 => ?_)
          · refine s_tin (v := (4 : Int32)) (tgt := 64) hF dX10_secondMost_1 c5 (by decide) (by decide) rfl rfl ?_
            refine s_bipush (v := (-2 : Int32)) hF dX10_secondMost_64 kB_m2 ?_
            exact s_iretX hF hD dX10_secondMost_66 rfl
          · refine sim_if (fun c6 => ?_) (fun c6 => ?_)
            · refine s_tin (v := (5 : Int32)) (tgt := 51) hF dX10_secondMost_1 c6 (by decide) (by decide) rfl rfl ?_
              refine s_bipush (v := (24 : Int32)) hF dX10_secondMost_51 kB_24 ?_
              exact s_iretX hF hD dX10_secondMost_53 rfl
            · refine sim_if (fun c7 => ?_) (fun c7 => ?_)
              · refine s_tin (v := (6 : Int32)) (tgt := 54) hF dX10_secondMost_1 c7 (by decide) (by decide) rfl rfl ?_
                refine s_aload_n hF dX10_secondMost_54 rfl 1 rfl ?_
                refine s_getIq (x := (g_I μ l1 0)) hF dX10_secondMost_55 fqX10_91 f1 rfl ?_
                refine s_iconst (v := (1 : Int32)) hF dX10_secondMost_58 kI_1 ?_
                refine s_isub hF dX10_secondMost_59 ?_
                exact s_iretX hF hD dX10_secondMost_60 rfl
              · refine sim_if (fun c8 => ?_) (fun c8 => ?_)
                · refine s_tin (v := (7 : Int32)) (tgt := 61) hF dX10_secondMost_1 c8 (by decide) (by decide) rfl rfl ?_
                  refine s_bipush (v := (99 : Int32)) hF dX10_secondMost_61 kB_99 ?_
                  exact s_iretX hF hD dX10_secondMost_63 rfl
                · refine s_tout (tgt := 64) hF dX10_secondMost_1 (by have e0 := i32_ne c1 (k := (0 : Int32)) (n := 0) rfl; have e1 := i32_ne c2 (k := (1 : Int32)) (n := 1) rfl; have e2 := i32_ne c3 (k := (2 : Int32)) (n := 2) rfl; have e3 := i32_ne c4 (k := (3 : Int32)) (n := 3) rfl; have e4 := i32_ne c5 (k := (4 : Int32)) (n := 4) rfl; have e5 := i32_ne c6 (k := (5 : Int32)) (n := 5) rfl; have e6 := i32_ne c7 (k := (6 : Int32)) (n := 6) rfl; have e7 := i32_ne c8 (k := (7 : Int32)) (n := 7) rfl; omega) rfl ?_
                  refine s_bipush (v := (-2 : Int32)) hF dX10_secondMost_64 kB_m2 ?_
                  exact s_iretX hF hD dX10_secondMost_66 rfl
theorem ctX10_thirdMost  (l0 : Int32) (μ : Mem) : ∀ (r : Int32) (μ' : Mem), LX10_thirdMost l0 μ = some (r, μ') → CtX yX10_thirdMost cX10_thirdMost 1 (some .int) 0 [.int l0] μ (encI r) μ' := by
  refine ct_enterX plX10 (Nat.le_of_ble_eq_true rfl) (fun F hF hD hI => ?_)
  unfold LX10_thirdMost
  refine s_iload_n hF dX10_thirdMost_0 rfl 0 rfl ?_
  refine sim_if (fun c1 => ?_) (fun c1 => ?_)
  · refine s_tin (v := (5 : Int32)) (tgt := 28) hF dX10_thirdMost_1 c1 (by decide) (by decide) rfl rfl ?_
    refine s_bipush (v := (24 : Int32)) hF dX10_thirdMost_28 kB_24 ?_
    exact s_iretX hF hD dX10_thirdMost_30 rfl
  · refine sim_if (fun c2 => ?_) (fun c2 => ?_)
    · refine s_tin (v := (6 : Int32)) (tgt := 28) hF dX10_thirdMost_1 c2 (by decide) (by decide) rfl rfl ?_
      refine s_bipush (v := (24 : Int32)) hF dX10_thirdMost_28 kB_24 ?_
      exact s_iretX hF hD dX10_thirdMost_30 rfl
    · refine sim_if (fun c3 => ?_) (fun c3 => ?_)
      · refine s_tin (v := (7 : Int32)) (tgt := 31) hF dX10_thirdMost_1 c3 (by decide) (by decide) rfl rfl ?_
        refine s_bipush (v := (99 : Int32)) hF dX10_thirdMost_31 kB_99 ?_
        exact s_iretX hF hD dX10_thirdMost_33 rfl
      · refine s_tout (tgt := 34) hF dX10_thirdMost_1 (by have e0 := i32_ne c1 (k := (5 : Int32)) (n := 5) rfl; have e1 := i32_ne c2 (k := (6 : Int32)) (n := 6) rfl; have e2 := i32_ne c3 (k := (7 : Int32)) (n := 7) rfl; omega) rfl ?_
        refine s_bipush (v := (-2 : Int32)) hF dX10_thirdMost_34 kB_m2 ?_
        exact s_iretX hF hD dX10_thirdMost_36 rfl
theorem sX10_parseStep_162 {F : Option Fx} {rec : Nat → Nat → Nat → Int32 → Mem → Option (Unit × Mem)} {w : Nat} (hB : 6 ≤ w) (hrec : ∀ (l0 : Nat) (l1 : Nat) (l2 : Nat) (l3 : Int32) (μ : Mem) (r : Unit) (μ' : Mem), rec l0 l1 l2 l3 μ = some (r, μ') → CtX yX10_parseSteps cX10_parseSteps 5 none w [.ref l0, .ref l1, .ref l2, .int l3] μ (encV r) μ') (hF : FxO F RX10 cX10_parseStep 9 (w + 1)) (hD : FxXO F none) (l0 : Nat) (l1 : Nat) (l8 : Int32) (μ : Mem) (f0 : isK μ l0 10 = true) (f1 : isK μ l1 9 = true) : Sim F encV 162 [(0, .ref l0), (1, .ref l1), (8, .int l8)] [] μ (mX10_parseStep_162 rec l0 l1 l8 μ) := by
  unfold mX10_parseStep_162
  refine s_aload_n hF dX10_parseStep_162 rfl 0 rfl ?_
  refine sim_gd (fun g86 => ?_)
  refine s_getR (x := (g_R μ l0 4)) hF dX10_parseStep_163 flX10_24 f0 g86 rfl ?_
  refine s_iload hF dX10_parseStep_166 2 rfl ?_
  refine s_aload_n hF dX10_parseStep_168 rfl 0 rfl ?_
  refine s_getI (x := (g_I μ l0 5)) hF dX10_parseStep_169 flX10_27 f0 rfl ?_
  refine sim_gd (fun g87 => ?_)
  refine s_iastore hF dX10_parseStep_172 g87 ?_
  refine s_aload_n hF dX10_parseStep_173 rfl 1 rfl ?_
  refine s_bipush (v := (59 : Int32)) hF dX10_parseStep_174 kB_59 ?_
  refine s_xVv (st := []) (ci := 9) [.int (59 : Int32)] hF hD dX10_parseStep_176 cwX10_79 (by omega) (Nat.le_of_ble_eq_true rfl) rfl rfl (Nat.le_of_ble_eq_true rfl) f1 rfl rfl (Nat.le_of_ble_eq_true rfl) (ctX9_need l1 (59 : Int32) _) (fun r88 m89 hl90 hm91 => ?_)
  exact s_vretX hF hD dX10_parseStep_179 rfl
theorem sX10_parseStep_30 {F : Option Fx} {rec : Nat → Nat → Nat → Int32 → Mem → Option (Unit × Mem)} {w : Nat} (hB : 6 ≤ w) (hrec : ∀ (l0 : Nat) (l1 : Nat) (l2 : Nat) (l3 : Int32) (μ : Mem) (r : Unit) (μ' : Mem), rec l0 l1 l2 l3 μ = some (r, μ') → CtX yX10_parseSteps cX10_parseSteps 5 none w [.ref l0, .ref l1, .ref l2, .int l3] μ (encV r) μ') (hF : FxO F RX10 cX10_parseStep 9 (w + 1)) (hD : FxXO F none) (l0 : Nat) (l1 : Nat) (l2 : Nat) (l3 : Int32) (l4 : Int32) (μ : Mem) (f0 : isK μ l0 10 = true) (f1 : isK μ l1 9 = true) (f2 : isK μ l2 3 = true) : Sim F encV 30 [(0, .ref l0), (1, .ref l1), (2, .ref l2), (3, .int l3), (4, .int l4)] [] μ (mX10_parseStep_30 rec l0 l1 l2 l3 l4 μ) := by
  unfold mX10_parseStep_30
  refine s_aload_n hF dX10_parseStep_30 rfl 1 rfl ?_
  refine s_iload hF dX10_parseStep_31 4 rfl ?_
  refine s_aload_n hF dX10_parseStep_33 rfl 2 rfl ?_
  refine s_xSi (st := [.ref l1]) [.int l4, .ref l2] hF hD dX10_parseStep_34 cwX10_61 (by omega) (Nat.le_of_ble_eq_true rfl) rfl rfl (Nat.le_of_ble_eq_true rfl) (ctX10_firstMost l4 l2 _) (fun r15 m16 hl17 hm18 => ?_)
  refine s_xSi (st := []) [.ref l1, .int r15] hF hD dX10_parseStep_37 cwX10_65 (by omega) (Nat.le_of_ble_eq_true rfl) rfl rfl (Nat.le_of_ble_eq_true rfl) (ctX10_operand l1 r15 _) (fun r21 m22 hl23 hm24 => ?_)
  refine s_istore (pls' := [(5, .int r21), (0, .ref l0), (1, .ref l1), (2, .ref l2), (3, .int l3), (4, .int l4)]) hF dX10_parseStep_40 (by decide) rfl ?_
  refine s_aload_n hF dX10_parseStep_42 rfl 2 rfl ?_
  refine s_iload hF dX10_parseStep_43 5 rfl ?_
  refine s_aload_n hF dX10_parseStep_45 rfl 3 rfl ?_
  refine s_xSi (st := [.ref l1]) [.int l4, .ref l2] hF hD dX10_parseStep_46 cwX10_69 (by omega) (Nat.le_of_ble_eq_true rfl) rfl rfl (Nat.le_of_ble_eq_true rfl) (ctX10_secondMost l4 l2 _) (fun r27 m28 hl29 hm30 => ?_)
  refine s_xSi (st := []) [.ref l1, .int r27] hF hD dX10_parseStep_49 cwX10_65 (by omega) (Nat.le_of_ble_eq_true rfl) rfl rfl (Nat.le_of_ble_eq_true rfl) (ctX10_operand l1 r27 _) (fun r33 m34 hl35 hm36 => ?_)
  refine s_istore (pls' := [(6, .int r33), (5, .int r21), (0, .ref l0), (1, .ref l1), (2, .ref l2), (3, .int l3), (4, .int l4)]) hF dX10_parseStep_52 (by decide) rfl ?_
  refine s_aload_n hF dX10_parseStep_54 rfl 3 rfl ?_
  refine s_iload hF dX10_parseStep_55 6 rfl ?_
  refine s_xSi (st := [.ref l1]) [.int l4] hF hD dX10_parseStep_57 cwX10_72 (by omega) (Nat.le_of_ble_eq_true rfl) rfl rfl (Nat.le_of_ble_eq_true rfl) (ctX10_thirdMost l4 _) (fun r39 m40 hl41 hm42 => ?_)
  refine s_xSi (st := []) [.ref l1, .int r39] hF hD dX10_parseStep_60 cwX10_65 (by omega) (Nat.le_of_ble_eq_true rfl) rfl rfl (Nat.le_of_ble_eq_true rfl) (ctX10_operand l1 r39 _) (fun r45 m46 hl47 hm48 => ?_)
  refine s_istore (pls' := [(7, .int r45), (6, .int r33), (5, .int r21), (0, .ref l0), (1, .ref l1), (2, .ref l2), (3, .int l3), (4, .int l4)]) hF dX10_parseStep_63 (by decide) rfl ?_
  refine s_aload_n hF dX10_parseStep_65 rfl 4 rfl ?_
  refine s_xVi (st := []) (ci := 9) [] hF hD dX10_parseStep_66 cwX10_76 (by omega) (Nat.le_of_ble_eq_true rfl) rfl rfl (Nat.le_of_ble_eq_true rfl) (isK.mo (isK.mo (isK.mo (isK.mo (isK.mo (isK.mo f1 hm18) hm24) hm30) hm36) hm42) hm48) rfl rfl (Nat.le_of_ble_eq_true rfl) (ctX9_failed l1 _) (fun r51 m52 hl53 hm54 => ?_)
  refine s_if_ne (tgt := 81) hF dX10_parseStep_69 rfl (fun c57 => ?_) (fun c57 => ?_)
  · refine s_aload_n hF dX10_parseStep_72 rfl 3 rfl ?_
    refine s_getI (x := (g_I m52 l0 5)) hF dX10_parseStep_73 flX10_27 (isK.mo (isK.mo (isK.mo (isK.mo (isK.mo (isK.mo (isK.mo f0 hm18) hm24) hm30) hm36) hm42) hm48) hm54) rfl ?_
    refine s_bipush (v := (37 : Int32)) hF dX10_parseStep_76 kB_37 ?_
    refine s_icmp_lt (tgt := 82) hF dX10_parseStep_78 rfl (fun c58 => ?_) (fun c58 => ?_)
    · refine s_aload_n hF dX10_parseStep_82 rfl 3 rfl ?_
      refine s_getI (x := (g_I m52 l0 5)) hF dX10_parseStep_83 flX10_27 (isK.mo (isK.mo (isK.mo (isK.mo (isK.mo (isK.mo (isK.mo f0 hm18) hm24) hm30) hm36) hm42) hm48) hm54) rfl ?_
      refine s_istore (pls' := [(8, .int (g_I m52 l0 5)), (7, .int r45), (6, .int r33), (5, .int r21), (0, .ref l0), (1, .ref l1), (2, .ref l2), (3, .int l3), (4, .int l4)]) hF dX10_parseStep_86 (by decide) rfl ?_
      refine s_aload_n hF dX10_parseStep_88 rfl 4 rfl ?_
      refine sim_gd (fun g59 => ?_)
      refine s_getR (x := (g_R m52 l0 0)) hF dX10_parseStep_89 flX10_11 (isK.mo (isK.mo (isK.mo (isK.mo (isK.mo (isK.mo (isK.mo f0 hm18) hm24) hm30) hm36) hm42) hm48) hm54) g59 rfl ?_
      refine s_iload hF dX10_parseStep_92 0 rfl ?_
      refine s_iload hF dX10_parseStep_94 8 rfl ?_
      refine sim_gd (fun g60 => ?_)
      refine s_iastore hF dX10_parseStep_96 g60 ?_
      refine s_aload_n hF dX10_parseStep_97 rfl 4 rfl ?_
      refine sim_gd (fun g61 => ?_)
      refine s_getR (x := (g_R m52 l0 1)) hF dX10_parseStep_98 flX10_15 (isK.mo (isK.mo (isK.mo (isK.mo (isK.mo (isK.mo (isK.mo f0 hm18) hm24) hm30) hm36) hm42) hm48) hm54) g61 rfl ?_
      refine s_iload hF dX10_parseStep_101 0 rfl ?_
      refine s_iload hF dX10_parseStep_103 3 rfl ?_
      refine sim_gd (fun g62 => ?_)
      refine s_iastore hF dX10_parseStep_105 g62 ?_
      refine s_aload_n hF dX10_parseStep_106 rfl 4 rfl ?_
      refine sim_gd (fun g63 => ?_)
      refine s_getR (x := (g_R m52 l0 2)) hF dX10_parseStep_107 flX10_18 (isK.mo (isK.mo (isK.mo (isK.mo (isK.mo (isK.mo (isK.mo f0 hm18) hm24) hm30) hm36) hm42) hm48) hm54) g63 rfl ?_
      refine s_iload hF dX10_parseStep_110 0 rfl ?_
      refine s_iload hF dX10_parseStep_112 2 rfl ?_
      refine sim_gd (fun g64 => ?_)
      refine s_iastore hF dX10_parseStep_114 g64 ?_
      refine s_aload_n hF dX10_parseStep_115 rfl 4 rfl ?_
      refine sim_gd (fun g65 => ?_)
      refine s_getR (x := (g_R m52 l0 3)) hF dX10_parseStep_116 flX10_21 (isK.mo (isK.mo (isK.mo (isK.mo (isK.mo (isK.mo (isK.mo f0 hm18) hm24) hm30) hm36) hm42) hm48) hm54) g65 rfl ?_
      refine s_iload hF dX10_parseStep_119 0 rfl ?_
      refine s_iload hF dX10_parseStep_121 1 rfl ?_
      refine sim_gd (fun g66 => ?_)
      refine s_iastore hF dX10_parseStep_123 g66 ?_
      refine s_aload_n hF dX10_parseStep_124 rfl 4 rfl ?_
      refine s_dup hF dX10_parseStep_125 rfl ?_
      refine s_getI (x := (g_I (p_I (p_I (p_I (p_I m52 (g_R m52 l0 0) (g_I m52 l0 5).toNatClampNeg l4) (g_R m52 l0 1) (g_I m52 l0 5).toNatClampNeg r21) (g_R m52 l0 2) (g_I m52 l0 5).toNatClampNeg r33) (g_R m52 l0 3) (g_I m52 l0 5).toNatClampNeg r45) l0 5)) hF dX10_parseStep_126 flX10_27 (isK.mo (isK.mo (isK.mo (isK.mo (isK.mo (isK.mo (isK.mo f0 hm18) hm24) hm30) hm36) hm42) hm48) hm54) rfl ?_
      refine s_iconst (v := (1 : Int32)) hF dX10_parseStep_129 kI_1 ?_
      refine s_iadd hF dX10_parseStep_130 ?_
      refine s_putI hF dX10_parseStep_131 flX10_27 (isK.mo (isK.mo (isK.mo (isK.mo (isK.mo (isK.mo (isK.mo f0 hm18) hm24) hm30) hm36) hm42) hm48) hm54) ?_
      refine s_iload hF dX10_parseStep_134 8 rfl ?_
      refine s_bipush (v := (9 : Int32)) hF dX10_parseStep_136 kB_9 ?_
      refine s_icmp_ne (tgt := 162) hF dX10_parseStep_138 rfl (fun c67 => ?_) (fun c67 => ?_)
      · refine s_aload_n hF dX10_parseStep_141 rfl 5 rfl ?_
        refine s_bipush (v := (91 : Int32)) hF dX10_parseStep_142 kB_91 ?_
        refine s_xVv (st := []) (ci := 9) [.int (91 : Int32)] hF hD dX10_parseStep_144 cwX10_79 (by omega) (Nat.le_of_ble_eq_true rfl) rfl rfl (Nat.le_of_ble_eq_true rfl) (isK.mo (isK.mo (isK.mo (isK.mo (isK.mo (isK.mo (isK.mo f1 hm18) hm24) hm30) hm36) hm42) hm48) hm54) rfl rfl (Nat.le_of_ble_eq_true rfl) (ctX9_need l1 (91 : Int32) _) (fun r68 m69 hl70 hm71 => ?_)
        refine s_aload_n hF dX10_parseStep_147 rfl 4 rfl ?_
        refine s_aload_n hF dX10_parseStep_148 rfl 5 rfl ?_
        refine s_aload_n hF dX10_parseStep_149 rfl 6 rfl ?_
        refine s_iload_n hF dX10_parseStep_150 rfl 7 rfl ?_
        refine s_iconst (v := (1 : Int32)) hF dX10_parseStep_151 kI_1 ?_
        refine s_iadd hF dX10_parseStep_152 ?_
        refine s_xVv (st := []) (ci := 10) [.ref l1, .ref l2, .int (l3 + (1 : Int32))] hF hD dX10_parseStep_153 cwX10_31 (by omega) (Nat.le_of_ble_eq_true rfl) rfl rfl (Nat.le_of_ble_eq_true rfl) (isK.mo (isK.mo (isK.mo (isK.mo (isK.mo (isK.mo (isK.mo (isK.mo f0 hm18) hm24) hm30) hm36) hm42) hm48) hm54) hm71) rfl rfl (Nat.le_of_ble_eq_true rfl) (hrec l0 l1 l2 (l3 + (1 : Int32)) _) (fun r74 m75 hl76 hm77 => ?_)
        refine s_aload_n hF dX10_parseStep_156 rfl 5 rfl ?_
        refine s_bipush (v := (93 : Int32)) hF dX10_parseStep_157 kB_93 ?_
        refine s_xVv (st := []) (ci := 9) [.int (93 : Int32)] hF hD dX10_parseStep_159 cwX10_79 (by omega) (Nat.le_of_ble_eq_true rfl) rfl rfl (Nat.le_of_ble_eq_true rfl) (isK.mo (isK.mo (isK.mo (isK.mo (isK.mo (isK.mo (isK.mo (isK.mo (isK.mo f1 hm18) hm24) hm30) hm36) hm42) hm48) hm54) hm71) hm77) rfl rfl (Nat.le_of_ble_eq_true rfl) (ctX9_need l1 (93 : Int32) _) (fun r80 m81 hl82 hm83 => ?_)
        refine s_sub [4, 5, 0] rfl ?_
        exact sX10_parseStep_162 hB hrec hF hD l0 l1 (g_I m52 l0 5) _ (isK.mo (isK.mo (isK.mo (isK.mo (isK.mo (isK.mo (isK.mo (isK.mo (isK.mo (isK.mo f0 hm18) hm24) hm30) hm36) hm42) hm48) hm54) hm71) hm77) hm83) (isK.mo (isK.mo (isK.mo (isK.mo (isK.mo (isK.mo (isK.mo (isK.mo (isK.mo (isK.mo f1 hm18) hm24) hm30) hm36) hm42) hm48) hm54) hm71) hm77) hm83)
      · refine s_sub [4, 5, 0] rfl ?_
        exact sX10_parseStep_162 hB hrec hF hD l0 l1 (g_I m52 l0 5) _ (isK.mo (isK.mo (isK.mo (isK.mo (isK.mo (isK.mo (isK.mo f0 hm18) hm24) hm30) hm36) hm42) hm48) hm54) (isK.mo (isK.mo (isK.mo (isK.mo (isK.mo (isK.mo (isK.mo f1 hm18) hm24) hm30) hm36) hm42) hm48) hm54)
    · exact s_vretX hF hD dX10_parseStep_81 rfl
  · exact s_vretX hF hD dX10_parseStep_81 rfl
theorem ctX10_parseStep {rec : Nat → Nat → Nat → Int32 → Mem → Option (Unit × Mem)} {w : Nat} (hB : 6 ≤ w) (hrec : ∀ (l0 : Nat) (l1 : Nat) (l2 : Nat) (l3 : Int32) (μ : Mem) (r : Unit) (μ' : Mem), rec l0 l1 l2 l3 μ = some (r, μ') → CtX yX10_parseSteps cX10_parseSteps 5 none w [.ref l0, .ref l1, .ref l2, .int l3] μ (encV r) μ') (l0 : Nat) (l1 : Nat) (l2 : Nat) (l3 : Int32) (μ : Mem) : ∀ (r : Unit) (μ' : Mem), LX10_parseStep rec l0 l1 l2 l3 μ = some (r, μ') → CtX yX10_parseStep cX10_parseStep 9 none (w + 1) [.ref l0, .ref l1, .ref l2, .int l3] μ (encV r) μ' := by
  refine ct_enterX plX10 (Nat.le_of_ble_eq_true rfl) (fun F hF hD hI => ?_)
  unfold LX10_parseStep
  refine sim_gd (fun f0 => ?_)
  refine sim_gd (fun f1 => ?_)
  refine sim_gd (fun f2 => ?_)
  refine s_aload_n hF dX10_parseStep_0 rfl 1 rfl ?_
  refine s_ldcS (j := 2) hF hD dX10_parseStep_1 rfl ?_
  refine s_xVi (st := []) (ci := 9) [.retAddr (2 : Nat)] hF hD dX10_parseStep_3 cwX10_50 (by omega) (Nat.le_of_ble_eq_true rfl) rfl rfl (Nat.le_of_ble_eq_true rfl) f1 rfl rfl (Nat.le_of_ble_eq_true rfl) (ctX9_word l1 (2 : Nat) _) (fun r1 m2 hl3 hm4 => ?_)
  refine s_istore (pls' := [(4, .int r1), (0, .ref l0), (1, .ref l1), (2, .ref l2), (3, .int l3)]) hF dX10_parseStep_6 (by decide) rfl ?_
  refine s_iload hF dX10_parseStep_8 0 rfl ?_
  refine s_bipush (v := (9 : Int32)) hF dX10_parseStep_10 kB_9 ?_
  refine s_icmp_ne (tgt := 30) hF dX10_parseStep_12 rfl (fun c7 => ?_) (fun c7 => ?_)
  · refine s_iload_n hF dX10_parseStep_15 rfl 4 rfl ?_
    refine s_bipush (v := (6 : Int32)) hF dX10_parseStep_16 kB_6 ?_
    refine s_icmp_lt (tgt := 30) hF dX10_parseStep_18 rfl (fun c8 => ?_) (fun c8 => ?_)
    · refine s_sub [1, 2, 3, 4, 0] rfl ?_
      exact sX10_parseStep_30 hB hrec hF hD l0 l1 l2 l3 r1 _ (isK.mo f0 hm4) (isK.mo f1 hm4) (isK.mo f2 hm4)
    · refine s_aload_n hF dX10_parseStep_21 rfl 2 rfl ?_
      refine s_iconst (v := (3 : Int32)) hF dX10_parseStep_22 kI_3 ?_
      refine s_aload_n hF dX10_parseStep_23 rfl 2 rfl ?_
      refine s_getIq (x := (g_I m2 l1 4)) hF dX10_parseStep_24 fqX10_54 (isK.mo f1 hm4) rfl ?_
      refine s_xVv (st := []) (ci := 9) [.int (3 : Int32), .int (g_I m2 l1 4)] hF hD dX10_parseStep_27 cwX10_57 (by omega) (Nat.le_of_ble_eq_true rfl) rfl rfl (Nat.le_of_ble_eq_true rfl) (isK.mo f1 hm4) rfl rfl (Nat.le_of_ble_eq_true rfl) (ctX9_fail l1 (3 : Int32) (g_I m2 l1 4) _) (fun r9 m10 hl11 hm12 => ?_)
      refine s_sub [1, 2, 3, 4, 0] rfl ?_
      exact sX10_parseStep_30 hB hrec hF hD l0 l1 l2 l3 r1 _ (isK.mo (isK.mo f0 hm4) hm12) (isK.mo (isK.mo f1 hm4) hm12) (isK.mo (isK.mo f2 hm4) hm12)
  · refine s_sub [1, 2, 3, 4, 0] rfl ?_
    exact sX10_parseStep_30 hB hrec hF hD l0 l1 l2 l3 r1 _ (isK.mo f0 hm4) (isK.mo f1 hm4) (isK.mo f2 hm4)
theorem sX10_parseSteps_31 {F : Option Fx} {rec : Nat → Nat → Nat → Int32 → Mem → Option (Unit × Mem)} (q3 : Nat → Nat → Nat → Int32 → Int32 → Mem → Option (Unit × Mem)) {w : Nat} (hB : 6 ≤ w) (hrec : ∀ (l0 : Nat) (l1 : Nat) (l2 : Nat) (l3 : Int32) (μ : Mem) (r : Unit) (μ' : Mem), rec l0 l1 l2 l3 μ = some (r, μ') → CtX yX10_parseSteps cX10_parseSteps 5 none w [.ref l0, .ref l1, .ref l2, .int l3] μ (encV r) μ') (hF : FxO F RX10 cX10_parseSteps 5 (w + 2)) (hD : FxXO F none) (hq3 : ∀ (l0 : Nat) (l1 : Nat) (l2 : Nat) (l3 : Int32) (l4 : Int32) (μ : Mem) (_ : isK μ l0 10 = true) (_ : isK μ l1 9 = true) (_ : isK μ l2 3 = true), Sim F encV 3 [(0, .ref l0), (1, .ref l1), (2, .ref l2), (3, .int l3), (4, .int l4)] [] μ (q3 l0 l1 l2 l3 l4 μ)) (l0 : Nat) (l1 : Nat) (l2 : Nat) (l3 : Int32) (l4 : Int32) (μ : Mem) (f0 : isK μ l0 10 = true) (f1 : isK μ l1 9 = true) (f2 : isK μ l2 3 = true) : Sim F encV 31 [(0, .ref l0), (1, .ref l1), (2, .ref l2), (3, .int l3), (4, .int l4)] [] μ (mX10_parseSteps_31 rec q3 l0 l1 l2 l3 l4 μ) := by
  unfold mX10_parseSteps_31
  refine s_aload_n hF dX10_parseSteps_31 rfl 0 rfl ?_
  refine s_aload_n hF dX10_parseSteps_32 rfl 1 rfl ?_
  refine s_aload_n hF dX10_parseSteps_33 rfl 2 rfl ?_
  refine s_iload_n hF dX10_parseSteps_34 rfl 3 rfl ?_
  refine s_xVv (st := []) (ci := 10) [.ref l1, .ref l2, .int l3] hF hD dX10_parseSteps_35 cwX10_45 (by omega) (Nat.le_of_ble_eq_true rfl) rfl rfl (Nat.le_of_ble_eq_true rfl) f0 rfl rfl (Nat.le_of_ble_eq_true rfl) (ctX10_parseStep hB hrec l0 l1 l2 l3 _) (fun r17 m18 hl19 hm20 => ?_)
  refine s_iinc (v := (l4 + (1 : Int32))) (pls' := [(4, .int (l4 + (1 : Int32))), (0, .ref l0), (1, .ref l1), (2, .ref l2), (3, .int l3)]) hF dX10_parseSteps_38 4 rfl rfl (by decide) rfl ?_
  refine s_goto (tgt := 3) hF dX10_parseSteps_41 rfl ?_
  refine s_sub [1, 2, 3, 4, 0] rfl ?_
  exact hq3 l0 l1 l2 l3 (l4 + (1 : Int32)) _ (isK.mo f0 hm20) (isK.mo f1 hm20) (isK.mo f2 hm20)
theorem sX10_parseSteps_3 {F : Option Fx} {rec : Nat → Nat → Nat → Int32 → Mem → Option (Unit × Mem)} {w : Nat} (hB : 6 ≤ w) (hrec : ∀ (l0 : Nat) (l1 : Nat) (l2 : Nat) (l3 : Int32) (μ : Mem) (r : Unit) (μ' : Mem), rec l0 l1 l2 l3 μ = some (r, μ') → CtX yX10_parseSteps cX10_parseSteps 5 none w [.ref l0, .ref l1, .ref l2, .int l3] μ (encV r) μ') (hF : FxO F RX10 cX10_parseSteps 5 (w + 2)) (hD : FxXO F none) : ∀ (fu : Nat) (l0 : Nat) (l1 : Nat) (l2 : Nat) (l3 : Int32) (l4 : Int32) (μ : Mem) (f0 : isK μ l0 10 = true) (f1 : isK μ l1 9 = true) (f2 : isK μ l2 3 = true), Sim F encV 3 [(0, .ref l0), (1, .ref l1), (2, .ref l2), (3, .int l3), (4, .int l4)] [] μ (mX10_parseSteps_3 rec fu l0 l1 l2 l3 l4 μ) := by
  intro fu
  induction fu with
  | zero =>
    intro l0 l1 l2 l3 l4 μ f0 f1 f2
    exact sim_none
  | succ fu ih =>
    intro l0 l1 l2 l3 l4 μ f0 f1 f2
    rw [mX10_parseSteps_3]
    refine s_iload hF dX10_parseSteps_3 4 rfl ?_
    refine s_bipush (v := (37 : Int32)) hF dX10_parseSteps_5 kB_37 ?_
    refine s_icmp_gt (tgt := 44) hF dX10_parseSteps_7 rfl (fun c1 => ?_) (fun c1 => ?_)
    · exact s_vretX hF hD dX10_parseSteps_44 rfl
    · refine s_aload_n hF dX10_parseSteps_10 rfl 1 rfl ?_
      refine s_xVi (st := []) (ci := 9) [] hF hD dX10_parseSteps_11 cwX10_35 (by omega) (Nat.le_of_ble_eq_true rfl) rfl rfl (Nat.le_of_ble_eq_true rfl) f1 rfl rfl (Nat.le_of_ble_eq_true rfl) (ctX9_more l1 _) (fun r2 m3 hl4 hm5 => ?_)
      refine s_if_eq (tgt := 44) hF dX10_parseSteps_14 rfl (fun c8 => ?_) (fun c8 => ?_)
      · exact s_vretX hF hD dX10_parseSteps_44 rfl
      · refine s_iload_n hF dX10_parseSteps_17 rfl 3 rfl ?_
        refine s_if_le (tgt := 31) hF dX10_parseSteps_18 rfl (fun c9 => ?_) (fun c9 => ?_)
        · exact sX10_parseSteps_31 (fun l0 l1 l2 l3 l4 μ => mX10_parseSteps_3 rec fu l0 l1 l2 l3 l4 μ) hB hrec hF hD ih l0 l1 l2 l3 l4 _ (isK.mo f0 hm5) (isK.mo f1 hm5) (isK.mo f2 hm5)
        · refine s_aload_n hF dX10_parseSteps_21 rfl 1 rfl ?_
          refine s_bipush (v := (93 : Int32)) hF dX10_parseSteps_22 kB_93 ?_
          refine s_xVi (st := []) (ci := 9) [.int (93 : Int32)] hF hD dX10_parseSteps_24 cwX10_41 (by omega) (Nat.le_of_ble_eq_true rfl) rfl rfl (Nat.le_of_ble_eq_true rfl) (isK.mo f1 hm5) rfl rfl (Nat.le_of_ble_eq_true rfl) (ctX9_comes l1 (93 : Int32) _) (fun r10 m11 hl12 hm13 => ?_)
          refine s_if_eq (tgt := 31) hF dX10_parseSteps_27 rfl (fun c16 => ?_) (fun c16 => ?_)
          · exact sX10_parseSteps_31 (fun l0 l1 l2 l3 l4 μ => mX10_parseSteps_3 rec fu l0 l1 l2 l3 l4 μ) hB hrec hF hD ih l0 l1 l2 l3 l4 _ (isK.mo (isK.mo f0 hm5) hm13) (isK.mo (isK.mo f1 hm5) hm13) (isK.mo (isK.mo f2 hm5) hm13)
          · exact s_vretX hF hD dX10_parseSteps_30 rfl
theorem ctX10_parseSteps_b {rec : Nat → Nat → Nat → Int32 → Mem → Option (Unit × Mem)} {w : Nat} (hB : 6 ≤ w) (hrec : ∀ (l0 : Nat) (l1 : Nat) (l2 : Nat) (l3 : Int32) (μ : Mem) (r : Unit) (μ' : Mem), rec l0 l1 l2 l3 μ = some (r, μ') → CtX yX10_parseSteps cX10_parseSteps 5 none w [.ref l0, .ref l1, .ref l2, .int l3] μ (encV r) μ') (l0 : Nat) (l1 : Nat) (l2 : Nat) (l3 : Int32) (μ : Mem) : ∀ (r : Unit) (μ' : Mem), LX10_parseSteps_b rec l0 l1 l2 l3 μ = some (r, μ') → CtX yX10_parseSteps cX10_parseSteps 5 none (w + 2) [.ref l0, .ref l1, .ref l2, .int l3] μ (encV r) μ' := by
  refine ct_enterX plX10 (Nat.le_of_ble_eq_true rfl) (fun F hF hD hI => ?_)
  unfold LX10_parseSteps_b
  refine sim_gd (fun f0 => ?_)
  refine sim_gd (fun f1 => ?_)
  refine sim_gd (fun f2 => ?_)
  refine s_iconst (v := (0 : Int32)) hF dX10_parseSteps_0 kI_0 ?_
  refine s_istore (pls' := [(4, .int (0 : Int32)), (0, .ref l0), (1, .ref l1), (2, .ref l2), (3, .int l3)]) hF dX10_parseSteps_1 (by decide) rfl ?_
  refine s_sub [1, 2, 3, 4, 0] rfl ?_
  exact sX10_parseSteps_3 hB hrec hF hD 100000 l0 l1 l2 l3 (0 : Int32) _ f0 f1 f2
theorem ctX10_parseSteps : ∀ (d : Nat) (l0 : Nat) (l1 : Nat) (l2 : Nat) (l3 : Int32) (μ : Mem) (r : Unit) (μ' : Mem), LX10_parseSteps d l0 l1 l2 l3 μ = some (r, μ') → CtX yX10_parseSteps cX10_parseSteps 5 none (6 + 2 * d) [.ref l0, .ref l1, .ref l2, .int l3] μ (encV r) μ'
  | 0, _, _, _, _, _ => fun r μ' h => by cases h
  | d + 1, l0, l1, l2, l3, μ => fun r μ' h => ctX10_parseSteps_b (Nat.le_add_right _ _) (fun l0 l1 l2 l3 μ r μ' h => ctX10_parseSteps d l0 l1 l2 l3 μ r μ' h) l0 l1 l2 l3 μ r μ' h
theorem ctX10_parse  (l0 : Nat) (l1 : Nat) (l2 : Nat) (μ : Mem) : ∀ (r : Unit) (μ' : Mem), LX10_parse l0 l1 l2 μ = some (r, μ') → CtX yX10_parse cX10_parse 3 none 31 [.ref l0, .ref l1, .ref l2] μ (encV r) μ' := by
  refine ct_enterX plX10 (Nat.le_of_ble_eq_true rfl) (fun F hF hD hI => ?_)
  unfold LX10_parse
  refine sim_gd (fun f0 => ?_)
  refine sim_gd (fun f1 => ?_)
  refine sim_gd (fun f2 => ?_)
  refine s_aload_n hF dX10_parse_0 rfl 0 rfl ?_
  refine s_iconst (v := (0 : Int32)) hF dX10_parse_1 kI_0 ?_
  refine s_putI hF dX10_parse_2 flX10_27 f0 ?_
  refine s_aload_n hF dX10_parse_5 rfl 0 rfl ?_
  refine s_aload_n hF dX10_parse_6 rfl 1 rfl ?_
  refine s_aload_n hF dX10_parse_7 rfl 2 rfl ?_
  refine s_iconst (v := (0 : Int32)) hF dX10_parse_8 kI_0 ?_
  refine s_xVv (st := []) (ci := 10) [.ref l1, .ref l2, .int (0 : Int32)] hF hD dX10_parse_9 cwX10_31 (Nat.le_of_ble_eq_true rfl) (Nat.le_of_ble_eq_true rfl) rfl rfl (Nat.le_of_ble_eq_true rfl) f0 rfl rfl (Nat.le_of_ble_eq_true rfl) (ctX10_parseSteps 12 l0 l1 l2 (0 : Int32) _) (fun r1 m2 hl3 hm4 => ?_)
  exact s_vretX hF hD dX10_parse_12 rfl
theorem ctX10_begin  (l0 : Nat) (μ : Mem) : ∀ (r : Unit) (μ' : Mem), LX10_begin l0 μ = some (r, μ') → CtX yX10_begin cX10_begin 1 none 0 [.ref l0] μ (encV r) μ' := by
  refine ct_enterX plX10 (Nat.le_of_ble_eq_true rfl) (fun F hF hD hI => ?_)
  unfold LX10_begin
  refine sim_gd (fun f0 => ?_)
  refine s_aload_n hF dX10_begin_0 rfl 0 rfl ?_
  refine s_iconst (v := (0 : Int32)) hF dX10_begin_1 kI_0 ?_
  refine s_putI hF dX10_begin_2 flX10_95 f0 ?_
  refine s_aload_n hF dX10_begin_5 rfl 0 rfl ?_
  refine s_iconst (v := (0 : Int32)) hF dX10_begin_6 kI_0 ?_
  refine s_putI hF dX10_begin_7 flX10_98 f0 ?_
  refine s_aload_n hF dX10_begin_10 rfl 0 rfl ?_
  refine s_iconst (v := (0 : Int32)) hF dX10_begin_11 kI_0 ?_
  refine s_putI hF dX10_begin_12 flX10_101 f0 ?_
  exact s_vretX hF hD dX10_begin_15 rfl
theorem ctX10_isDayDone  (l0 : Nat) (μ : Mem) : ∀ (r : Int32) (μ' : Mem), LX10_isDayDone l0 μ = some (r, μ') → CtX yX10_isDayDone cX10_isDayDone 1 (some .boolean) 3 [.ref l0] μ (encI r) μ' := by
  refine ct_enterX plX10 (Nat.le_of_ble_eq_true rfl) (fun F hF hD hI => ?_)
  unfold LX10_isDayDone
  refine sim_gd (fun f0 => ?_)
  refine s_aload_n hF dX10_isDayDone_0 rfl 0 rfl ?_
  refine s_getIq (x := (g_I μ l0 2)) hF dX10_isDayDone_1 fqX10_160 f0 rfl ?_
  refine s_sipush (v := (900 : Int32)) hF dX10_isDayDone_4 kS_900 ?_
  refine s_icmp_lt (tgt := 12) hF dX10_isDayDone_7 rfl (fun c1 => ?_) (fun c1 => ?_)
  · refine s_aload_n hF dX10_isDayDone_12 rfl 0 rfl ?_
    refine s_xVv (st := []) (ci := 8) [] hF hD dX10_isDayDone_13 cwX10_163 (Nat.le_of_ble_eq_true rfl) (Nat.le_of_ble_eq_true rfl) rfl rfl (Nat.le_of_ble_eq_true rfl) f0 rfl rfl (Nat.le_of_ble_eq_true rfl) (ctX8_endDay l0 _) (fun r2 m3 hl4 hm5 => ?_)
    refine s_iconst (v := (1 : Int32)) hF dX10_isDayDone_16 kI_1 ?_
    exact s_zretX hF hD dX10_isDayDone_17 rfl rfl
  · refine s_iconst (v := (0 : Int32)) hF dX10_isDayDone_10 kI_0 ?_
    exact s_zretX hF hD dX10_isDayDone_11 rfl rfl
theorem ctX10_isDone  (l0 : Nat) (l1 : Nat) (l2 : Nat) (l3 : Nat) (l4 : Int32) (μ : Mem) : ∀ (r : Int32) (μ' : Mem), LX10_isDone l0 l1 l2 l3 l4 μ = some (r, μ') → CtX yX10_isDone cX10_isDone 6 (some .boolean) 6 [.ref l0, .ref l1, .ref l2, .ref l3, .int l4] μ (encI r) μ' := by
  refine ct_enterX plX10 (Nat.le_of_ble_eq_true rfl) (fun F hF hD hI => ?_)
  unfold LX10_isDone
  refine sim_gd (fun f0 => ?_)
  refine sim_gd (fun f1 => ?_)
  refine sim_gd (fun f2 => ?_)
  refine sim_gd (fun f3 => ?_)
  refine s_aload_n hF dX10_isDone_0 rfl 0 rfl ?_
  refine sim_gd (fun g1 => ?_)
  refine s_getR (x := (g_R μ l0 1)) hF dX10_isDone_1 flX10_15 f0 g1 rfl ?_
  refine s_iload hF dX10_isDone_4 4 rfl ?_
  refine sim_gd (fun g2 => ?_)
  refine s_iaload (x := (g_I μ (g_R μ l0 1) l4.toNatClampNeg)) hF dX10_isDone_6 g2 rfl ?_
  refine s_istore (pls' := [(5, .int (g_I μ (g_R μ l0 1) l4.toNatClampNeg)), (0, .ref l0), (1, .ref l1), (2, .ref l2), (3, .ref l3), (4, .int l4)]) hF dX10_isDone_7 (by decide) rfl ?_
  refine s_aload_n hF dX10_isDone_9 rfl 1 rfl ?_
  refine sim_gd (fun g3 => ?_)
  refine s_getR (x := (g_R μ l0 0)) hF dX10_isDone_10 flX10_11 f0 g3 rfl ?_
  refine s_iload hF dX10_isDone_13 5 rfl ?_
  refine sim_gd (fun g4 => ?_)
  refine s_iaload (x := (g_I μ (g_R μ l0 0) l4.toNatClampNeg)) hF dX10_isDone_15 g4 rfl ?_
  refine sim_if (fun c5 => ?_) (fun c5 => ?_)
  · refine s_tin (v := (0 : Int32)) (tgt := 64) hF dX10_isDone_16 c5 (by decide) (by decide) rfl rfl ?_
    refine s_aload_n hF dX10_isDone_64 rfl 2 rfl ?_
    refine s_iload hF dX10_isDone_65 0 rfl ?_
    refine s_aload_n hF dX10_isDone_67 rfl 1 rfl ?_
    refine sim_gd (fun g6 => ?_)
    refine s_getR (x := (g_R μ l0 2)) hF dX10_isDone_68 flX10_18 f0 g6 rfl ?_
    refine s_iload hF dX10_isDone_71 5 rfl ?_
    refine sim_gd (fun g7 => ?_)
    refine s_iaload (x := (g_I μ (g_R μ l0 2) l4.toNatClampNeg)) hF dX10_isDone_73 g7 rfl ?_
    refine s_aload_n hF dX10_isDone_74 rfl 4 rfl ?_
    refine s_xVi (st := []) (ci := 8) [.int (g_I μ (g_R μ l0 1) l4.toNatClampNeg), .int (g_I μ (g_R μ l0 2) l4.toNatClampNeg), .ref l3] hF hD dX10_isDone_75 cwX10_118 (Nat.le_of_ble_eq_true rfl) (Nat.le_of_ble_eq_true rfl) rfl rfl (Nat.le_of_ble_eq_true rfl) f1 rfl rfl (Nat.le_of_ble_eq_true rfl) (ctX8_write l1 (g_I μ (g_R μ l0 1) l4.toNatClampNeg) (g_I μ (g_R μ l0 2) l4.toNatClampNeg) l3 _) (fun r8 m9 hl10 hm11 => ?_)
    refine sim_gd (fun g14 => ?_)
    exact s_zretX hF hD dX10_isDone_78 rfl (nar_z g14)
  · refine sim_if (fun c15 => ?_) (fun c15 => ?_)
    · refine s_tin (v := (1 : Int32)) (tgt := 79) hF dX10_isDone_16 c15 (by decide) (by decide) rfl rfl ?_
      refine s_aload_n hF dX10_isDone_79 rfl 2 rfl ?_
      refine s_iload hF dX10_isDone_80 0 rfl ?_
      refine s_aload_n hF dX10_isDone_82 rfl 1 rfl ?_
      refine sim_gd (fun g16 => ?_)
      refine s_getR (x := (g_R μ l0 2)) hF dX10_isDone_83 flX10_18 f0 g16 rfl ?_
      refine s_iload hF dX10_isDone_86 5 rfl ?_
      refine sim_gd (fun g17 => ?_)
      refine s_iaload (x := (g_I μ (g_R μ l0 2) l4.toNatClampNeg)) hF dX10_isDone_88 g17 rfl ?_
      refine s_ineg hF dX10_isDone_89 ?_
      refine s_aload_n hF dX10_isDone_90 rfl 4 rfl ?_
      refine s_xVi (st := []) (ci := 8) [.int (g_I μ (g_R μ l0 1) l4.toNatClampNeg), .int (-(g_I μ (g_R μ l0 2) l4.toNatClampNeg)), .ref l3] hF hD dX10_isDone_91 cwX10_118 (Nat.le_of_ble_eq_true rfl) (Nat.le_of_ble_eq_true rfl) rfl rfl (Nat.le_of_ble_eq_true rfl) f1 rfl rfl (Nat.le_of_ble_eq_true rfl) (ctX8_write l1 (g_I μ (g_R μ l0 1) l4.toNatClampNeg) (-(g_I μ (g_R μ l0 2) l4.toNatClampNeg)) l3 _) (fun r18 m19 hl20 hm21 => ?_)
      refine sim_gd (fun g24 => ?_)
      exact s_zretX hF hD dX10_isDone_94 rfl (nar_z g24)
    · refine sim_if (fun c25 => ?_) (fun c25 => ?_)
      · refine s_tin (v := (2 : Int32)) (tgt := 95) hF dX10_isDone_16 c25 (by decide) (by decide) rfl rfl ?_
        refine s_aload_n hF dX10_isDone_95 rfl 2 rfl ?_
        refine s_aload_n hF dX10_isDone_96 rfl 3 rfl ?_
        refine sim_gd (fun g26 => ?_)
        refine s_getRq (x := (g_R μ l2 5)) hF dX10_isDone_97 fqX10_124 f2 g26 rfl ?_
        refine s_iload hF dX10_isDone_100 0 rfl ?_
        refine sim_gd (fun g27 => ?_)
        refine s_iaload (x := (g_I μ (g_R μ l2 5) (g_I μ (g_R μ l0 1) l4.toNatClampNeg).toNatClampNeg)) hF dX10_isDone_102 g27 rfl ?_
        refine s_aload_n hF dX10_isDone_103 rfl 3 rfl ?_
        refine sim_gd (fun g28 => ?_)
        refine s_getRq (x := (g_R μ l2 6)) hF dX10_isDone_104 fqX10_127 f2 g28 rfl ?_
        refine s_iload hF dX10_isDone_107 0 rfl ?_
        refine sim_gd (fun g29 => ?_)
        refine s_iaload (x := (g_I μ (g_R μ l2 6) (g_I μ (g_R μ l0 1) l4.toNatClampNeg).toNatClampNeg)) hF dX10_isDone_109 g29 rfl ?_
        refine s_aload_n hF dX10_isDone_110 rfl 4 rfl ?_
        refine s_xVi (st := []) (ci := 8) [.int (g_I μ (g_R μ l2 5) (g_I μ (g_R μ l0 1) l4.toNatClampNeg).toNatClampNeg), .int (g_I μ (g_R μ l2 6) (g_I μ (g_R μ l0 1) l4.toNatClampNeg).toNatClampNeg), .ref l3] hF hD dX10_isDone_111 cwX10_130 (Nat.le_of_ble_eq_true rfl) (Nat.le_of_ble_eq_true rfl) rfl rfl (Nat.le_of_ble_eq_true rfl) f1 rfl rfl (Nat.le_of_ble_eq_true rfl) (ctX8_hear l1 (g_I μ (g_R μ l2 5) (g_I μ (g_R μ l0 1) l4.toNatClampNeg).toNatClampNeg) (g_I μ (g_R μ l2 6) (g_I μ (g_R μ l0 1) l4.toNatClampNeg).toNatClampNeg) l3 _) (fun r30 m31 hl32 hm33 => ?_)
        refine sim_gd (fun g36 => ?_)
        exact s_zretX hF hD dX10_isDone_114 rfl (nar_z g36)
      · refine sim_if (fun c37 => ?_) (fun c37 => ?_)
        · refine s_tin (v := (3 : Int32)) (tgt := 115) hF dX10_isDone_16 c37 (by decide) (by decide) rfl rfl ?_
          refine s_aload_n hF dX10_isDone_115 rfl 2 rfl ?_
          refine sim_gd (fun g38 => ?_)
          refine s_getRq (x := (g_R μ l1 0)) hF dX10_isDone_116 fqX10_133 f1 g38 rfl ?_
          refine s_iload hF dX10_isDone_119 0 rfl ?_
          refine sim_gd (fun g39 => ?_)
          refine sim_gd (fun g40 => ?_)
          refine s_aaload (x := (g_R μ (g_R μ l1 0) (g_I μ (g_R μ l0 1) l4.toNatClampNeg).toNatClampNeg)) hF dX10_isDone_121 (by decide) (by decide) g39 g40 rfl ?_
          refine sim_gd (fun g47 => ?_)
          refine s_xVi (st := []) (ci := 5) [] hF hD dX10_isDone_122 cwX10_136 (Nat.le_of_ble_eq_true rfl) (Nat.le_of_ble_eq_true rfl) rfl rfl (Nat.le_of_ble_eq_true rfl) g47 rfl rfl (Nat.le_of_ble_eq_true rfl) (ctX5_wipe (g_R μ (g_R μ l1 0) (g_I μ (g_R μ l0 1) l4.toNatClampNeg).toNatClampNeg) _) (fun r41 m42 hl43 hm44 => ?_)
          refine sim_gd (fun g48 => ?_)
          exact s_zretX hF hD dX10_isDone_125 rfl (nar_z g48)
        · refine sim_if (fun c49 => ?_) (fun c49 => ?_)
          · refine s_tin (v := (4 : Int32)) (tgt := 126) hF dX10_isDone_16 c49 (by decide) (by decide) rfl rfl ?_
            refine s_aload_n hF dX10_isDone_126 rfl 2 rfl ?_
            refine sim_gd (fun g50 => ?_)
            refine s_getRq (x := (g_R μ l1 0)) hF dX10_isDone_127 fqX10_133 f1 g50 rfl ?_
            refine s_iload hF dX10_isDone_130 0 rfl ?_
            refine sim_gd (fun g51 => ?_)
            refine sim_gd (fun g52 => ?_)
            refine s_aaload (x := (g_R μ (g_R μ l1 0) (g_I μ (g_R μ l0 1) l4.toNatClampNeg).toNatClampNeg)) hF dX10_isDone_132 (by decide) (by decide) g51 g52 rfl ?_
            refine sim_gd (fun g59 => ?_)
            refine s_xVi (st := []) (ci := 5) [] hF hD dX10_isDone_133 cwX10_141 (Nat.le_of_ble_eq_true rfl) (Nat.le_of_ble_eq_true rfl) rfl rfl (Nat.le_of_ble_eq_true rfl) g59 rfl rfl (Nat.le_of_ble_eq_true rfl) (ctX5_tear (g_R μ (g_R μ l1 0) (g_I μ (g_R μ l0 1) l4.toNatClampNeg).toNatClampNeg) _) (fun r53 m54 hl55 hm56 => ?_)
            refine sim_gd (fun g60 => ?_)
            exact s_zretX hF hD dX10_isDone_136 rfl (nar_z g60)
          · refine sim_if (fun c61 => ?_) (fun c61 => ?_)
            · refine s_tin (v := (5 : Int32)) (tgt := 137) hF dX10_isDone_16 c61 (by decide) (by decide) rfl rfl ?_
              refine s_aload_n hF dX10_isDone_137 rfl 2 rfl ?_
              refine sim_gd (fun g62 => ?_)
              refine s_getRq (x := (g_R μ l1 0)) hF dX10_isDone_138 fqX10_133 f1 g62 rfl ?_
              refine s_iload hF dX10_isDone_141 0 rfl ?_
              refine sim_gd (fun g63 => ?_)
              refine sim_gd (fun g64 => ?_)
              refine s_aaload (x := (g_R μ (g_R μ l1 0) (g_I μ (g_R μ l0 1) l4.toNatClampNeg).toNatClampNeg)) hF dX10_isDone_143 (by decide) (by decide) g63 g64 rfl ?_
              refine s_aload_n hF dX10_isDone_144 rfl 1 rfl ?_
              refine sim_gd (fun g65 => ?_)
              refine s_getR (x := (g_R μ l0 2)) hF dX10_isDone_145 flX10_18 f0 g65 rfl ?_
              refine s_iload hF dX10_isDone_148 5 rfl ?_
              refine sim_gd (fun g66 => ?_)
              refine s_iaload (x := (g_I μ (g_R μ l0 2) l4.toNatClampNeg)) hF dX10_isDone_150 g66 rfl ?_
              refine s_aload_n hF dX10_isDone_151 rfl 1 rfl ?_
              refine sim_gd (fun g67 => ?_)
              refine s_getR (x := (g_R μ l0 3)) hF dX10_isDone_152 flX10_21 f0 g67 rfl ?_
              refine s_iload hF dX10_isDone_155 5 rfl ?_
              refine sim_gd (fun g68 => ?_)
              refine s_iaload (x := (g_I μ (g_R μ l0 3) l4.toNatClampNeg)) hF dX10_isDone_157 g68 rfl ?_
              refine s_isub hF dX10_isDone_158 ?_
              refine sim_gd (fun g75 => ?_)
              refine s_xVi (st := []) (ci := 5) [.int ((g_I μ (g_R μ l0 2) l4.toNatClampNeg) - (g_I μ (g_R μ l0 3) l4.toNatClampNeg))] hF hD dX10_isDone_159 cwX10_144 (Nat.le_of_ble_eq_true rfl) (Nat.le_of_ble_eq_true rfl) rfl rfl (Nat.le_of_ble_eq_true rfl) g75 rfl rfl (Nat.le_of_ble_eq_true rfl) (ctX5_lay (g_R μ (g_R μ l1 0) (g_I μ (g_R μ l0 1) l4.toNatClampNeg).toNatClampNeg) ((g_I μ (g_R μ l0 2) l4.toNatClampNeg) - (g_I μ (g_R μ l0 3) l4.toNatClampNeg)) _) (fun r69 m70 hl71 hm72 => ?_)
              refine sim_gd (fun g76 => ?_)
              exact s_zretX hF hD dX10_isDone_162 rfl (nar_z g76)
            · refine sim_if (fun c77 => ?_) (fun c77 => ?_)
              · refine s_tin (v := (6 : Int32)) (tgt := 163) hF dX10_isDone_16 c77 (by decide) (by decide) rfl rfl ?_
                refine s_aload_n hF dX10_isDone_163 rfl 2 rfl ?_
                refine sim_gd (fun g78 => ?_)
                refine s_getRq (x := (g_R μ l1 0)) hF dX10_isDone_164 fqX10_133 f1 g78 rfl ?_
                refine s_aload_n hF dX10_isDone_167 rfl 1 rfl ?_
                refine sim_gd (fun g79 => ?_)
                refine s_getR (x := (g_R μ l0 2)) hF dX10_isDone_168 flX10_18 f0 g79 rfl ?_
                refine s_iload hF dX10_isDone_171 5 rfl ?_
                refine sim_gd (fun g80 => ?_)
                refine s_iaload (x := (g_I μ (g_R μ l0 2) l4.toNatClampNeg)) hF dX10_isDone_173 g80 rfl ?_
                refine sim_gd (fun g81 => ?_)
                refine sim_gd (fun g82 => ?_)
                refine s_aaload (x := (g_R μ (g_R μ l1 0) (g_I μ (g_R μ l0 2) l4.toNatClampNeg).toNatClampNeg)) hF dX10_isDone_174 (by decide) (by decide) g81 g82 rfl ?_
                refine s_aload_n hF dX10_isDone_175 rfl 2 rfl ?_
                refine s_getRq (x := (g_R μ l1 0)) hF dX10_isDone_176 fqX10_133 f1 g78 rfl ?_
                refine s_iload hF dX10_isDone_179 0 rfl ?_
                refine sim_gd (fun g83 => ?_)
                refine sim_gd (fun g84 => ?_)
                refine s_aaload (x := (g_R μ (g_R μ l1 0) (g_I μ (g_R μ l0 1) l4.toNatClampNeg).toNatClampNeg)) hF dX10_isDone_181 (by decide) (by decide) g83 g84 rfl ?_
                refine s_aload_n hF dX10_isDone_182 rfl 1 rfl ?_
                refine sim_gd (fun g85 => ?_)
                refine s_getR (x := (g_R μ l0 3)) hF dX10_isDone_183 flX10_21 f0 g85 rfl ?_
                refine s_iload hF dX10_isDone_186 5 rfl ?_
                refine sim_gd (fun g86 => ?_)
                refine s_iaload (x := (g_I μ (g_R μ l0 3) l4.toNatClampNeg)) hF dX10_isDone_188 g86 rfl ?_
                refine sim_gd (fun g93 => ?_)
                refine s_xVi (st := []) (ci := 5) [.ref (g_R μ (g_R μ l1 0) (g_I μ (g_R μ l0 1) l4.toNatClampNeg).toNatClampNeg), .int (g_I μ (g_R μ l0 3) l4.toNatClampNeg)] hF hD dX10_isDone_189 cwX10_148 (Nat.le_of_ble_eq_true rfl) (Nat.le_of_ble_eq_true rfl) rfl rfl (Nat.le_of_ble_eq_true rfl) g93 rfl rfl (Nat.le_of_ble_eq_true rfl) (ctX5_takeCopy (g_R μ (g_R μ l1 0) (g_I μ (g_R μ l0 2) l4.toNatClampNeg).toNatClampNeg) (g_R μ (g_R μ l1 0) (g_I μ (g_R μ l0 1) l4.toNatClampNeg).toNatClampNeg) (g_I μ (g_R μ l0 3) l4.toNatClampNeg) _) (fun r87 m88 hl89 hm90 => ?_)
                refine sim_gd (fun g94 => ?_)
                exact s_zretX hF hD dX10_isDone_192 rfl (nar_z g94)
              · refine sim_if (fun c95 => ?_) (fun c95 => ?_)
                · refine s_tin (v := (7 : Int32)) (tgt := 193) hF dX10_isDone_16 c95 (by decide) (by decide) rfl rfl ?_
                  refine s_aload_n hF dX10_isDone_193 rfl 2 rfl ?_
                  refine sim_gd (fun g96 => ?_)
                  refine s_getRq (x := (g_R μ l1 0)) hF dX10_isDone_194 fqX10_133 f1 g96 rfl ?_
                  refine s_iload hF dX10_isDone_197 0 rfl ?_
                  refine sim_gd (fun g97 => ?_)
                  refine sim_gd (fun g98 => ?_)
                  refine s_aaload (x := (g_R μ (g_R μ l1 0) (g_I μ (g_R μ l0 1) l4.toNatClampNeg).toNatClampNeg)) hF dX10_isDone_199 (by decide) (by decide) g97 g98 rfl ?_
                  refine s_aload_n hF dX10_isDone_200 rfl 1 rfl ?_
                  refine sim_gd (fun g99 => ?_)
                  refine s_getR (x := (g_R μ l0 2)) hF dX10_isDone_201 flX10_18 f0 g99 rfl ?_
                  refine s_iload hF dX10_isDone_204 5 rfl ?_
                  refine sim_gd (fun g100 => ?_)
                  refine s_iaload (x := (g_I μ (g_R μ l0 2) l4.toNatClampNeg)) hF dX10_isDone_206 g100 rfl ?_
                  refine s_aload_n hF dX10_isDone_207 rfl 1 rfl ?_
                  refine sim_gd (fun g101 => ?_)
                  refine s_getR (x := (g_R μ l0 3)) hF dX10_isDone_208 flX10_21 f0 g101 rfl ?_
                  refine s_iload hF dX10_isDone_211 5 rfl ?_
                  refine sim_gd (fun g102 => ?_)
                  refine s_iaload (x := (g_I μ (g_R μ l0 3) l4.toNatClampNeg)) hF dX10_isDone_213 g102 rfl ?_
                  refine sim_gd (fun g109 => ?_)
                  refine s_xVi (st := []) (ci := 5) [.int (g_I μ (g_R μ l0 2) l4.toNatClampNeg), .int (g_I μ (g_R μ l0 3) l4.toNatClampNeg)] hF hD dX10_isDone_214 cwX10_152 (Nat.le_of_ble_eq_true rfl) (Nat.le_of_ble_eq_true rfl) rfl rfl (Nat.le_of_ble_eq_true rfl) g109 rfl rfl (Nat.le_of_ble_eq_true rfl) (ctX5_tune (g_R μ (g_R μ l1 0) (g_I μ (g_R μ l0 1) l4.toNatClampNeg).toNatClampNeg) (g_I μ (g_R μ l0 2) l4.toNatClampNeg) (g_I μ (g_R μ l0 3) l4.toNatClampNeg) _) (fun r103 m104 hl105 hm106 => ?_)
                  refine sim_gd (fun g110 => ?_)
                  exact s_zretX hF hD dX10_isDone_217 rfl (nar_z g110)
                · refine s_tout (tgt := 218) hF dX10_isDone_16 (by have e0 := i32_ne c5 (k := (0 : Int32)) (n := 0) rfl; have e1 := i32_ne c15 (k := (1 : Int32)) (n := 1) rfl; have e2 := i32_ne c25 (k := (2 : Int32)) (n := 2) rfl; have e3 := i32_ne c37 (k := (3 : Int32)) (n := 3) rfl; have e4 := i32_ne c49 (k := (4 : Int32)) (n := 4) rfl; have e5 := i32_ne c61 (k := (5 : Int32)) (n := 5) rfl; have e6 := i32_ne c77 (k := (6 : Int32)) (n := 6) rfl; have e7 := i32_ne c95 (k := (7 : Int32)) (n := 7) rfl; omega) rfl ?_
                  refine s_aload_n hF dX10_isDone_218 rfl 2 rfl ?_
                  refine s_xSi (st := []) [.ref l1] hF hD dX10_isDone_219 cwX10_156 (Nat.le_of_ble_eq_true rfl) (Nat.le_of_ble_eq_true rfl) rfl rfl (Nat.le_of_ble_eq_true rfl) (ctX10_isDayDone l1 _) (fun r111 m112 hl113 hm114 => ?_)
                  refine sim_gd (fun g117 => ?_)
                  exact s_zretX hF hD dX10_isDone_222 rfl (nar_z g117)
theorem sX10_run_138 {F : Option Fx} {rec : Nat → Nat → Nat → Nat → Int32 → Int32 → Int32 → Mem → Option (Unit × Mem)} (q4 : Nat → Nat → Nat → Nat → Int32 → Int32 → Int32 → Mem → Option (Unit × Mem)) {w : Nat} (hB : 7 ≤ w) (hrec : ∀ (l0 : Nat) (l1 : Nat) (l2 : Nat) (l3 : Nat) (l4 : Int32) (l5 : Int32) (l6 : Int32) (μ : Mem) (r : Unit) (μ' : Mem), rec l0 l1 l2 l3 l4 l5 l6 μ = some (r, μ') → CtX yX10_run cX10_run 9 none w [.ref l0, .ref l1, .ref l2, .ref l3, .int l4, .int l5, .int l6] μ (encV r) μ') (hF : FxO F RX10 cX10_run 9 (w + 1)) (hD : FxXO F none) (hq4 : ∀ (l0 : Nat) (l1 : Nat) (l2 : Nat) (l3 : Nat) (l5 : Int32) (l6 : Int32) (l7 : Int32) (μ : Mem) (_ : isK μ l0 10 = true) (_ : isK μ l1 8 = true) (_ : isK μ l2 3 = true) (_ : isK μ l3 4 = true), Sim F encV 4 [(0, .ref l0), (1, .ref l1), (2, .ref l2), (3, .ref l3), (5, .int l5), (6, .int l6), (7, .int l7)] [] μ (q4 l0 l1 l2 l3 l5 l6 l7 μ)) (l0 : Nat) (l1 : Nat) (l2 : Nat) (l3 : Nat) (l5 : Int32) (l6 : Int32) (l7 : Int32) (μ : Mem) (f0 : isK μ l0 10 = true) (f1 : isK μ l1 8 = true) (f2 : isK μ l2 3 = true) (f3 : isK μ l3 4 = true) : Sim F encV 138 [(0, .ref l0), (1, .ref l1), (2, .ref l2), (3, .ref l3), (5, .int l5), (6, .int l6), (7, .int l7)] [] μ (mX10_run_138 rec q4 l0 l1 l2 l3 l5 l6 l7 μ) := by
  unfold mX10_run_138
  refine s_iload hF dX10_run_138 6 rfl ?_
  refine s_iconst (v := (1 : Int32)) hF dX10_run_140 kI_1 ?_
  refine s_iadd hF dX10_run_141 ?_
  refine s_aload_n hF dX10_run_142 rfl 0 rfl ?_
  refine sim_gd (fun g14 => ?_)
  refine s_getR (x := (g_R μ l0 4)) hF dX10_run_143 flX10_24 f0 g14 rfl ?_
  refine s_iload hF dX10_run_146 6 rfl ?_
  refine sim_gd (fun g15 => ?_)
  refine s_iaload (x := (g_I μ (g_R μ l0 4) l7.toNatClampNeg)) hF dX10_run_148 g15 rfl ?_
  refine s_max hF dX10_run_149 mlX10_112 mt_smax mt_i mt_cmax (by omega) (Nat.le_of_ble_eq_true rfl) ?_
  refine s_istore (pls' := [(7, .int (if (l7 + (1 : Int32)) < (g_I μ (g_R μ l0 4) l7.toNatClampNeg) then (g_I μ (g_R μ l0 4) l7.toNatClampNeg) else (l7 + (1 : Int32)))), (0, .ref l0), (1, .ref l1), (2, .ref l2), (3, .ref l3), (5, .int l5), (6, .int l6)]) hF dX10_run_152 (by decide) rfl ?_
  refine s_goto (tgt := 4) hF dX10_run_154 rfl ?_
  refine s_sub [1, 2, 3, 4, 5, 6, 0] rfl ?_
  exact hq4 l0 l1 l2 l3 l5 l6 (if (l7 + (1 : Int32)) < (g_I μ (g_R μ l0 4) l7.toNatClampNeg) then (g_I μ (g_R μ l0 4) l7.toNatClampNeg) else (l7 + (1 : Int32))) _ f0 f1 f2 f3
theorem sX10_run_53 {F : Option Fx} {rec : Nat → Nat → Nat → Nat → Int32 → Int32 → Int32 → Mem → Option (Unit × Mem)} (q4 : Nat → Nat → Nat → Nat → Int32 → Int32 → Int32 → Mem → Option (Unit × Mem)) {w : Nat} (hB : 7 ≤ w) (hrec : ∀ (l0 : Nat) (l1 : Nat) (l2 : Nat) (l3 : Nat) (l4 : Int32) (l5 : Int32) (l6 : Int32) (μ : Mem) (r : Unit) (μ' : Mem), rec l0 l1 l2 l3 l4 l5 l6 μ = some (r, μ') → CtX yX10_run cX10_run 9 none w [.ref l0, .ref l1, .ref l2, .ref l3, .int l4, .int l5, .int l6] μ (encV r) μ') (hF : FxO F RX10 cX10_run 9 (w + 1)) (hD : FxXO F none) (hq4 : ∀ (l0 : Nat) (l1 : Nat) (l2 : Nat) (l3 : Nat) (l5 : Int32) (l6 : Int32) (l7 : Int32) (μ : Mem) (_ : isK μ l0 10 = true) (_ : isK μ l1 8 = true) (_ : isK μ l2 3 = true) (_ : isK μ l3 4 = true), Sim F encV 4 [(0, .ref l0), (1, .ref l1), (2, .ref l2), (3, .ref l3), (5, .int l5), (6, .int l6), (7, .int l7)] [] μ (q4 l0 l1 l2 l3 l5 l6 l7 μ)) : ∀ (fu : Nat) (l0 : Nat) (l1 : Nat) (l2 : Nat) (l3 : Nat) (l5 : Int32) (l6 : Int32) (l7 : Int32) (l8 : Int32) (μ : Mem) (f0 : isK μ l0 10 = true) (f1 : isK μ l1 8 = true) (f2 : isK μ l2 3 = true) (f3 : isK μ l3 4 = true), Sim F encV 53 [(0, .ref l0), (1, .ref l1), (2, .ref l2), (3, .ref l3), (5, .int l5), (6, .int l6), (7, .int l7), (8, .int l8)] [] μ (mX10_run_53 rec q4 fu l0 l1 l2 l3 l5 l6 l7 l8 μ) := by
  intro fu
  induction fu with
  | zero =>
    intro l0 l1 l2 l3 l5 l6 l7 l8 μ f0 f1 f2 f3
    exact sim_none
  | succ fu ih =>
    intro l0 l1 l2 l3 l5 l6 l7 l8 μ f0 f1 f2 f3
    rw [mX10_run_53]
    refine s_iload hF dX10_run_53 7 rfl ?_
    refine s_aload_n hF dX10_run_55 rfl 0 rfl ?_
    refine sim_gd (fun g16 => ?_)
    refine s_getR (x := (g_R μ l0 1)) hF dX10_run_56 flX10_15 f0 g16 rfl ?_
    refine s_iload hF dX10_run_59 6 rfl ?_
    refine sim_gd (fun g17 => ?_)
    refine s_iaload (x := (g_I μ (g_R μ l0 1) l7.toNatClampNeg)) hF dX10_run_61 g17 rfl ?_
    refine s_icmp_ge (tgt := 100) hF dX10_run_62 rfl (fun c18 => ?_) (fun c18 => ?_)
    · refine s_goto (tgt := 138) hF dX10_run_100 rfl ?_
      refine s_sub [0, 1, 2, 3, 4, 5, 6] rfl ?_
      exact sX10_run_138 q4 hB hrec hF hD hq4 l0 l1 l2 l3 l5 l6 l7 _ f0 f1 f2 f3
    · refine s_iload hF dX10_run_65 5 rfl ?_
      refine s_bipush (v := (6 : Int32)) hF dX10_run_67 kB_6 ?_
      refine s_icmp_ge (tgt := 100) hF dX10_run_69 rfl (fun c19 => ?_) (fun c19 => ?_)
      · refine s_goto (tgt := 138) hF dX10_run_100 rfl ?_
        refine s_sub [0, 1, 2, 3, 4, 5, 6] rfl ?_
        exact sX10_run_138 q4 hB hrec hF hD hq4 l0 l1 l2 l3 l5 l6 l7 _ f0 f1 f2 f3
      · refine s_aload_n hF dX10_run_72 rfl 0 rfl ?_
        refine s_aload_n hF dX10_run_73 rfl 1 rfl ?_
        refine s_aload_n hF dX10_run_74 rfl 2 rfl ?_
        refine s_aload_n hF dX10_run_75 rfl 3 rfl ?_
        refine s_iload hF dX10_run_76 6 rfl ?_
        refine s_iconst (v := (1 : Int32)) hF dX10_run_78 kI_1 ?_
        refine s_iadd hF dX10_run_79 ?_
        refine s_aload_n hF dX10_run_80 rfl 0 rfl ?_
        refine sim_gd (fun g20 => ?_)
        refine s_getR (x := (g_R μ l0 4)) hF dX10_run_81 flX10_24 f0 g20 rfl ?_
        refine s_iload hF dX10_run_84 6 rfl ?_
        refine sim_gd (fun g21 => ?_)
        refine s_iaload (x := (g_I μ (g_R μ l0 4) l7.toNatClampNeg)) hF dX10_run_86 g21 rfl ?_
        refine s_iload hF dX10_run_87 5 rfl ?_
        refine s_iconst (v := (1 : Int32)) hF dX10_run_89 kI_1 ?_
        refine s_iadd hF dX10_run_90 ?_
        refine s_xSv (st := []) [.ref l0, .ref l1, .ref l2, .ref l3, .int (l7 + (1 : Int32)), .int (g_I μ (g_R μ l0 4) l7.toNatClampNeg), .int (l6 + (1 : Int32))] hF hD dX10_run_91 cwX10_104 (by omega) (Nat.le_of_ble_eq_true rfl) rfl rfl (Nat.le_of_ble_eq_true rfl) (hrec l0 l1 l2 l3 (l7 + (1 : Int32)) (g_I μ (g_R μ l0 4) l7.toNatClampNeg) (l6 + (1 : Int32)) _) (fun r22 m23 hl24 hm25 => ?_)
        refine s_iinc (v := (l8 + (1 : Int32))) (pls' := [(8, .int (l8 + (1 : Int32))), (0, .ref l0), (1, .ref l1), (2, .ref l2), (3, .ref l3), (5, .int l5), (6, .int l6), (7, .int l7)]) hF dX10_run_94 7 rfl rfl (by decide) rfl ?_
        refine s_goto (tgt := 53) hF dX10_run_97 rfl ?_
        refine s_sub [1, 2, 3, 4, 5, 6, 7, 0] rfl ?_
        exact ih l0 l1 l2 l3 l5 l6 l7 (l8 + (1 : Int32)) _ (isK.mo f0 hm25) (isK.mo f1 hm25) (isK.mo f2 hm25) (isK.mo f3 hm25)
theorem sX10_run_4 {F : Option Fx} {rec : Nat → Nat → Nat → Nat → Int32 → Int32 → Int32 → Mem → Option (Unit × Mem)} {w : Nat} (hB : 7 ≤ w) (hrec : ∀ (l0 : Nat) (l1 : Nat) (l2 : Nat) (l3 : Nat) (l4 : Int32) (l5 : Int32) (l6 : Int32) (μ : Mem) (r : Unit) (μ' : Mem), rec l0 l1 l2 l3 l4 l5 l6 μ = some (r, μ') → CtX yX10_run cX10_run 9 none w [.ref l0, .ref l1, .ref l2, .ref l3, .int l4, .int l5, .int l6] μ (encV r) μ') (hF : FxO F RX10 cX10_run 9 (w + 1)) (hD : FxXO F none) : ∀ (fu : Nat) (l0 : Nat) (l1 : Nat) (l2 : Nat) (l3 : Nat) (l5 : Int32) (l6 : Int32) (l7 : Int32) (μ : Mem) (f0 : isK μ l0 10 = true) (f1 : isK μ l1 8 = true) (f2 : isK μ l2 3 = true) (f3 : isK μ l3 4 = true), Sim F encV 4 [(0, .ref l0), (1, .ref l1), (2, .ref l2), (3, .ref l3), (5, .int l5), (6, .int l6), (7, .int l7)] [] μ (mX10_run_4 rec fu l0 l1 l2 l3 l5 l6 l7 μ) := by
  intro fu
  induction fu with
  | zero =>
    intro l0 l1 l2 l3 l5 l6 l7 μ f0 f1 f2 f3
    exact sim_none
  | succ fu ih =>
    intro l0 l1 l2 l3 l5 l6 l7 μ f0 f1 f2 f3
    rw [mX10_run_4]
    refine s_iload hF dX10_run_4 6 rfl ?_
    refine s_iload hF dX10_run_6 4 rfl ?_
    refine s_icmp_ge (tgt := 157) hF dX10_run_8 rfl (fun c1 => ?_) (fun c1 => ?_)
    · exact s_vretX hF hD dX10_run_157 rfl
    · refine s_iload hF dX10_run_11 6 rfl ?_
      refine s_bipush (v := (37 : Int32)) hF dX10_run_13 kB_37 ?_
      refine s_icmp_ge (tgt := 157) hF dX10_run_15 rfl (fun c2 => ?_) (fun c2 => ?_)
      · exact s_vretX hF hD dX10_run_157 rfl
      · refine s_aload_n hF dX10_run_18 rfl 0 rfl ?_
        refine s_getI (x := (g_I μ l0 6)) hF dX10_run_19 flX10_95 f0 rfl ?_
        refine s_sipush (v := (200 : Int32)) hF dX10_run_22 kS_200 ?_
        refine s_icmp_ge (tgt := 157) hF dX10_run_25 rfl (fun c3 => ?_) (fun c3 => ?_)
        · exact s_vretX hF hD dX10_run_157 rfl
        · refine s_aload_n hF dX10_run_28 rfl 0 rfl ?_
          refine s_dup hF dX10_run_29 rfl ?_
          refine s_getI (x := (g_I μ l0 6)) hF dX10_run_30 flX10_95 f0 rfl ?_
          refine s_iconst (v := (1 : Int32)) hF dX10_run_33 kI_1 ?_
          refine s_iadd hF dX10_run_34 ?_
          refine s_putI hF dX10_run_35 flX10_95 f0 ?_
          refine s_aload_n hF dX10_run_38 rfl 0 rfl ?_
          refine sim_gd (fun g4 => ?_)
          refine s_getR (x := (g_R μ l0 0)) hF dX10_run_39 flX10_11 f0 g4 rfl ?_
          refine s_iload hF dX10_run_42 6 rfl ?_
          refine sim_gd (fun g5 => ?_)
          refine s_iaload (x := (g_I (p_I μ l0 6 ((g_I μ l0 6) + (1 : Int32))) (g_R μ l0 0) l7.toNatClampNeg)) hF dX10_run_44 g5 rfl ?_
          refine s_bipush (v := (9 : Int32)) hF dX10_run_45 kB_9 ?_
          refine s_icmp_ne (tgt := 103) hF dX10_run_47 rfl (fun c6 => ?_) (fun c6 => ?_)
          · refine s_iconst (v := (0 : Int32)) hF dX10_run_50 kI_0 ?_
            refine s_istore (pls' := [(8, .int (0 : Int32)), (0, .ref l0), (1, .ref l1), (2, .ref l2), (3, .ref l3), (5, .int l5), (6, .int l6), (7, .int l7)]) hF dX10_run_51 (by decide) rfl ?_
            refine s_sub [1, 2, 3, 4, 5, 6, 7, 0] rfl ?_
            exact sX10_run_53 (fun l0 l1 l2 l3 l5 l6 l7 μ => mX10_run_4 rec fu l0 l1 l2 l3 l5 l6 l7 μ) hB hrec hF hD ih 100000 l0 l1 l2 l3 l5 l6 l7 (0 : Int32) _ f0 f1 f2 f3
          · refine s_aload_n hF dX10_run_103 rfl 0 rfl ?_
            refine s_aload_n hF dX10_run_104 rfl 1 rfl ?_
            refine s_aload_n hF dX10_run_105 rfl 2 rfl ?_
            refine s_aload_n hF dX10_run_106 rfl 3 rfl ?_
            refine s_iload hF dX10_run_107 6 rfl ?_
            refine s_xVi (st := []) (ci := 10) [.ref l1, .ref l2, .ref l3, .int l7] hF hD dX10_run_109 cwX10_108 (by omega) (Nat.le_of_ble_eq_true rfl) rfl rfl (Nat.le_of_ble_eq_true rfl) f0 rfl rfl (Nat.le_of_ble_eq_true rfl) (ctX10_isDone l0 l1 l2 l3 l7 _) (fun r7 m8 hl9 hm10 => ?_)
            refine s_if_eq (tgt := 128) hF dX10_run_112 rfl (fun c13 => ?_) (fun c13 => ?_)
            · refine s_aload_n hF dX10_run_128 rfl 0 rfl ?_
              refine s_dup hF dX10_run_129 rfl ?_
              refine s_getI (x := (g_I m8 l0 8)) hF dX10_run_130 flX10_101 (isK.mo f0 hm10) rfl ?_
              refine s_iconst (v := (1 : Int32)) hF dX10_run_133 kI_1 ?_
              refine s_iadd hF dX10_run_134 ?_
              refine s_putI hF dX10_run_135 flX10_101 (isK.mo f0 hm10) ?_
              exact sX10_run_138 (fun l0 l1 l2 l3 l5 l6 l7 μ => mX10_run_4 rec fu l0 l1 l2 l3 l5 l6 l7 μ) hB hrec hF hD ih l0 l1 l2 l3 l5 l6 l7 _ (isK.mo f0 hm10) (isK.mo f1 hm10) (isK.mo f2 hm10) (isK.mo f3 hm10)
            · refine s_aload_n hF dX10_run_115 rfl 0 rfl ?_
              refine s_dup hF dX10_run_116 rfl ?_
              refine s_getI (x := (g_I m8 l0 7)) hF dX10_run_117 flX10_98 (isK.mo f0 hm10) rfl ?_
              refine s_iconst (v := (1 : Int32)) hF dX10_run_120 kI_1 ?_
              refine s_iadd hF dX10_run_121 ?_
              refine s_putI hF dX10_run_122 flX10_98 (isK.mo f0 hm10) ?_
              refine s_goto (tgt := 138) hF dX10_run_125 rfl ?_
              exact sX10_run_138 (fun l0 l1 l2 l3 l5 l6 l7 μ => mX10_run_4 rec fu l0 l1 l2 l3 l5 l6 l7 μ) hB hrec hF hD ih l0 l1 l2 l3 l5 l6 l7 _ (isK.mo f0 hm10) (isK.mo f1 hm10) (isK.mo f2 hm10) (isK.mo f3 hm10)
theorem ctX10_run_b {rec : Nat → Nat → Nat → Nat → Int32 → Int32 → Int32 → Mem → Option (Unit × Mem)} {w : Nat} (hB : 7 ≤ w) (hrec : ∀ (l0 : Nat) (l1 : Nat) (l2 : Nat) (l3 : Nat) (l4 : Int32) (l5 : Int32) (l6 : Int32) (μ : Mem) (r : Unit) (μ' : Mem), rec l0 l1 l2 l3 l4 l5 l6 μ = some (r, μ') → CtX yX10_run cX10_run 9 none w [.ref l0, .ref l1, .ref l2, .ref l3, .int l4, .int l5, .int l6] μ (encV r) μ') (l0 : Nat) (l1 : Nat) (l2 : Nat) (l3 : Nat) (l4 : Int32) (l5 : Int32) (l6 : Int32) (μ : Mem) : ∀ (r : Unit) (μ' : Mem), LX10_run_b rec l0 l1 l2 l3 l4 l5 l6 μ = some (r, μ') → CtX yX10_run cX10_run 9 none (w + 1) [.ref l0, .ref l1, .ref l2, .ref l3, .int l4, .int l5, .int l6] μ (encV r) μ' := by
  refine ct_enterX plX10 (Nat.le_of_ble_eq_true rfl) (fun F hF hD hI => ?_)
  unfold LX10_run_b
  refine sim_gd (fun f0 => ?_)
  refine sim_gd (fun f1 => ?_)
  refine sim_gd (fun f2 => ?_)
  refine sim_gd (fun f3 => ?_)
  refine s_iload hF dX10_run_0 4 rfl ?_
  refine s_istore (pls' := [(7, .int l4), (0, .ref l0), (1, .ref l1), (2, .ref l2), (3, .ref l3), (4, .int l4), (5, .int l5), (6, .int l6)]) hF dX10_run_2 (by decide) rfl ?_
  refine s_sub [1, 2, 3, 4, 6, 7, 0] rfl ?_
  exact sX10_run_4 hB hrec hF hD 100000 l0 l1 l2 l3 l5 l6 l4 _ f0 f1 f2 f3
theorem ctX10_run : ∀ (d : Nat) (l0 : Nat) (l1 : Nat) (l2 : Nat) (l3 : Nat) (l4 : Int32) (l5 : Int32) (l6 : Int32) (μ : Mem) (r : Unit) (μ' : Mem), LX10_run d l0 l1 l2 l3 l4 l5 l6 μ = some (r, μ') → CtX yX10_run cX10_run 9 none (7 + 1 * d) [.ref l0, .ref l1, .ref l2, .ref l3, .int l4, .int l5, .int l6] μ (encV r) μ'
  | 0, _, _, _, _, _, _, _, _ => fun r μ' h => by cases h
  | d + 1, l0, l1, l2, l3, l4, l5, l6, μ => fun r μ' h => ctX10_run_b (Nat.le_add_right _ _) (fun l0 l1 l2 l3 l4 l5 l6 μ r μ' h => ctX10_run d l0 l1 l2 l3 l4 l5 l6 μ r μ' h) l0 l1 l2 l3 l4 l5 l6 μ r μ' h
