theorem sX12_tuning_19 {F : Option Fx} (hF : FxO F RX12 cX12_tuning 6 2) (hD : FxDO F (some .int)) (l0 : Nat) (l1 : Int32) (l2 : Int32) (l3 : Int32) (k0 : Int32) (k1 : Nat) (μ : Mem) (f0 : isK μ l0 12 = true) : Sim F encI 19 [(0, .ref l0), (1, .int l1), (2, .int l2), (3, .int l3)] [.int k0, .ref k1] μ (mX12_tuning_19 l0 l1 l2 l3 k0 k1 μ) := by
  unfold mX12_tuning_19
  refine s_iconst (v := (1 : Int32)) hF dX12_tuning_19 kI_1 ?_
  refine s_iconst (v := (0 : Int32)) hF dX12_tuning_20 kI_0 ?_
  refine sim_gd (fun g10 => ?_)
  refine s_cVi (st := []) (ci := 12) [.int k0, .int (1 : Int32), .int (0 : Int32)] hF hD.dr dX12_tuning_21 cwX12_167 (Nat.le_of_ble_eq_true rfl) (Nat.le_of_ble_eq_true rfl) rfl rfl (Nat.le_of_ble_eq_true rfl) g10 rfl rfl (Nat.le_of_ble_eq_true rfl) (ctX12_bad k1 k0 (1 : Int32) (0 : Int32) _) (fun r6 m7 hl8 hm9 => ?_)
  refine s_if_eq (tgt := 29) hF dX12_tuning_24 rfl (fun c11 => ?_) (fun c11 => ?_)
  · refine s_iconst (v := (2 : Int32)) hF dX12_tuning_29 kI_2 ?_
    refine s_istore (pls' := [(4, .int (2 : Int32)), (0, .ref l0), (1, .int l1), (2, .int l2), (3, .int l3)]) hF dX12_tuning_30 (by decide) rfl ?_
    refine s_sub [1, 2, 3, 4, 0] rfl ?_
    exact sX12_tuning_32 hF hD 100000 l0 l1 l2 l3 (2 : Int32) _ (isK.mo f0 hm9)
  · refine s_iconst (v := (0 : Int32)) hF dX12_tuning_27 kI_0 ?_
    exact s_iretD hF hD dX12_tuning_28 rfl
theorem ctX12_tuning  (l0 : Nat) (l1 : Int32) (l2 : Int32) (l3 : Int32) (μ : Mem) : ∀ (r : Int32) (μ' : Mem), LX12_tuning l0 l1 l2 l3 μ = some (r, μ') → CtD yX12_tuning cX12_tuning 6 (some .int) 2 [.ref l0, .int l1, .int l2, .int l3] μ (encI r) μ' := by
  refine ct_enterD plX12 (Nat.le_of_ble_eq_true rfl) (fun F hF hD hI => ?_)
  unfold LX12_tuning
  refine sim_gd (fun f0 => ?_)
  refine s_aload_n hF dX12_tuning_0 rfl 0 rfl ?_
  refine s_iconst (v := (0 : Int32)) hF dX12_tuning_1 kI_0 ?_
  refine s_putI hF dX12_tuning_2 flX12_94 f0 ?_
  refine s_aload_n hF dX12_tuning_5 rfl 0 rfl ?_
  refine s_aload_n hF dX12_tuning_6 rfl 0 rfl ?_
  refine s_iload_n hF dX12_tuning_7 rfl 1 rfl ?_
  refine s_cVi (st := [.ref l0]) (ci := 12) [.int l1] hF hD.dr dX12_tuning_8 cwX12_355 (Nat.le_of_ble_eq_true rfl) (Nat.le_of_ble_eq_true rfl) rfl rfl (Nat.le_of_ble_eq_true rfl) f0 rfl rfl (Nat.le_of_ble_eq_true rfl) (ctX12_isPen l0 l1 _) (fun r1 m2 hl3 hm4 => ?_)
  refine s_if_ne (tgt := 18) hF dX12_tuning_11 rfl (fun c5 => ?_) (fun c5 => ?_)
  · refine s_iconst (v := (1 : Int32)) hF dX12_tuning_14 kI_1 ?_
    refine s_goto (tgt := 19) hF dX12_tuning_15 rfl ?_
    exact sX12_tuning_19 hF hD l0 l1 l2 l3 (1 : Int32) l0 _ (isK.mo f0 hm4)
  · refine s_iconst (v := (0 : Int32)) hF dX12_tuning_18 kI_0 ?_
    exact sX12_tuning_19 hF hD l0 l1 l2 l3 (0 : Int32) l0 _ (isK.mo f0 hm4)
theorem sX12_ring_110 {F : Option Fx} (q62 : Nat → Int32 → Int32 → Int32 → Mem → Option (Int32 × Mem)) (hF : FxO F RX12 cX12_ring 6 3) (hD : FxDO F (some .int)) (hq62 : ∀ (l0 : Nat) (l1 : Int32) (l3 : Int32) (l4 : Int32) (μ : Mem) (_ : isK μ l0 12 = true), Sim F encI 62 [(0, .ref l0), (1, .int l1), (3, .int l3), (4, .int l4)] [] μ (q62 l0 l1 l3 l4 μ)) : ∀ (fu : Nat) (l0 : Nat) (l1 : Int32) (l3 : Int32) (l4 : Int32) (l5 : Int32) (μ : Mem) (f0 : isK μ l0 12 = true), Sim F encI 110 [(0, .ref l0), (1, .int l1), (3, .int l3), (4, .int l4), (5, .int l5)] [] μ (mX12_ring_110 q62 fu l0 l1 l3 l4 l5 μ) := by
  intro fu
  induction fu with
  | zero =>
    intro l0 l1 l3 l4 l5 μ f0
    exact sim_none
  | succ fu ih =>
    intro l0 l1 l3 l4 l5 μ f0
    rw [mX12_ring_110]
    refine s_iload hF dX12_ring_110 4 rfl ?_
    refine s_iload hF dX12_ring_112 3 rfl ?_
    refine s_icmp_ge (tgt := 155) hF dX12_ring_114 rfl (fun c40 => ?_) (fun c40 => ?_)
    · refine s_iinc (v := (l4 + (1 : Int32))) (pls' := [(4, .int (l4 + (1 : Int32))), (0, .ref l0), (1, .int l1), (3, .int l3), (5, .int l5)]) hF dX12_ring_155 3 rfl rfl (by decide) rfl ?_
      refine s_goto (tgt := 62) hF dX12_ring_158 rfl ?_
      refine s_sub [1, 2, 3, 0] rfl ?_
      exact hq62 l0 l1 l3 (l4 + (1 : Int32)) _ f0
    · refine s_aload_n hF dX12_ring_117 rfl 0 rfl ?_
      refine sim_gd (fun g41 => ?_)
      refine s_getR (x := (g_R μ l0 45)) hF dX12_ring_118 flX12_85 f0 g41 rfl ?_
      refine s_iload hF dX12_ring_121 4 rfl ?_
      refine sim_gd (fun g42 => ?_)
      refine s_iaload (x := (g_I μ (g_R μ l0 45) l5.toNatClampNeg)) hF dX12_ring_123 g42 rfl ?_
      refine s_aload_n hF dX12_ring_124 rfl 0 rfl ?_
      refine s_getR (x := (g_R μ l0 45)) hF dX12_ring_125 flX12_85 f0 g41 rfl ?_
      refine s_iload hF dX12_ring_128 3 rfl ?_
      refine sim_gd (fun g43 => ?_)
      refine s_iaload (x := (g_I μ (g_R μ l0 45) l4.toNatClampNeg)) hF dX12_ring_130 g43 rfl ?_
      refine s_icmp_ne (tgt := 149) hF dX12_ring_131 rfl (fun c44 => ?_) (fun c44 => ?_)
      · refine s_iload_n hF dX12_ring_134 rfl 2 rfl ?_
        refine s_if_ne (tgt := 143) hF dX12_ring_135 rfl (fun c45 => ?_) (fun c45 => ?_)
        · refine s_iload hF dX12_ring_138 3 rfl ?_
          refine s_goto (tgt := 148) hF dX12_ring_140 rfl ?_
          exact s_iretD hF hD dX12_ring_148 rfl
        · refine s_iload hF dX12_ring_143 3 rfl ?_
          refine s_iload hF dX12_ring_145 4 rfl ?_
          refine s_isub hF dX12_ring_147 ?_
          exact s_iretD hF hD dX12_ring_148 rfl
      · refine s_iinc (v := (l5 + (1 : Int32))) (pls' := [(5, .int (l5 + (1 : Int32))), (0, .ref l0), (1, .int l1), (3, .int l3), (4, .int l4)]) hF dX12_ring_149 4 rfl rfl (by decide) rfl ?_
        refine s_goto (tgt := 110) hF dX12_ring_152 rfl ?_
        refine s_sub [1, 2, 3, 4, 0] rfl ?_
        exact ih l0 l1 l3 l4 (l5 + (1 : Int32)) _ f0
theorem sX12_ring_62 {F : Option Fx} (hF : FxO F RX12 cX12_ring 6 3) (hD : FxDO F (some .int)) : ∀ (fu : Nat) (l0 : Nat) (l1 : Int32) (l3 : Int32) (l4 : Int32) (μ : Mem) (f0 : isK μ l0 12 = true), Sim F encI 62 [(0, .ref l0), (1, .int l1), (3, .int l3), (4, .int l4)] [] μ (mX12_ring_62 fu l0 l1 l3 l4 μ) := by
  intro fu
  induction fu with
  | zero =>
    intro l0 l1 l3 l4 μ f0
    exact sim_none
  | succ fu ih =>
    intro l0 l1 l3 l4 μ f0
    rw [mX12_ring_62]
    refine s_iload hF dX12_ring_62 3 rfl ?_
    refine s_sipush (v := (1000 : Int32)) hF dX12_ring_64 kS_1000 ?_
    refine s_icmp_gt (tgt := 161) hF dX12_ring_67 rfl (fun c25 => ?_) (fun c25 => ?_)
    · refine s_iconst (v := (-1 : Int32)) hF dX12_ring_161 kI_m1 ?_
      exact s_iretD hF hD dX12_ring_162 rfl
    · refine s_aload_n hF dX12_ring_70 rfl 0 rfl ?_
      refine s_aload_n hF dX12_ring_71 rfl 0 rfl ?_
      refine sim_gd (fun g26 => ?_)
      refine s_getR (x := (g_R μ l0 29)) hF dX12_ring_72 flX12_67 f0 g26 rfl ?_
      refine s_iload_n hF dX12_ring_75 rfl 1 rfl ?_
      refine s_cVi (st := []) (ci := 12) [.ref (g_R μ l0 29), .int l1] hF hD.dr dX12_ring_76 cwX12_286 (Nat.le_of_ble_eq_true rfl) (Nat.le_of_ble_eq_true rfl) rfl rfl (Nat.le_of_ble_eq_true rfl) f0 rfl rfl (Nat.le_of_ble_eq_true rfl) (ctX12_jams l0 (g_R μ l0 29) l1 _) (fun r27 m28 hl29 hm30 => ?_)
      refine s_if_ne (tgt := 161) hF dX12_ring_79 rfl (fun c31 => ?_) (fun c31 => ?_)
      · refine s_aload_n hF dX12_ring_82 rfl 0 rfl ?_
        refine sim_gd (fun g32 => ?_)
        refine s_getR (x := (g_R m28 l0 45)) hF dX12_ring_83 flX12_85 (isK.mo f0 hm30) g32 rfl ?_
        refine s_iload hF dX12_ring_86 3 rfl ?_
        refine s_aload_n hF dX12_ring_88 rfl 0 rfl ?_
        refine s_aload_n hF dX12_ring_89 rfl 0 rfl ?_
        refine sim_gd (fun g33 => ?_)
        refine s_getR (x := (g_R m28 l0 29)) hF dX12_ring_90 flX12_67 (isK.mo f0 hm30) g33 rfl ?_
        refine s_iload_n hF dX12_ring_93 rfl 1 rfl ?_
        refine s_aload_n hF dX12_ring_94 rfl 0 rfl ?_
        refine s_getR (x := (g_R m28 l0 45)) hF dX12_ring_95 flX12_85 (isK.mo f0 hm30) g32 rfl ?_
        refine s_iload hF dX12_ring_98 3 rfl ?_
        refine s_iconst (v := (1 : Int32)) hF dX12_ring_100 kI_1 ?_
        refine s_isub hF dX12_ring_101 ?_
        refine sim_gd (fun g34 => ?_)
        refine s_iaload (x := (g_I m28 (g_R m28 l0 45) (l4 - (1 : Int32)).toNatClampNeg)) hF dX12_ring_102 g34 rfl ?_
        refine s_cVi (st := [.int l4, .ref (g_R m28 l0 45)]) (ci := 12) [.ref (g_R m28 l0 29), .int l1, .int (g_I m28 (g_R m28 l0 45) (l4 - (1 : Int32)).toNatClampNeg)] hF hD.dr dX12_ring_103 cwX12_290 (Nat.le_of_ble_eq_true rfl) (Nat.le_of_ble_eq_true rfl) rfl rfl (Nat.le_of_ble_eq_true rfl) (isK.mo f0 hm30) rfl rfl (Nat.le_of_ble_eq_true rfl) (ctX12_outOf l0 (g_R m28 l0 29) l1 (g_I m28 (g_R m28 l0 45) (l4 - (1 : Int32)).toNatClampNeg) _) (fun r35 m36 hl37 hm38 => ?_)
        refine sim_gd (fun g39 => ?_)
        refine s_iastore hF dX12_ring_106 g39 ?_
        refine s_iconst (v := (0 : Int32)) hF dX12_ring_107 kI_0 ?_
        refine s_istore (pls' := [(5, .int (0 : Int32)), (0, .ref l0), (1, .int l1), (3, .int l3), (4, .int l4)]) hF dX12_ring_108 (by decide) rfl ?_
        refine s_sub [1, 2, 3, 4, 0] rfl ?_
        exact sX12_ring_110 (fun l0 l1 l3 l4 μ => mX12_ring_62 fu l0 l1 l3 l4 μ) hF hD ih 100000 l0 l1 l3 l4 (0 : Int32) _ (isK.mo (isK.mo f0 hm30) hm38)
      · refine s_iconst (v := (-1 : Int32)) hF dX12_ring_161 kI_m1 ?_
        exact s_iretD hF hD dX12_ring_162 rfl
theorem sX12_ring_42 {F : Option Fx} (hF : FxO F RX12 cX12_ring 6 3) (hD : FxDO F (some .int)) (l0 : Nat) (l1 : Int32) (l2 : Int32) (l3 : Int32) (k0 : Int32) (k1 : Nat) (μ : Mem) (f0 : isK μ l0 12 = true) : Sim F encI 42 [(0, .ref l0), (1, .int l1), (2, .int l2), (3, .int l3)] [.int k0, .ref k1] μ (mX12_ring_42 l0 l1 l2 l3 k0 k1 μ) := by
  unfold mX12_ring_42
  refine s_iconst (v := (2 : Int32)) hF dX12_ring_42 kI_2 ?_
  refine s_iconst (v := (1 : Int32)) hF dX12_ring_43 kI_1 ?_
  refine sim_gd (fun g21 => ?_)
  refine s_cVi (st := []) (ci := 12) [.int k0, .int (2 : Int32), .int (1 : Int32)] hF hD.dr dX12_ring_44 cwX12_167 (Nat.le_of_ble_eq_true rfl) (Nat.le_of_ble_eq_true rfl) rfl rfl (Nat.le_of_ble_eq_true rfl) g21 rfl rfl (Nat.le_of_ble_eq_true rfl) (ctX12_bad k1 k0 (2 : Int32) (1 : Int32) _) (fun r17 m18 hl19 hm20 => ?_)
  refine s_if_eq (tgt := 52) hF dX12_ring_47 rfl (fun c22 => ?_) (fun c22 => ?_)
  · refine s_aload_n hF dX12_ring_52 rfl 0 rfl ?_
    refine sim_gd (fun g23 => ?_)
    refine s_getR (x := (g_R m18 l0 45)) hF dX12_ring_53 flX12_85 (isK.mo f0 hm20) g23 rfl ?_
    refine s_iconst (v := (0 : Int32)) hF dX12_ring_56 kI_0 ?_
    refine s_iload_n hF dX12_ring_57 rfl 2 rfl ?_
    refine sim_gd (fun g24 => ?_)
    refine s_iastore hF dX12_ring_58 g24 ?_
    refine s_iconst (v := (1 : Int32)) hF dX12_ring_59 kI_1 ?_
    refine s_istore (pls' := [(4, .int (1 : Int32)), (0, .ref l0), (1, .int l1), (2, .int l2), (3, .int l3)]) hF dX12_ring_60 (by decide) rfl ?_
    refine s_sub [1, 2, 4, 0] rfl ?_
    exact sX12_ring_62 hF hD 100000 l0 l1 l3 (1 : Int32) _ (isK.mo f0 hm20)
  · refine s_iconst (v := (0 : Int32)) hF dX12_ring_50 kI_0 ?_
    exact s_iretD hF hD dX12_ring_51 rfl
theorem sX12_ring_19 {F : Option Fx} (hF : FxO F RX12 cX12_ring 6 3) (hD : FxDO F (some .int)) (l0 : Nat) (l1 : Int32) (l2 : Int32) (l3 : Int32) (k0 : Int32) (k1 : Nat) (μ : Mem) (f0 : isK μ l0 12 = true) : Sim F encI 19 [(0, .ref l0), (1, .int l1), (2, .int l2), (3, .int l3)] [.int k0, .ref k1] μ (mX12_ring_19 l0 l1 l2 l3 k0 k1 μ) := by
  unfold mX12_ring_19
  refine s_iconst (v := (1 : Int32)) hF dX12_ring_19 kI_1 ?_
  refine s_iconst (v := (0 : Int32)) hF dX12_ring_20 kI_0 ?_
  refine sim_gd (fun g10 => ?_)
  refine s_cVi (st := []) (ci := 12) [.int k0, .int (1 : Int32), .int (0 : Int32)] hF hD.dr dX12_ring_21 cwX12_167 (Nat.le_of_ble_eq_true rfl) (Nat.le_of_ble_eq_true rfl) rfl rfl (Nat.le_of_ble_eq_true rfl) g10 rfl rfl (Nat.le_of_ble_eq_true rfl) (ctX12_bad k1 k0 (1 : Int32) (0 : Int32) _) (fun r6 m7 hl8 hm9 => ?_)
  refine s_if_ne (tgt := 50) hF dX12_ring_24 rfl (fun c11 => ?_) (fun c11 => ?_)
  · refine s_aload_n hF dX12_ring_27 rfl 0 rfl ?_
    refine s_iload_n hF dX12_ring_28 rfl 3 rfl ?_
    refine s_iconst (v := (0 : Int32)) hF dX12_ring_29 kI_0 ?_
    refine s_iconst (v := (1 : Int32)) hF dX12_ring_30 kI_1 ?_
    refine s_cSi (st := [.ref l0]) [.int l3, .int (0 : Int32), .int (1 : Int32)] hF hD.dr dX12_ring_31 cwX12_128 (Nat.le_of_ble_eq_true rfl) (Nat.le_of_ble_eq_true rfl) rfl rfl (Nat.le_of_ble_eq_true rfl) (ctX12_in l3 (0 : Int32) (1 : Int32) _) (fun r12 m13 hl14 hm15 => ?_)
    refine s_if_ne (tgt := 41) hF dX12_ring_34 rfl (fun c16 => ?_) (fun c16 => ?_)
    · refine s_iconst (v := (1 : Int32)) hF dX12_ring_37 kI_1 ?_
      refine s_goto (tgt := 42) hF dX12_ring_38 rfl ?_
      exact sX12_ring_42 hF hD l0 l1 l2 l3 (1 : Int32) l0 _ (isK.mo (isK.mo f0 hm9) hm15)
    · refine s_iconst (v := (0 : Int32)) hF dX12_ring_41 kI_0 ?_
      exact sX12_ring_42 hF hD l0 l1 l2 l3 (0 : Int32) l0 _ (isK.mo (isK.mo f0 hm9) hm15)
  · refine s_iconst (v := (0 : Int32)) hF dX12_ring_50 kI_0 ?_
    exact s_iretD hF hD dX12_ring_51 rfl
theorem ctX12_ring  (l0 : Nat) (l1 : Int32) (l2 : Int32) (l3 : Int32) (μ : Mem) : ∀ (r : Int32) (μ' : Mem), LX12_ring l0 l1 l2 l3 μ = some (r, μ') → CtD yX12_ring cX12_ring 6 (some .int) 3 [.ref l0, .int l1, .int l2, .int l3] μ (encI r) μ' := by
  refine ct_enterD plX12 (Nat.le_of_ble_eq_true rfl) (fun F hF hD hI => ?_)
  unfold LX12_ring
  refine sim_gd (fun f0 => ?_)
  refine s_aload_n hF dX12_ring_0 rfl 0 rfl ?_
  refine s_iconst (v := (0 : Int32)) hF dX12_ring_1 kI_0 ?_
  refine s_putI hF dX12_ring_2 flX12_94 f0 ?_
  refine s_aload_n hF dX12_ring_5 rfl 0 rfl ?_
  refine s_aload_n hF dX12_ring_6 rfl 0 rfl ?_
  refine s_iload_n hF dX12_ring_7 rfl 1 rfl ?_
  refine s_cVi (st := [.ref l0]) (ci := 12) [.int l1] hF hD.dr dX12_ring_8 cwX12_355 (Nat.le_of_ble_eq_true rfl) (Nat.le_of_ble_eq_true rfl) rfl rfl (Nat.le_of_ble_eq_true rfl) f0 rfl rfl (Nat.le_of_ble_eq_true rfl) (ctX12_isPen l0 l1 _) (fun r1 m2 hl3 hm4 => ?_)
  refine s_if_ne (tgt := 18) hF dX12_ring_11 rfl (fun c5 => ?_) (fun c5 => ?_)
  · refine s_iconst (v := (1 : Int32)) hF dX12_ring_14 kI_1 ?_
    refine s_goto (tgt := 19) hF dX12_ring_15 rfl ?_
    exact sX12_ring_19 hF hD l0 l1 l2 l3 (1 : Int32) l0 _ (isK.mo f0 hm4)
  · refine s_iconst (v := (0 : Int32)) hF dX12_ring_18 kI_0 ?_
    exact sX12_ring_19 hF hD l0 l1 l2 l3 (0 : Int32) l0 _ (isK.mo f0 hm4)
theorem sX12_fitsBy_4 {F : Option Fx} (hF : FxO F RX12 cX12_fitsBy 4 3) (hD : FxDO F (some .boolean)) : ∀ (fu : Nat) (l0 : Nat) (l1 : Int32) (l2 : Int32) (l3 : Int32) (μ : Mem) (f0 : isK μ l0 12 = true), Sim F encI 4 [(0, .ref l0), (1, .int l1), (2, .int l2), (3, .int l3)] [] μ (mX12_fitsBy_4 fu l0 l1 l2 l3 μ) := by
  intro fu
  induction fu with
  | zero =>
    intro l0 l1 l2 l3 μ f0
    exact sim_none
  | succ fu ih =>
    intro l0 l1 l2 l3 μ f0
    rw [mX12_fitsBy_4]
    refine s_iload_n hF dX12_fitsBy_4 rfl 3 rfl ?_
    refine s_aload_n hF dX12_fitsBy_5 rfl 0 rfl ?_
    refine s_getI (x := (g_I μ l0 33)) hF dX12_fitsBy_6 flX12_187 f0 rfl ?_
    refine s_icmp_ge (tgt := 68) hF dX12_fitsBy_9 rfl (fun c1 => ?_) (fun c1 => ?_)
    · refine s_iload_n hF dX12_fitsBy_68 rfl 2 rfl ?_
      refine sim_gd (fun g2 => ?_)
      exact s_zretD hF hD dX12_fitsBy_69 rfl (nar_z g2)
    · refine s_iload_n hF dX12_fitsBy_12 rfl 2 rfl ?_
      refine s_if_eq (tgt := 68) hF dX12_fitsBy_13 rfl (fun c3 => ?_) (fun c3 => ?_)
      · refine s_iload_n hF dX12_fitsBy_68 rfl 2 rfl ?_
        refine sim_gd (fun g4 => ?_)
        exact s_zretD hF hD dX12_fitsBy_69 rfl (nar_z g4)
      · refine s_aload_n hF dX12_fitsBy_16 rfl 0 rfl ?_
        refine s_aload_n hF dX12_fitsBy_17 rfl 0 rfl ?_
        refine sim_gd (fun g5 => ?_)
        refine s_getR (x := (g_R μ l0 29)) hF dX12_fitsBy_18 flX12_67 f0 g5 rfl ?_
        refine s_iload_n hF dX12_fitsBy_21 rfl 1 rfl ?_
        refine s_cVi (st := []) (ci := 12) [.ref (g_R μ l0 29), .int l1] hF hD.dr dX12_fitsBy_22 cwX12_286 (Nat.le_of_ble_eq_true rfl) (Nat.le_of_ble_eq_true rfl) rfl rfl (Nat.le_of_ble_eq_true rfl) f0 rfl rfl (Nat.le_of_ble_eq_true rfl) (ctX12_jams l0 (g_R μ l0 29) l1 _) (fun r6 m7 hl8 hm9 => ?_)
        refine s_if_ne (tgt := 60) hF dX12_fitsBy_25 rfl (fun c10 => ?_) (fun c10 => ?_)
        · refine s_aload_n hF dX12_fitsBy_28 rfl 0 rfl ?_
          refine s_aload_n hF dX12_fitsBy_29 rfl 0 rfl ?_
          refine sim_gd (fun g11 => ?_)
          refine s_getR (x := (g_R m7 l0 29)) hF dX12_fitsBy_30 flX12_67 (isK.mo f0 hm9) g11 rfl ?_
          refine s_iload_n hF dX12_fitsBy_33 rfl 1 rfl ?_
          refine s_aload_n hF dX12_fitsBy_34 rfl 0 rfl ?_
          refine sim_gd (fun g12 => ?_)
          refine s_getR (x := (g_R m7 l0 21)) hF dX12_fitsBy_35 flX12_46 (isK.mo f0 hm9) g12 rfl ?_
          refine s_iload_n hF dX12_fitsBy_38 rfl 3 rfl ?_
          refine sim_gd (fun g13 => ?_)
          refine sim_gd (fun g14 => ?_)
          refine s_aaload (x := (g_R m7 (g_R m7 l0 21) l3.toNatClampNeg)) hF dX12_fitsBy_39 (by decide) (by decide) g13 g14 rfl ?_
          refine s_iconst (v := (0 : Int32)) hF dX12_fitsBy_40 kI_0 ?_
          refine sim_gd (fun g15 => ?_)
          refine s_iaload (x := (g_I m7 (g_R m7 (g_R m7 l0 21) l3.toNatClampNeg) (0 : Int32).toNatClampNeg)) hF dX12_fitsBy_41 g15 rfl ?_
          refine s_cVi (st := []) (ci := 12) [.ref (g_R m7 l0 29), .int l1, .int (g_I m7 (g_R m7 (g_R m7 l0 21) l3.toNatClampNeg) (0 : Int32).toNatClampNeg)] hF hD.dr dX12_fitsBy_42 cwX12_290 (Nat.le_of_ble_eq_true rfl) (Nat.le_of_ble_eq_true rfl) rfl rfl (Nat.le_of_ble_eq_true rfl) (isK.mo f0 hm9) rfl rfl (Nat.le_of_ble_eq_true rfl) (ctX12_outOf l0 (g_R m7 l0 29) l1 (g_I m7 (g_R m7 (g_R m7 l0 21) l3.toNatClampNeg) (0 : Int32).toNatClampNeg) _) (fun r16 m17 hl18 hm19 => ?_)
          refine s_aload_n hF dX12_fitsBy_45 rfl 0 rfl ?_
          refine sim_gd (fun g20 => ?_)
          refine s_getR (x := (g_R m17 l0 21)) hF dX12_fitsBy_46 flX12_46 (isK.mo (isK.mo f0 hm9) hm19) g20 rfl ?_
          refine s_iload_n hF dX12_fitsBy_49 rfl 3 rfl ?_
          refine sim_gd (fun g21 => ?_)
          refine sim_gd (fun g22 => ?_)
          refine s_aaload (x := (g_R m17 (g_R m17 l0 21) l3.toNatClampNeg)) hF dX12_fitsBy_50 (by decide) (by decide) g21 g22 rfl ?_
          refine s_iconst (v := (1 : Int32)) hF dX12_fitsBy_51 kI_1 ?_
          refine sim_gd (fun g23 => ?_)
          refine s_iaload (x := (g_I m17 (g_R m17 (g_R m17 l0 21) l3.toNatClampNeg) (1 : Int32).toNatClampNeg)) hF dX12_fitsBy_52 g23 rfl ?_
          refine s_icmp_ne (tgt := 60) hF dX12_fitsBy_53 rfl (fun c24 => ?_) (fun c24 => ?_)
          · refine s_iconst (v := (1 : Int32)) hF dX12_fitsBy_56 kI_1 ?_
            refine s_goto (tgt := 61) hF dX12_fitsBy_57 rfl ?_
            refine s_istore_n (pls' := [(2, .int (1 : Int32)), (0, .ref l0), (1, .int l1), (3, .int l3)]) hF dX12_fitsBy_61 rfl (by decide) rfl ?_
            refine s_iinc (v := (l3 + (1 : Int32))) (pls' := [(3, .int (l3 + (1 : Int32))), (2, .int (1 : Int32)), (0, .ref l0), (1, .int l1)]) hF dX12_fitsBy_62 3 rfl rfl (by decide) rfl ?_
            refine s_goto (tgt := 4) hF dX12_fitsBy_65 rfl ?_
            refine s_sub [2, 3, 1, 0] rfl ?_
            exact ih l0 l1 (1 : Int32) (l3 + (1 : Int32)) _ (isK.mo (isK.mo f0 hm9) hm19)
          · refine s_iconst (v := (0 : Int32)) hF dX12_fitsBy_60 kI_0 ?_
            refine s_istore_n (pls' := [(2, .int (0 : Int32)), (0, .ref l0), (1, .int l1), (3, .int l3)]) hF dX12_fitsBy_61 rfl (by decide) rfl ?_
            refine s_iinc (v := (l3 + (1 : Int32))) (pls' := [(3, .int (l3 + (1 : Int32))), (2, .int (0 : Int32)), (0, .ref l0), (1, .int l1)]) hF dX12_fitsBy_62 3 rfl rfl (by decide) rfl ?_
            refine s_goto (tgt := 4) hF dX12_fitsBy_65 rfl ?_
            refine s_sub [2, 3, 1, 0] rfl ?_
            exact ih l0 l1 (0 : Int32) (l3 + (1 : Int32)) _ (isK.mo (isK.mo f0 hm9) hm19)
        · refine s_iconst (v := (0 : Int32)) hF dX12_fitsBy_60 kI_0 ?_
          refine s_istore_n (pls' := [(2, .int (0 : Int32)), (0, .ref l0), (1, .int l1), (3, .int l3)]) hF dX12_fitsBy_61 rfl (by decide) rfl ?_
          refine s_iinc (v := (l3 + (1 : Int32))) (pls' := [(3, .int (l3 + (1 : Int32))), (2, .int (0 : Int32)), (0, .ref l0), (1, .int l1)]) hF dX12_fitsBy_62 3 rfl rfl (by decide) rfl ?_
          refine s_goto (tgt := 4) hF dX12_fitsBy_65 rfl ?_
          refine s_sub [2, 3, 1, 0] rfl ?_
          exact ih l0 l1 (0 : Int32) (l3 + (1 : Int32)) _ (isK.mo f0 hm9)
theorem ctX12_fitsBy  (l0 : Nat) (l1 : Int32) (μ : Mem) : ∀ (r : Int32) (μ' : Mem), LX12_fitsBy l0 l1 μ = some (r, μ') → CtD yX12_fitsBy cX12_fitsBy 4 (some .boolean) 3 [.ref l0, .int l1] μ (encI r) μ' := by
  refine ct_enterD plX12 (Nat.le_of_ble_eq_true rfl) (fun F hF hD hI => ?_)
  unfold LX12_fitsBy
  refine sim_gd (fun f0 => ?_)
  refine s_iconst (v := (1 : Int32)) hF dX12_fitsBy_0 kI_1 ?_
  refine s_istore_n (pls' := [(2, .int (1 : Int32)), (0, .ref l0), (1, .int l1)]) hF dX12_fitsBy_1 rfl (by decide) rfl ?_
  refine s_iconst (v := (0 : Int32)) hF dX12_fitsBy_2 kI_0 ?_
  refine s_istore_n (pls' := [(3, .int (0 : Int32)), (2, .int (1 : Int32)), (0, .ref l0), (1, .int l1)]) hF dX12_fitsBy_3 rfl (by decide) rfl ?_
  refine s_sub [2, 3, 1, 0] rfl ?_
  exact sX12_fitsBy_4 hF hD 100000 l0 l1 (1 : Int32) (0 : Int32) _ f0
theorem sX12_fits_9 {F : Option Fx} (hF : FxO F RX12 cX12_fits 3 4) (hD : FxDO F (some .int)) : ∀ (fu : Nat) (l0 : Nat) (l1 : Int32) (l2 : Int32) (μ : Mem) (f0 : isK μ l0 12 = true), Sim F encI 9 [(0, .ref l0), (1, .int l1), (2, .int l2)] [] μ (mX12_fits_9 fu l0 l1 l2 μ) := by
  intro fu
  induction fu with
  | zero =>
    intro l0 l1 l2 μ f0
    exact sim_none
  | succ fu ih =>
    intro l0 l1 l2 μ f0
    rw [mX12_fits_9]
    refine s_iload_n hF dX12_fits_9 rfl 2 rfl ?_
    refine s_aload_n hF dX12_fits_10 rfl 0 rfl ?_
    refine sim_gd (fun g1 => ?_)
    refine s_getR (x := (g_R μ l0 12)) hF dX12_fits_11 flX12_23 f0 g1 rfl ?_
    refine s_iconst (v := (0 : Int32)) hF dX12_fits_14 kI_0 ?_
    refine sim_gd (fun g2 => ?_)
    refine s_iaload (x := (g_I μ (g_R μ l0 12) (0 : Int32).toNatClampNeg)) hF dX12_fits_15 g2 rfl ?_
    refine s_icmp_ge (tgt := 43) hF dX12_fits_16 rfl (fun c3 => ?_) (fun c3 => ?_)
    · refine s_iload_n hF dX12_fits_43 rfl 1 rfl ?_
      exact s_iretD hF hD dX12_fits_44 rfl
    · refine s_iload_n hF dX12_fits_19 rfl 1 rfl ?_
      refine s_aload_n hF dX12_fits_20 rfl 0 rfl ?_
      refine s_iload_n hF dX12_fits_21 rfl 2 rfl ?_
      refine s_cVi (st := [.int l1]) (ci := 12) [.int l2] hF hD.dr dX12_fits_22 cwX12_404 (Nat.le_of_ble_eq_true rfl) (Nat.le_of_ble_eq_true rfl) rfl rfl (Nat.le_of_ble_eq_true rfl) f0 rfl rfl (Nat.le_of_ble_eq_true rfl) (ctX12_fitsBy l0 l2 _) (fun r4 m5 hl6 hm7 => ?_)
      refine s_if_eq (tgt := 34) hF dX12_fits_25 rfl (fun c8 => ?_) (fun c8 => ?_)
      · refine s_iconst (v := (0 : Int32)) hF dX12_fits_34 kI_0 ?_
        refine s_ior hF dX12_fits_35 ?_
        refine s_istore_n (pls' := [(1, .int (l1 ||| (0 : Int32))), (0, .ref l0), (2, .int l2)]) hF dX12_fits_36 rfl (by decide) rfl ?_
        refine s_iinc (v := (l2 + (1 : Int32))) (pls' := [(2, .int (l2 + (1 : Int32))), (1, .int (l1 ||| (0 : Int32))), (0, .ref l0)]) hF dX12_fits_37 2 rfl rfl (by decide) rfl ?_
        refine s_goto (tgt := 9) hF dX12_fits_40 rfl ?_
        refine s_sub [2, 1, 0] rfl ?_
        exact ih l0 (l1 ||| (0 : Int32)) (l2 + (1 : Int32)) _ (isK.mo f0 hm7)
      · refine s_iconst (v := (1 : Int32)) hF dX12_fits_28 kI_1 ?_
        refine s_iload_n hF dX12_fits_29 rfl 2 rfl ?_
        refine s_ishl hF dX12_fits_30 ?_
        refine s_goto (tgt := 35) hF dX12_fits_31 rfl ?_
        refine s_ior hF dX12_fits_35 ?_
        refine s_istore_n (pls' := [(1, .int (l1 ||| ((1 : Int32) <<< (l2 &&& 31)))), (0, .ref l0), (2, .int l2)]) hF dX12_fits_36 rfl (by decide) rfl ?_
        refine s_iinc (v := (l2 + (1 : Int32))) (pls' := [(2, .int (l2 + (1 : Int32))), (1, .int (l1 ||| ((1 : Int32) <<< (l2 &&& 31)))), (0, .ref l0)]) hF dX12_fits_37 2 rfl rfl (by decide) rfl ?_
        refine s_goto (tgt := 9) hF dX12_fits_40 rfl ?_
        refine s_sub [2, 1, 0] rfl ?_
        exact ih l0 (l1 ||| ((1 : Int32) <<< (l2 &&& 31))) (l2 + (1 : Int32)) _ (isK.mo f0 hm7)
theorem ctX12_fits  (l0 : Nat) (μ : Mem) : ∀ (r : Int32) (μ' : Mem), LX12_fits l0 μ = some (r, μ') → CtD yX12_fits cX12_fits 3 (some .int) 4 [.ref l0] μ (encI r) μ' := by
  refine ct_enterD plX12 (Nat.le_of_ble_eq_true rfl) (fun F hF hD hI => ?_)
  unfold LX12_fits
  refine sim_gd (fun f0 => ?_)
  refine s_aload_n hF dX12_fits_0 rfl 0 rfl ?_
  refine s_iconst (v := (0 : Int32)) hF dX12_fits_1 kI_0 ?_
  refine s_putI hF dX12_fits_2 flX12_94 f0 ?_
  refine s_iconst (v := (0 : Int32)) hF dX12_fits_5 kI_0 ?_
  refine s_istore_n (pls' := [(1, .int (0 : Int32)), (0, .ref l0)]) hF dX12_fits_6 rfl (by decide) rfl ?_
  refine s_iconst (v := (0 : Int32)) hF dX12_fits_7 kI_0 ?_
  refine s_istore_n (pls' := [(2, .int (0 : Int32)), (1, .int (0 : Int32)), (0, .ref l0)]) hF dX12_fits_8 rfl (by decide) rfl ?_
  refine s_sub [2, 1, 0] rfl ?_
  exact sX12_fits_9 hF hD 100000 l0 (0 : Int32) (0 : Int32) _ f0
theorem sX12_areAlikeAt_24 {F : Option Fx} (hF : FxO F RX12 cX12_areAlikeAt 4 3) (hD : FxDO F (some .boolean)) (l0 : Nat) (l1 : Int32) (l2 : Int32) (μ : Mem) (f0 : isK μ l0 12 = true) : Sim F encI 24 [(0, .ref l0), (1, .int l1), (2, .int l2)] [] μ (mX12_areAlikeAt_24 l0 l1 l2 μ) := by
  unfold mX12_areAlikeAt_24
  refine s_aload_n hF dX12_areAlikeAt_24 rfl 0 rfl ?_
  refine s_aload_n hF dX12_areAlikeAt_25 rfl 0 rfl ?_
  refine sim_gd (fun g24 => ?_)
  refine s_getR (x := (g_R μ l0 29)) hF dX12_areAlikeAt_26 flX12_67 f0 g24 rfl ?_
  refine s_iload_n hF dX12_areAlikeAt_29 rfl 1 rfl ?_
  refine s_cVi (st := []) (ci := 12) [.ref (g_R μ l0 29), .int l1] hF hD.dr dX12_areAlikeAt_30 cwX12_286 (Nat.le_of_ble_eq_true rfl) (Nat.le_of_ble_eq_true rfl) rfl rfl (Nat.le_of_ble_eq_true rfl) f0 rfl rfl (Nat.le_of_ble_eq_true rfl) (ctX12_jams l0 (g_R μ l0 29) l1 _) (fun r25 m26 hl27 hm28 => ?_)
  refine s_if_eq (tgt := 52) hF dX12_areAlikeAt_33 rfl (fun c29 => ?_) (fun c29 => ?_)
  · refine s_iconst (v := (0 : Int32)) hF dX12_areAlikeAt_52 kI_0 ?_
    refine s_goto (tgt := 84) hF dX12_areAlikeAt_53 rfl ?_
    exact s_zretD hF hD dX12_areAlikeAt_84 rfl rfl
  · refine s_aload_n hF dX12_areAlikeAt_36 rfl 0 rfl ?_
    refine s_aload_n hF dX12_areAlikeAt_37 rfl 0 rfl ?_
    refine sim_gd (fun g30 => ?_)
    refine s_getR (x := (g_R m26 l0 29)) hF dX12_areAlikeAt_38 flX12_67 (isK.mo f0 hm28) g30 rfl ?_
    refine s_iload_n hF dX12_areAlikeAt_41 rfl 2 rfl ?_
    refine s_cVi (st := []) (ci := 12) [.ref (g_R m26 l0 29), .int l2] hF hD.dr dX12_areAlikeAt_42 cwX12_286 (Nat.le_of_ble_eq_true rfl) (Nat.le_of_ble_eq_true rfl) rfl rfl (Nat.le_of_ble_eq_true rfl) (isK.mo f0 hm28) rfl rfl (Nat.le_of_ble_eq_true rfl) (ctX12_jams l0 (g_R m26 l0 29) l2 _) (fun r31 m32 hl33 hm34 => ?_)
    refine s_if_eq (tgt := 52) hF dX12_areAlikeAt_45 rfl (fun c35 => ?_) (fun c35 => ?_)
    · refine s_iconst (v := (0 : Int32)) hF dX12_areAlikeAt_52 kI_0 ?_
      refine s_goto (tgt := 84) hF dX12_areAlikeAt_53 rfl ?_
      exact s_zretD hF hD dX12_areAlikeAt_84 rfl rfl
    · refine s_iconst (v := (1 : Int32)) hF dX12_areAlikeAt_48 kI_1 ?_
      refine s_goto (tgt := 84) hF dX12_areAlikeAt_49 rfl ?_
      exact s_zretD hF hD dX12_areAlikeAt_84 rfl rfl
theorem ctX12_areAlikeAt  (l0 : Nat) (l1 : Int32) (l2 : Int32) (l3 : Int32) (μ : Mem) : ∀ (r : Int32) (μ' : Mem), LX12_areAlikeAt l0 l1 l2 l3 μ = some (r, μ') → CtD yX12_areAlikeAt cX12_areAlikeAt 4 (some .boolean) 3 [.ref l0, .int l1, .int l2, .int l3] μ (encI r) μ' := by
  refine ct_enterD plX12 (Nat.le_of_ble_eq_true rfl) (fun F hF hD hI => ?_)
  unfold LX12_areAlikeAt
  refine sim_gd (fun f0 => ?_)
  refine s_aload_n hF dX12_areAlikeAt_0 rfl 0 rfl ?_
  refine s_aload_n hF dX12_areAlikeAt_1 rfl 0 rfl ?_
  refine sim_gd (fun g1 => ?_)
  refine s_getR (x := (g_R μ l0 29)) hF dX12_areAlikeAt_2 flX12_67 f0 g1 rfl ?_
  refine s_iload_n hF dX12_areAlikeAt_5 rfl 1 rfl ?_
  refine s_cVi (st := []) (ci := 12) [.ref (g_R μ l0 29), .int l1] hF hD.dr dX12_areAlikeAt_6 cwX12_286 (Nat.le_of_ble_eq_true rfl) (Nat.le_of_ble_eq_true rfl) rfl rfl (Nat.le_of_ble_eq_true rfl) f0 rfl rfl (Nat.le_of_ble_eq_true rfl) (ctX12_jams l0 (g_R μ l0 29) l1 _) (fun r2 m3 hl4 hm5 => ?_)
  refine s_if_ne (tgt := 24) hF dX12_areAlikeAt_9 rfl (fun c6 => ?_) (fun c6 => ?_)
  · refine s_aload_n hF dX12_areAlikeAt_12 rfl 0 rfl ?_
    refine s_aload_n hF dX12_areAlikeAt_13 rfl 0 rfl ?_
    refine sim_gd (fun g7 => ?_)
    refine s_getR (x := (g_R m3 l0 29)) hF dX12_areAlikeAt_14 flX12_67 (isK.mo f0 hm5) g7 rfl ?_
    refine s_iload_n hF dX12_areAlikeAt_17 rfl 2 rfl ?_
    refine s_cVi (st := []) (ci := 12) [.ref (g_R m3 l0 29), .int l2] hF hD.dr dX12_areAlikeAt_18 cwX12_286 (Nat.le_of_ble_eq_true rfl) (Nat.le_of_ble_eq_true rfl) rfl rfl (Nat.le_of_ble_eq_true rfl) (isK.mo f0 hm5) rfl rfl (Nat.le_of_ble_eq_true rfl) (ctX12_jams l0 (g_R m3 l0 29) l2 _) (fun r8 m9 hl10 hm11 => ?_)
    refine s_if_eq (tgt := 56) hF dX12_areAlikeAt_21 rfl (fun c12 => ?_) (fun c12 => ?_)
    · refine s_aload_n hF dX12_areAlikeAt_56 rfl 0 rfl ?_
      refine s_aload_n hF dX12_areAlikeAt_57 rfl 0 rfl ?_
      refine sim_gd (fun g13 => ?_)
      refine s_getR (x := (g_R m9 l0 29)) hF dX12_areAlikeAt_58 flX12_67 (isK.mo (isK.mo f0 hm5) hm11) g13 rfl ?_
      refine s_iload_n hF dX12_areAlikeAt_61 rfl 1 rfl ?_
      refine s_iload_n hF dX12_areAlikeAt_62 rfl 3 rfl ?_
      refine s_cVi (st := []) (ci := 12) [.ref (g_R m9 l0 29), .int l1, .int l3] hF hD.dr dX12_areAlikeAt_63 cwX12_290 (Nat.le_of_ble_eq_true rfl) (Nat.le_of_ble_eq_true rfl) rfl rfl (Nat.le_of_ble_eq_true rfl) (isK.mo (isK.mo f0 hm5) hm11) rfl rfl (Nat.le_of_ble_eq_true rfl) (ctX12_outOf l0 (g_R m9 l0 29) l1 l3 _) (fun r14 m15 hl16 hm17 => ?_)
      refine s_aload_n hF dX12_areAlikeAt_66 rfl 0 rfl ?_
      refine s_aload_n hF dX12_areAlikeAt_67 rfl 0 rfl ?_
      refine sim_gd (fun g18 => ?_)
      refine s_getR (x := (g_R m15 l0 29)) hF dX12_areAlikeAt_68 flX12_67 (isK.mo (isK.mo (isK.mo f0 hm5) hm11) hm17) g18 rfl ?_
      refine s_iload_n hF dX12_areAlikeAt_71 rfl 2 rfl ?_
      refine s_iload_n hF dX12_areAlikeAt_72 rfl 3 rfl ?_
      refine s_cVi (st := [.int r14]) (ci := 12) [.ref (g_R m15 l0 29), .int l2, .int l3] hF hD.dr dX12_areAlikeAt_73 cwX12_290 (Nat.le_of_ble_eq_true rfl) (Nat.le_of_ble_eq_true rfl) rfl rfl (Nat.le_of_ble_eq_true rfl) (isK.mo (isK.mo (isK.mo f0 hm5) hm11) hm17) rfl rfl (Nat.le_of_ble_eq_true rfl) (ctX12_outOf l0 (g_R m15 l0 29) l2 l3 _) (fun r19 m20 hl21 hm22 => ?_)
      refine s_icmp_ne (tgt := 83) hF dX12_areAlikeAt_76 rfl (fun c23 => ?_) (fun c23 => ?_)
      · refine s_iconst (v := (1 : Int32)) hF dX12_areAlikeAt_79 kI_1 ?_
        refine s_goto (tgt := 84) hF dX12_areAlikeAt_80 rfl ?_
        exact s_zretD hF hD dX12_areAlikeAt_84 rfl rfl
      · refine s_iconst (v := (0 : Int32)) hF dX12_areAlikeAt_83 kI_0 ?_
        exact s_zretD hF hD dX12_areAlikeAt_84 rfl rfl
    · refine s_sub [0, 1, 2] rfl ?_
      exact sX12_areAlikeAt_24 hF hD l0 l1 l2 _ (isK.mo (isK.mo f0 hm5) hm11)
  · refine s_sub [0, 1, 2] rfl ?_
    exact sX12_areAlikeAt_24 hF hD l0 l1 l2 _ (isK.mo f0 hm5)
theorem sX12_worstAt_20 {F : Option Fx} (q4 : Nat → Int32 → Int32 → Int32 → Mem → Option (Int32 × Mem)) (hF : FxO F RX12 cX12_worstAt 6 4) (hD : FxDO F (some .int)) (hq4 : ∀ (l0 : Nat) (l1 : Int32) (l2 : Int32) (l3 : Int32) (μ : Mem) (_ : isK μ l0 12 = true), Sim F encI 4 [(0, .ref l0), (1, .int l1), (2, .int l2), (3, .int l3)] [] μ (q4 l0 l1 l2 l3 μ)) : ∀ (fu : Nat) (l0 : Nat) (l1 : Int32) (l2 : Int32) (l3 : Int32) (l4 : Int32) (l5 : Int32) (μ : Mem) (f0 : isK μ l0 12 = true), Sim F encI 20 [(0, .ref l0), (1, .int l1), (2, .int l2), (3, .int l3), (4, .int l4), (5, .int l5)] [] μ (mX12_worstAt_20 q4 fu l0 l1 l2 l3 l4 l5 μ) := by
  intro fu
  induction fu with
  | zero =>
    intro l0 l1 l2 l3 l4 l5 μ f0
    exact sim_none
  | succ fu ih =>
    intro l0 l1 l2 l3 l4 l5 μ f0
    rw [mX12_worstAt_20]
    refine s_iload hF dX12_worstAt_20 5 rfl ?_
    refine s_aload_n hF dX12_worstAt_22 rfl 0 rfl ?_
    refine sim_gd (fun g4 => ?_)
    refine s_getR (x := (g_R μ l0 12)) hF dX12_worstAt_23 flX12_23 f0 g4 rfl ?_
    refine s_iconst (v := (0 : Int32)) hF dX12_worstAt_26 kI_0 ?_
    refine sim_gd (fun g5 => ?_)
    refine s_iaload (x := (g_I μ (g_R μ l0 12) (0 : Int32).toNatClampNeg)) hF dX12_worstAt_27 g5 rfl ?_
    refine s_icmp_ge (tgt := 75) hF dX12_worstAt_28 rfl (fun c6 => ?_) (fun c6 => ?_)
    · refine s_iload_n hF dX12_worstAt_75 rfl 2 rfl ?_
      refine s_iload hF dX12_worstAt_76 4 rfl ?_
      refine s_cSi (st := []) [.int l2, .int l4] hF hD.dr dX12_worstAt_78 cwX12_237 (Nat.le_of_ble_eq_true rfl) (Nat.le_of_ble_eq_true rfl) rfl rfl (Nat.le_of_ble_eq_true rfl) (ctX12_more l2 l4 _) (fun r7 m8 hl9 hm10 => ?_)
      refine s_istore_n (pls' := [(2, .int r7), (0, .ref l0), (1, .int l1), (3, .int l3), (4, .int l4), (5, .int l5)]) hF dX12_worstAt_81 rfl (by decide) rfl ?_
      refine s_iinc (v := (l3 + (1 : Int32))) (pls' := [(3, .int (l3 + (1 : Int32))), (2, .int r7), (0, .ref l0), (1, .int l1), (4, .int l4), (5, .int l5)]) hF dX12_worstAt_82 3 rfl rfl (by decide) rfl ?_
      refine s_goto (tgt := 4) hF dX12_worstAt_85 rfl ?_
      refine s_sub [2, 3, 1, 0] rfl ?_
      exact hq4 l0 l1 r7 (l3 + (1 : Int32)) _ (isK.mo f0 hm10)
    · refine s_iload hF dX12_worstAt_31 4 rfl ?_
      refine s_aload_n hF dX12_worstAt_33 rfl 0 rfl ?_
      refine s_iload_n hF dX12_worstAt_34 rfl 3 rfl ?_
      refine s_cVi (st := [.int l4]) (ci := 12) [.int l3] hF hD.dr dX12_worstAt_35 cwX12_404 (Nat.le_of_ble_eq_true rfl) (Nat.le_of_ble_eq_true rfl) rfl rfl (Nat.le_of_ble_eq_true rfl) f0 rfl rfl (Nat.le_of_ble_eq_true rfl) (ctX12_fitsBy l0 l3 _) (fun r11 m12 hl13 hm14 => ?_)
      refine s_if_eq (tgt := 65) hF dX12_worstAt_38 rfl (fun c15 => ?_) (fun c15 => ?_)
      · refine s_iconst (v := (0 : Int32)) hF dX12_worstAt_65 kI_0 ?_
        refine s_iadd hF dX12_worstAt_66 ?_
        refine s_istore (pls' := [(4, .int (l4 + (0 : Int32))), (0, .ref l0), (1, .int l1), (2, .int l2), (3, .int l3), (5, .int l5)]) hF dX12_worstAt_67 (by decide) rfl ?_
        refine s_iinc (v := (l5 + (1 : Int32))) (pls' := [(5, .int (l5 + (1 : Int32))), (4, .int (l4 + (0 : Int32))), (0, .ref l0), (1, .int l1), (2, .int l2), (3, .int l3)]) hF dX12_worstAt_69 5 rfl rfl (by decide) rfl ?_
        refine s_goto (tgt := 20) hF dX12_worstAt_72 rfl ?_
        refine s_sub [2, 3, 4, 5, 1, 0] rfl ?_
        exact ih l0 l1 l2 l3 (l4 + (0 : Int32)) (l5 + (1 : Int32)) _ (isK.mo f0 hm14)
      · refine s_aload_n hF dX12_worstAt_41 rfl 0 rfl ?_
        refine s_iload hF dX12_worstAt_42 5 rfl ?_
        refine s_cVi (st := [.int l4]) (ci := 12) [.int l5] hF hD.dr dX12_worstAt_44 cwX12_404 (Nat.le_of_ble_eq_true rfl) (Nat.le_of_ble_eq_true rfl) rfl rfl (Nat.le_of_ble_eq_true rfl) (isK.mo f0 hm14) rfl rfl (Nat.le_of_ble_eq_true rfl) (ctX12_fitsBy l0 l5 _) (fun r16 m17 hl18 hm19 => ?_)
        refine s_if_eq (tgt := 65) hF dX12_worstAt_47 rfl (fun c20 => ?_) (fun c20 => ?_)
        · refine s_iconst (v := (0 : Int32)) hF dX12_worstAt_65 kI_0 ?_
          refine s_iadd hF dX12_worstAt_66 ?_
          refine s_istore (pls' := [(4, .int (l4 + (0 : Int32))), (0, .ref l0), (1, .int l1), (2, .int l2), (3, .int l3), (5, .int l5)]) hF dX12_worstAt_67 (by decide) rfl ?_
          refine s_iinc (v := (l5 + (1 : Int32))) (pls' := [(5, .int (l5 + (1 : Int32))), (4, .int (l4 + (0 : Int32))), (0, .ref l0), (1, .int l1), (2, .int l2), (3, .int l3)]) hF dX12_worstAt_69 5 rfl rfl (by decide) rfl ?_
          refine s_goto (tgt := 20) hF dX12_worstAt_72 rfl ?_
          refine s_sub [2, 3, 4, 5, 1, 0] rfl ?_
          exact ih l0 l1 l2 l3 (l4 + (0 : Int32)) (l5 + (1 : Int32)) _ (isK.mo (isK.mo f0 hm14) hm19)
        · refine s_aload_n hF dX12_worstAt_50 rfl 0 rfl ?_
          refine s_iload_n hF dX12_worstAt_51 rfl 3 rfl ?_
          refine s_iload hF dX12_worstAt_52 5 rfl ?_
          refine s_iload_n hF dX12_worstAt_54 rfl 1 rfl ?_
          refine s_cVi (st := [.int l4]) (ci := 12) [.int l3, .int l5, .int l1] hF hD.dr dX12_worstAt_55 cwX12_407 (Nat.le_of_ble_eq_true rfl) (Nat.le_of_ble_eq_true rfl) rfl rfl (Nat.le_of_ble_eq_true rfl) (isK.mo (isK.mo f0 hm14) hm19) rfl rfl (Nat.le_of_ble_eq_true rfl) (ctX12_areAlikeAt l0 l3 l5 l1 _) (fun r21 m22 hl23 hm24 => ?_)
          refine s_if_eq (tgt := 65) hF dX12_worstAt_58 rfl (fun c25 => ?_) (fun c25 => ?_)
          · refine s_iconst (v := (0 : Int32)) hF dX12_worstAt_65 kI_0 ?_
            refine s_iadd hF dX12_worstAt_66 ?_
            refine s_istore (pls' := [(4, .int (l4 + (0 : Int32))), (0, .ref l0), (1, .int l1), (2, .int l2), (3, .int l3), (5, .int l5)]) hF dX12_worstAt_67 (by decide) rfl ?_
            refine s_iinc (v := (l5 + (1 : Int32))) (pls' := [(5, .int (l5 + (1 : Int32))), (4, .int (l4 + (0 : Int32))), (0, .ref l0), (1, .int l1), (2, .int l2), (3, .int l3)]) hF dX12_worstAt_69 5 rfl rfl (by decide) rfl ?_
            refine s_goto (tgt := 20) hF dX12_worstAt_72 rfl ?_
            refine s_sub [2, 3, 4, 5, 1, 0] rfl ?_
            exact ih l0 l1 l2 l3 (l4 + (0 : Int32)) (l5 + (1 : Int32)) _ (isK.mo (isK.mo (isK.mo f0 hm14) hm19) hm24)
          · refine s_iconst (v := (1 : Int32)) hF dX12_worstAt_61 kI_1 ?_
            refine s_goto (tgt := 66) hF dX12_worstAt_62 rfl ?_
            refine s_iadd hF dX12_worstAt_66 ?_
            refine s_istore (pls' := [(4, .int (l4 + (1 : Int32))), (0, .ref l0), (1, .int l1), (2, .int l2), (3, .int l3), (5, .int l5)]) hF dX12_worstAt_67 (by decide) rfl ?_
            refine s_iinc (v := (l5 + (1 : Int32))) (pls' := [(5, .int (l5 + (1 : Int32))), (4, .int (l4 + (1 : Int32))), (0, .ref l0), (1, .int l1), (2, .int l2), (3, .int l3)]) hF dX12_worstAt_69 5 rfl rfl (by decide) rfl ?_
            refine s_goto (tgt := 20) hF dX12_worstAt_72 rfl ?_
            refine s_sub [2, 3, 4, 5, 1, 0] rfl ?_
            exact ih l0 l1 l2 l3 (l4 + (1 : Int32)) (l5 + (1 : Int32)) _ (isK.mo (isK.mo (isK.mo f0 hm14) hm19) hm24)
theorem sX12_worstAt_4 {F : Option Fx} (hF : FxO F RX12 cX12_worstAt 6 4) (hD : FxDO F (some .int)) : ∀ (fu : Nat) (l0 : Nat) (l1 : Int32) (l2 : Int32) (l3 : Int32) (μ : Mem) (f0 : isK μ l0 12 = true), Sim F encI 4 [(0, .ref l0), (1, .int l1), (2, .int l2), (3, .int l3)] [] μ (mX12_worstAt_4 fu l0 l1 l2 l3 μ) := by
  intro fu
  induction fu with
  | zero =>
    intro l0 l1 l2 l3 μ f0
    exact sim_none
  | succ fu ih =>
    intro l0 l1 l2 l3 μ f0
    rw [mX12_worstAt_4]
    refine s_iload_n hF dX12_worstAt_4 rfl 3 rfl ?_
    refine s_aload_n hF dX12_worstAt_5 rfl 0 rfl ?_
    refine sim_gd (fun g1 => ?_)
    refine s_getR (x := (g_R μ l0 12)) hF dX12_worstAt_6 flX12_23 f0 g1 rfl ?_
    refine s_iconst (v := (0 : Int32)) hF dX12_worstAt_9 kI_0 ?_
    refine sim_gd (fun g2 => ?_)
    refine s_iaload (x := (g_I μ (g_R μ l0 12) (0 : Int32).toNatClampNeg)) hF dX12_worstAt_10 g2 rfl ?_
    refine s_icmp_ge (tgt := 88) hF dX12_worstAt_11 rfl (fun c3 => ?_) (fun c3 => ?_)
    · refine s_iload_n hF dX12_worstAt_88 rfl 2 rfl ?_
      exact s_iretD hF hD dX12_worstAt_89 rfl
    · refine s_iconst (v := (0 : Int32)) hF dX12_worstAt_14 kI_0 ?_
      refine s_istore (pls' := [(4, .int (0 : Int32)), (0, .ref l0), (1, .int l1), (2, .int l2), (3, .int l3)]) hF dX12_worstAt_15 (by decide) rfl ?_
      refine s_iconst (v := (0 : Int32)) hF dX12_worstAt_17 kI_0 ?_
      refine s_istore (pls' := [(5, .int (0 : Int32)), (4, .int (0 : Int32)), (0, .ref l0), (1, .int l1), (2, .int l2), (3, .int l3)]) hF dX12_worstAt_18 (by decide) rfl ?_
      refine s_sub [2, 3, 4, 5, 1, 0] rfl ?_
      exact sX12_worstAt_20 (fun l0 l1 l2 l3 μ => mX12_worstAt_4 fu l0 l1 l2 l3 μ) hF hD ih 100000 l0 l1 l2 l3 (0 : Int32) (0 : Int32) _ f0
theorem ctX12_worstAt  (l0 : Nat) (l1 : Int32) (μ : Mem) : ∀ (r : Int32) (μ' : Mem), LX12_worstAt l0 l1 μ = some (r, μ') → CtD yX12_worstAt cX12_worstAt 6 (some .int) 4 [.ref l0, .int l1] μ (encI r) μ' := by
  refine ct_enterD plX12 (Nat.le_of_ble_eq_true rfl) (fun F hF hD hI => ?_)
  unfold LX12_worstAt
  refine sim_gd (fun f0 => ?_)
  refine s_iconst (v := (0 : Int32)) hF dX12_worstAt_0 kI_0 ?_
  refine s_istore_n (pls' := [(2, .int (0 : Int32)), (0, .ref l0), (1, .int l1)]) hF dX12_worstAt_1 rfl (by decide) rfl ?_
  refine s_iconst (v := (0 : Int32)) hF dX12_worstAt_2 kI_0 ?_
  refine s_istore_n (pls' := [(3, .int (0 : Int32)), (2, .int (0 : Int32)), (0, .ref l0), (1, .int l1)]) hF dX12_worstAt_3 rfl (by decide) rfl ?_
  refine s_sub [2, 3, 1, 0] rfl ?_
  exact sX12_worstAt_4 hF hD 100000 l0 l1 (0 : Int32) (0 : Int32) _ f0
theorem sX12_look_37 {F : Option Fx} (hF : FxO F RX12 cX12_look 6 5) (hD : FxDO F (some .int)) : ∀ (fu : Nat) (l0 : Nat) (l1 : Int32) (l2 : Int32) (l3 : Int32) (l4 : Int32) (μ : Mem) (f0 : isK μ l0 12 = true), Sim F encI 37 [(0, .ref l0), (1, .int l1), (2, .int l2), (3, .int l3), (4, .int l4)] [] μ (mX12_look_37 fu l0 l1 l2 l3 l4 μ) := by
  intro fu
  induction fu with
  | zero =>
    intro l0 l1 l2 l3 l4 μ f0
    exact sim_none
  | succ fu ih =>
    intro l0 l1 l2 l3 l4 μ f0
    rw [mX12_look_37]
    refine s_iload hF dX12_look_37 4 rfl ?_
    refine s_bipush (v := (99 : Int32)) hF dX12_look_39 kB_99 ?_
    refine s_icmp_gt (tgt := 83) hF dX12_look_41 rfl (fun c12 => ?_) (fun c12 => ?_)
    · refine s_iload_n hF dX12_look_83 rfl 1 rfl ?_
      refine s_if_ne (tgt := 91) hF dX12_look_84 rfl (fun c13 => ?_) (fun c13 => ?_)
      · refine s_iload_n hF dX12_look_87 rfl 2 rfl ?_
        refine s_goto (tgt := 92) hF dX12_look_88 rfl ?_
        exact s_iretD hF hD dX12_look_92 rfl
      · refine s_iload_n hF dX12_look_91 rfl 3 rfl ?_
        exact s_iretD hF hD dX12_look_92 rfl
    · refine s_aload_n hF dX12_look_44 rfl 0 rfl ?_
      refine s_iload hF dX12_look_45 4 rfl ?_
      refine s_cVi (st := []) (ci := 12) [.int l4] hF hD.dr dX12_look_47 cwX12_410 (Nat.le_of_ble_eq_true rfl) (Nat.le_of_ble_eq_true rfl) rfl rfl (Nat.le_of_ble_eq_true rfl) f0 rfl rfl (Nat.le_of_ble_eq_true rfl) (ctX12_worstAt l0 l4 _) (fun r14 m15 hl16 hm17 => ?_)
      refine s_istore (pls' := [(5, .int r14), (0, .ref l0), (1, .int l1), (2, .int l2), (3, .int l3), (4, .int l4)]) hF dX12_look_50 (by decide) rfl ?_
      refine s_iload hF dX12_look_52 0 rfl ?_
      refine s_if_eq (tgt := 77) hF dX12_look_54 rfl (fun c18 => ?_) (fun c18 => ?_)
      · refine s_iinc (v := (l4 + (1 : Int32))) (pls' := [(4, .int (l4 + (1 : Int32))), (5, .int r14), (0, .ref l0), (1, .int l1), (2, .int l2), (3, .int l3)]) hF dX12_look_77 5 rfl rfl (by decide) rfl ?_
        refine s_goto (tgt := 37) hF dX12_look_80 rfl ?_
        refine s_sub [2, 3, 4, 5, 0] rfl ?_
        exact ih l0 l1 l2 l3 (l4 + (1 : Int32)) _ (isK.mo f0 hm17)
      · refine s_iload_n hF dX12_look_57 rfl 3 rfl ?_
        refine s_iconst (v := (-1 : Int32)) hF dX12_look_58 kI_m1 ?_
        refine s_icmp_eq (tgt := 71) hF dX12_look_59 rfl (fun c19 => ?_) (fun c19 => ?_)
        · refine s_iload hF dX12_look_71 5 rfl ?_
          refine s_istore_n (pls' := [(2, .int l4), (5, .int r14), (0, .ref l0), (1, .int l1), (3, .int l3), (4, .int l4)]) hF dX12_look_73 rfl (by decide) rfl ?_
          refine s_iload hF dX12_look_74 1 rfl ?_
          refine s_istore_n (pls' := [(3, .int r14), (2, .int l4), (5, .int r14), (0, .ref l0), (1, .int l1), (4, .int l4)]) hF dX12_look_76 rfl (by decide) rfl ?_
          refine s_iinc (v := (l4 + (1 : Int32))) (pls' := [(4, .int (l4 + (1 : Int32))), (3, .int r14), (2, .int l4), (5, .int r14), (0, .ref l0), (1, .int l1)]) hF dX12_look_77 5 rfl rfl (by decide) rfl ?_
          refine s_goto (tgt := 37) hF dX12_look_80 rfl ?_
          refine s_sub [4, 5, 2, 1, 0] rfl ?_
          exact ih l0 l1 l4 r14 (l4 + (1 : Int32)) _ (isK.mo f0 hm17)
        · refine s_iload hF dX12_look_62 0 rfl ?_
          refine s_iload_n hF dX12_look_64 rfl 4 rfl ?_
          refine s_icmp_lt (tgt := 71) hF dX12_look_65 rfl (fun c20 => ?_) (fun c20 => ?_)
          · refine s_iload hF dX12_look_71 5 rfl ?_
            refine s_istore_n (pls' := [(2, .int l4), (5, .int r14), (0, .ref l0), (1, .int l1), (3, .int l3), (4, .int l4)]) hF dX12_look_73 rfl (by decide) rfl ?_
            refine s_iload hF dX12_look_74 1 rfl ?_
            refine s_istore_n (pls' := [(3, .int r14), (2, .int l4), (5, .int r14), (0, .ref l0), (1, .int l1), (4, .int l4)]) hF dX12_look_76 rfl (by decide) rfl ?_
            refine s_iinc (v := (l4 + (1 : Int32))) (pls' := [(4, .int (l4 + (1 : Int32))), (3, .int r14), (2, .int l4), (5, .int r14), (0, .ref l0), (1, .int l1)]) hF dX12_look_77 5 rfl rfl (by decide) rfl ?_
            refine s_goto (tgt := 37) hF dX12_look_80 rfl ?_
            refine s_sub [4, 5, 2, 1, 0] rfl ?_
            exact ih l0 l1 l4 r14 (l4 + (1 : Int32)) _ (isK.mo f0 hm17)
          · refine s_goto (tgt := 77) hF dX12_look_68 rfl ?_
            refine s_iinc (v := (l4 + (1 : Int32))) (pls' := [(4, .int (l4 + (1 : Int32))), (5, .int r14), (0, .ref l0), (1, .int l1), (2, .int l2), (3, .int l3)]) hF dX12_look_77 5 rfl rfl (by decide) rfl ?_
            refine s_goto (tgt := 37) hF dX12_look_80 rfl ?_
            refine s_sub [2, 3, 4, 5, 0] rfl ?_
            exact ih l0 l1 l2 l3 (l4 + (1 : Int32)) _ (isK.mo f0 hm17)
theorem sX12_look_20 {F : Option Fx} (hF : FxO F RX12 cX12_look 6 5) (hD : FxDO F (some .int)) (l0 : Nat) (l1 : Int32) (k0 : Int32) (k1 : Nat) (μ : Mem) (f0 : isK μ l0 12 = true) : Sim F encI 20 [(0, .ref l0), (1, .int l1)] [.int k0, .ref k1] μ (mX12_look_20 l0 l1 k0 k1 μ) := by
  unfold mX12_look_20
  refine s_iconst (v := (1 : Int32)) hF dX12_look_20 kI_1 ?_
  refine s_iconst (v := (1 : Int32)) hF dX12_look_21 kI_1 ?_
  refine sim_gd (fun g10 => ?_)
  refine s_cVi (st := []) (ci := 12) [.int k0, .int (1 : Int32), .int (1 : Int32)] hF hD.dr dX12_look_22 cwX12_167 (Nat.le_of_ble_eq_true rfl) (Nat.le_of_ble_eq_true rfl) rfl rfl (Nat.le_of_ble_eq_true rfl) g10 rfl rfl (Nat.le_of_ble_eq_true rfl) (ctX12_bad k1 k0 (1 : Int32) (1 : Int32) _) (fun r6 m7 hl8 hm9 => ?_)
  refine s_if_eq (tgt := 30) hF dX12_look_25 rfl (fun c11 => ?_) (fun c11 => ?_)
  · refine s_iconst (v := (-1 : Int32)) hF dX12_look_30 kI_m1 ?_
    refine s_istore_n (pls' := [(2, .int (-1 : Int32)), (0, .ref l0), (1, .int l1)]) hF dX12_look_31 rfl (by decide) rfl ?_
    refine s_iconst (v := (-1 : Int32)) hF dX12_look_32 kI_m1 ?_
    refine s_istore_n (pls' := [(3, .int (-1 : Int32)), (2, .int (-1 : Int32)), (0, .ref l0), (1, .int l1)]) hF dX12_look_33 rfl (by decide) rfl ?_
    refine s_iconst (v := (0 : Int32)) hF dX12_look_34 kI_0 ?_
    refine s_istore (pls' := [(4, .int (0 : Int32)), (3, .int (-1 : Int32)), (2, .int (-1 : Int32)), (0, .ref l0), (1, .int l1)]) hF dX12_look_35 (by decide) rfl ?_
    refine s_sub [3, 4, 2, 1, 0] rfl ?_
    exact sX12_look_37 hF hD 100000 l0 l1 (-1 : Int32) (-1 : Int32) (0 : Int32) _ (isK.mo f0 hm9)
  · refine s_iconst (v := (0 : Int32)) hF dX12_look_28 kI_0 ?_
    exact s_iretD hF hD dX12_look_29 rfl
theorem ctX12_look  (l0 : Nat) (l1 : Int32) (μ : Mem) : ∀ (r : Int32) (μ' : Mem), LX12_look l0 l1 μ = some (r, μ') → CtD yX12_look cX12_look 6 (some .int) 5 [.ref l0, .int l1] μ (encI r) μ' := by
  refine ct_enterD plX12 (Nat.le_of_ble_eq_true rfl) (fun F hF hD hI => ?_)
  unfold LX12_look
  refine sim_gd (fun f0 => ?_)
  refine s_aload_n hF dX12_look_0 rfl 0 rfl ?_
  refine s_iconst (v := (0 : Int32)) hF dX12_look_1 kI_0 ?_
  refine s_putI hF dX12_look_2 flX12_94 f0 ?_
  refine s_aload_n hF dX12_look_5 rfl 0 rfl ?_
  refine s_iload_n hF dX12_look_6 rfl 1 rfl ?_
  refine s_iconst (v := (0 : Int32)) hF dX12_look_7 kI_0 ?_
  refine s_iconst (v := (1 : Int32)) hF dX12_look_8 kI_1 ?_
  refine s_cSi (st := [.ref l0]) [.int l1, .int (0 : Int32), .int (1 : Int32)] hF hD.dr dX12_look_9 cwX12_128 (Nat.le_of_ble_eq_true rfl) (Nat.le_of_ble_eq_true rfl) rfl rfl (Nat.le_of_ble_eq_true rfl) (ctX12_in l1 (0 : Int32) (1 : Int32) _) (fun r1 m2 hl3 hm4 => ?_)
  refine s_if_ne (tgt := 19) hF dX12_look_12 rfl (fun c5 => ?_) (fun c5 => ?_)
  · refine s_iconst (v := (1 : Int32)) hF dX12_look_15 kI_1 ?_
    refine s_goto (tgt := 20) hF dX12_look_16 rfl ?_
    exact sX12_look_20 hF hD l0 l1 (1 : Int32) l0 _ (isK.mo f0 hm4)
  · refine s_iconst (v := (0 : Int32)) hF dX12_look_19 kI_0 ?_
    exact sX12_look_20 hF hD l0 l1 (0 : Int32) l0 _ (isK.mo f0 hm4)
theorem sX12_ready_9 {F : Option Fx} (hF : FxO F RX12 cX12_ready 4 3) (hD : FxDO F (some .int)) : ∀ (fu : Nat) (l0 : Nat) (l2 : Int32) (l3 : Int32) (μ : Mem) (f0 : isK μ l0 12 = true), Sim F encI 9 [(0, .ref l0), (2, .int l2), (3, .int l3)] [] μ (mX12_ready_9 fu l0 l2 l3 μ) := by
  intro fu
  induction fu with
  | zero =>
    intro l0 l2 l3 μ f0
    exact sim_none
  | succ fu ih =>
    intro l0 l2 l3 μ f0
    rw [mX12_ready_9]
    refine s_iload_n hF dX12_ready_9 rfl 2 rfl ?_
    refine s_aload_n hF dX12_ready_10 rfl 0 rfl ?_
    refine sim_gd (fun g1 => ?_)
    refine s_getR (x := (g_R μ l0 12)) hF dX12_ready_11 flX12_23 f0 g1 rfl ?_
    refine s_iconst (v := (0 : Int32)) hF dX12_ready_14 kI_0 ?_
    refine sim_gd (fun g2 => ?_)
    refine s_iaload (x := (g_I μ (g_R μ l0 12) (0 : Int32).toNatClampNeg)) hF dX12_ready_15 g2 rfl ?_
    refine s_icmp_ge (tgt := 47) hF dX12_ready_16 rfl (fun c3 => ?_) (fun c3 => ?_)
    · refine s_iload_n hF dX12_ready_47 rfl 1 rfl ?_
      exact s_iretD hF hD dX12_ready_48 rfl
    · refine s_iload_n hF dX12_ready_19 rfl 1 rfl ?_
      refine s_aload_n hF dX12_ready_20 rfl 0 rfl ?_
      refine s_aload_n hF dX12_ready_21 rfl 0 rfl ?_
      refine sim_gd (fun g4 => ?_)
      refine s_getR (x := (g_R μ l0 29)) hF dX12_ready_22 flX12_67 f0 g4 rfl ?_
      refine s_iload_n hF dX12_ready_25 rfl 2 rfl ?_
      refine s_cVi (st := [.int l2]) (ci := 12) [.ref (g_R μ l0 29), .int l3] hF hD.dr dX12_ready_26 cwX12_304 (Nat.le_of_ble_eq_true rfl) (Nat.le_of_ble_eq_true rfl) rfl rfl (Nat.le_of_ble_eq_true rfl) f0 rfl rfl (Nat.le_of_ble_eq_true rfl) (ctX12_canRead l0 (g_R μ l0 29) l3 _) (fun r5 m6 hl7 hm8 => ?_)
      refine s_if_eq (tgt := 38) hF dX12_ready_29 rfl (fun c9 => ?_) (fun c9 => ?_)
      · refine s_iconst (v := (0 : Int32)) hF dX12_ready_38 kI_0 ?_
        refine s_ior hF dX12_ready_39 ?_
        refine s_istore_n (pls' := [(2, .int (l2 ||| (0 : Int32))), (0, .ref l0), (3, .int l3)]) hF dX12_ready_40 rfl (by decide) rfl ?_
        refine s_iinc (v := (l3 + (1 : Int32))) (pls' := [(3, .int (l3 + (1 : Int32))), (2, .int (l2 ||| (0 : Int32))), (0, .ref l0)]) hF dX12_ready_41 2 rfl rfl (by decide) rfl ?_
        refine s_goto (tgt := 9) hF dX12_ready_44 rfl ?_
        refine s_sub [2, 1, 0] rfl ?_
        exact ih l0 (l2 ||| (0 : Int32)) (l3 + (1 : Int32)) _ (isK.mo f0 hm8)
      · refine s_iconst (v := (1 : Int32)) hF dX12_ready_32 kI_1 ?_
        refine s_iload_n hF dX12_ready_33 rfl 2 rfl ?_
        refine s_ishl hF dX12_ready_34 ?_
        refine s_goto (tgt := 39) hF dX12_ready_35 rfl ?_
        refine s_ior hF dX12_ready_39 ?_
        refine s_istore_n (pls' := [(2, .int (l2 ||| ((1 : Int32) <<< (l3 &&& 31)))), (0, .ref l0), (3, .int l3)]) hF dX12_ready_40 rfl (by decide) rfl ?_
        refine s_iinc (v := (l3 + (1 : Int32))) (pls' := [(3, .int (l3 + (1 : Int32))), (2, .int (l2 ||| ((1 : Int32) <<< (l3 &&& 31)))), (0, .ref l0)]) hF dX12_ready_41 2 rfl rfl (by decide) rfl ?_
        refine s_goto (tgt := 9) hF dX12_ready_44 rfl ?_
        refine s_sub [2, 1, 0] rfl ?_
        exact ih l0 (l2 ||| ((1 : Int32) <<< (l3 &&& 31))) (l3 + (1 : Int32)) _ (isK.mo f0 hm8)
theorem ctX12_ready  (l0 : Nat) (l1 : Int32) (μ : Mem) : ∀ (r : Int32) (μ' : Mem), LX12_ready l0 l1 μ = some (r, μ') → CtD yX12_ready cX12_ready 4 (some .int) 3 [.ref l0, .int l1] μ (encI r) μ' := by
  refine ct_enterD plX12 (Nat.le_of_ble_eq_true rfl) (fun F hF hD hI => ?_)
  unfold LX12_ready
  refine sim_gd (fun f0 => ?_)
  refine s_aload_n hF dX12_ready_0 rfl 0 rfl ?_
  refine s_iconst (v := (0 : Int32)) hF dX12_ready_1 kI_0 ?_
  refine s_putI hF dX12_ready_2 flX12_94 f0 ?_
  refine s_iconst (v := (0 : Int32)) hF dX12_ready_5 kI_0 ?_
  refine s_istore_n (pls' := [(2, .int (0 : Int32)), (0, .ref l0), (1, .int l1)]) hF dX12_ready_6 rfl (by decide) rfl ?_
  refine s_iconst (v := (0 : Int32)) hF dX12_ready_7 kI_0 ?_
  refine s_istore_n (pls' := [(3, .int (0 : Int32)), (2, .int (0 : Int32)), (0, .ref l0), (1, .int l1)]) hF dX12_ready_8 rfl (by decide) rfl ?_
  refine s_sub [2, 1, 0] rfl ?_
  exact sX12_ready_9 hF hD 100000 l0 (0 : Int32) (0 : Int32) _ f0
theorem sX12_latest_72 {F : Option Fx} (hF : FxO F RX12 cX12_latest 2 3) (hD : FxDO F (some .int)) (l0 : Nat) (l1 : Int32) (k0 : Int32) (k1 : Nat) (μ : Mem) (f0 : isK μ l0 12 = true) : Sim F encI 72 [(0, .ref l0), (1, .int l1)] [.int k0, .ref k1] μ (mX12_latest_72 l0 l1 k0 k1 μ) := by
  unfold mX12_latest_72
  refine s_iconst (v := (3 : Int32)) hF dX12_latest_72 kI_3 ?_
  refine s_iconst (v := (3 : Int32)) hF dX12_latest_73 kI_3 ?_
  refine sim_gd (fun g28 => ?_)
  refine s_cVi (st := []) (ci := 12) [.int k0, .int (3 : Int32), .int (3 : Int32)] hF hD.dr dX12_latest_74 cwX12_167 (Nat.le_of_ble_eq_true rfl) (Nat.le_of_ble_eq_true rfl) rfl rfl (Nat.le_of_ble_eq_true rfl) g28 rfl rfl (Nat.le_of_ble_eq_true rfl) (ctX12_bad k1 k0 (3 : Int32) (3 : Int32) _) (fun r24 m25 hl26 hm27 => ?_)
  refine s_if_eq (tgt := 82) hF dX12_latest_77 rfl (fun c29 => ?_) (fun c29 => ?_)
  · refine s_aload_n hF dX12_latest_82 rfl 0 rfl ?_
    refine s_aload_n hF dX12_latest_83 rfl 0 rfl ?_
    refine sim_gd (fun g30 => ?_)
    refine s_getR (x := (g_R m25 l0 29)) hF dX12_latest_84 flX12_67 (isK.mo f0 hm27) g30 rfl ?_
    refine s_iload_n hF dX12_latest_87 rfl 1 rfl ?_
    refine s_aload_n hF dX12_latest_88 rfl 0 rfl ?_
    refine s_getR (x := (g_R m25 l0 29)) hF dX12_latest_89 flX12_67 (isK.mo f0 hm27) g30 rfl ?_
    refine s_bipush (v := (24 : Int32)) hF dX12_latest_92 kB_24 ?_
    refine s_iload_n hF dX12_latest_94 rfl 1 rfl ?_
    refine s_iadd hF dX12_latest_95 ?_
    refine sim_gd (fun g31 => ?_)
    refine s_iaload (x := (g_I m25 (g_R m25 l0 29) ((24 : Int32) + l1).toNatClampNeg)) hF dX12_latest_96 g31 rfl ?_
    refine s_iconst (v := (1 : Int32)) hF dX12_latest_97 kI_1 ?_
    refine s_isub hF dX12_latest_98 ?_
    refine s_cVi (st := []) (ci := 12) [.ref (g_R m25 l0 29), .int l1, .int ((g_I m25 (g_R m25 l0 29) ((24 : Int32) + l1).toNatClampNeg) - (1 : Int32))] hF hD.dr dX12_latest_99 cwX12_310 (Nat.le_of_ble_eq_true rfl) (Nat.le_of_ble_eq_true rfl) rfl rfl (Nat.le_of_ble_eq_true rfl) (isK.mo f0 hm27) rfl rfl (Nat.le_of_ble_eq_true rfl) (ctX12_readAt l0 (g_R m25 l0 29) l1 ((g_I m25 (g_R m25 l0 29) ((24 : Int32) + l1).toNatClampNeg) - (1 : Int32)) _) (fun r32 m33 hl34 hm35 => ?_)
    exact s_iretD hF hD dX12_latest_102 rfl
  · refine s_iconst (v := (0 : Int32)) hF dX12_latest_80 kI_0 ?_
    exact s_iretD hF hD dX12_latest_81 rfl
theorem sX12_latest_46 {F : Option Fx} (hF : FxO F RX12 cX12_latest 2 3) (hD : FxDO F (some .int)) (l0 : Nat) (l1 : Int32) (k0 : Int32) (k1 : Nat) (μ : Mem) (f0 : isK μ l0 12 = true) : Sim F encI 46 [(0, .ref l0), (1, .int l1)] [.int k0, .ref k1] μ (mX12_latest_46 l0 l1 k0 k1 μ) := by
  unfold mX12_latest_46
  refine s_iconst (v := (2 : Int32)) hF dX12_latest_46 kI_2 ?_
  refine s_iconst (v := (2 : Int32)) hF dX12_latest_47 kI_2 ?_
  refine sim_gd (fun g19 => ?_)
  refine s_cVi (st := []) (ci := 12) [.int k0, .int (2 : Int32), .int (2 : Int32)] hF hD.dr dX12_latest_48 cwX12_167 (Nat.le_of_ble_eq_true rfl) (Nat.le_of_ble_eq_true rfl) rfl rfl (Nat.le_of_ble_eq_true rfl) g19 rfl rfl (Nat.le_of_ble_eq_true rfl) (ctX12_bad k1 k0 (2 : Int32) (2 : Int32) _) (fun r15 m16 hl17 hm18 => ?_)
  refine s_if_ne (tgt := 80) hF dX12_latest_51 rfl (fun c20 => ?_) (fun c20 => ?_)
  · refine s_aload_n hF dX12_latest_54 rfl 0 rfl ?_
    refine s_aload_n hF dX12_latest_55 rfl 0 rfl ?_
    refine sim_gd (fun g21 => ?_)
    refine s_getR (x := (g_R m16 l0 29)) hF dX12_latest_56 flX12_67 (isK.mo f0 hm18) g21 rfl ?_
    refine s_bipush (v := (24 : Int32)) hF dX12_latest_59 kB_24 ?_
    refine s_iload_n hF dX12_latest_61 rfl 1 rfl ?_
    refine s_iadd hF dX12_latest_62 ?_
    refine sim_gd (fun g22 => ?_)
    refine s_iaload (x := (g_I m16 (g_R m16 l0 29) ((24 : Int32) + l1).toNatClampNeg)) hF dX12_latest_63 g22 rfl ?_
    refine s_if_ne (tgt := 71) hF dX12_latest_64 rfl (fun c23 => ?_) (fun c23 => ?_)
    · refine s_iconst (v := (1 : Int32)) hF dX12_latest_67 kI_1 ?_
      refine s_goto (tgt := 72) hF dX12_latest_68 rfl ?_
      exact sX12_latest_72 hF hD l0 l1 (1 : Int32) l0 _ (isK.mo f0 hm18)
    · refine s_iconst (v := (0 : Int32)) hF dX12_latest_71 kI_0 ?_
      exact sX12_latest_72 hF hD l0 l1 (0 : Int32) l0 _ (isK.mo f0 hm18)
  · refine s_iconst (v := (0 : Int32)) hF dX12_latest_80 kI_0 ?_
    exact s_iretD hF hD dX12_latest_81 rfl
theorem sX12_latest_19 {F : Option Fx} (hF : FxO F RX12 cX12_latest 2 3) (hD : FxDO F (some .int)) (l0 : Nat) (l1 : Int32) (k0 : Int32) (k1 : Nat) (μ : Mem) (f0 : isK μ l0 12 = true) : Sim F encI 19 [(0, .ref l0), (1, .int l1)] [.int k0, .ref k1] μ (mX12_latest_19 l0 l1 k0 k1 μ) := by
  unfold mX12_latest_19
  refine s_iconst (v := (1 : Int32)) hF dX12_latest_19 kI_1 ?_
  refine s_iconst (v := (0 : Int32)) hF dX12_latest_20 kI_0 ?_
  refine sim_gd (fun g10 => ?_)
  refine s_cVi (st := []) (ci := 12) [.int k0, .int (1 : Int32), .int (0 : Int32)] hF hD.dr dX12_latest_21 cwX12_167 (Nat.le_of_ble_eq_true rfl) (Nat.le_of_ble_eq_true rfl) rfl rfl (Nat.le_of_ble_eq_true rfl) g10 rfl rfl (Nat.le_of_ble_eq_true rfl) (ctX12_bad k1 k0 (1 : Int32) (0 : Int32) _) (fun r6 m7 hl8 hm9 => ?_)
  refine s_if_ne (tgt := 80) hF dX12_latest_24 rfl (fun c11 => ?_) (fun c11 => ?_)
  · refine s_aload_n hF dX12_latest_27 rfl 0 rfl ?_
    refine s_aload_n hF dX12_latest_28 rfl 0 rfl ?_
    refine sim_gd (fun g12 => ?_)
    refine s_getR (x := (g_R m7 l0 29)) hF dX12_latest_29 flX12_67 (isK.mo f0 hm9) g12 rfl ?_
    refine s_bipush (v := (16 : Int32)) hF dX12_latest_32 kB_16 ?_
    refine s_iload_n hF dX12_latest_34 rfl 1 rfl ?_
    refine s_iadd hF dX12_latest_35 ?_
    refine sim_gd (fun g13 => ?_)
    refine s_iaload (x := (g_I m7 (g_R m7 l0 29) ((16 : Int32) + l1).toNatClampNeg)) hF dX12_latest_36 g13 rfl ?_
    refine s_iconst (v := (-1 : Int32)) hF dX12_latest_37 kI_m1 ?_
    refine s_icmp_ne (tgt := 45) hF dX12_latest_38 rfl (fun c14 => ?_) (fun c14 => ?_)
    · refine s_iconst (v := (1 : Int32)) hF dX12_latest_41 kI_1 ?_
      refine s_goto (tgt := 46) hF dX12_latest_42 rfl ?_
      exact sX12_latest_46 hF hD l0 l1 (1 : Int32) l0 _ (isK.mo f0 hm9)
    · refine s_iconst (v := (0 : Int32)) hF dX12_latest_45 kI_0 ?_
      exact sX12_latest_46 hF hD l0 l1 (0 : Int32) l0 _ (isK.mo f0 hm9)
  · refine s_iconst (v := (0 : Int32)) hF dX12_latest_80 kI_0 ?_
    exact s_iretD hF hD dX12_latest_81 rfl
theorem ctX12_latest  (l0 : Nat) (l1 : Int32) (μ : Mem) : ∀ (r : Int32) (μ' : Mem), LX12_latest l0 l1 μ = some (r, μ') → CtD yX12_latest cX12_latest 2 (some .int) 3 [.ref l0, .int l1] μ (encI r) μ' := by
  refine ct_enterD plX12 (Nat.le_of_ble_eq_true rfl) (fun F hF hD hI => ?_)
  unfold LX12_latest
  refine sim_gd (fun f0 => ?_)
  refine s_aload_n hF dX12_latest_0 rfl 0 rfl ?_
  refine s_iconst (v := (0 : Int32)) hF dX12_latest_1 kI_0 ?_
  refine s_putI hF dX12_latest_2 flX12_94 f0 ?_
  refine s_aload_n hF dX12_latest_5 rfl 0 rfl ?_
  refine s_aload_n hF dX12_latest_6 rfl 0 rfl ?_
  refine s_iload_n hF dX12_latest_7 rfl 1 rfl ?_
  refine s_cVi (st := [.ref l0]) (ci := 12) [.int l1] hF hD.dr dX12_latest_8 cwX12_355 (Nat.le_of_ble_eq_true rfl) (Nat.le_of_ble_eq_true rfl) rfl rfl (Nat.le_of_ble_eq_true rfl) f0 rfl rfl (Nat.le_of_ble_eq_true rfl) (ctX12_isPen l0 l1 _) (fun r1 m2 hl3 hm4 => ?_)
  refine s_if_ne (tgt := 18) hF dX12_latest_11 rfl (fun c5 => ?_) (fun c5 => ?_)
  · refine s_iconst (v := (1 : Int32)) hF dX12_latest_14 kI_1 ?_
    refine s_goto (tgt := 19) hF dX12_latest_15 rfl ?_
    exact sX12_latest_19 hF hD l0 l1 (1 : Int32) l0 _ (isK.mo f0 hm4)
  · refine s_iconst (v := (0 : Int32)) hF dX12_latest_18 kI_0 ?_
    exact sX12_latest_19 hF hD l0 l1 (0 : Int32) l0 _ (isK.mo f0 hm4)
theorem sX12_alike_120 {F : Option Fx} (hF : FxO F RX12 cX12_alike 5 3) (hD : FxDO F (some .boolean)) : ∀ (fu : Nat) (l0 : Nat) (l1 : Int32) (l2 : Int32) (l3 : Int32) (l4 : Int32) (μ : Mem) (f0 : isK μ l0 12 = true), Sim F encI 120 [(0, .ref l0), (1, .int l1), (2, .int l2), (3, .int l3), (4, .int l4)] [] μ (mX12_alike_120 fu l0 l1 l2 l3 l4 μ) := by
  intro fu
  induction fu with
  | zero =>
    intro l0 l1 l2 l3 l4 μ f0
    exact sim_none
  | succ fu ih =>
    intro l0 l1 l2 l3 l4 μ f0
    rw [mX12_alike_120]
    refine s_iload hF dX12_alike_120 4 rfl ?_
    refine s_aload_n hF dX12_alike_122 rfl 0 rfl ?_
    refine sim_gd (fun g33 => ?_)
    refine s_getR (x := (g_R μ l0 29)) hF dX12_alike_123 flX12_67 f0 g33 rfl ?_
    refine s_bipush (v := (24 : Int32)) hF dX12_alike_126 kB_24 ?_
    refine s_iload_n hF dX12_alike_128 rfl 1 rfl ?_
    refine s_iadd hF dX12_alike_129 ?_
    refine sim_gd (fun g34 => ?_)
    refine s_iaload (x := (g_I μ (g_R μ l0 29) ((24 : Int32) + l1).toNatClampNeg)) hF dX12_alike_130 g34 rfl ?_
    refine s_icmp_ge (tgt := 175) hF dX12_alike_131 rfl (fun c35 => ?_) (fun c35 => ?_)
    · refine s_iload_n hF dX12_alike_175 rfl 3 rfl ?_
      refine sim_gd (fun g36 => ?_)
      exact s_zretD hF hD dX12_alike_176 rfl (nar_z g36)
    · refine s_iload_n hF dX12_alike_134 rfl 3 rfl ?_
      refine s_if_eq (tgt := 175) hF dX12_alike_135 rfl (fun c37 => ?_) (fun c37 => ?_)
      · refine s_iload_n hF dX12_alike_175 rfl 3 rfl ?_
        refine sim_gd (fun g38 => ?_)
        exact s_zretD hF hD dX12_alike_176 rfl (nar_z g38)
      · refine s_aload_n hF dX12_alike_138 rfl 0 rfl ?_
        refine s_aload_n hF dX12_alike_139 rfl 0 rfl ?_
        refine s_getR (x := (g_R μ l0 29)) hF dX12_alike_140 flX12_67 f0 g33 rfl ?_
        refine s_iload_n hF dX12_alike_143 rfl 1 rfl ?_
        refine s_iload hF dX12_alike_144 4 rfl ?_
        refine s_cVi (st := []) (ci := 12) [.ref (g_R μ l0 29), .int l1, .int l4] hF hD.dr dX12_alike_146 cwX12_310 (Nat.le_of_ble_eq_true rfl) (Nat.le_of_ble_eq_true rfl) rfl rfl (Nat.le_of_ble_eq_true rfl) f0 rfl rfl (Nat.le_of_ble_eq_true rfl) (ctX12_readAt l0 (g_R μ l0 29) l1 l4 _) (fun r39 m40 hl41 hm42 => ?_)
        refine s_aload_n hF dX12_alike_149 rfl 0 rfl ?_
        refine s_aload_n hF dX12_alike_150 rfl 0 rfl ?_
        refine sim_gd (fun g43 => ?_)
        refine s_getR (x := (g_R m40 l0 29)) hF dX12_alike_151 flX12_67 (isK.mo f0 hm42) g43 rfl ?_
        refine s_iload_n hF dX12_alike_154 rfl 2 rfl ?_
        refine s_iload hF dX12_alike_155 4 rfl ?_
        refine s_cVi (st := [.int r39]) (ci := 12) [.ref (g_R m40 l0 29), .int l2, .int l4] hF hD.dr dX12_alike_157 cwX12_310 (Nat.le_of_ble_eq_true rfl) (Nat.le_of_ble_eq_true rfl) rfl rfl (Nat.le_of_ble_eq_true rfl) (isK.mo f0 hm42) rfl rfl (Nat.le_of_ble_eq_true rfl) (ctX12_readAt l0 (g_R m40 l0 29) l2 l4 _) (fun r44 m45 hl46 hm47 => ?_)
        refine s_icmp_ne (tgt := 167) hF dX12_alike_160 rfl (fun c48 => ?_) (fun c48 => ?_)
        · refine s_iconst (v := (1 : Int32)) hF dX12_alike_163 kI_1 ?_
          refine s_goto (tgt := 168) hF dX12_alike_164 rfl ?_
          refine s_istore_n (pls' := [(3, .int (1 : Int32)), (0, .ref l0), (1, .int l1), (2, .int l2), (4, .int l4)]) hF dX12_alike_168 rfl (by decide) rfl ?_
          refine s_iinc (v := (l4 + (1 : Int32))) (pls' := [(4, .int (l4 + (1 : Int32))), (3, .int (1 : Int32)), (0, .ref l0), (1, .int l1), (2, .int l2)]) hF dX12_alike_169 4 rfl rfl (by decide) rfl ?_
          refine s_goto (tgt := 120) hF dX12_alike_172 rfl ?_
          refine s_sub [2, 3, 4, 1, 0] rfl ?_
          exact ih l0 l1 l2 (1 : Int32) (l4 + (1 : Int32)) _ (isK.mo (isK.mo f0 hm42) hm47)
        · refine s_iconst (v := (0 : Int32)) hF dX12_alike_167 kI_0 ?_
          refine s_istore_n (pls' := [(3, .int (0 : Int32)), (0, .ref l0), (1, .int l1), (2, .int l2), (4, .int l4)]) hF dX12_alike_168 rfl (by decide) rfl ?_
          refine s_iinc (v := (l4 + (1 : Int32))) (pls' := [(4, .int (l4 + (1 : Int32))), (3, .int (0 : Int32)), (0, .ref l0), (1, .int l1), (2, .int l2)]) hF dX12_alike_169 4 rfl rfl (by decide) rfl ?_
          refine s_goto (tgt := 120) hF dX12_alike_172 rfl ?_
          refine s_sub [2, 3, 4, 1, 0] rfl ?_
          exact ih l0 l1 l2 (0 : Int32) (l4 + (1 : Int32)) _ (isK.mo (isK.mo f0 hm42) hm47)
theorem sX12_alike_27 {F : Option Fx} (hF : FxO F RX12 cX12_alike 5 3) (hD : FxDO F (some .boolean)) (l0 : Nat) (l1 : Int32) (l2 : Int32) (k0 : Int32) (k1 : Nat) (μ : Mem) (f0 : isK μ l0 12 = true) : Sim F encI 27 [(0, .ref l0), (1, .int l1), (2, .int l2)] [.int k0, .ref k1] μ (mX12_alike_27 l0 l1 l2 k0 k1 μ) := by
  unfold mX12_alike_27
  refine s_iconst (v := (1 : Int32)) hF dX12_alike_27 kI_1 ?_
  refine s_iconst (v := (0 : Int32)) hF dX12_alike_28 kI_0 ?_
  refine sim_gd (fun g15 => ?_)
  refine s_cVi (st := []) (ci := 12) [.int k0, .int (1 : Int32), .int (0 : Int32)] hF hD.dr dX12_alike_29 cwX12_167 (Nat.le_of_ble_eq_true rfl) (Nat.le_of_ble_eq_true rfl) rfl rfl (Nat.le_of_ble_eq_true rfl) g15 rfl rfl (Nat.le_of_ble_eq_true rfl) (ctX12_bad k1 k0 (1 : Int32) (0 : Int32) _) (fun r11 m12 hl13 hm14 => ?_)
  refine s_if_eq (tgt := 37) hF dX12_alike_32 rfl (fun c16 => ?_) (fun c16 => ?_)
  · refine s_aload_n hF dX12_alike_37 rfl 0 rfl ?_
    refine sim_gd (fun g17 => ?_)
    refine s_getR (x := (g_R m12 l0 29)) hF dX12_alike_38 flX12_67 (isK.mo f0 hm14) g17 rfl ?_
    refine s_bipush (v := (16 : Int32)) hF dX12_alike_41 kB_16 ?_
    refine s_iload_n hF dX12_alike_43 rfl 1 rfl ?_
    refine s_iadd hF dX12_alike_44 ?_
    refine sim_gd (fun g18 => ?_)
    refine s_iaload (x := (g_I m12 (g_R m12 l0 29) ((16 : Int32) + l1).toNatClampNeg)) hF dX12_alike_45 g18 rfl ?_
    refine s_iconst (v := (-1 : Int32)) hF dX12_alike_46 kI_m1 ?_
    refine s_icmp_eq (tgt := 115) hF dX12_alike_47 rfl (fun c19 => ?_) (fun c19 => ?_)
    · refine s_iconst (v := (0 : Int32)) hF dX12_alike_115 kI_0 ?_
      refine s_istore_n (pls' := [(3, .int (0 : Int32)), (0, .ref l0), (1, .int l1), (2, .int l2)]) hF dX12_alike_116 rfl (by decide) rfl ?_
      refine s_iconst (v := (0 : Int32)) hF dX12_alike_117 kI_0 ?_
      refine s_istore (pls' := [(4, .int (0 : Int32)), (3, .int (0 : Int32)), (0, .ref l0), (1, .int l1), (2, .int l2)]) hF dX12_alike_118 (by decide) rfl ?_
      refine s_sub [2, 3, 4, 1, 0] rfl ?_
      exact sX12_alike_120 hF hD 100000 l0 l1 l2 (0 : Int32) (0 : Int32) _ (isK.mo f0 hm14)
    · refine s_aload_n hF dX12_alike_50 rfl 0 rfl ?_
      refine s_getR (x := (g_R m12 l0 29)) hF dX12_alike_51 flX12_67 (isK.mo f0 hm14) g17 rfl ?_
      refine s_bipush (v := (16 : Int32)) hF dX12_alike_54 kB_16 ?_
      refine s_iload_n hF dX12_alike_56 rfl 1 rfl ?_
      refine s_iadd hF dX12_alike_57 ?_
      refine s_iaload (x := (g_I m12 (g_R m12 l0 29) ((16 : Int32) + l1).toNatClampNeg)) hF dX12_alike_58 g18 rfl ?_
      refine s_aload_n hF dX12_alike_59 rfl 0 rfl ?_
      refine s_getR (x := (g_R m12 l0 29)) hF dX12_alike_60 flX12_67 (isK.mo f0 hm14) g17 rfl ?_
      refine s_bipush (v := (16 : Int32)) hF dX12_alike_63 kB_16 ?_
      refine s_iload_n hF dX12_alike_65 rfl 2 rfl ?_
      refine s_iadd hF dX12_alike_66 ?_
      refine sim_gd (fun g20 => ?_)
      refine s_iaload (x := (g_I m12 (g_R m12 l0 29) ((16 : Int32) + l2).toNatClampNeg)) hF dX12_alike_67 g20 rfl ?_
      refine s_icmp_ne (tgt := 115) hF dX12_alike_68 rfl (fun c21 => ?_) (fun c21 => ?_)
      · refine s_aload_n hF dX12_alike_71 rfl 0 rfl ?_
        refine sim_gd (fun g22 => ?_)
        refine s_getR (x := (g_R m12 l0 14)) hF dX12_alike_72 flX12_31 (isK.mo f0 hm14) g22 rfl ?_
        refine s_iload_n hF dX12_alike_75 rfl 1 rfl ?_
        refine sim_gd (fun g23 => ?_)
        refine sim_gd (fun g24 => ?_)
        refine s_aaload (x := (g_R m12 (g_R m12 l0 14) l1.toNatClampNeg)) hF dX12_alike_76 (by decide) (by decide) g23 g24 rfl ?_
        refine s_iconst (v := (0 : Int32)) hF dX12_alike_77 kI_0 ?_
        refine sim_gd (fun g25 => ?_)
        refine s_iaload (x := (g_I m12 (g_R m12 (g_R m12 l0 14) l1.toNatClampNeg) (0 : Int32).toNatClampNeg)) hF dX12_alike_78 g25 rfl ?_
        refine s_aload_n hF dX12_alike_79 rfl 0 rfl ?_
        refine s_getR (x := (g_R m12 l0 14)) hF dX12_alike_80 flX12_31 (isK.mo f0 hm14) g22 rfl ?_
        refine s_iload_n hF dX12_alike_83 rfl 2 rfl ?_
        refine sim_gd (fun g26 => ?_)
        refine sim_gd (fun g27 => ?_)
        refine s_aaload (x := (g_R m12 (g_R m12 l0 14) l2.toNatClampNeg)) hF dX12_alike_84 (by decide) (by decide) g26 g27 rfl ?_
        refine s_iconst (v := (0 : Int32)) hF dX12_alike_85 kI_0 ?_
        refine sim_gd (fun g28 => ?_)
        refine s_iaload (x := (g_I m12 (g_R m12 (g_R m12 l0 14) l2.toNatClampNeg) (0 : Int32).toNatClampNeg)) hF dX12_alike_86 g28 rfl ?_
        refine s_icmp_ne (tgt := 115) hF dX12_alike_87 rfl (fun c29 => ?_) (fun c29 => ?_)
        · refine s_aload_n hF dX12_alike_90 rfl 0 rfl ?_
          refine s_getR (x := (g_R m12 l0 29)) hF dX12_alike_91 flX12_67 (isK.mo f0 hm14) g17 rfl ?_
          refine s_bipush (v := (24 : Int32)) hF dX12_alike_94 kB_24 ?_
          refine s_iload_n hF dX12_alike_96 rfl 1 rfl ?_
          refine s_iadd hF dX12_alike_97 ?_
          refine sim_gd (fun g30 => ?_)
          refine s_iaload (x := (g_I m12 (g_R m12 l0 29) ((24 : Int32) + l1).toNatClampNeg)) hF dX12_alike_98 g30 rfl ?_
          refine s_aload_n hF dX12_alike_99 rfl 0 rfl ?_
          refine s_getR (x := (g_R m12 l0 29)) hF dX12_alike_100 flX12_67 (isK.mo f0 hm14) g17 rfl ?_
          refine s_bipush (v := (24 : Int32)) hF dX12_alike_103 kB_24 ?_
          refine s_iload_n hF dX12_alike_105 rfl 2 rfl ?_
          refine s_iadd hF dX12_alike_106 ?_
          refine sim_gd (fun g31 => ?_)
          refine s_iaload (x := (g_I m12 (g_R m12 l0 29) ((24 : Int32) + l2).toNatClampNeg)) hF dX12_alike_107 g31 rfl ?_
          refine s_icmp_ne (tgt := 115) hF dX12_alike_108 rfl (fun c32 => ?_) (fun c32 => ?_)
          · refine s_iconst (v := (1 : Int32)) hF dX12_alike_111 kI_1 ?_
            refine s_goto (tgt := 116) hF dX12_alike_112 rfl ?_
            refine s_istore_n (pls' := [(3, .int (1 : Int32)), (0, .ref l0), (1, .int l1), (2, .int l2)]) hF dX12_alike_116 rfl (by decide) rfl ?_
            refine s_iconst (v := (0 : Int32)) hF dX12_alike_117 kI_0 ?_
            refine s_istore (pls' := [(4, .int (0 : Int32)), (3, .int (1 : Int32)), (0, .ref l0), (1, .int l1), (2, .int l2)]) hF dX12_alike_118 (by decide) rfl ?_
            refine s_sub [2, 3, 4, 1, 0] rfl ?_
            exact sX12_alike_120 hF hD 100000 l0 l1 l2 (1 : Int32) (0 : Int32) _ (isK.mo f0 hm14)
          · refine s_iconst (v := (0 : Int32)) hF dX12_alike_115 kI_0 ?_
            refine s_istore_n (pls' := [(3, .int (0 : Int32)), (0, .ref l0), (1, .int l1), (2, .int l2)]) hF dX12_alike_116 rfl (by decide) rfl ?_
            refine s_iconst (v := (0 : Int32)) hF dX12_alike_117 kI_0 ?_
            refine s_istore (pls' := [(4, .int (0 : Int32)), (3, .int (0 : Int32)), (0, .ref l0), (1, .int l1), (2, .int l2)]) hF dX12_alike_118 (by decide) rfl ?_
            refine s_sub [2, 3, 4, 1, 0] rfl ?_
            exact sX12_alike_120 hF hD 100000 l0 l1 l2 (0 : Int32) (0 : Int32) _ (isK.mo f0 hm14)
        · refine s_iconst (v := (0 : Int32)) hF dX12_alike_115 kI_0 ?_
          refine s_istore_n (pls' := [(3, .int (0 : Int32)), (0, .ref l0), (1, .int l1), (2, .int l2)]) hF dX12_alike_116 rfl (by decide) rfl ?_
          refine s_iconst (v := (0 : Int32)) hF dX12_alike_117 kI_0 ?_
          refine s_istore (pls' := [(4, .int (0 : Int32)), (3, .int (0 : Int32)), (0, .ref l0), (1, .int l1), (2, .int l2)]) hF dX12_alike_118 (by decide) rfl ?_
          refine s_sub [2, 3, 4, 1, 0] rfl ?_
          exact sX12_alike_120 hF hD 100000 l0 l1 l2 (0 : Int32) (0 : Int32) _ (isK.mo f0 hm14)
      · refine s_iconst (v := (0 : Int32)) hF dX12_alike_115 kI_0 ?_
        refine s_istore_n (pls' := [(3, .int (0 : Int32)), (0, .ref l0), (1, .int l1), (2, .int l2)]) hF dX12_alike_116 rfl (by decide) rfl ?_
        refine s_iconst (v := (0 : Int32)) hF dX12_alike_117 kI_0 ?_
        refine s_istore (pls' := [(4, .int (0 : Int32)), (3, .int (0 : Int32)), (0, .ref l0), (1, .int l1), (2, .int l2)]) hF dX12_alike_118 (by decide) rfl ?_
        refine s_sub [2, 3, 4, 1, 0] rfl ?_
        exact sX12_alike_120 hF hD 100000 l0 l1 l2 (0 : Int32) (0 : Int32) _ (isK.mo f0 hm14)
  · refine s_iconst (v := (0 : Int32)) hF dX12_alike_35 kI_0 ?_
    exact s_zretD hF hD dX12_alike_36 rfl rfl
theorem ctX12_alike  (l0 : Nat) (l1 : Int32) (l2 : Int32) (μ : Mem) : ∀ (r : Int32) (μ' : Mem), LX12_alike l0 l1 l2 μ = some (r, μ') → CtD yX12_alike cX12_alike 5 (some .boolean) 3 [.ref l0, .int l1, .int l2] μ (encI r) μ' := by
  refine ct_enterD plX12 (Nat.le_of_ble_eq_true rfl) (fun F hF hD hI => ?_)
  unfold LX12_alike
  refine sim_gd (fun f0 => ?_)
  refine s_aload_n hF dX12_alike_0 rfl 0 rfl ?_
  refine s_iconst (v := (0 : Int32)) hF dX12_alike_1 kI_0 ?_
  refine s_putI hF dX12_alike_2 flX12_94 f0 ?_
  refine s_aload_n hF dX12_alike_5 rfl 0 rfl ?_
  refine s_aload_n hF dX12_alike_6 rfl 0 rfl ?_
  refine s_iload_n hF dX12_alike_7 rfl 1 rfl ?_
  refine s_cVi (st := [.ref l0]) (ci := 12) [.int l1] hF hD.dr dX12_alike_8 cwX12_355 (Nat.le_of_ble_eq_true rfl) (Nat.le_of_ble_eq_true rfl) rfl rfl (Nat.le_of_ble_eq_true rfl) f0 rfl rfl (Nat.le_of_ble_eq_true rfl) (ctX12_isPen l0 l1 _) (fun r1 m2 hl3 hm4 => ?_)
  refine s_if_eq (tgt := 22) hF dX12_alike_11 rfl (fun c5 => ?_) (fun c5 => ?_)
  · refine s_iconst (v := (1 : Int32)) hF dX12_alike_22 kI_1 ?_
    refine s_goto (tgt := 27) hF dX12_alike_23 rfl ?_
    exact sX12_alike_27 hF hD l0 l1 l2 (1 : Int32) l0 _ (isK.mo f0 hm4)
  · refine s_aload_n hF dX12_alike_14 rfl 0 rfl ?_
    refine s_iload_n hF dX12_alike_15 rfl 2 rfl ?_
    refine s_cVi (st := [.ref l0]) (ci := 12) [.int l2] hF hD.dr dX12_alike_16 cwX12_355 (Nat.le_of_ble_eq_true rfl) (Nat.le_of_ble_eq_true rfl) rfl rfl (Nat.le_of_ble_eq_true rfl) (isK.mo f0 hm4) rfl rfl (Nat.le_of_ble_eq_true rfl) (ctX12_isPen l0 l2 _) (fun r6 m7 hl8 hm9 => ?_)
    refine s_if_ne (tgt := 26) hF dX12_alike_19 rfl (fun c10 => ?_) (fun c10 => ?_)
    · refine s_iconst (v := (1 : Int32)) hF dX12_alike_22 kI_1 ?_
      refine s_goto (tgt := 27) hF dX12_alike_23 rfl ?_
      exact sX12_alike_27 hF hD l0 l1 l2 (1 : Int32) l0 _ (isK.mo (isK.mo f0 hm4) hm9)
    · refine s_iconst (v := (0 : Int32)) hF dX12_alike_26 kI_0 ?_
      exact sX12_alike_27 hF hD l0 l1 l2 (0 : Int32) l0 _ (isK.mo (isK.mo f0 hm4) hm9)
theorem sX12_chained_35 {F : Option Fx} (hF : FxO F RX12 cX12_chained 4 1) (hD : FxDO F (some .int)) : ∀ (fu : Nat) (l0 : Nat) (l1 : Int32) (l2 : Int32) (l3 : Int32) (μ : Mem) (f0 : isK μ l0 12 = true), Sim F encI 35 [(0, .ref l0), (1, .int l1), (2, .int l2), (3, .int l3)] [] μ (mX12_chained_35 fu l0 l1 l2 l3 μ) := by
  intro fu
  induction fu with
  | zero =>
    intro l0 l1 l2 l3 μ f0
    exact sim_none
  | succ fu ih =>
    intro l0 l1 l2 l3 μ f0
    rw [mX12_chained_35]
    refine s_iload_n hF dX12_chained_35 rfl 3 rfl ?_
    refine s_aload_n hF dX12_chained_36 rfl 0 rfl ?_
    refine s_getI (x := (g_I μ l0 34)) hF dX12_chained_37 flX12_190 f0 rfl ?_
    refine s_icmp_ge (tgt := 74) hF dX12_chained_40 rfl (fun c12 => ?_) (fun c12 => ?_)
    · refine s_iload_n hF dX12_chained_74 rfl 2 rfl ?_
      exact s_iretD hF hD dX12_chained_75 rfl
    · refine s_iload_n hF dX12_chained_43 rfl 2 rfl ?_
      refine s_aload_n hF dX12_chained_44 rfl 0 rfl ?_
      refine sim_gd (fun g13 => ?_)
      refine s_getR (x := (g_R μ l0 14)) hF dX12_chained_45 flX12_31 f0 g13 rfl ?_
      refine s_aload_n hF dX12_chained_48 rfl 0 rfl ?_
      refine sim_gd (fun g14 => ?_)
      refine s_getR (x := (g_R μ l0 25)) hF dX12_chained_49 flX12_58 f0 g14 rfl ?_
      refine s_iload_n hF dX12_chained_52 rfl 3 rfl ?_
      refine sim_gd (fun g15 => ?_)
      refine s_iaload (x := (g_I μ (g_R μ l0 25) l3.toNatClampNeg)) hF dX12_chained_53 g15 rfl ?_
      refine sim_gd (fun g16 => ?_)
      refine sim_gd (fun g17 => ?_)
      refine s_aaload (x := (g_R μ (g_R μ l0 14) (g_I μ (g_R μ l0 25) l3.toNatClampNeg).toNatClampNeg)) hF dX12_chained_54 (by decide) (by decide) g16 g17 rfl ?_
      refine s_iconst (v := (0 : Int32)) hF dX12_chained_55 kI_0 ?_
      refine sim_gd (fun g18 => ?_)
      refine s_iaload (x := (g_I μ (g_R μ (g_R μ l0 14) (g_I μ (g_R μ l0 25) l3.toNatClampNeg).toNatClampNeg) (0 : Int32).toNatClampNeg)) hF dX12_chained_56 g18 rfl ?_
      refine s_iload_n hF dX12_chained_57 rfl 1 rfl ?_
      refine s_icmp_ne (tgt := 65) hF dX12_chained_58 rfl (fun c19 => ?_) (fun c19 => ?_)
      · refine s_iconst (v := (1 : Int32)) hF dX12_chained_61 kI_1 ?_
        refine s_goto (tgt := 66) hF dX12_chained_62 rfl ?_
        refine s_iadd hF dX12_chained_66 ?_
        refine s_istore_n (pls' := [(2, .int (l2 + (1 : Int32))), (0, .ref l0), (1, .int l1), (3, .int l3)]) hF dX12_chained_67 rfl (by decide) rfl ?_
        refine s_iinc (v := (l3 + (1 : Int32))) (pls' := [(3, .int (l3 + (1 : Int32))), (2, .int (l2 + (1 : Int32))), (0, .ref l0), (1, .int l1)]) hF dX12_chained_68 3 rfl rfl (by decide) rfl ?_
        refine s_goto (tgt := 35) hF dX12_chained_71 rfl ?_
        refine s_sub [2, 3, 1, 0] rfl ?_
        exact ih l0 l1 (l2 + (1 : Int32)) (l3 + (1 : Int32)) _ f0
      · refine s_iconst (v := (0 : Int32)) hF dX12_chained_65 kI_0 ?_
        refine s_iadd hF dX12_chained_66 ?_
        refine s_istore_n (pls' := [(2, .int (l2 + (0 : Int32))), (0, .ref l0), (1, .int l1), (3, .int l3)]) hF dX12_chained_67 rfl (by decide) rfl ?_
        refine s_iinc (v := (l3 + (1 : Int32))) (pls' := [(3, .int (l3 + (1 : Int32))), (2, .int (l2 + (0 : Int32))), (0, .ref l0), (1, .int l1)]) hF dX12_chained_68 3 rfl rfl (by decide) rfl ?_
        refine s_goto (tgt := 35) hF dX12_chained_71 rfl ?_
        refine s_sub [2, 3, 1, 0] rfl ?_
        exact ih l0 l1 (l2 + (0 : Int32)) (l3 + (1 : Int32)) _ f0
theorem sX12_chained_21 {F : Option Fx} (hF : FxO F RX12 cX12_chained 4 1) (hD : FxDO F (some .int)) (l0 : Nat) (l1 : Int32) (k0 : Int32) (k1 : Nat) (μ : Mem) (f0 : isK μ l0 12 = true) : Sim F encI 21 [(0, .ref l0), (1, .int l1)] [.int k0, .ref k1] μ (mX12_chained_21 l0 l1 k0 k1 μ) := by
  unfold mX12_chained_21
  refine s_iconst (v := (1 : Int32)) hF dX12_chained_21 kI_1 ?_
  refine s_iconst (v := (1 : Int32)) hF dX12_chained_22 kI_1 ?_
  refine sim_gd (fun g10 => ?_)
  refine s_cVi (st := []) (ci := 12) [.int k0, .int (1 : Int32), .int (1 : Int32)] hF hD.dr dX12_chained_23 cwX12_167 (Nat.le_of_ble_eq_true rfl) (Nat.le_of_ble_eq_true rfl) rfl rfl (Nat.le_of_ble_eq_true rfl) g10 rfl rfl (Nat.le_of_ble_eq_true rfl) (ctX12_bad k1 k0 (1 : Int32) (1 : Int32) _) (fun r6 m7 hl8 hm9 => ?_)
  refine s_if_eq (tgt := 31) hF dX12_chained_26 rfl (fun c11 => ?_) (fun c11 => ?_)
  · refine s_iconst (v := (0 : Int32)) hF dX12_chained_31 kI_0 ?_
    refine s_istore_n (pls' := [(2, .int (0 : Int32)), (0, .ref l0), (1, .int l1)]) hF dX12_chained_32 rfl (by decide) rfl ?_
    refine s_iconst (v := (0 : Int32)) hF dX12_chained_33 kI_0 ?_
    refine s_istore_n (pls' := [(3, .int (0 : Int32)), (2, .int (0 : Int32)), (0, .ref l0), (1, .int l1)]) hF dX12_chained_34 rfl (by decide) rfl ?_
    refine s_sub [2, 3, 1, 0] rfl ?_
    exact sX12_chained_35 hF hD 100000 l0 l1 (0 : Int32) (0 : Int32) _ (isK.mo f0 hm9)
  · refine s_iconst (v := (0 : Int32)) hF dX12_chained_29 kI_0 ?_
    exact s_iretD hF hD dX12_chained_30 rfl
theorem ctX12_chained  (l0 : Nat) (l1 : Int32) (μ : Mem) : ∀ (r : Int32) (μ' : Mem), LX12_chained l0 l1 μ = some (r, μ') → CtD yX12_chained cX12_chained 4 (some .int) 1 [.ref l0, .int l1] μ (encI r) μ' := by
  refine ct_enterD plX12 (Nat.le_of_ble_eq_true rfl) (fun F hF hD hI => ?_)
  unfold LX12_chained
  refine sim_gd (fun f0 => ?_)
  refine s_aload_n hF dX12_chained_0 rfl 0 rfl ?_
  refine s_iconst (v := (0 : Int32)) hF dX12_chained_1 kI_0 ?_
  refine s_putI hF dX12_chained_2 flX12_94 f0 ?_
  refine s_aload_n hF dX12_chained_5 rfl 0 rfl ?_
  refine s_iload_n hF dX12_chained_6 rfl 1 rfl ?_
  refine s_iconst (v := (0 : Int32)) hF dX12_chained_7 kI_0 ?_
  refine s_bipush (v := (7 : Int32)) hF dX12_chained_8 kB_7 ?_
  refine s_cSi (st := [.ref l0]) [.int l1, .int (0 : Int32), .int (7 : Int32)] hF hD.dr dX12_chained_10 cwX12_128 (Nat.le_of_ble_eq_true rfl) (Nat.le_of_ble_eq_true rfl) rfl rfl (Nat.le_of_ble_eq_true rfl) (ctX12_in l1 (0 : Int32) (7 : Int32) _) (fun r1 m2 hl3 hm4 => ?_)
  refine s_if_ne (tgt := 20) hF dX12_chained_13 rfl (fun c5 => ?_) (fun c5 => ?_)
  · refine s_iconst (v := (1 : Int32)) hF dX12_chained_16 kI_1 ?_
    refine s_goto (tgt := 21) hF dX12_chained_17 rfl ?_
    exact sX12_chained_21 hF hD l0 l1 (1 : Int32) l0 _ (isK.mo f0 hm4)
  · refine s_iconst (v := (0 : Int32)) hF dX12_chained_20 kI_0 ?_
    exact sX12_chained_21 hF hD l0 l1 (0 : Int32) l0 _ (isK.mo f0 hm4)
theorem sX12_liar_95 {F : Option Fx} (q38 : Nat → Int32 → Int32 → Int32 → Int32 → Int32 → Mem → Option (Int32 × Mem)) (hF : FxO F RX12 cX12_liar 7 3) (hD : FxDO F (some .int)) (hq38 : ∀ (l0 : Nat) (l1 : Int32) (l2 : Int32) (l3 : Int32) (l4 : Int32) (l5 : Int32) (μ : Mem) (_ : isK μ l0 12 = true), Sim F encI 38 [(0, .ref l0), (1, .int l1), (2, .int l2), (3, .int l3), (4, .int l4), (5, .int l5)] [] μ (q38 l0 l1 l2 l3 l4 l5 μ)) (l0 : Nat) (l1 : Int32) (l2 : Int32) (l4 : Int32) (l5 : Int32) (l6 : Int32) (k0 : Int32) (μ : Mem) (f0 : isK μ l0 12 = true) : Sim F encI 95 [(0, .ref l0), (1, .int l1), (2, .int l2), (4, .int l4), (5, .int l5), (6, .int l6)] [.int k0] μ (mX12_liar_95 q38 l0 l1 l2 l4 l5 l6 k0 μ) := by
  unfold mX12_liar_95
  refine s_istore_n (pls' := [(3, .int k0), (0, .ref l0), (1, .int l1), (2, .int l2), (4, .int l4), (5, .int l5), (6, .int l6)]) hF dX12_liar_95 rfl (by decide) rfl ?_
  refine s_iload hF dX12_liar_96 4 rfl ?_
  refine s_iload hF dX12_liar_98 6 rfl ?_
  refine s_cSi (st := []) [.int l4, .int l6] hF hD.dr dX12_liar_100 cwX12_237 (Nat.le_of_ble_eq_true rfl) (Nat.le_of_ble_eq_true rfl) rfl rfl (Nat.le_of_ble_eq_true rfl) (ctX12_more l4 l6 _) (fun r32 m33 hl34 hm35 => ?_)
  refine s_istore (pls' := [(4, .int r32), (3, .int k0), (0, .ref l0), (1, .int l1), (2, .int l2), (5, .int l5), (6, .int l6)]) hF dX12_liar_103 (by decide) rfl ?_
  refine s_iinc (v := (l5 + (1 : Int32))) (pls' := [(5, .int (l5 + (1 : Int32))), (4, .int r32), (3, .int k0), (0, .ref l0), (1, .int l1), (2, .int l2), (6, .int l6)]) hF dX12_liar_105 5 rfl rfl (by decide) rfl ?_
  refine s_goto (tgt := 38) hF dX12_liar_108 rfl ?_
  refine s_sub [3, 4, 5, 2, 1, 0] rfl ?_
  exact hq38 l0 l1 l2 k0 r32 (l5 + (1 : Int32)) _ (isK.mo f0 hm35)
theorem sX12_liar_38 {F : Option Fx} (hF : FxO F RX12 cX12_liar 7 3) (hD : FxDO F (some .int)) : ∀ (fu : Nat) (l0 : Nat) (l1 : Int32) (l2 : Int32) (l3 : Int32) (l4 : Int32) (l5 : Int32) (μ : Mem) (f0 : isK μ l0 12 = true), Sim F encI 38 [(0, .ref l0), (1, .int l1), (2, .int l2), (3, .int l3), (4, .int l4), (5, .int l5)] [] μ (mX12_liar_38 fu l0 l1 l2 l3 l4 l5 μ) := by
  intro fu
  induction fu with
  | zero =>
    intro l0 l1 l2 l3 l4 l5 μ f0
    exact sim_none
  | succ fu ih =>
    intro l0 l1 l2 l3 l4 l5 μ f0
    rw [mX12_liar_38]
    refine s_iload hF dX12_liar_38 5 rfl ?_
    refine s_aload_n hF dX12_liar_40 rfl 0 rfl ?_
    refine sim_gd (fun g12 => ?_)
    refine s_getR (x := (g_R μ l0 12)) hF dX12_liar_41 flX12_23 f0 g12 rfl ?_
    refine s_iconst (v := (0 : Int32)) hF dX12_liar_44 kI_0 ?_
    refine sim_gd (fun g13 => ?_)
    refine s_iaload (x := (g_I μ (g_R μ l0 12) (0 : Int32).toNatClampNeg)) hF dX12_liar_45 g13 rfl ?_
    refine s_icmp_ge (tgt := 111) hF dX12_liar_46 rfl (fun c14 => ?_) (fun c14 => ?_)
    · refine s_iload_n hF dX12_liar_111 rfl 2 rfl ?_
      refine s_if_ne (tgt := 119) hF dX12_liar_112 rfl (fun c15 => ?_) (fun c15 => ?_)
      · refine s_iload_n hF dX12_liar_115 rfl 3 rfl ?_
        refine s_goto (tgt := 121) hF dX12_liar_116 rfl ?_
        exact s_iretD hF hD dX12_liar_121 rfl
      · refine s_iload hF dX12_liar_119 4 rfl ?_
        exact s_iretD hF hD dX12_liar_121 rfl
    · refine s_aload_n hF dX12_liar_49 rfl 0 rfl ?_
      refine s_aload_n hF dX12_liar_50 rfl 0 rfl ?_
      refine sim_gd (fun g16 => ?_)
      refine s_getR (x := (g_R μ l0 29)) hF dX12_liar_51 flX12_67 f0 g16 rfl ?_
      refine s_iload hF dX12_liar_54 5 rfl ?_
      refine s_cVi (st := []) (ci := 12) [.ref (g_R μ l0 29), .int l5] hF hD.dr dX12_liar_56 cwX12_286 (Nat.le_of_ble_eq_true rfl) (Nat.le_of_ble_eq_true rfl) rfl rfl (Nat.le_of_ble_eq_true rfl) f0 rfl rfl (Nat.le_of_ble_eq_true rfl) (ctX12_jams l0 (g_R μ l0 29) l5 _) (fun r17 m18 hl19 hm20 => ?_)
      refine s_if_eq (tgt := 65) hF dX12_liar_59 rfl (fun c21 => ?_) (fun c21 => ?_)
      · refine s_iload_n hF dX12_liar_65 rfl 1 rfl ?_
        refine s_aload_n hF dX12_liar_66 rfl 0 rfl ?_
        refine s_aload_n hF dX12_liar_67 rfl 0 rfl ?_
        refine sim_gd (fun g22 => ?_)
        refine s_getR (x := (g_R m18 l0 29)) hF dX12_liar_68 flX12_67 (isK.mo f0 hm20) g22 rfl ?_
        refine s_iload hF dX12_liar_71 5 rfl ?_
        refine s_iload_n hF dX12_liar_73 rfl 1 rfl ?_
        refine s_cVi (st := [.int l1]) (ci := 12) [.ref (g_R m18 l0 29), .int l5, .int l1] hF hD.dr dX12_liar_74 cwX12_290 (Nat.le_of_ble_eq_true rfl) (Nat.le_of_ble_eq_true rfl) rfl rfl (Nat.le_of_ble_eq_true rfl) (isK.mo f0 hm20) rfl rfl (Nat.le_of_ble_eq_true rfl) (ctX12_outOf l0 (g_R m18 l0 29) l5 l1 _) (fun r23 m24 hl25 hm26 => ?_)
        refine s_cSi (st := []) [.int l1, .int r23] hF hD.dr dX12_liar_77 cwX12_294 (Nat.le_of_ble_eq_true rfl) (Nat.le_of_ble_eq_true rfl) rfl rfl (Nat.le_of_ble_eq_true rfl) (ctX12_off l1 r23 _) (fun r27 m28 hl29 hm30 => ?_)
        refine s_istore (pls' := [(6, .int r27), (0, .ref l0), (1, .int l1), (2, .int l2), (3, .int l3), (4, .int l4), (5, .int l5)]) hF dX12_liar_80 (by decide) rfl ?_
        refine s_iload hF dX12_liar_82 0 rfl ?_
        refine s_iload hF dX12_liar_84 5 rfl ?_
        refine s_icmp_le (tgt := 94) hF dX12_liar_86 rfl (fun c31 => ?_) (fun c31 => ?_)
        · refine s_iload_n hF dX12_liar_94 rfl 4 rfl ?_
          refine s_sub [1, 2, 3, 5, 6, 0] rfl ?_
          exact sX12_liar_95 (fun l0 l1 l2 l3 l4 l5 μ => mX12_liar_38 fu l0 l1 l2 l3 l4 l5 μ) hF hD ih l0 l1 l2 l4 l5 r27 l3 _ (isK.mo (isK.mo (isK.mo f0 hm20) hm26) hm30)
        · refine s_iload hF dX12_liar_89 6 rfl ?_
          refine s_goto (tgt := 95) hF dX12_liar_91 rfl ?_
          refine s_sub [1, 2, 3, 5, 6, 0] rfl ?_
          exact sX12_liar_95 (fun l0 l1 l2 l3 l4 l5 μ => mX12_liar_38 fu l0 l1 l2 l3 l4 l5 μ) hF hD ih l0 l1 l2 l4 l5 r27 l5 _ (isK.mo (isK.mo (isK.mo f0 hm20) hm26) hm30)
      · refine s_goto (tgt := 105) hF dX12_liar_62 rfl ?_
        refine s_iinc (v := (l5 + (1 : Int32))) (pls' := [(5, .int (l5 + (1 : Int32))), (0, .ref l0), (1, .int l1), (2, .int l2), (3, .int l3), (4, .int l4)]) hF dX12_liar_105 5 rfl rfl (by decide) rfl ?_
        refine s_goto (tgt := 38) hF dX12_liar_108 rfl ?_
        refine s_sub [1, 2, 3, 4, 5, 0] rfl ?_
        exact ih l0 l1 l2 l3 l4 (l5 + (1 : Int32)) _ (isK.mo f0 hm20)
theorem sX12_liar_20 {F : Option Fx} (hF : FxO F RX12 cX12_liar 7 3) (hD : FxDO F (some .int)) (l0 : Nat) (l1 : Int32) (l2 : Int32) (k0 : Int32) (k1 : Nat) (μ : Mem) (f0 : isK μ l0 12 = true) : Sim F encI 20 [(0, .ref l0), (1, .int l1), (2, .int l2)] [.int k0, .ref k1] μ (mX12_liar_20 l0 l1 l2 k0 k1 μ) := by
  unfold mX12_liar_20
  refine s_iconst (v := (1 : Int32)) hF dX12_liar_20 kI_1 ?_
  refine s_iconst (v := (1 : Int32)) hF dX12_liar_21 kI_1 ?_
  refine sim_gd (fun g10 => ?_)
  refine s_cVi (st := []) (ci := 12) [.int k0, .int (1 : Int32), .int (1 : Int32)] hF hD.dr dX12_liar_22 cwX12_167 (Nat.le_of_ble_eq_true rfl) (Nat.le_of_ble_eq_true rfl) rfl rfl (Nat.le_of_ble_eq_true rfl) g10 rfl rfl (Nat.le_of_ble_eq_true rfl) (ctX12_bad k1 k0 (1 : Int32) (1 : Int32) _) (fun r6 m7 hl8 hm9 => ?_)
  refine s_if_eq (tgt := 30) hF dX12_liar_25 rfl (fun c11 => ?_) (fun c11 => ?_)
  · refine s_iconst (v := (-1 : Int32)) hF dX12_liar_30 kI_m1 ?_
    refine s_istore_n (pls' := [(3, .int (-1 : Int32)), (0, .ref l0), (1, .int l1), (2, .int l2)]) hF dX12_liar_31 rfl (by decide) rfl ?_
    refine s_iconst (v := (-1 : Int32)) hF dX12_liar_32 kI_m1 ?_
    refine s_istore (pls' := [(4, .int (-1 : Int32)), (3, .int (-1 : Int32)), (0, .ref l0), (1, .int l1), (2, .int l2)]) hF dX12_liar_33 (by decide) rfl ?_
    refine s_iconst (v := (0 : Int32)) hF dX12_liar_35 kI_0 ?_
    refine s_istore (pls' := [(5, .int (0 : Int32)), (4, .int (-1 : Int32)), (3, .int (-1 : Int32)), (0, .ref l0), (1, .int l1), (2, .int l2)]) hF dX12_liar_36 (by decide) rfl ?_
    refine s_sub [3, 4, 5, 2, 1, 0] rfl ?_
    exact sX12_liar_38 hF hD 100000 l0 l1 l2 (-1 : Int32) (-1 : Int32) (0 : Int32) _ (isK.mo f0 hm9)
  · refine s_iconst (v := (0 : Int32)) hF dX12_liar_28 kI_0 ?_
    exact s_iretD hF hD dX12_liar_29 rfl
theorem ctX12_liar  (l0 : Nat) (l1 : Int32) (l2 : Int32) (μ : Mem) : ∀ (r : Int32) (μ' : Mem), LX12_liar l0 l1 l2 μ = some (r, μ') → CtD yX12_liar cX12_liar 7 (some .int) 3 [.ref l0, .int l1, .int l2] μ (encI r) μ' := by
  refine ct_enterD plX12 (Nat.le_of_ble_eq_true rfl) (fun F hF hD hI => ?_)
  unfold LX12_liar
  refine sim_gd (fun f0 => ?_)
  refine s_aload_n hF dX12_liar_0 rfl 0 rfl ?_
  refine s_iconst (v := (0 : Int32)) hF dX12_liar_1 kI_0 ?_
  refine s_putI hF dX12_liar_2 flX12_94 f0 ?_
  refine s_aload_n hF dX12_liar_5 rfl 0 rfl ?_
  refine s_iload_n hF dX12_liar_6 rfl 2 rfl ?_
  refine s_iconst (v := (0 : Int32)) hF dX12_liar_7 kI_0 ?_
  refine s_iconst (v := (1 : Int32)) hF dX12_liar_8 kI_1 ?_
  refine s_cSi (st := [.ref l0]) [.int l2, .int (0 : Int32), .int (1 : Int32)] hF hD.dr dX12_liar_9 cwX12_128 (Nat.le_of_ble_eq_true rfl) (Nat.le_of_ble_eq_true rfl) rfl rfl (Nat.le_of_ble_eq_true rfl) (ctX12_in l2 (0 : Int32) (1 : Int32) _) (fun r1 m2 hl3 hm4 => ?_)
  refine s_if_ne (tgt := 19) hF dX12_liar_12 rfl (fun c5 => ?_) (fun c5 => ?_)
  · refine s_iconst (v := (1 : Int32)) hF dX12_liar_15 kI_1 ?_
    refine s_goto (tgt := 20) hF dX12_liar_16 rfl ?_
    exact sX12_liar_20 hF hD l0 l1 l2 (1 : Int32) l0 _ (isK.mo f0 hm4)
  · refine s_iconst (v := (0 : Int32)) hF dX12_liar_19 kI_0 ?_
    exact sX12_liar_20 hF hD l0 l1 l2 (0 : Int32) l0 _ (isK.mo f0 hm4)
theorem sX12_reach_45 {F : Option Fx} (q35 : Nat → Int32 → Int32 → Mem → Option (Int32 × Mem)) (hF : FxO F RX12 cX12_reach 5 2) (hD : FxDO F (some .int)) (hq35 : ∀ (l0 : Nat) (l2 : Int32) (l3 : Int32) (μ : Mem) (_ : isK μ l0 12 = true), Sim F encI 35 [(0, .ref l0), (2, .int l2), (3, .int l3)] [] μ (q35 l0 l2 l3 μ)) : ∀ (fu : Nat) (l0 : Nat) (l2 : Int32) (l3 : Int32) (l4 : Int32) (μ : Mem) (f0 : isK μ l0 12 = true), Sim F encI 45 [(0, .ref l0), (2, .int l2), (3, .int l3), (4, .int l4)] [] μ (mX12_reach_45 q35 fu l0 l2 l3 l4 μ) := by
  intro fu
  induction fu with
  | zero =>
    intro l0 l2 l3 l4 μ f0
    exact sim_none
  | succ fu ih =>
    intro l0 l2 l3 l4 μ f0
    rw [mX12_reach_45]
    refine s_iload hF dX12_reach_45 3 rfl ?_
    refine s_aload_n hF dX12_reach_47 rfl 0 rfl ?_
    refine sim_gd (fun g13 => ?_)
    refine s_getR (x := (g_R μ l0 12)) hF dX12_reach_48 flX12_23 f0 g13 rfl ?_
    refine s_iconst (v := (0 : Int32)) hF dX12_reach_51 kI_0 ?_
    refine sim_gd (fun g14 => ?_)
    refine s_iaload (x := (g_I μ (g_R μ l0 12) (0 : Int32).toNatClampNeg)) hF dX12_reach_52 g14 rfl ?_
    refine s_icmp_ge (tgt := 85) hF dX12_reach_53 rfl (fun c15 => ?_) (fun c15 => ?_)
    · refine s_goto (tgt := 35) hF dX12_reach_85 rfl ?_
      refine s_sub [0, 1, 2] rfl ?_
      exact hq35 l0 l2 l3 _ f0
    · refine s_iload_n hF dX12_reach_56 rfl 1 rfl ?_
      refine s_iload_n hF dX12_reach_57 rfl 2 rfl ?_
      refine s_iload hF dX12_reach_58 3 rfl ?_
      refine s_cSi (st := [.int l2]) [.int l3, .int l4] hF hD.dr dX12_reach_60 cwX12_393 (Nat.le_of_ble_eq_true rfl) (Nat.le_of_ble_eq_true rfl) rfl rfl (Nat.le_of_ble_eq_true rfl) (ctX12_has l3 l4 _) (fun r16 m17 hl18 hm19 => ?_)
      refine s_if_eq (tgt := 76) hF dX12_reach_63 rfl (fun c20 => ?_) (fun c20 => ?_)
      · refine s_iconst (v := (0 : Int32)) hF dX12_reach_76 kI_0 ?_
        refine s_ior hF dX12_reach_77 ?_
        refine s_istore_n (pls' := [(2, .int (l2 ||| (0 : Int32))), (0, .ref l0), (3, .int l3), (4, .int l4)]) hF dX12_reach_78 rfl (by decide) rfl ?_
        refine s_iinc (v := (l4 + (1 : Int32))) (pls' := [(4, .int (l4 + (1 : Int32))), (2, .int (l2 ||| (0 : Int32))), (0, .ref l0), (3, .int l3)]) hF dX12_reach_79 3 rfl rfl (by decide) rfl ?_
        refine s_goto (tgt := 45) hF dX12_reach_82 rfl ?_
        refine s_sub [2, 1, 3, 0] rfl ?_
        exact ih l0 (l2 ||| (0 : Int32)) l3 (l4 + (1 : Int32)) _ (isK.mo f0 hm19)
      · refine s_aload_n hF dX12_reach_66 rfl 0 rfl ?_
        refine s_iload hF dX12_reach_67 3 rfl ?_
        refine s_iconst (v := (0 : Int32)) hF dX12_reach_69 kI_0 ?_
        refine s_cVi (st := [.int l2]) (ci := 12) [.int l4, .int (0 : Int32)] hF hD.dr dX12_reach_70 cwX12_358 (Nat.le_of_ble_eq_true rfl) (Nat.le_of_ble_eq_true rfl) rfl rfl (Nat.le_of_ble_eq_true rfl) (isK.mo f0 hm19) rfl rfl (Nat.le_of_ble_eq_true rfl) (ctX12_wired l0 l4 (0 : Int32) _) (fun r21 m22 hl23 hm24 => ?_)
        refine s_goto (tgt := 77) hF dX12_reach_73 rfl ?_
        refine s_ior hF dX12_reach_77 ?_
        refine s_istore_n (pls' := [(2, .int (l2 ||| r21)), (0, .ref l0), (3, .int l3), (4, .int l4)]) hF dX12_reach_78 rfl (by decide) rfl ?_
        refine s_iinc (v := (l4 + (1 : Int32))) (pls' := [(4, .int (l4 + (1 : Int32))), (2, .int (l2 ||| r21)), (0, .ref l0), (3, .int l3)]) hF dX12_reach_79 3 rfl rfl (by decide) rfl ?_
        refine s_goto (tgt := 45) hF dX12_reach_82 rfl ?_
        refine s_sub [2, 1, 3, 0] rfl ?_
        exact ih l0 (l2 ||| r21) l3 (l4 + (1 : Int32)) _ (isK.mo (isK.mo f0 hm19) hm24)
theorem sX12_reach_35 {F : Option Fx} (hF : FxO F RX12 cX12_reach 5 2) (hD : FxDO F (some .int)) : ∀ (fu : Nat) (l0 : Nat) (l2 : Int32) (l3 : Int32) (μ : Mem) (f0 : isK μ l0 12 = true), Sim F encI 35 [(0, .ref l0), (2, .int l2), (3, .int l3)] [] μ (mX12_reach_35 fu l0 l2 l3 μ) := by
  intro fu
  induction fu with
  | zero =>
    intro l0 l2 l3 μ f0
    exact sim_none
  | succ fu ih =>
    intro l0 l2 l3 μ f0
    rw [mX12_reach_35]
    refine s_iload_n hF dX12_reach_35 rfl 1 rfl ?_
    refine s_iload_n hF dX12_reach_36 rfl 2 rfl ?_
    refine s_icmp_eq (tgt := 88) hF dX12_reach_37 rfl (fun c12 => ?_) (fun c12 => ?_)
    · refine s_iload_n hF dX12_reach_88 rfl 1 rfl ?_
      exact s_iretD hF hD dX12_reach_89 rfl
    · refine s_iload_n hF dX12_reach_40 rfl 1 rfl ?_
      refine s_istore_n (pls' := [(3, .int l2), (0, .ref l0), (2, .int l2)]) hF dX12_reach_41 rfl (by decide) rfl ?_
      refine s_iconst (v := (0 : Int32)) hF dX12_reach_42 kI_0 ?_
      refine s_istore (pls' := [(4, .int (0 : Int32)), (3, .int l2), (0, .ref l0), (2, .int l2)]) hF dX12_reach_43 (by decide) rfl ?_
      refine s_sub [2, 3, 1, 0] rfl ?_
      exact sX12_reach_45 (fun l0 l2 l3 μ => mX12_reach_35 fu l0 l2 l3 μ) hF hD ih 100000 l0 l2 l2 (0 : Int32) _ f0
theorem sX12_reach_19 {F : Option Fx} (hF : FxO F RX12 cX12_reach 5 2) (hD : FxDO F (some .int)) (l0 : Nat) (l1 : Int32) (k0 : Int32) (k1 : Nat) (μ : Mem) (f0 : isK μ l0 12 = true) : Sim F encI 19 [(0, .ref l0), (1, .int l1)] [.int k0, .ref k1] μ (mX12_reach_19 l0 l1 k0 k1 μ) := by
  unfold mX12_reach_19
  refine s_iconst (v := (1 : Int32)) hF dX12_reach_19 kI_1 ?_
  refine s_iconst (v := (0 : Int32)) hF dX12_reach_20 kI_0 ?_
  refine sim_gd (fun g10 => ?_)
  refine s_cVi (st := []) (ci := 12) [.int k0, .int (1 : Int32), .int (0 : Int32)] hF hD.dr dX12_reach_21 cwX12_167 (Nat.le_of_ble_eq_true rfl) (Nat.le_of_ble_eq_true rfl) rfl rfl (Nat.le_of_ble_eq_true rfl) g10 rfl rfl (Nat.le_of_ble_eq_true rfl) (ctX12_bad k1 k0 (1 : Int32) (0 : Int32) _) (fun r6 m7 hl8 hm9 => ?_)
  refine s_if_eq (tgt := 29) hF dX12_reach_24 rfl (fun c11 => ?_) (fun c11 => ?_)
  · refine s_iconst (v := (1 : Int32)) hF dX12_reach_29 kI_1 ?_
    refine s_iload_n hF dX12_reach_30 rfl 1 rfl ?_
    refine s_ishl hF dX12_reach_31 ?_
    refine s_istore_n (pls' := [(2, .int ((1 : Int32) <<< (l1 &&& 31))), (0, .ref l0), (1, .int l1)]) hF dX12_reach_32 rfl (by decide) rfl ?_
    refine s_iconst (v := (0 : Int32)) hF dX12_reach_33 kI_0 ?_
    refine s_istore_n (pls' := [(3, .int (0 : Int32)), (2, .int ((1 : Int32) <<< (l1 &&& 31))), (0, .ref l0), (1, .int l1)]) hF dX12_reach_34 rfl (by decide) rfl ?_
    refine s_sub [2, 1, 0] rfl ?_
    exact sX12_reach_35 hF hD 100000 l0 ((1 : Int32) <<< (l1 &&& 31)) (0 : Int32) _ (isK.mo f0 hm9)
  · refine s_iconst (v := (0 : Int32)) hF dX12_reach_27 kI_0 ?_
    exact s_iretD hF hD dX12_reach_28 rfl
theorem ctX12_reach  (l0 : Nat) (l1 : Int32) (μ : Mem) : ∀ (r : Int32) (μ' : Mem), LX12_reach l0 l1 μ = some (r, μ') → CtD yX12_reach cX12_reach 5 (some .int) 2 [.ref l0, .int l1] μ (encI r) μ' := by
  refine ct_enterD plX12 (Nat.le_of_ble_eq_true rfl) (fun F hF hD hI => ?_)
  unfold LX12_reach
  refine sim_gd (fun f0 => ?_)
  refine s_aload_n hF dX12_reach_0 rfl 0 rfl ?_
  refine s_iconst (v := (0 : Int32)) hF dX12_reach_1 kI_0 ?_
  refine s_putI hF dX12_reach_2 flX12_94 f0 ?_
  refine s_aload_n hF dX12_reach_5 rfl 0 rfl ?_
  refine s_aload_n hF dX12_reach_6 rfl 0 rfl ?_
  refine s_iload_n hF dX12_reach_7 rfl 1 rfl ?_
  refine s_cVi (st := [.ref l0]) (ci := 12) [.int l1] hF hD.dr dX12_reach_8 cwX12_355 (Nat.le_of_ble_eq_true rfl) (Nat.le_of_ble_eq_true rfl) rfl rfl (Nat.le_of_ble_eq_true rfl) f0 rfl rfl (Nat.le_of_ble_eq_true rfl) (ctX12_isPen l0 l1 _) (fun r1 m2 hl3 hm4 => ?_)
  refine s_if_ne (tgt := 18) hF dX12_reach_11 rfl (fun c5 => ?_) (fun c5 => ?_)
  · refine s_iconst (v := (1 : Int32)) hF dX12_reach_14 kI_1 ?_
    refine s_goto (tgt := 19) hF dX12_reach_15 rfl ?_
    exact sX12_reach_19 hF hD l0 l1 (1 : Int32) l0 _ (isK.mo f0 hm4)
  · refine s_iconst (v := (0 : Int32)) hF dX12_reach_18 kI_0 ?_
    exact sX12_reach_19 hF hD l0 l1 (0 : Int32) l0 _ (isK.mo f0 hm4)
theorem sX12_room_9 {F : Option Fx} (hF : FxO F RX12 cX12_room 3 0) (hD : FxDO F (some .int)) : ∀ (fu : Nat) (l0 : Nat) (l1 : Int32) (l2 : Int32) (μ : Mem) (f0 : isK μ l0 12 = true), Sim F encI 9 [(0, .ref l0), (1, .int l1), (2, .int l2)] [] μ (mX12_room_9 fu l0 l1 l2 μ) := by
  intro fu
  induction fu with
  | zero =>
    intro l0 l1 l2 μ f0
    exact sim_none
  | succ fu ih =>
    intro l0 l1 l2 μ f0
    rw [mX12_room_9]
    refine s_iload_n hF dX12_room_9 rfl 2 rfl ?_
    refine s_aload_n hF dX12_room_10 rfl 0 rfl ?_
    refine sim_gd (fun g1 => ?_)
    refine s_getR (x := (g_R μ l0 12)) hF dX12_room_11 flX12_23 f0 g1 rfl ?_
    refine s_iconst (v := (0 : Int32)) hF dX12_room_14 kI_0 ?_
    refine sim_gd (fun g2 => ?_)
    refine s_iaload (x := (g_I μ (g_R μ l0 12) (0 : Int32).toNatClampNeg)) hF dX12_room_15 g2 rfl ?_
    refine s_icmp_ge (tgt := 64) hF dX12_room_16 rfl (fun c3 => ?_) (fun c3 => ?_)
    · refine s_iload_n hF dX12_room_64 rfl 1 rfl ?_
      exact s_iretD hF hD dX12_room_65 rfl
    · refine s_iload_n hF dX12_room_19 rfl 1 rfl ?_
      refine s_aload_n hF dX12_room_20 rfl 0 rfl ?_
      refine sim_gd (fun g4 => ?_)
      refine s_getR (x := (g_R μ l0 29)) hF dX12_room_21 flX12_67 f0 g4 rfl ?_
      refine s_bipush (v := (16 : Int32)) hF dX12_room_24 kB_16 ?_
      refine s_iload_n hF dX12_room_26 rfl 2 rfl ?_
      refine s_iadd hF dX12_room_27 ?_
      refine sim_gd (fun g5 => ?_)
      refine s_iaload (x := (g_I μ (g_R μ l0 29) ((16 : Int32) + l2).toNatClampNeg)) hF dX12_room_28 g5 rfl ?_
      refine s_iconst (v := (-1 : Int32)) hF dX12_room_29 kI_m1 ?_
      refine s_icmp_ne (tgt := 37) hF dX12_room_30 rfl (fun c6 => ?_) (fun c6 => ?_)
      · refine s_iconst (v := (0 : Int32)) hF dX12_room_33 kI_0 ?_
        refine s_goto (tgt := 56) hF dX12_room_34 rfl ?_
        refine s_iadd hF dX12_room_56 ?_
        refine s_istore_n (pls' := [(1, .int (l1 + (0 : Int32))), (0, .ref l0), (2, .int l2)]) hF dX12_room_57 rfl (by decide) rfl ?_
        refine s_iinc (v := (l2 + (1 : Int32))) (pls' := [(2, .int (l2 + (1 : Int32))), (1, .int (l1 + (0 : Int32))), (0, .ref l0)]) hF dX12_room_58 2 rfl rfl (by decide) rfl ?_
        refine s_goto (tgt := 9) hF dX12_room_61 rfl ?_
        refine s_sub [2, 1, 0] rfl ?_
        exact ih l0 (l1 + (0 : Int32)) (l2 + (1 : Int32)) _ f0
      · refine s_aload_n hF dX12_room_37 rfl 0 rfl ?_
        refine s_getR (x := (g_R μ l0 29)) hF dX12_room_38 flX12_67 f0 g4 rfl ?_
        refine s_bipush (v := (16 : Int32)) hF dX12_room_41 kB_16 ?_
        refine s_iload_n hF dX12_room_43 rfl 2 rfl ?_
        refine s_iadd hF dX12_room_44 ?_
        refine s_iaload (x := (g_I μ (g_R μ l0 29) ((16 : Int32) + l2).toNatClampNeg)) hF dX12_room_45 g5 rfl ?_
        refine s_aload_n hF dX12_room_46 rfl 0 rfl ?_
        refine s_getR (x := (g_R μ l0 29)) hF dX12_room_47 flX12_67 f0 g4 rfl ?_
        refine s_bipush (v := (24 : Int32)) hF dX12_room_50 kB_24 ?_
        refine s_iload_n hF dX12_room_52 rfl 2 rfl ?_
        refine s_iadd hF dX12_room_53 ?_
        refine sim_gd (fun g7 => ?_)
        refine s_iaload (x := (g_I μ (g_R μ l0 29) ((24 : Int32) + l2).toNatClampNeg)) hF dX12_room_54 g7 rfl ?_
        refine s_isub hF dX12_room_55 ?_
        refine s_iadd hF dX12_room_56 ?_
        refine s_istore_n (pls' := [(1, .int (l1 + ((g_I μ (g_R μ l0 29) ((16 : Int32) + l2).toNatClampNeg) - (g_I μ (g_R μ l0 29) ((24 : Int32) + l2).toNatClampNeg)))), (0, .ref l0), (2, .int l2)]) hF dX12_room_57 rfl (by decide) rfl ?_
        refine s_iinc (v := (l2 + (1 : Int32))) (pls' := [(2, .int (l2 + (1 : Int32))), (1, .int (l1 + ((g_I μ (g_R μ l0 29) ((16 : Int32) + l2).toNatClampNeg) - (g_I μ (g_R μ l0 29) ((24 : Int32) + l2).toNatClampNeg)))), (0, .ref l0)]) hF dX12_room_58 2 rfl rfl (by decide) rfl ?_
        refine s_goto (tgt := 9) hF dX12_room_61 rfl ?_
        refine s_sub [2, 1, 0] rfl ?_
        exact ih l0 (l1 + ((g_I μ (g_R μ l0 29) ((16 : Int32) + l2).toNatClampNeg) - (g_I μ (g_R μ l0 29) ((24 : Int32) + l2).toNatClampNeg))) (l2 + (1 : Int32)) _ f0
theorem ctX12_room  (l0 : Nat) (μ : Mem) : ∀ (r : Int32) (μ' : Mem), LX12_room l0 μ = some (r, μ') → CtD yX12_room cX12_room 3 (some .int) 0 [.ref l0] μ (encI r) μ' := by
  refine ct_enterD plX12 (Nat.le_of_ble_eq_true rfl) (fun F hF hD hI => ?_)
  unfold LX12_room
  refine sim_gd (fun f0 => ?_)
  refine s_aload_n hF dX12_room_0 rfl 0 rfl ?_
  refine s_iconst (v := (0 : Int32)) hF dX12_room_1 kI_0 ?_
  refine s_putI hF dX12_room_2 flX12_94 f0 ?_
  refine s_iconst (v := (0 : Int32)) hF dX12_room_5 kI_0 ?_
  refine s_istore_n (pls' := [(1, .int (0 : Int32)), (0, .ref l0)]) hF dX12_room_6 rfl (by decide) rfl ?_
  refine s_iconst (v := (0 : Int32)) hF dX12_room_7 kI_0 ?_
  refine s_istore_n (pls' := [(2, .int (0 : Int32)), (1, .int (0 : Int32)), (0, .ref l0)]) hF dX12_room_8 rfl (by decide) rfl ?_
  refine s_sub [2, 1, 0] rfl ?_
  exact sX12_room_9 hF hD 100000 l0 (0 : Int32) (0 : Int32) _ f0
theorem ctX12_draw  (l0 : Nat) (l1 : Int32) (μ : Mem) : ∀ (r : Int32) (μ' : Mem), LX12_draw l0 l1 μ = some (r, μ') → CtD yX12_draw cX12_draw 2 (some .int) 0 [.ref l0, .int l1] μ (encI r) μ' := by
  refine ct_enterD plX12 (Nat.le_of_ble_eq_true rfl) (fun F hF hD hI => ?_)
  unfold LX12_draw
  refine sim_gd (fun f0 => ?_)
  refine s_aload_n hF dX12_draw_0 rfl 0 rfl ?_
  refine s_aload_n hF dX12_draw_1 rfl 0 rfl ?_
  refine s_getI (x := (g_I μ l0 46)) hF dX12_draw_2 flX12_413 f0 rfl ?_
  refine s_ldcw (v := (1103515245 : Int32)) hF dX12_draw_5 cwX12_416 ?_
  refine s_imul hF dX12_draw_8 ?_
  refine s_sipush (v := (12345 : Int32)) hF dX12_draw_9 kS_12345 ?_
  refine s_iadd hF dX12_draw_12 ?_
  refine s_putI hF dX12_draw_13 flX12_413 f0 ?_
  refine s_aload_n hF dX12_draw_16 rfl 0 rfl ?_
  refine s_getI (x := (g_I (p_I μ l0 46 (((g_I μ l0 46) * (1103515245 : Int32)) + (12345 : Int32))) l0 46)) hF dX12_draw_17 flX12_413 f0 rfl ?_
  refine s_bipush (v := (16 : Int32)) hF dX12_draw_20 kB_16 ?_
  refine s_ishr hF dX12_draw_22 ?_
  refine s_sipush (v := (32767 : Int32)) hF dX12_draw_23 kS_32767 ?_
  refine s_iand hF dX12_draw_26 ?_
  refine s_iload_n hF dX12_draw_27 rfl 1 rfl ?_
  refine sim_gd (fun g1 => ?_)
  refine s_irem hF dX12_draw_28 g1 ?_
  exact s_iretD hF hD dX12_draw_29 rfl
theorem sX12_seasonBy_102 {F : Option Fx} (q19 : Nat → Int32 → Int32 → Int32 → Mem → Option (Unit × Mem)) (hF : FxO F RX12 cX12_seasonBy 6 7) (hD : FxDO F none) (hq19 : ∀ (l0 : Nat) (l2 : Int32) (l3 : Int32) (l4 : Int32) (μ : Mem) (_ : isK μ l0 12 = true), Sim F encV 19 [(0, .ref l0), (2, .int l2), (3, .int l3), (4, .int l4)] [] μ (q19 l0 l2 l3 l4 μ)) (l0 : Nat) (l2 : Int32) (l3 : Int32) (l4 : Int32) (μ : Mem) (f0 : isK μ l0 12 = true) : Sim F encV 102 [(0, .ref l0), (2, .int l2), (3, .int l3), (4, .int l4)] [] μ (mX12_seasonBy_102 q19 l0 l2 l3 l4 μ) := by
  unfold mX12_seasonBy_102
  refine s_aload_n hF dX12_seasonBy_102 rfl 0 rfl ?_
  refine s_aload_n hF dX12_seasonBy_103 rfl 0 rfl ?_
  refine sim_gd (fun g43 => ?_)
  refine s_getR (x := (g_R μ l0 30)) hF dX12_seasonBy_104 flX12_70 f0 g43 rfl ?_
  refine s_cVv (st := []) (ci := 12) [.ref (g_R μ l0 30)] hF hD.dr dX12_seasonBy_107 cwX12_331 (Nat.le_of_ble_eq_true rfl) (Nat.le_of_ble_eq_true rfl) rfl rfl (Nat.le_of_ble_eq_true rfl) f0 rfl rfl (Nat.le_of_ble_eq_true rfl) (ctX12_dayEnds l0 (g_R μ l0 30) _) (fun r44 m45 hl46 hm47 => ?_)
  refine s_iinc (v := (l4 + (1 : Int32))) (pls' := [(4, .int (l4 + (1 : Int32))), (0, .ref l0), (2, .int l2), (3, .int l3)]) hF dX12_seasonBy_110 3 rfl rfl (by decide) rfl ?_
  refine s_goto (tgt := 19) hF dX12_seasonBy_113 rfl ?_
  refine s_sub [1, 2, 3, 0] rfl ?_
  exact hq19 l0 l2 l3 (l4 + (1 : Int32)) _ (isK.mo f0 hm47)
theorem sX12_seasonBy_64 {F : Option Fx} (q19 : Nat → Int32 → Int32 → Int32 → Mem → Option (Unit × Mem)) (hF : FxO F RX12 cX12_seasonBy 6 7) (hD : FxDO F none) (hq19 : ∀ (l0 : Nat) (l2 : Int32) (l3 : Int32) (l4 : Int32) (μ : Mem) (_ : isK μ l0 12 = true), Sim F encV 19 [(0, .ref l0), (2, .int l2), (3, .int l3), (4, .int l4)] [] μ (q19 l0 l2 l3 l4 μ)) (l0 : Nat) (l2 : Int32) (l3 : Int32) (l4 : Int32) (μ : Mem) (f0 : isK μ l0 12 = true) : Sim F encV 64 [(0, .ref l0), (2, .int l2), (3, .int l3), (4, .int l4)] [] μ (mX12_seasonBy_64 q19 l0 l2 l3 l4 μ) := by
  unfold mX12_seasonBy_64
  refine s_aload_n hF dX12_seasonBy_64 rfl 0 rfl ?_
  refine sim_gd (fun g24 => ?_)
  refine s_getR (x := (g_R μ l0 12)) hF dX12_seasonBy_65 flX12_23 f0 g24 rfl ?_
  refine s_iconst (v := (1 : Int32)) hF dX12_seasonBy_68 kI_1 ?_
  refine sim_gd (fun g25 => ?_)
  refine s_iaload (x := (g_I μ (g_R μ l0 12) (1 : Int32).toNatClampNeg)) hF dX12_seasonBy_69 g25 rfl ?_
  refine s_if_le (tgt := 102) hF dX12_seasonBy_70 rfl (fun c26 => ?_) (fun c26 => ?_)
  · exact sX12_seasonBy_102 q19 hF hD hq19 l0 l2 l3 l4 _ f0
  · refine s_aload_n hF dX12_seasonBy_73 rfl 0 rfl ?_
    refine s_bipush (v := (16 : Int32)) hF dX12_seasonBy_74 kB_16 ?_
    refine s_cVi (st := []) (ci := 12) [.int (16 : Int32)] hF hD.dr dX12_seasonBy_76 cwX12_417 (Nat.le_of_ble_eq_true rfl) (Nat.le_of_ble_eq_true rfl) rfl rfl (Nat.le_of_ble_eq_true rfl) f0 rfl rfl (Nat.le_of_ble_eq_true rfl) (ctX12_draw l0 (16 : Int32) _) (fun r27 m28 hl29 hm30 => ?_)
    refine s_iload_n hF dX12_seasonBy_79 rfl 2 rfl ?_
    refine s_icmp_ge (tgt := 102) hF dX12_seasonBy_80 rfl (fun c31 => ?_) (fun c31 => ?_)
    · exact sX12_seasonBy_102 q19 hF hD hq19 l0 l2 l3 l4 _ (isK.mo f0 hm30)
    · refine s_aload_n hF dX12_seasonBy_83 rfl 0 rfl ?_
      refine s_aload_n hF dX12_seasonBy_84 rfl 0 rfl ?_
      refine sim_gd (fun g32 => ?_)
      refine s_getR (x := (g_R m28 l0 30)) hF dX12_seasonBy_85 flX12_70 (isK.mo f0 hm30) g32 rfl ?_
      refine s_aload_n hF dX12_seasonBy_88 rfl 0 rfl ?_
      refine s_aload_n hF dX12_seasonBy_89 rfl 0 rfl ?_
      refine sim_gd (fun g33 => ?_)
      refine s_getR (x := (g_R m28 l0 12)) hF dX12_seasonBy_90 flX12_23 (isK.mo f0 hm30) g33 rfl ?_
      refine s_iconst (v := (1 : Int32)) hF dX12_seasonBy_93 kI_1 ?_
      refine sim_gd (fun g34 => ?_)
      refine s_iaload (x := (g_I m28 (g_R m28 l0 12) (1 : Int32).toNatClampNeg)) hF dX12_seasonBy_94 g34 rfl ?_
      refine s_cVi (st := [.ref (g_R m28 l0 30), .ref l0]) (ci := 12) [.int (g_I m28 (g_R m28 l0 12) (1 : Int32).toNatClampNeg)] hF hD.dr dX12_seasonBy_95 cwX12_417 (Nat.le_of_ble_eq_true rfl) (Nat.le_of_ble_eq_true rfl) rfl rfl (Nat.le_of_ble_eq_true rfl) (isK.mo f0 hm30) rfl rfl (Nat.le_of_ble_eq_true rfl) (ctX12_draw l0 (g_I m28 (g_R m28 l0 12) (1 : Int32).toNatClampNeg) _) (fun r35 m36 hl37 hm38 => ?_)
      refine s_cVi (st := []) (ci := 12) [.ref (g_R m28 l0 30), .int r35] hF hD.dr dX12_seasonBy_98 cwX12_321 (Nat.le_of_ble_eq_true rfl) (Nat.le_of_ble_eq_true rfl) rfl rfl (Nat.le_of_ble_eq_true rfl) (isK.mo (isK.mo f0 hm30) hm38) rfl rfl (Nat.le_of_ble_eq_true rfl) (ctX12_hears l0 (g_R m28 l0 30) r35 _) (fun r39 m40 hl41 hm42 => ?_)
      refine s_pop hF dX12_seasonBy_101 rfl ?_
      exact sX12_seasonBy_102 q19 hF hD hq19 l0 l2 l3 l4 _ (isK.mo (isK.mo (isK.mo f0 hm30) hm38) hm42)
theorem sX12_seasonBy_19 {F : Option Fx} (hF : FxO F RX12 cX12_seasonBy 6 7) (hD : FxDO F none) : ∀ (fu : Nat) (l0 : Nat) (l2 : Int32) (l3 : Int32) (l4 : Int32) (μ : Mem) (f0 : isK μ l0 12 = true), Sim F encV 19 [(0, .ref l0), (2, .int l2), (3, .int l3), (4, .int l4)] [] μ (mX12_seasonBy_19 fu l0 l2 l3 l4 μ) := by
  intro fu
  induction fu with
  | zero =>
    intro l0 l2 l3 l4 μ f0
    exact sim_none
  | succ fu ih =>
    intro l0 l2 l3 l4 μ f0
    rw [mX12_seasonBy_19]
    refine s_iload hF dX12_seasonBy_19 3 rfl ?_
    refine s_iload_n hF dX12_seasonBy_21 rfl 1 rfl ?_
    refine s_icmp_ge (tgt := 116) hF dX12_seasonBy_22 rfl (fun c7 => ?_) (fun c7 => ?_)
    · exact s_vretD hF hD dX12_seasonBy_116 rfl
    · refine s_aload_n hF dX12_seasonBy_25 rfl 0 rfl ?_
      refine sim_gd (fun g8 => ?_)
      refine s_getR (x := (g_R μ l0 12)) hF dX12_seasonBy_26 flX12_23 f0 g8 rfl ?_
      refine s_iconst (v := (0 : Int32)) hF dX12_seasonBy_29 kI_0 ?_
      refine sim_gd (fun g9 => ?_)
      refine s_iaload (x := (g_I μ (g_R μ l0 12) (0 : Int32).toNatClampNeg)) hF dX12_seasonBy_30 g9 rfl ?_
      refine s_if_le (tgt := 64) hF dX12_seasonBy_31 rfl (fun c10 => ?_) (fun c10 => ?_)
      · exact sX12_seasonBy_64 (fun l0 l2 l3 l4 μ => mX12_seasonBy_19 fu l0 l2 l3 l4 μ) hF hD ih l0 l2 l3 l4 _ f0
      · refine s_aload_n hF dX12_seasonBy_34 rfl 0 rfl ?_
        refine s_aload_n hF dX12_seasonBy_35 rfl 0 rfl ?_
        refine s_getR (x := (g_R μ l0 12)) hF dX12_seasonBy_36 flX12_23 f0 g8 rfl ?_
        refine s_iconst (v := (0 : Int32)) hF dX12_seasonBy_39 kI_0 ?_
        refine s_iaload (x := (g_I μ (g_R μ l0 12) (0 : Int32).toNatClampNeg)) hF dX12_seasonBy_40 g9 rfl ?_
        refine s_cVi (st := []) (ci := 12) [.int (g_I μ (g_R μ l0 12) (0 : Int32).toNatClampNeg)] hF hD.dr dX12_seasonBy_41 cwX12_417 (Nat.le_of_ble_eq_true rfl) (Nat.le_of_ble_eq_true rfl) rfl rfl (Nat.le_of_ble_eq_true rfl) f0 rfl rfl (Nat.le_of_ble_eq_true rfl) (ctX12_draw l0 (g_I μ (g_R μ l0 12) (0 : Int32).toNatClampNeg) _) (fun r11 m12 hl13 hm14 => ?_)
        refine s_istore (pls' := [(5, .int r11), (0, .ref l0), (2, .int l2), (3, .int l3), (4, .int l4)]) hF dX12_seasonBy_44 (by decide) rfl ?_
        refine s_aload_n hF dX12_seasonBy_46 rfl 1 rfl ?_
        refine s_aload_n hF dX12_seasonBy_47 rfl 1 rfl ?_
        refine sim_gd (fun g15 => ?_)
        refine s_getR (x := (g_R m12 l0 30)) hF dX12_seasonBy_48 flX12_70 (isK.mo f0 hm14) g15 rfl ?_
        refine s_iload hF dX12_seasonBy_51 0 rfl ?_
        refine s_aload_n hF dX12_seasonBy_53 rfl 1 rfl ?_
        refine s_sipush (v := (10000 : Int32)) hF dX12_seasonBy_54 kS_10000 ?_
        refine s_cVi (st := [.int r11, .ref (g_R m12 l0 30), .ref l0]) (ci := 12) [.int (10000 : Int32)] hF hD.dr dX12_seasonBy_57 cwX12_417 (Nat.le_of_ble_eq_true rfl) (Nat.le_of_ble_eq_true rfl) rfl rfl (Nat.le_of_ble_eq_true rfl) (isK.mo f0 hm14) rfl rfl (Nat.le_of_ble_eq_true rfl) (ctX12_draw l0 (10000 : Int32) _) (fun r16 m17 hl18 hm19 => ?_)
        refine s_cVi (st := []) (ci := 12) [.ref (g_R m12 l0 30), .int r11, .int r16] hF hD.dr dX12_seasonBy_60 cwX12_313 (Nat.le_of_ble_eq_true rfl) (Nat.le_of_ble_eq_true rfl) rfl rfl (Nat.le_of_ble_eq_true rfl) (isK.mo (isK.mo f0 hm14) hm19) rfl rfl (Nat.le_of_ble_eq_true rfl) (ctX12_reads l0 (g_R m12 l0 30) r11 r16 _) (fun r20 m21 hl22 hm23 => ?_)
        refine s_pop hF dX12_seasonBy_63 rfl ?_
        refine s_sub [1, 2, 3, 4] rfl ?_
        exact sX12_seasonBy_64 (fun l0 l2 l3 l4 μ => mX12_seasonBy_19 fu l0 l2 l3 l4 μ) hF hD ih l0 l2 l3 l4 _ (isK.mo (isK.mo (isK.mo f0 hm14) hm19) hm23)
theorem ctX12_seasonBy  (l0 : Nat) (l1 : Int32) (l2 : Int32) (l3 : Int32) (μ : Mem) : ∀ (r : Unit) (μ' : Mem), LX12_seasonBy l0 l1 l2 l3 μ = some (r, μ') → CtD yX12_seasonBy cX12_seasonBy 6 none 7 [.ref l0, .int l1, .int l2, .int l3] μ (encV r) μ' := by
  refine ct_enterD plX12 (Nat.le_of_ble_eq_true rfl) (fun F hF hD hI => ?_)
  unfold LX12_seasonBy
  refine sim_gd (fun f0 => ?_)
  refine s_aload_n hF dX12_seasonBy_0 rfl 0 rfl ?_
  refine sim_gd (fun g1 => ?_)
  refine s_getR (x := (g_R μ l0 29)) hF dX12_seasonBy_1 flX12_67 f0 g1 rfl ?_
  refine s_aload_n hF dX12_seasonBy_4 rfl 0 rfl ?_
  refine sim_gd (fun g2 => ?_)
  refine s_getR (x := (g_R μ l0 30)) hF dX12_seasonBy_5 flX12_70 f0 g2 rfl ?_
  refine s_cSv (st := []) [.ref (g_R μ l0 29), .ref (g_R μ l0 30)] hF hD.dr dX12_seasonBy_8 cwX12_347 (Nat.le_of_ble_eq_true rfl) (Nat.le_of_ble_eq_true rfl) rfl rfl (Nat.le_of_ble_eq_true rfl) (ctX12_copies (g_R μ l0 29) (g_R μ l0 30) _) (fun r3 m4 hl5 hm6 => ?_)
  refine s_aload_n hF dX12_seasonBy_11 rfl 0 rfl ?_
  refine s_iload_n hF dX12_seasonBy_12 rfl 1 rfl ?_
  refine s_putI hF dX12_seasonBy_13 flX12_413 (isK.mo f0 hm6) ?_
  refine s_iconst (v := (0 : Int32)) hF dX12_seasonBy_16 kI_0 ?_
  refine s_istore (pls' := [(4, .int (0 : Int32)), (0, .ref l0), (1, .int l1), (2, .int l2), (3, .int l3)]) hF dX12_seasonBy_17 (by decide) rfl ?_
  refine s_sub [1, 3, 4, 0] rfl ?_
  exact sX12_seasonBy_19 hF hD 100000 l0 l2 l3 (0 : Int32) _ (isK.mo f0 hm6)
theorem ctX12_isSeason  (l0 : Int32) (l1 : Int32) (μ : Mem) : ∀ (r : Int32) (μ' : Mem), LX12_isSeason l0 l1 μ = some (r, μ') → CtD yX12_isSeason cX12_isSeason 2 (some .boolean) 1 [.int l0, .int l1] μ (encI r) μ' := by
  refine ct_enterD plX12 (Nat.le_of_ble_eq_true rfl) (fun F hF hD hI => ?_)
  unfold LX12_isSeason
  refine s_iload_n hF dX12_isSeason_0 rfl 0 rfl ?_
  refine s_iconst (v := (1 : Int32)) hF dX12_isSeason_1 kI_1 ?_
  refine s_bipush (v := (96 : Int32)) hF dX12_isSeason_2 kB_96 ?_
  refine s_cSi (st := []) [.int l0, .int (1 : Int32), .int (96 : Int32)] hF hD.dr dX12_isSeason_4 cwX12_128 (Nat.le_of_ble_eq_true rfl) (Nat.le_of_ble_eq_true rfl) rfl rfl (Nat.le_of_ble_eq_true rfl) (ctX12_in l0 (1 : Int32) (96 : Int32) _) (fun r1 m2 hl3 hm4 => ?_)
  refine s_if_eq (tgt := 24) hF dX12_isSeason_7 rfl (fun c5 => ?_) (fun c5 => ?_)
  · refine s_iconst (v := (0 : Int32)) hF dX12_isSeason_24 kI_0 ?_
    exact s_zretD hF hD dX12_isSeason_25 rfl rfl
  · refine s_iload_n hF dX12_isSeason_10 rfl 1 rfl ?_
    refine s_iconst (v := (0 : Int32)) hF dX12_isSeason_11 kI_0 ?_
    refine s_bipush (v := (16 : Int32)) hF dX12_isSeason_12 kB_16 ?_
    refine s_cSi (st := []) [.int l1, .int (0 : Int32), .int (16 : Int32)] hF hD.dr dX12_isSeason_14 cwX12_128 (Nat.le_of_ble_eq_true rfl) (Nat.le_of_ble_eq_true rfl) rfl rfl (Nat.le_of_ble_eq_true rfl) (ctX12_in l1 (0 : Int32) (16 : Int32) _) (fun r6 m7 hl8 hm9 => ?_)
    refine s_if_eq (tgt := 24) hF dX12_isSeason_17 rfl (fun c10 => ?_) (fun c10 => ?_)
    · refine s_iconst (v := (0 : Int32)) hF dX12_isSeason_24 kI_0 ?_
      exact s_zretD hF hD dX12_isSeason_25 rfl rfl
    · refine s_iconst (v := (1 : Int32)) hF dX12_isSeason_20 kI_1 ?_
      refine s_goto (tgt := 25) hF dX12_isSeason_21 rfl ?_
      exact s_zretD hF hD dX12_isSeason_25 rfl rfl
theorem sX12_season_29 {F : Option Fx} (hF : FxO F RX12 cX12_season 5 8) (hD : FxDO F (some .int)) (l0 : Nat) (l1 : Int32) (l2 : Int32) (l3 : Int32) (l4 : Int32) (k0 : Int32) (k1 : Nat) (μ : Mem) (f0 : isK μ l0 12 = true) : Sim F encI 29 [(0, .ref l0), (1, .int l1), (2, .int l2), (3, .int l3), (4, .int l4)] [.int k0, .ref k1] μ (mX12_season_29 l0 l1 l2 l3 l4 k0 k1 μ) := by
  unfold mX12_season_29
  refine s_iconst (v := (1 : Int32)) hF dX12_season_29 kI_1 ?_
  refine s_iconst (v := (1 : Int32)) hF dX12_season_30 kI_1 ?_
  refine sim_gd (fun g15 => ?_)
  refine s_cVi (st := []) (ci := 12) [.int k0, .int (1 : Int32), .int (1 : Int32)] hF hD.dr dX12_season_31 cwX12_167 (Nat.le_of_ble_eq_true rfl) (Nat.le_of_ble_eq_true rfl) rfl rfl (Nat.le_of_ble_eq_true rfl) g15 rfl rfl (Nat.le_of_ble_eq_true rfl) (ctX12_bad k1 k0 (1 : Int32) (1 : Int32) _) (fun r11 m12 hl13 hm14 => ?_)
  refine s_if_eq (tgt := 39) hF dX12_season_34 rfl (fun c16 => ?_) (fun c16 => ?_)
  · refine s_aload_n hF dX12_season_39 rfl 0 rfl ?_
    refine s_iload_n hF dX12_season_40 rfl 1 rfl ?_
    refine s_iload_n hF dX12_season_41 rfl 2 rfl ?_
    refine s_iload_n hF dX12_season_42 rfl 3 rfl ?_
    refine s_cVv (st := []) (ci := 12) [.int l1, .int l2, .int l3] hF hD.dr dX12_season_43 cwX12_423 (Nat.le_of_ble_eq_true rfl) (Nat.le_of_ble_eq_true rfl) rfl rfl (Nat.le_of_ble_eq_true rfl) (isK.mo f0 hm14) rfl rfl (Nat.le_of_ble_eq_true rfl) (ctX12_seasonBy l0 l1 l2 l3 _) (fun r17 m18 hl19 hm20 => ?_)
    refine s_iload hF dX12_season_46 4 rfl ?_
    refine s_if_ne (tgt := 69) hF dX12_season_48 rfl (fun c21 => ?_) (fun c21 => ?_)
    · refine s_aload_n hF dX12_season_51 rfl 0 rfl ?_
      refine sim_gd (fun g22 => ?_)
      refine s_getR (x := (g_R m18 l0 30)) hF dX12_season_52 flX12_70 (isK.mo (isK.mo f0 hm14) hm20) g22 rfl ?_
      refine s_bipush (v := (34 : Int32)) hF dX12_season_55 kB_34 ?_
      refine sim_gd (fun g23 => ?_)
      refine s_iaload (x := (g_I m18 (g_R m18 l0 30) (34 : Int32).toNatClampNeg)) hF dX12_season_57 g23 rfl ?_
      refine s_aload_n hF dX12_season_58 rfl 0 rfl ?_
      refine sim_gd (fun g24 => ?_)
      refine s_getR (x := (g_R m18 l0 29)) hF dX12_season_59 flX12_67 (isK.mo (isK.mo f0 hm14) hm20) g24 rfl ?_
      refine s_bipush (v := (34 : Int32)) hF dX12_season_62 kB_34 ?_
      refine sim_gd (fun g25 => ?_)
      refine s_iaload (x := (g_I m18 (g_R m18 l0 29) (34 : Int32).toNatClampNeg)) hF dX12_season_64 g25 rfl ?_
      refine s_isub hF dX12_season_65 ?_
      refine s_goto (tgt := 101) hF dX12_season_66 rfl ?_
      exact s_iretD hF hD dX12_season_101 rfl
    · refine s_iload hF dX12_season_69 4 rfl ?_
      refine s_iconst (v := (1 : Int32)) hF dX12_season_71 kI_1 ?_
      refine s_icmp_ne (tgt := 93) hF dX12_season_72 rfl (fun c26 => ?_) (fun c26 => ?_)
      · refine s_aload_n hF dX12_season_75 rfl 0 rfl ?_
        refine sim_gd (fun g27 => ?_)
        refine s_getR (x := (g_R m18 l0 30)) hF dX12_season_76 flX12_70 (isK.mo (isK.mo f0 hm14) hm20) g27 rfl ?_
        refine s_bipush (v := (33 : Int32)) hF dX12_season_79 kB_33 ?_
        refine sim_gd (fun g28 => ?_)
        refine s_iaload (x := (g_I m18 (g_R m18 l0 30) (33 : Int32).toNatClampNeg)) hF dX12_season_81 g28 rfl ?_
        refine s_aload_n hF dX12_season_82 rfl 0 rfl ?_
        refine sim_gd (fun g29 => ?_)
        refine s_getR (x := (g_R m18 l0 29)) hF dX12_season_83 flX12_67 (isK.mo (isK.mo f0 hm14) hm20) g29 rfl ?_
        refine s_bipush (v := (33 : Int32)) hF dX12_season_86 kB_33 ?_
        refine sim_gd (fun g30 => ?_)
        refine s_iaload (x := (g_I m18 (g_R m18 l0 29) (33 : Int32).toNatClampNeg)) hF dX12_season_88 g30 rfl ?_
        refine s_isub hF dX12_season_89 ?_
        refine s_goto (tgt := 101) hF dX12_season_90 rfl ?_
        exact s_iretD hF hD dX12_season_101 rfl
      · refine s_aload_n hF dX12_season_93 rfl 0 rfl ?_
        refine s_aload_n hF dX12_season_94 rfl 0 rfl ?_
        refine sim_gd (fun g31 => ?_)
        refine s_getR (x := (g_R m18 l0 30)) hF dX12_season_95 flX12_70 (isK.mo (isK.mo f0 hm14) hm20) g31 rfl ?_
        refine s_cVi (st := []) (ci := 12) [.ref (g_R m18 l0 30)] hF hD.dr dX12_season_98 cwX12_351 (Nat.le_of_ble_eq_true rfl) (Nat.le_of_ble_eq_true rfl) rfl rfl (Nat.le_of_ble_eq_true rfl) (isK.mo (isK.mo f0 hm14) hm20) rfl rfl (Nat.le_of_ble_eq_true rfl) (ctX12_records l0 (g_R m18 l0 30) _) (fun r32 m33 hl34 hm35 => ?_)
        exact s_iretD hF hD dX12_season_101 rfl
  · refine s_iconst (v := (0 : Int32)) hF dX12_season_37 kI_0 ?_
    exact s_iretD hF hD dX12_season_38 rfl
theorem ctX12_season  (l0 : Nat) (l1 : Int32) (l2 : Int32) (l3 : Int32) (l4 : Int32) (μ : Mem) : ∀ (r : Int32) (μ' : Mem), LX12_season l0 l1 l2 l3 l4 μ = some (r, μ') → CtD yX12_season cX12_season 5 (some .int) 8 [.ref l0, .int l1, .int l2, .int l3, .int l4] μ (encI r) μ' := by
  refine ct_enterD plX12 (Nat.le_of_ble_eq_true rfl) (fun F hF hD hI => ?_)
  unfold LX12_season
  refine sim_gd (fun f0 => ?_)
  refine s_aload_n hF dX12_season_0 rfl 0 rfl ?_
  refine s_iconst (v := (0 : Int32)) hF dX12_season_1 kI_0 ?_
  refine s_putI hF dX12_season_2 flX12_94 f0 ?_
  refine s_aload_n hF dX12_season_5 rfl 0 rfl ?_
  refine s_iload_n hF dX12_season_6 rfl 2 rfl ?_
  refine s_iload_n hF dX12_season_7 rfl 3 rfl ?_
  refine s_cSi (st := [.ref l0]) [.int l2, .int l3] hF hD.dr dX12_season_8 cwX12_420 (Nat.le_of_ble_eq_true rfl) (Nat.le_of_ble_eq_true rfl) rfl rfl (Nat.le_of_ble_eq_true rfl) (ctX12_isSeason l2 l3 _) (fun r1 m2 hl3 hm4 => ?_)
  refine s_if_eq (tgt := 24) hF dX12_season_11 rfl (fun c5 => ?_) (fun c5 => ?_)
  · refine s_iconst (v := (1 : Int32)) hF dX12_season_24 kI_1 ?_
    refine s_goto (tgt := 29) hF dX12_season_25 rfl ?_
    exact sX12_season_29 hF hD l0 l1 l2 l3 l4 (1 : Int32) l0 _ (isK.mo f0 hm4)
  · refine s_iload hF dX12_season_14 4 rfl ?_
    refine s_iconst (v := (0 : Int32)) hF dX12_season_16 kI_0 ?_
    refine s_iconst (v := (2 : Int32)) hF dX12_season_17 kI_2 ?_
    refine s_cSi (st := [.ref l0]) [.int l4, .int (0 : Int32), .int (2 : Int32)] hF hD.dr dX12_season_18 cwX12_128 (Nat.le_of_ble_eq_true rfl) (Nat.le_of_ble_eq_true rfl) rfl rfl (Nat.le_of_ble_eq_true rfl) (ctX12_in l4 (0 : Int32) (2 : Int32) _) (fun r6 m7 hl8 hm9 => ?_)
    refine s_if_ne (tgt := 28) hF dX12_season_21 rfl (fun c10 => ?_) (fun c10 => ?_)
    · refine s_iconst (v := (1 : Int32)) hF dX12_season_24 kI_1 ?_
      refine s_goto (tgt := 29) hF dX12_season_25 rfl ?_
      exact sX12_season_29 hF hD l0 l1 l2 l3 l4 (1 : Int32) l0 _ (isK.mo (isK.mo f0 hm4) hm9)
    · refine s_iconst (v := (0 : Int32)) hF dX12_season_28 kI_0 ?_
      exact sX12_season_29 hF hD l0 l1 l2 l3 l4 (0 : Int32) l0 _ (isK.mo (isK.mo f0 hm4) hm9)
theorem sX12_span_123 {F : Option Fx} (q71 : Nat → Int32 → Int32 → Int32 → Int32 → Int32 → Int32 → Int32 → Int32 → Int32 → Int32 → Mem → Option (Int32 × Mem)) (hF : FxO F RX12 cX12_span 12 8) (hD : FxDO F (some .int)) (hq71 : ∀ (l0 : Nat) (l1 : Int32) (l2 : Int32) (l3 : Int32) (l4 : Int32) (l5 : Int32) (l6 : Int32) (l7 : Int32) (l8 : Int32) (l9 : Int32) (l10 : Int32) (μ : Mem) (_ : isK μ l0 12 = true), Sim F encI 71 [(0, .ref l0), (1, .int l1), (2, .int l2), (3, .int l3), (4, .int l4), (5, .int l5), (6, .int l6), (7, .int l7), (8, .int l8), (9, .int l9), (10, .int l10)] [] μ (q71 l0 l1 l2 l3 l4 l5 l6 l7 l8 l9 l10 μ)) (l0 : Nat) (l1 : Int32) (l2 : Int32) (l3 : Int32) (l4 : Int32) (l5 : Int32) (l6 : Int32) (l8 : Int32) (l9 : Int32) (l10 : Int32) (l11 : Int32) (k0 : Int32) (μ : Mem) (f0 : isK μ l0 12 = true) : Sim F encI 123 [(0, .ref l0), (1, .int l1), (2, .int l2), (3, .int l3), (4, .int l4), (5, .int l5), (6, .int l6), (8, .int l8), (9, .int l9), (10, .int l10), (11, .int l11)] [.int k0] μ (mX12_span_123 q71 l0 l1 l2 l3 l4 l5 l6 l8 l9 l10 l11 k0 μ) := by
  unfold mX12_span_123
  refine s_istore (pls' := [(7, .int k0), (0, .ref l0), (1, .int l1), (2, .int l2), (3, .int l3), (4, .int l4), (5, .int l5), (6, .int l6), (8, .int l8), (9, .int l9), (10, .int l10), (11, .int l11)]) hF dX12_span_123 (by decide) rfl ?_
  refine s_iload hF dX12_span_125 8 rfl ?_
  refine s_iload hF dX12_span_127 11 rfl ?_
  refine s_cSi (st := []) [.int l8, .int l11] hF hD.dr dX12_span_129 cwX12_237 (Nat.le_of_ble_eq_true rfl) (Nat.le_of_ble_eq_true rfl) rfl rfl (Nat.le_of_ble_eq_true rfl) (ctX12_more l8 l11 _) (fun r43 m44 hl45 hm46 => ?_)
  refine s_istore (pls' := [(8, .int r43), (7, .int k0), (0, .ref l0), (1, .int l1), (2, .int l2), (3, .int l3), (4, .int l4), (5, .int l5), (6, .int l6), (9, .int l9), (10, .int l10), (11, .int l11)]) hF dX12_span_132 (by decide) rfl ?_
  refine s_iload hF dX12_span_134 9 rfl ?_
  refine s_aload_n hF dX12_span_136 rfl 2 rfl ?_
  refine sim_gd (fun g47 => ?_)
  refine s_getR (x := (g_R m44 l0 30)) hF dX12_span_137 flX12_70 (isK.mo f0 hm46) g47 rfl ?_
  refine s_bipush (v := (24 : Int32)) hF dX12_span_140 kB_24 ?_
  refine s_iload hF dX12_span_142 8 rfl ?_
  refine s_iadd hF dX12_span_144 ?_
  refine sim_gd (fun g48 => ?_)
  refine s_iaload (x := (g_I m44 (g_R m44 l0 30) ((24 : Int32) + l6).toNatClampNeg)) hF dX12_span_145 g48 rfl ?_
  refine s_if_le (tgt := 153) hF dX12_span_146 rfl (fun c49 => ?_) (fun c49 => ?_)
  · refine s_iconst (v := (0 : Int32)) hF dX12_span_153 kI_0 ?_
    refine s_iadd hF dX12_span_154 ?_
    refine s_istore (pls' := [(9, .int (l9 + (0 : Int32))), (8, .int r43), (7, .int k0), (0, .ref l0), (1, .int l1), (2, .int l2), (3, .int l3), (4, .int l4), (5, .int l5), (6, .int l6), (10, .int l10), (11, .int l11)]) hF dX12_span_155 (by decide) rfl ?_
    refine s_iinc (v := (l10 + (1 : Int32))) (pls' := [(10, .int (l10 + (1 : Int32))), (9, .int (l9 + (0 : Int32))), (8, .int r43), (7, .int k0), (0, .ref l0), (1, .int l1), (2, .int l2), (3, .int l3), (4, .int l4), (5, .int l5), (6, .int l6), (11, .int l11)]) hF dX12_span_157 10 rfl rfl (by decide) rfl ?_
    refine s_goto (tgt := 71) hF dX12_span_160 rfl ?_
    refine s_sub [4, 5, 6, 7, 8, 9, 10, 3, 2, 1, 0] rfl ?_
    exact hq71 l0 l1 l2 l3 l4 l5 l6 k0 r43 (l9 + (0 : Int32)) (l10 + (1 : Int32)) _ (isK.mo f0 hm46)
  · refine s_iconst (v := (1 : Int32)) hF dX12_span_149 kI_1 ?_
    refine s_goto (tgt := 154) hF dX12_span_150 rfl ?_
    refine s_iadd hF dX12_span_154 ?_
    refine s_istore (pls' := [(9, .int (l9 + (1 : Int32))), (8, .int r43), (7, .int k0), (0, .ref l0), (1, .int l1), (2, .int l2), (3, .int l3), (4, .int l4), (5, .int l5), (6, .int l6), (10, .int l10), (11, .int l11)]) hF dX12_span_155 (by decide) rfl ?_
    refine s_iinc (v := (l10 + (1 : Int32))) (pls' := [(10, .int (l10 + (1 : Int32))), (9, .int (l9 + (1 : Int32))), (8, .int r43), (7, .int k0), (0, .ref l0), (1, .int l1), (2, .int l2), (3, .int l3), (4, .int l4), (5, .int l5), (6, .int l6), (11, .int l11)]) hF dX12_span_157 10 rfl rfl (by decide) rfl ?_
    refine s_goto (tgt := 71) hF dX12_span_160 rfl ?_
    refine s_sub [4, 5, 6, 7, 8, 9, 10, 3, 2, 1, 0] rfl ?_
    exact hq71 l0 l1 l2 l3 l4 l5 l6 k0 r43 (l9 + (1 : Int32)) (l10 + (1 : Int32)) _ (isK.mo f0 hm46)
theorem sX12_span_71 {F : Option Fx} (hF : FxO F RX12 cX12_span 12 8) (hD : FxDO F (some .int)) : ∀ (fu : Nat) (l0 : Nat) (l1 : Int32) (l2 : Int32) (l3 : Int32) (l4 : Int32) (l5 : Int32) (l6 : Int32) (l7 : Int32) (l8 : Int32) (l9 : Int32) (l10 : Int32) (μ : Mem) (f0 : isK μ l0 12 = true), Sim F encI 71 [(0, .ref l0), (1, .int l1), (2, .int l2), (3, .int l3), (4, .int l4), (5, .int l5), (6, .int l6), (7, .int l7), (8, .int l8), (9, .int l9), (10, .int l10)] [] μ (mX12_span_71 fu l0 l1 l2 l3 l4 l5 l6 l7 l8 l9 l10 μ) := by
  intro fu
  induction fu with
  | zero =>
    intro l0 l1 l2 l3 l4 l5 l6 l7 l8 l9 l10 μ f0
    exact sim_none
  | succ fu ih =>
    intro l0 l1 l2 l3 l4 l5 l6 l7 l8 l9 l10 μ f0
    rw [mX12_span_71]
    refine s_iload hF dX12_span_71 10 rfl ?_
    refine s_iload_n hF dX12_span_73 rfl 2 rfl ?_
    refine s_icmp_ge (tgt := 163) hF dX12_span_74 rfl (fun c27 => ?_) (fun c27 => ?_)
    · refine s_iload hF dX12_span_163 5 rfl ?_
      refine s_if_ne (tgt := 173) hF dX12_span_165 rfl (fun c28 => ?_) (fun c28 => ?_)
      · refine s_iload hF dX12_span_168 7 rfl ?_
        refine s_goto (tgt := 186) hF dX12_span_170 rfl ?_
        exact s_iretD hF hD dX12_span_186 rfl
      · refine s_iload hF dX12_span_173 5 rfl ?_
        refine s_iconst (v := (1 : Int32)) hF dX12_span_175 kI_1 ?_
        refine s_icmp_ne (tgt := 184) hF dX12_span_176 rfl (fun c29 => ?_) (fun c29 => ?_)
        · refine s_iload hF dX12_span_179 8 rfl ?_
          refine s_goto (tgt := 186) hF dX12_span_181 rfl ?_
          exact s_iretD hF hD dX12_span_186 rfl
        · refine s_iload hF dX12_span_184 9 rfl ?_
          exact s_iretD hF hD dX12_span_186 rfl
    · refine s_aload_n hF dX12_span_77 rfl 0 rfl ?_
      refine s_iload_n hF dX12_span_78 rfl 1 rfl ?_
      refine s_iload hF dX12_span_79 10 rfl ?_
      refine s_iadd hF dX12_span_81 ?_
      refine s_iload_n hF dX12_span_82 rfl 3 rfl ?_
      refine s_iload hF dX12_span_83 4 rfl ?_
      refine s_cVv (st := []) (ci := 12) [.int (l1 + l10), .int l3, .int l4] hF hD.dr dX12_span_85 cwX12_423 (Nat.le_of_ble_eq_true rfl) (Nat.le_of_ble_eq_true rfl) rfl rfl (Nat.le_of_ble_eq_true rfl) f0 rfl rfl (Nat.le_of_ble_eq_true rfl) (ctX12_seasonBy l0 (l1 + l10) l3 l4 _) (fun r30 m31 hl32 hm33 => ?_)
      refine s_aload_n hF dX12_span_88 rfl 0 rfl ?_
      refine sim_gd (fun g34 => ?_)
      refine s_getR (x := (g_R m31 l0 30)) hF dX12_span_89 flX12_70 (isK.mo f0 hm33) g34 rfl ?_
      refine s_bipush (v := (33 : Int32)) hF dX12_span_92 kB_33 ?_
      refine sim_gd (fun g35 => ?_)
      refine s_iaload (x := (g_I m31 (g_R m31 l0 30) (33 : Int32).toNatClampNeg)) hF dX12_span_94 g35 rfl ?_
      refine s_aload_n hF dX12_span_95 rfl 0 rfl ?_
      refine sim_gd (fun g36 => ?_)
      refine s_getR (x := (g_R m31 l0 29)) hF dX12_span_96 flX12_67 (isK.mo f0 hm33) g36 rfl ?_
      refine s_bipush (v := (33 : Int32)) hF dX12_span_99 kB_33 ?_
      refine sim_gd (fun g37 => ?_)
      refine s_iaload (x := (g_I m31 (g_R m31 l0 29) (33 : Int32).toNatClampNeg)) hF dX12_span_101 g37 rfl ?_
      refine s_isub hF dX12_span_102 ?_
      refine s_istore (pls' := [(11, .int ((g_I m31 (g_R m31 l0 30) (33 : Int32).toNatClampNeg) - (g_I m31 (g_R m31 l0 29) (33 : Int32).toNatClampNeg))), (0, .ref l0), (1, .int l1), (2, .int l2), (3, .int l3), (4, .int l4), (5, .int l5), (6, .int l6), (7, .int l7), (8, .int l8), (9, .int l9), (10, .int l10)]) hF dX12_span_103 (by decide) rfl ?_
      refine s_iload hF dX12_span_105 8 rfl ?_
      refine s_iconst (v := (-1 : Int32)) hF dX12_span_107 kI_m1 ?_
      refine s_icmp_ne (tgt := 116) hF dX12_span_108 rfl (fun c38 => ?_) (fun c38 => ?_)
      · refine s_iload hF dX12_span_111 0 rfl ?_
        refine s_goto (tgt := 123) hF dX12_span_113 rfl ?_
        refine s_sub [1, 2, 3, 4, 5, 6, 7, 9, 10, 11, 0] rfl ?_
        exact sX12_span_123 (fun l0 l1 l2 l3 l4 l5 l6 l7 l8 l9 l10 μ => mX12_span_71 fu l0 l1 l2 l3 l4 l5 l6 l7 l8 l9 l10 μ) hF hD ih l0 l1 l2 l3 l4 l5 l6 l8 l9 l10 ((g_I m31 (g_R m31 l0 30) (33 : Int32).toNatClampNeg) - (g_I m31 (g_R m31 l0 29) (33 : Int32).toNatClampNeg)) ((g_I m31 (g_R m31 l0 30) (33 : Int32).toNatClampNeg) - (g_I m31 (g_R m31 l0 29) (33 : Int32).toNatClampNeg)) _ (isK.mo f0 hm33)
      · refine s_iload hF dX12_span_116 8 rfl ?_
        refine s_iload hF dX12_span_118 0 rfl ?_
        refine s_cSi (st := []) [.int l7, .int ((g_I m31 (g_R m31 l0 30) (33 : Int32).toNatClampNeg) - (g_I m31 (g_R m31 l0 29) (33 : Int32).toNatClampNeg))] hF hD.dr dX12_span_120 cwX12_234 (Nat.le_of_ble_eq_true rfl) (Nat.le_of_ble_eq_true rfl) rfl rfl (Nat.le_of_ble_eq_true rfl) (ctX12_less l7 ((g_I m31 (g_R m31 l0 30) (33 : Int32).toNatClampNeg) - (g_I m31 (g_R m31 l0 29) (33 : Int32).toNatClampNeg)) _) (fun r39 m40 hl41 hm42 => ?_)
        refine s_sub [1, 2, 3, 4, 5, 6, 7, 9, 10, 11, 0] rfl ?_
        exact sX12_span_123 (fun l0 l1 l2 l3 l4 l5 l6 l7 l8 l9 l10 μ => mX12_span_71 fu l0 l1 l2 l3 l4 l5 l6 l7 l8 l9 l10 μ) hF hD ih l0 l1 l2 l3 l4 l5 l6 l8 l9 l10 ((g_I m31 (g_R m31 l0 30) (33 : Int32).toNatClampNeg) - (g_I m31 (g_R m31 l0 29) (33 : Int32).toNatClampNeg)) r39 _ (isK.mo (isK.mo f0 hm33) hm42)
theorem sX12_span_49 {F : Option Fx} (hF : FxO F RX12 cX12_span 12 8) (hD : FxDO F (some .int)) (l0 : Nat) (l1 : Int32) (l2 : Int32) (l3 : Int32) (l4 : Int32) (l5 : Int32) (l6 : Int32) (k0 : Int32) (k1 : Nat) (μ : Mem) (f0 : isK μ l0 12 = true) : Sim F encI 49 [(0, .ref l0), (1, .int l1), (2, .int l2), (3, .int l3), (4, .int l4), (5, .int l5), (6, .int l6)] [.int k0, .ref k1] μ (mX12_span_49 l0 l1 l2 l3 l4 l5 l6 k0 k1 μ) := by
  unfold mX12_span_49
  refine s_iconst (v := (1 : Int32)) hF dX12_span_49 kI_1 ?_
  refine s_iconst (v := (1 : Int32)) hF dX12_span_50 kI_1 ?_
  refine sim_gd (fun g25 => ?_)
  refine s_cVi (st := []) (ci := 12) [.int k0, .int (1 : Int32), .int (1 : Int32)] hF hD.dr dX12_span_51 cwX12_167 (Nat.le_of_ble_eq_true rfl) (Nat.le_of_ble_eq_true rfl) rfl rfl (Nat.le_of_ble_eq_true rfl) g25 rfl rfl (Nat.le_of_ble_eq_true rfl) (ctX12_bad k1 k0 (1 : Int32) (1 : Int32) _) (fun r21 m22 hl23 hm24 => ?_)
  refine s_if_eq (tgt := 59) hF dX12_span_54 rfl (fun c26 => ?_) (fun c26 => ?_)
  · refine s_iconst (v := (-1 : Int32)) hF dX12_span_59 kI_m1 ?_
    refine s_istore (pls' := [(7, .int (-1 : Int32)), (0, .ref l0), (1, .int l1), (2, .int l2), (3, .int l3), (4, .int l4), (5, .int l5), (6, .int l6)]) hF dX12_span_60 (by decide) rfl ?_
    refine s_iconst (v := (0 : Int32)) hF dX12_span_62 kI_0 ?_
    refine s_istore (pls' := [(8, .int (0 : Int32)), (7, .int (-1 : Int32)), (0, .ref l0), (1, .int l1), (2, .int l2), (3, .int l3), (4, .int l4), (5, .int l5), (6, .int l6)]) hF dX12_span_63 (by decide) rfl ?_
    refine s_iconst (v := (0 : Int32)) hF dX12_span_65 kI_0 ?_
    refine s_istore (pls' := [(9, .int (0 : Int32)), (8, .int (0 : Int32)), (7, .int (-1 : Int32)), (0, .ref l0), (1, .int l1), (2, .int l2), (3, .int l3), (4, .int l4), (5, .int l5), (6, .int l6)]) hF dX12_span_66 (by decide) rfl ?_
    refine s_iconst (v := (0 : Int32)) hF dX12_span_68 kI_0 ?_
    refine s_istore (pls' := [(10, .int (0 : Int32)), (9, .int (0 : Int32)), (8, .int (0 : Int32)), (7, .int (-1 : Int32)), (0, .ref l0), (1, .int l1), (2, .int l2), (3, .int l3), (4, .int l4), (5, .int l5), (6, .int l6)]) hF dX12_span_69 (by decide) rfl ?_
    refine s_sub [4, 5, 6, 7, 8, 9, 10, 3, 2, 1, 0] rfl ?_
    exact sX12_span_71 hF hD 100000 l0 l1 l2 l3 l4 l5 l6 (-1 : Int32) (0 : Int32) (0 : Int32) (0 : Int32) _ (isK.mo f0 hm24)
  · refine s_iconst (v := (0 : Int32)) hF dX12_span_57 kI_0 ?_
    exact s_iretD hF hD dX12_span_58 rfl
theorem ctX12_span  (l0 : Nat) (l1 : Int32) (l2 : Int32) (l3 : Int32) (l4 : Int32) (l5 : Int32) (l6 : Int32) (μ : Mem) : ∀ (r : Int32) (μ' : Mem), LX12_span l0 l1 l2 l3 l4 l5 l6 μ = some (r, μ') → CtD yX12_span cX12_span 12 (some .int) 8 [.ref l0, .int l1, .int l2, .int l3, .int l4, .int l5, .int l6] μ (encI r) μ' := by
  refine ct_enterD plX12 (Nat.le_of_ble_eq_true rfl) (fun F hF hD hI => ?_)
  unfold LX12_span
  refine sim_gd (fun f0 => ?_)
  refine s_aload_n hF dX12_span_0 rfl 0 rfl ?_
  refine s_iconst (v := (0 : Int32)) hF dX12_span_1 kI_0 ?_
  refine s_putI hF dX12_span_2 flX12_94 f0 ?_
  refine s_aload_n hF dX12_span_5 rfl 0 rfl ?_
  refine s_iload_n hF dX12_span_6 rfl 2 rfl ?_
  refine s_iconst (v := (1 : Int32)) hF dX12_span_7 kI_1 ?_
  refine s_bipush (v := (20 : Int32)) hF dX12_span_8 kB_20 ?_
  refine s_cSi (st := [.ref l0]) [.int l2, .int (1 : Int32), .int (20 : Int32)] hF hD.dr dX12_span_10 cwX12_128 (Nat.le_of_ble_eq_true rfl) (Nat.le_of_ble_eq_true rfl) rfl rfl (Nat.le_of_ble_eq_true rfl) (ctX12_in l2 (1 : Int32) (20 : Int32) _) (fun r1 m2 hl3 hm4 => ?_)
  refine s_if_eq (tgt := 44) hF dX12_span_13 rfl (fun c5 => ?_) (fun c5 => ?_)
  · refine s_iconst (v := (1 : Int32)) hF dX12_span_44 kI_1 ?_
    refine s_goto (tgt := 49) hF dX12_span_45 rfl ?_
    exact sX12_span_49 hF hD l0 l1 l2 l3 l4 l5 l6 (1 : Int32) l0 _ (isK.mo f0 hm4)
  · refine s_iload_n hF dX12_span_16 rfl 3 rfl ?_
    refine s_iload hF dX12_span_17 4 rfl ?_
    refine s_cSi (st := [.ref l0]) [.int l3, .int l4] hF hD.dr dX12_span_19 cwX12_420 (Nat.le_of_ble_eq_true rfl) (Nat.le_of_ble_eq_true rfl) rfl rfl (Nat.le_of_ble_eq_true rfl) (ctX12_isSeason l3 l4 _) (fun r6 m7 hl8 hm9 => ?_)
    refine s_if_eq (tgt := 44) hF dX12_span_22 rfl (fun c10 => ?_) (fun c10 => ?_)
    · refine s_iconst (v := (1 : Int32)) hF dX12_span_44 kI_1 ?_
      refine s_goto (tgt := 49) hF dX12_span_45 rfl ?_
      exact sX12_span_49 hF hD l0 l1 l2 l3 l4 l5 l6 (1 : Int32) l0 _ (isK.mo (isK.mo f0 hm4) hm9)
    · refine s_iload hF dX12_span_25 5 rfl ?_
      refine s_iconst (v := (0 : Int32)) hF dX12_span_27 kI_0 ?_
      refine s_iconst (v := (2 : Int32)) hF dX12_span_28 kI_2 ?_
      refine s_cSi (st := [.ref l0]) [.int l5, .int (0 : Int32), .int (2 : Int32)] hF hD.dr dX12_span_29 cwX12_128 (Nat.le_of_ble_eq_true rfl) (Nat.le_of_ble_eq_true rfl) rfl rfl (Nat.le_of_ble_eq_true rfl) (ctX12_in l5 (0 : Int32) (2 : Int32) _) (fun r11 m12 hl13 hm14 => ?_)
      refine s_if_eq (tgt := 44) hF dX12_span_32 rfl (fun c15 => ?_) (fun c15 => ?_)
      · refine s_iconst (v := (1 : Int32)) hF dX12_span_44 kI_1 ?_
        refine s_goto (tgt := 49) hF dX12_span_45 rfl ?_
        exact sX12_span_49 hF hD l0 l1 l2 l3 l4 l5 l6 (1 : Int32) l0 _ (isK.mo (isK.mo (isK.mo f0 hm4) hm9) hm14)
      · refine s_aload_n hF dX12_span_35 rfl 0 rfl ?_
        refine s_iload hF dX12_span_36 6 rfl ?_
        refine s_cVi (st := [.ref l0]) (ci := 12) [.int l6] hF hD.dr dX12_span_38 cwX12_355 (Nat.le_of_ble_eq_true rfl) (Nat.le_of_ble_eq_true rfl) rfl rfl (Nat.le_of_ble_eq_true rfl) (isK.mo (isK.mo (isK.mo f0 hm4) hm9) hm14) rfl rfl (Nat.le_of_ble_eq_true rfl) (ctX12_isPen l0 l6 _) (fun r16 m17 hl18 hm19 => ?_)
        refine s_if_ne (tgt := 48) hF dX12_span_41 rfl (fun c20 => ?_) (fun c20 => ?_)
        · refine s_iconst (v := (1 : Int32)) hF dX12_span_44 kI_1 ?_
          refine s_goto (tgt := 49) hF dX12_span_45 rfl ?_
          exact sX12_span_49 hF hD l0 l1 l2 l3 l4 l5 l6 (1 : Int32) l0 _ (isK.mo (isK.mo (isK.mo (isK.mo f0 hm4) hm9) hm14) hm19)
        · refine s_iconst (v := (0 : Int32)) hF dX12_span_48 kI_0 ?_
          exact sX12_span_49 hF hD l0 l1 l2 l3 l4 l5 l6 (0 : Int32) l0 _ (isK.mo (isK.mo (isK.mo (isK.mo f0 hm4) hm9) hm14) hm19)
theorem sX12_puts_11 {F : Option Fx} (hF : FxO F RX12 cX12_puts 4 0) (hD : FxDO F (some .int)) (l0 : Nat) (l1 : Nat) (μ : Mem) (f0 : isK μ l0 12 = true) (f1 : isK μ l1 15 = true) : Sim F encI 11 [(0, .ref l0), (1, .ref l1)] [] μ (mX12_puts_11 l0 l1 μ) := by
  unfold mX12_puts_11
  refine s_aload_n hF dX12_puts_11 rfl 0 rfl ?_
  refine s_dup hF dX12_puts_12 rfl ?_
  refine s_getI (x := (g_I μ l0 38)) hF dX12_puts_13 flX12_426 f0 rfl ?_
  refine s_iconst (v := (1 : Int32)) hF dX12_puts_16 kI_1 ?_
  refine s_iadd hF dX12_puts_17 ?_
  refine s_putI hF dX12_puts_18 flX12_426 f0 ?_
  refine s_aload_n hF dX12_puts_21 rfl 1 rfl ?_
  refine s_aload_n hF dX12_puts_22 rfl 0 rfl ?_
  refine s_getI (x := (g_I (p_I μ l0 38 ((g_I μ l0 38) + (1 : Int32))) l0 38)) hF dX12_puts_23 flX12_426 f0 rfl ?_
  refine s_iconst (v := (1 : Int32)) hF dX12_puts_26 kI_1 ?_
  refine s_isub hF dX12_puts_27 ?_
  refine sim_gd (fun g3 => ?_)
  refine s_iaload (x := (g_I (p_I μ l0 38 ((g_I μ l0 38) + (1 : Int32))) l1 ((g_I (p_I μ l0 38 ((g_I μ l0 38) + (1 : Int32))) l0 38) - (1 : Int32)).toNatClampNeg)) hF dX12_puts_28 g3 rfl ?_
  exact s_iretD hF hD dX12_puts_29 rfl
theorem ctX12_puts  (l0 : Nat) (l1 : Nat) (l2 : Int32) (l3 : Int32) (μ : Mem) : ∀ (r : Int32) (μ' : Mem), LX12_puts l0 l1 l2 l3 μ = some (r, μ') → CtD yX12_puts cX12_puts 4 (some .int) 0 [.ref l0, .ref l1, .int l2, .int l3] μ (encI r) μ' := by
  refine ct_enterD plX12 (Nat.le_of_ble_eq_true rfl) (fun F hF hD hI => ?_)
  unfold LX12_puts
  refine sim_gd (fun f0 => ?_)
  refine sim_gd (fun f1 => ?_)
  refine s_iload_n hF dX12_puts_0 rfl 3 rfl ?_
  refine s_if_ne (tgt := 11) hF dX12_puts_1 rfl (fun c1 => ?_) (fun c1 => ?_)
  · refine s_aload_n hF dX12_puts_4 rfl 1 rfl ?_
    refine s_aload_n hF dX12_puts_5 rfl 0 rfl ?_
    refine s_getI (x := (g_I μ l0 38)) hF dX12_puts_6 flX12_426 f0 rfl ?_
    refine s_iload_n hF dX12_puts_9 rfl 2 rfl ?_
    refine sim_gd (fun g2 => ?_)
    refine s_iastore hF dX12_puts_10 g2 ?_
    refine s_sub [0, 1] rfl ?_
    exact sX12_puts_11 hF hD l0 l1 _ f0 f1
  · refine s_sub [0, 1] rfl ?_
    exact sX12_puts_11 hF hD l0 l1 _ f0 f1
theorem sX12_putsAll_63 {F : Option Fx} (q54 : Nat → Nat → Int32 → Int32 → Mem → Option (Unit × Mem)) (hF : FxO F RX12 cX12_putsAll 5 1) (hD : FxDO F none) (hq54 : ∀ (l0 : Nat) (l1 : Nat) (l2 : Int32) (l3 : Int32) (μ : Mem) (_ : isK μ l0 12 = true) (_ : isK μ l1 15 = true), Sim F encV 54 [(0, .ref l0), (1, .ref l1), (2, .int l2), (3, .int l3)] [] μ (q54 l0 l1 l2 l3 μ)) : ∀ (fu : Nat) (l0 : Nat) (l1 : Nat) (l2 : Int32) (l3 : Int32) (l4 : Int32) (μ : Mem) (f0 : isK μ l0 12 = true) (f1 : isK μ l1 15 = true), Sim F encV 63 [(0, .ref l0), (1, .ref l1), (2, .int l2), (3, .int l3), (4, .int l4)] [] μ (mX12_putsAll_63 q54 fu l0 l1 l2 l3 l4 μ) := by
  intro fu
  induction fu with
  | zero =>
    intro l0 l1 l2 l3 l4 μ f0 f1
    exact sim_none
  | succ fu ih =>
    intro l0 l1 l2 l3 l4 μ f0 f1
    rw [mX12_putsAll_63]
    refine s_iload hF dX12_putsAll_63 4 rfl ?_
    refine s_sipush (v := (419 : Int32)) hF dX12_putsAll_65 kS_419 ?_
    refine s_icmp_ge (tgt := 101) hF dX12_putsAll_68 rfl (fun c14 => ?_) (fun c14 => ?_)
    · refine s_iinc (v := (l3 + (1 : Int32))) (pls' := [(3, .int (l3 + (1 : Int32))), (0, .ref l0), (1, .ref l1), (2, .int l2), (4, .int l4)]) hF dX12_putsAll_101 3 rfl rfl (by decide) rfl ?_
      refine s_goto (tgt := 54) hF dX12_putsAll_104 rfl ?_
      refine s_sub [1, 2, 3, 0] rfl ?_
      exact hq54 l0 l1 l2 (l3 + (1 : Int32)) _ f0 f1
    · refine s_aload_n hF dX12_putsAll_71 rfl 0 rfl ?_
      refine sim_gd (fun g15 => ?_)
      refine s_getR (x := (g_R μ l0 31)) hF dX12_putsAll_72 flX12_73 f0 g15 rfl ?_
      refine s_iload_n hF dX12_putsAll_75 rfl 3 rfl ?_
      refine sim_gd (fun g16 => ?_)
      refine sim_gd (fun g17 => ?_)
      refine s_aaload (x := (g_R μ (g_R μ l0 31) l3.toNatClampNeg)) hF dX12_putsAll_76 (by decide) (by decide) g16 g17 rfl ?_
      refine s_iload hF dX12_putsAll_77 4 rfl ?_
      refine s_aload_n hF dX12_putsAll_79 rfl 0 rfl ?_
      refine s_aload_n hF dX12_putsAll_80 rfl 1 rfl ?_
      refine s_aload_n hF dX12_putsAll_81 rfl 0 rfl ?_
      refine s_getR (x := (g_R μ l0 31)) hF dX12_putsAll_82 flX12_73 f0 g15 rfl ?_
      refine s_iload_n hF dX12_putsAll_85 rfl 3 rfl ?_
      refine s_aaload (x := (g_R μ (g_R μ l0 31) l3.toNatClampNeg)) hF dX12_putsAll_86 (by decide) (by decide) g16 g17 rfl ?_
      refine s_iload hF dX12_putsAll_87 4 rfl ?_
      refine sim_gd (fun g18 => ?_)
      refine s_iaload (x := (g_I μ (g_R μ (g_R μ l0 31) l3.toNatClampNeg) l4.toNatClampNeg)) hF dX12_putsAll_89 g18 rfl ?_
      refine s_iload_n hF dX12_putsAll_90 rfl 2 rfl ?_
      refine s_cVi (st := [.int l4, .ref (g_R μ (g_R μ l0 31) l3.toNatClampNeg)]) (ci := 12) [.ref l1, .int (g_I μ (g_R μ (g_R μ l0 31) l3.toNatClampNeg) l4.toNatClampNeg), .int l2] hF hD.dr dX12_putsAll_91 cwX12_429 (Nat.le_of_ble_eq_true rfl) (Nat.le_of_ble_eq_true rfl) rfl rfl (Nat.le_of_ble_eq_true rfl) f0 rfl rfl (Nat.le_of_ble_eq_true rfl) (ctX12_puts l0 l1 (g_I μ (g_R μ (g_R μ l0 31) l3.toNatClampNeg) l4.toNatClampNeg) l2 _) (fun r19 m20 hl21 hm22 => ?_)
      refine sim_gd (fun g23 => ?_)
      refine s_iastore hF dX12_putsAll_94 g23 ?_
      refine s_iinc (v := (l4 + (1 : Int32))) (pls' := [(4, .int (l4 + (1 : Int32))), (0, .ref l0), (1, .ref l1), (2, .int l2), (3, .int l3)]) hF dX12_putsAll_95 4 rfl rfl (by decide) rfl ?_
      refine s_goto (tgt := 63) hF dX12_putsAll_98 rfl ?_
      refine s_sub [1, 2, 3, 4, 0] rfl ?_
      exact ih l0 l1 l2 l3 (l4 + (1 : Int32)) _ (isK.mo f0 hm22) (isK.mo f1 hm22)
theorem sX12_putsAll_54 {F : Option Fx} (hF : FxO F RX12 cX12_putsAll 5 1) (hD : FxDO F none) : ∀ (fu : Nat) (l0 : Nat) (l1 : Nat) (l2 : Int32) (l3 : Int32) (μ : Mem) (f0 : isK μ l0 12 = true) (f1 : isK μ l1 15 = true), Sim F encV 54 [(0, .ref l0), (1, .ref l1), (2, .int l2), (3, .int l3)] [] μ (mX12_putsAll_54 fu l0 l1 l2 l3 μ) := by
  intro fu
  induction fu with
  | zero =>
    intro l0 l1 l2 l3 μ f0 f1
    exact sim_none
  | succ fu ih =>
    intro l0 l1 l2 l3 μ f0 f1
    rw [mX12_putsAll_54]
    refine s_iload_n hF dX12_putsAll_54 rfl 3 rfl ?_
    refine s_bipush (v := (16 : Int32)) hF dX12_putsAll_55 kB_16 ?_
    refine s_icmp_ge (tgt := 107) hF dX12_putsAll_57 rfl (fun c13 => ?_) (fun c13 => ?_)
    · exact s_vretD hF hD dX12_putsAll_107 rfl
    · refine s_iconst (v := (0 : Int32)) hF dX12_putsAll_60 kI_0 ?_
      refine s_istore (pls' := [(4, .int (0 : Int32)), (0, .ref l0), (1, .ref l1), (2, .int l2), (3, .int l3)]) hF dX12_putsAll_61 (by decide) rfl ?_
      refine s_sub [1, 2, 3, 4, 0] rfl ?_
      exact sX12_putsAll_63 (fun l0 l1 l2 l3 μ => mX12_putsAll_54 fu l0 l1 l2 l3 μ) hF hD ih 100000 l0 l1 l2 l3 (0 : Int32) _ f0 f1
theorem sX12_putsAll_21 {F : Option Fx} (hF : FxO F RX12 cX12_putsAll 5 1) (hD : FxDO F none) : ∀ (fu : Nat) (l0 : Nat) (l1 : Nat) (l2 : Int32) (l3 : Int32) (μ : Mem) (f0 : isK μ l0 12 = true) (f1 : isK μ l1 15 = true), Sim F encV 21 [(0, .ref l0), (1, .ref l1), (2, .int l2), (3, .int l3)] [] μ (mX12_putsAll_21 fu l0 l1 l2 l3 μ) := by
  intro fu
  induction fu with
  | zero =>
    intro l0 l1 l2 l3 μ f0 f1
    exact sim_none
  | succ fu ih =>
    intro l0 l1 l2 l3 μ f0 f1
    rw [mX12_putsAll_21]
    refine s_iload_n hF dX12_putsAll_21 rfl 3 rfl ?_
    refine s_sipush (v := (419 : Int32)) hF dX12_putsAll_22 kS_419 ?_
    refine s_icmp_ge (tgt := 52) hF dX12_putsAll_25 rfl (fun c5 => ?_) (fun c5 => ?_)
    · refine s_iconst (v := (0 : Int32)) hF dX12_putsAll_52 kI_0 ?_
      refine s_istore_n (pls' := [(3, .int (0 : Int32)), (0, .ref l0), (1, .ref l1), (2, .int l2)]) hF dX12_putsAll_53 rfl (by decide) rfl ?_
      refine s_sub [1, 2, 3, 0] rfl ?_
      exact sX12_putsAll_54 hF hD 100000 l0 l1 l2 (0 : Int32) _ f0 f1
    · refine s_aload_n hF dX12_putsAll_28 rfl 0 rfl ?_
      refine sim_gd (fun g6 => ?_)
      refine s_getR (x := (g_R μ l0 29)) hF dX12_putsAll_29 flX12_67 f0 g6 rfl ?_
      refine s_iload_n hF dX12_putsAll_32 rfl 3 rfl ?_
      refine s_aload_n hF dX12_putsAll_33 rfl 0 rfl ?_
      refine s_aload_n hF dX12_putsAll_34 rfl 1 rfl ?_
      refine s_aload_n hF dX12_putsAll_35 rfl 0 rfl ?_
      refine s_getR (x := (g_R μ l0 29)) hF dX12_putsAll_36 flX12_67 f0 g6 rfl ?_
      refine s_iload_n hF dX12_putsAll_39 rfl 3 rfl ?_
      refine sim_gd (fun g7 => ?_)
      refine s_iaload (x := (g_I μ (g_R μ l0 29) l3.toNatClampNeg)) hF dX12_putsAll_40 g7 rfl ?_
      refine s_iload_n hF dX12_putsAll_41 rfl 2 rfl ?_
      refine s_cVi (st := [.int l3, .ref (g_R μ l0 29)]) (ci := 12) [.ref l1, .int (g_I μ (g_R μ l0 29) l3.toNatClampNeg), .int l2] hF hD.dr dX12_putsAll_42 cwX12_429 (Nat.le_of_ble_eq_true rfl) (Nat.le_of_ble_eq_true rfl) rfl rfl (Nat.le_of_ble_eq_true rfl) f0 rfl rfl (Nat.le_of_ble_eq_true rfl) (ctX12_puts l0 l1 (g_I μ (g_R μ l0 29) l3.toNatClampNeg) l2 _) (fun r8 m9 hl10 hm11 => ?_)
      refine sim_gd (fun g12 => ?_)
      refine s_iastore hF dX12_putsAll_45 g12 ?_
      refine s_iinc (v := (l3 + (1 : Int32))) (pls' := [(3, .int (l3 + (1 : Int32))), (0, .ref l0), (1, .ref l1), (2, .int l2)]) hF dX12_putsAll_46 3 rfl rfl (by decide) rfl ?_
      refine s_goto (tgt := 21) hF dX12_putsAll_49 rfl ?_
      refine s_sub [1, 2, 3, 0] rfl ?_
      exact ih l0 l1 l2 (l3 + (1 : Int32)) _ (isK.mo f0 hm11) (isK.mo f1 hm11)
theorem ctX12_putsAll  (l0 : Nat) (l1 : Nat) (l2 : Int32) (μ : Mem) : ∀ (r : Unit) (μ' : Mem), LX12_putsAll l0 l1 l2 μ = some (r, μ') → CtD yX12_putsAll cX12_putsAll 5 none 1 [.ref l0, .ref l1, .int l2] μ (encV r) μ' := by
  refine ct_enterD plX12 (Nat.le_of_ble_eq_true rfl) (fun F hF hD hI => ?_)
  unfold LX12_putsAll
  refine sim_gd (fun f0 => ?_)
  refine sim_gd (fun f1 => ?_)
  refine s_aload_n hF dX12_putsAll_0 rfl 0 rfl ?_
  refine s_iconst (v := (0 : Int32)) hF dX12_putsAll_1 kI_0 ?_
  refine s_putI hF dX12_putsAll_2 flX12_426 f0 ?_
  refine s_aload_n hF dX12_putsAll_5 rfl 0 rfl ?_
  refine s_aload_n hF dX12_putsAll_6 rfl 0 rfl ?_
  refine s_aload_n hF dX12_putsAll_7 rfl 1 rfl ?_
  refine s_aload_n hF dX12_putsAll_8 rfl 0 rfl ?_
  refine s_getI (x := (g_I (p_I μ l0 38 (0 : Int32)) l0 35)) hF dX12_putsAll_9 flX12_193 f0 rfl ?_
  refine s_iload_n hF dX12_putsAll_12 rfl 2 rfl ?_
  refine s_cVi (st := [.ref l0]) (ci := 12) [.ref l1, .int (g_I (p_I μ l0 38 (0 : Int32)) l0 35), .int l2] hF hD.dr dX12_putsAll_13 cwX12_429 (Nat.le_of_ble_eq_true rfl) (Nat.le_of_ble_eq_true rfl) rfl rfl (Nat.le_of_ble_eq_true rfl) f0 rfl rfl (Nat.le_of_ble_eq_true rfl) (ctX12_puts l0 l1 (g_I (p_I μ l0 38 (0 : Int32)) l0 35) l2 _) (fun r1 m2 hl3 hm4 => ?_)
  refine s_putI hF dX12_putsAll_16 flX12_193 (isK.mo f0 hm4) ?_
  refine s_iconst (v := (0 : Int32)) hF dX12_putsAll_19 kI_0 ?_
  refine s_istore_n (pls' := [(3, .int (0 : Int32)), (0, .ref l0), (1, .ref l1), (2, .int l2)]) hF dX12_putsAll_20 rfl (by decide) rfl ?_
  refine s_sub [1, 2, 3, 0] rfl ?_
  exact sX12_putsAll_21 hF hD 100000 l0 l1 l2 (0 : Int32) _ (isK.mo f0 hm4) (isK.mo f1 hm4)
theorem ctX12_image  (l0 : Nat) (μ : Mem) : ∀ (r : Int32) (μ' : Mem), LX12_image l0 μ = some (r, μ') → CtD yX12_image cX12_image 1 (some .int) 2 [.ref l0] μ (encI r) μ' := by
  refine ct_enterD plX12 (Nat.le_of_ble_eq_true rfl) (fun F hF hD hI => ?_)
  unfold LX12_image
  refine sim_gd (fun f0 => ?_)
  refine s_aload_n hF dX12_image_0 rfl 0 rfl ?_
  refine s_iconst (v := (0 : Int32)) hF dX12_image_1 kI_0 ?_
  refine s_putI hF dX12_image_2 flX12_94 f0 ?_
  refine s_aload_n hF dX12_image_5 rfl 0 rfl ?_
  refine s_getI (x := (g_I (p_I μ l0 0 (0 : Int32)) l0 37)) hF dX12_image_6 flX12_199 f0 rfl ?_
  refine s_iconst (v := (3 : Int32)) hF dX12_image_9 kI_3 ?_
  refine s_icmp_ne (tgt := 15) hF dX12_image_10 rfl (fun c1 => ?_) (fun c1 => ?_)
  · refine s_iconst (v := (-1 : Int32)) hF dX12_image_13 kI_m1 ?_
    exact s_iretD hF hD dX12_image_14 rfl
  · refine s_aload_n hF dX12_image_15 rfl 0 rfl ?_
    refine s_aload_n hF dX12_image_16 rfl 0 rfl ?_
    refine sim_gd (fun g2 => ?_)
    refine s_getR (x := (g_R μ l0 32)) hF dX12_image_17 flX12_76 f0 g2 rfl ?_
    refine s_aload_n hF dX12_image_20 rfl 0 rfl ?_
    refine s_getI (x := (g_I (p_I μ l0 0 (0 : Int32)) l0 37)) hF dX12_image_21 flX12_199 f0 rfl ?_
    refine sim_gd (fun g3 => ?_)
    refine sim_gd (fun g4 => ?_)
    refine s_aaload (x := (g_R μ (g_R μ l0 32) (g_I (p_I μ l0 0 (0 : Int32)) l0 37).toNatClampNeg)) hF dX12_image_24 (by decide) (by decide) g3 g4 rfl ?_
    refine s_iconst (v := (0 : Int32)) hF dX12_image_25 kI_0 ?_
    refine s_cVv (st := []) (ci := 12) [.ref (g_R μ (g_R μ l0 32) (g_I (p_I μ l0 0 (0 : Int32)) l0 37).toNatClampNeg), .int (0 : Int32)] hF hD.dr dX12_image_26 cwX12_433 (Nat.le_of_ble_eq_true rfl) (Nat.le_of_ble_eq_true rfl) rfl rfl (Nat.le_of_ble_eq_true rfl) f0 rfl rfl (Nat.le_of_ble_eq_true rfl) (ctX12_putsAll l0 (g_R μ (g_R μ l0 32) (g_I (p_I μ l0 0 (0 : Int32)) l0 37).toNatClampNeg) (0 : Int32) _) (fun r5 m6 hl7 hm8 => ?_)
    refine s_aload_n hF dX12_image_29 rfl 0 rfl ?_
    refine s_dup hF dX12_image_30 rfl ?_
    refine s_getI (x := (g_I m6 l0 37)) hF dX12_image_31 flX12_199 (isK.mo f0 hm8) rfl ?_
    refine s_iconst (v := (1 : Int32)) hF dX12_image_34 kI_1 ?_
    refine s_iadd hF dX12_image_35 ?_
    refine s_putI hF dX12_image_36 flX12_199 (isK.mo f0 hm8) ?_
    refine s_aload_n hF dX12_image_39 rfl 0 rfl ?_
    refine s_getI (x := (g_I (p_I m6 l0 37 ((g_I m6 l0 37) + (1 : Int32))) l0 37)) hF dX12_image_40 flX12_199 (isK.mo f0 hm8) rfl ?_
    exact s_iretD hF hD dX12_image_43 rfl
theorem ctX12_restore  (l0 : Nat) (μ : Mem) : ∀ (r : Int32) (μ' : Mem), LX12_restore l0 μ = some (r, μ') → CtD yX12_restore cX12_restore 1 (some .int) 2 [.ref l0] μ (encI r) μ' := by
  refine ct_enterD plX12 (Nat.le_of_ble_eq_true rfl) (fun F hF hD hI => ?_)
  unfold LX12_restore
  refine sim_gd (fun f0 => ?_)
  refine s_aload_n hF dX12_restore_0 rfl 0 rfl ?_
  refine s_iconst (v := (0 : Int32)) hF dX12_restore_1 kI_0 ?_
  refine s_putI hF dX12_restore_2 flX12_94 f0 ?_
  refine s_aload_n hF dX12_restore_5 rfl 0 rfl ?_
  refine s_getI (x := (g_I (p_I μ l0 0 (0 : Int32)) l0 37)) hF dX12_restore_6 flX12_199 f0 rfl ?_
  refine s_if_ne (tgt := 14) hF dX12_restore_9 rfl (fun c1 => ?_) (fun c1 => ?_)
  · refine s_iconst (v := (-1 : Int32)) hF dX12_restore_12 kI_m1 ?_
    exact s_iretD hF hD dX12_restore_13 rfl
  · refine s_aload_n hF dX12_restore_14 rfl 0 rfl ?_
    refine s_dup hF dX12_restore_15 rfl ?_
    refine s_getI (x := (g_I (p_I μ l0 0 (0 : Int32)) l0 37)) hF dX12_restore_16 flX12_199 f0 rfl ?_
    refine s_iconst (v := (1 : Int32)) hF dX12_restore_19 kI_1 ?_
    refine s_isub hF dX12_restore_20 ?_
    refine s_putI hF dX12_restore_21 flX12_199 f0 ?_
    refine s_aload_n hF dX12_restore_24 rfl 0 rfl ?_
    refine s_aload_n hF dX12_restore_25 rfl 0 rfl ?_
    refine sim_gd (fun g2 => ?_)
    refine s_getR (x := (g_R μ l0 32)) hF dX12_restore_26 flX12_76 f0 g2 rfl ?_
    refine s_aload_n hF dX12_restore_29 rfl 0 rfl ?_
    refine s_getI (x := (g_I (p_I (p_I μ l0 0 (0 : Int32)) l0 37 ((g_I (p_I μ l0 0 (0 : Int32)) l0 37) - (1 : Int32))) l0 37)) hF dX12_restore_30 flX12_199 f0 rfl ?_
    refine sim_gd (fun g3 => ?_)
    refine sim_gd (fun g4 => ?_)
    refine s_aaload (x := (g_R μ (g_R μ l0 32) (g_I (p_I (p_I μ l0 0 (0 : Int32)) l0 37 ((g_I (p_I μ l0 0 (0 : Int32)) l0 37) - (1 : Int32))) l0 37).toNatClampNeg)) hF dX12_restore_33 (by decide) (by decide) g3 g4 rfl ?_
    refine s_iconst (v := (1 : Int32)) hF dX12_restore_34 kI_1 ?_
    refine s_cVv (st := []) (ci := 12) [.ref (g_R μ (g_R μ l0 32) (g_I (p_I (p_I μ l0 0 (0 : Int32)) l0 37 ((g_I (p_I μ l0 0 (0 : Int32)) l0 37) - (1 : Int32))) l0 37).toNatClampNeg), .int (1 : Int32)] hF hD.dr dX12_restore_35 cwX12_433 (Nat.le_of_ble_eq_true rfl) (Nat.le_of_ble_eq_true rfl) rfl rfl (Nat.le_of_ble_eq_true rfl) f0 rfl rfl (Nat.le_of_ble_eq_true rfl) (ctX12_putsAll l0 (g_R μ (g_R μ l0 32) (g_I (p_I (p_I μ l0 0 (0 : Int32)) l0 37 ((g_I (p_I μ l0 0 (0 : Int32)) l0 37) - (1 : Int32))) l0 37).toNatClampNeg) (1 : Int32) _) (fun r5 m6 hl7 hm8 => ?_)
    refine s_aload_n hF dX12_restore_38 rfl 0 rfl ?_
    refine s_iconst (v := (0 : Int32)) hF dX12_restore_39 kI_0 ?_
    refine s_putI hF dX12_restore_40 flX12_196 (isK.mo f0 hm8) ?_
    refine s_aload_n hF dX12_restore_43 rfl 0 rfl ?_
    refine s_getI (x := (g_I (p_I m6 l0 36 (0 : Int32)) l0 37)) hF dX12_restore_44 flX12_199 (isK.mo f0 hm8) rfl ?_
    exact s_iretD hF hD dX12_restore_47 rfl
theorem ctX12_status  (l0 : Nat) (l1 : Int32) (μ : Mem) : ∀ (r : Int32) (μ' : Mem), LX12_status l0 l1 μ = some (r, μ') → CtD yX12_status cX12_status 2 (some .int) 1 [.ref l0, .int l1] μ (encI r) μ' := by
  refine ct_enterD plX12 (Nat.le_of_ble_eq_true rfl) (fun F hF hD hI => ?_)
  unfold LX12_status
  refine sim_gd (fun f0 => ?_)
  refine s_aload_n hF dX12_status_0 rfl 0 rfl ?_
  refine s_iconst (v := (0 : Int32)) hF dX12_status_1 kI_0 ?_
  refine s_putI hF dX12_status_2 flX12_94 f0 ?_
  refine s_iload_n hF dX12_status_5 rfl 1 rfl ?_
  refine s_iconst (v := (0 : Int32)) hF dX12_status_6 kI_0 ?_
  refine s_iconst (v := (4 : Int32)) hF dX12_status_7 kI_4 ?_
  refine s_cSi (st := []) [.int l1, .int (0 : Int32), .int (4 : Int32)] hF hD.dr dX12_status_8 cwX12_128 (Nat.le_of_ble_eq_true rfl) (Nat.le_of_ble_eq_true rfl) rfl rfl (Nat.le_of_ble_eq_true rfl) (ctX12_in l1 (0 : Int32) (4 : Int32) _) (fun r1 m2 hl3 hm4 => ?_)
  refine s_if_eq (tgt := 23) hF dX12_status_11 rfl (fun c5 => ?_) (fun c5 => ?_)
  · refine s_iconst (v := (-1 : Int32)) hF dX12_status_23 kI_m1 ?_
    exact s_iretD hF hD dX12_status_24 rfl
  · refine s_aload_n hF dX12_status_14 rfl 0 rfl ?_
    refine sim_gd (fun g6 => ?_)
    refine s_getR (x := (g_R m2 l0 10)) hF dX12_status_15 flX12_17 (isK.mo f0 hm4) g6 rfl ?_
    refine s_iload_n hF dX12_status_18 rfl 1 rfl ?_
    refine sim_gd (fun g7 => ?_)
    refine s_iaload (x := (g_I m2 (g_R m2 l0 10) l1.toNatClampNeg)) hF dX12_status_19 g7 rfl ?_
    refine s_goto (tgt := 24) hF dX12_status_20 rfl ?_
    exact s_iretD hF hD dX12_status_24 rfl
theorem ctX12_count  (l0 : Nat) (l1 : Int32) (μ : Mem) : ∀ (r : Int32) (μ' : Mem), LX12_count l0 l1 μ = some (r, μ') → CtD yX12_count cX12_count 2 (some .int) 0 [.ref l0, .int l1] μ (encI r) μ' := by
  refine ct_enterD plX12 (Nat.le_of_ble_eq_true rfl) (fun F hF hD hI => ?_)
  unfold LX12_count
  refine sim_gd (fun f0 => ?_)
  refine s_aload_n hF dX12_count_0 rfl 0 rfl ?_
  refine s_iconst (v := (0 : Int32)) hF dX12_count_1 kI_0 ?_
  refine s_putI hF dX12_count_2 flX12_94 f0 ?_
  refine s_iload_n hF dX12_count_5 rfl 1 rfl ?_
  refine s_if_ne (tgt := 16) hF dX12_count_6 rfl (fun c1 => ?_) (fun c1 => ?_)
  · refine s_aload_n hF dX12_count_9 rfl 0 rfl ?_
    refine s_getI (x := (g_I (p_I μ l0 0 (0 : Int32)) l0 37)) hF dX12_count_10 flX12_199 f0 rfl ?_
    refine s_goto (tgt := 41) hF dX12_count_13 rfl ?_
    exact s_iretD hF hD dX12_count_41 rfl
  · refine s_iload_n hF dX12_count_16 rfl 1 rfl ?_
    refine s_iconst (v := (1 : Int32)) hF dX12_count_17 kI_1 ?_
    refine s_icmp_ne (tgt := 28) hF dX12_count_18 rfl (fun c2 => ?_) (fun c2 => ?_)
    · refine s_aload_n hF dX12_count_21 rfl 0 rfl ?_
      refine s_getI (x := (g_I (p_I μ l0 0 (0 : Int32)) l0 1)) hF dX12_count_22 flX12_97 f0 rfl ?_
      refine s_goto (tgt := 41) hF dX12_count_25 rfl ?_
      exact s_iretD hF hD dX12_count_41 rfl
    · refine s_iload_n hF dX12_count_28 rfl 1 rfl ?_
      refine s_iconst (v := (2 : Int32)) hF dX12_count_29 kI_2 ?_
      refine s_icmp_ne (tgt := 40) hF dX12_count_30 rfl (fun c3 => ?_) (fun c3 => ?_)
      · refine s_aload_n hF dX12_count_33 rfl 0 rfl ?_
        refine s_getI (x := (g_I (p_I μ l0 0 (0 : Int32)) l0 35)) hF dX12_count_34 flX12_193 f0 rfl ?_
        refine s_goto (tgt := 41) hF dX12_count_37 rfl ?_
        exact s_iretD hF hD dX12_count_41 rfl
      · refine s_iconst (v := (-1 : Int32)) hF dX12_count_40 kI_m1 ?_
        exact s_iretD hF hD dX12_count_41 rfl
