theorem ctX12_stepHere  (l0 : Nat) (μ : Mem) : ∀ (r : Int32) (μ' : Mem), LX12_stepHere l0 μ = some (r, μ') → CtD yX12_stepHere cX12_stepHere 1 (some .int) 4 [.ref l0] μ (encI r) μ' := by
  refine ct_enterD plX12 (Nat.le_of_ble_eq_true rfl) (fun F hF hD hI => ?_)
  unfold LX12_stepHere
  refine sim_gd (fun f0 => ?_)
  refine s_aload_n hF dX12_stepHere_0 rfl 0 rfl ?_
  refine s_bipush (v := (18 : Int32)) hF dX12_stepHere_1 kB_18 ?_
  refine s_iconst (v := (5 : Int32)) hF dX12_stepHere_3 kI_5 ?_
  refine s_iconst (v := (1 : Int32)) hF dX12_stepHere_4 kI_1 ?_
  refine s_iconst (v := (4 : Int32)) hF dX12_stepHere_5 kI_4 ?_
  refine s_iconst (v := (0 : Int32)) hF dX12_stepHere_6 kI_0 ?_
  refine s_iconst (v := (0 : Int32)) hF dX12_stepHere_7 kI_0 ?_
  refine s_cVi (st := []) (ci := 12) [.int (18 : Int32), .int (5 : Int32), .int (1 : Int32), .int (4 : Int32), .int (0 : Int32), .int (0 : Int32)] hF hD.dr dX12_stepHere_8 cwX12_143 (Nat.le_of_ble_eq_true rfl) (Nat.le_of_ble_eq_true rfl) rfl rfl (Nat.le_of_ble_eq_true rfl) f0 rfl rfl (Nat.le_of_ble_eq_true rfl) (ctX12_isWord l0 (18 : Int32) (5 : Int32) (1 : Int32) (4 : Int32) (0 : Int32) (0 : Int32) _) (fun r1 m2 hl3 hm4 => ?_)
  refine s_if_eq (tgt := 16) hF dX12_stepHere_11 rfl (fun c5 => ?_) (fun c5 => ?_)
  · refine s_aload_n hF dX12_stepHere_16 rfl 0 rfl ?_
    refine s_iconst (v := (2 : Int32)) hF dX12_stepHere_17 kI_2 ?_
    refine s_iconst (v := (5 : Int32)) hF dX12_stepHere_18 kI_5 ?_
    refine s_bipush (v := (12 : Int32)) hF dX12_stepHere_19 kB_12 ?_
    refine s_bipush (v := (15 : Int32)) hF dX12_stepHere_21 kB_15 ?_
    refine s_bipush (v := (23 : Int32)) hF dX12_stepHere_23 kB_23 ?_
    refine s_iconst (v := (0 : Int32)) hF dX12_stepHere_25 kI_0 ?_
    refine s_cVi (st := []) (ci := 12) [.int (2 : Int32), .int (5 : Int32), .int (12 : Int32), .int (15 : Int32), .int (23 : Int32), .int (0 : Int32)] hF hD.dr dX12_stepHere_26 cwX12_143 (Nat.le_of_ble_eq_true rfl) (Nat.le_of_ble_eq_true rfl) rfl rfl (Nat.le_of_ble_eq_true rfl) (isK.mo f0 hm4) rfl rfl (Nat.le_of_ble_eq_true rfl) (ctX12_isWord l0 (2 : Int32) (5 : Int32) (12 : Int32) (15 : Int32) (23 : Int32) (0 : Int32) _) (fun r6 m7 hl8 hm9 => ?_)
    refine s_if_eq (tgt := 34) hF dX12_stepHere_29 rfl (fun c10 => ?_) (fun c10 => ?_)
    · refine s_aload_n hF dX12_stepHere_34 rfl 0 rfl ?_
      refine s_bipush (v := (8 : Int32)) hF dX12_stepHere_35 kB_8 ?_
      refine s_iconst (v := (5 : Int32)) hF dX12_stepHere_37 kI_5 ?_
      refine s_iconst (v := (1 : Int32)) hF dX12_stepHere_38 kI_1 ?_
      refine s_bipush (v := (18 : Int32)) hF dX12_stepHere_39 kB_18 ?_
      refine s_iconst (v := (0 : Int32)) hF dX12_stepHere_41 kI_0 ?_
      refine s_iconst (v := (0 : Int32)) hF dX12_stepHere_42 kI_0 ?_
      refine s_cVi (st := []) (ci := 12) [.int (8 : Int32), .int (5 : Int32), .int (1 : Int32), .int (18 : Int32), .int (0 : Int32), .int (0 : Int32)] hF hD.dr dX12_stepHere_43 cwX12_143 (Nat.le_of_ble_eq_true rfl) (Nat.le_of_ble_eq_true rfl) rfl rfl (Nat.le_of_ble_eq_true rfl) (isK.mo (isK.mo f0 hm4) hm9) rfl rfl (Nat.le_of_ble_eq_true rfl) (ctX12_isWord l0 (8 : Int32) (5 : Int32) (1 : Int32) (18 : Int32) (0 : Int32) (0 : Int32) _) (fun r11 m12 hl13 hm14 => ?_)
      refine s_if_eq (tgt := 51) hF dX12_stepHere_46 rfl (fun c15 => ?_) (fun c15 => ?_)
      · refine s_aload_n hF dX12_stepHere_51 rfl 0 rfl ?_
        refine s_bipush (v := (23 : Int32)) hF dX12_stepHere_52 kB_23 ?_
        refine s_bipush (v := (9 : Int32)) hF dX12_stepHere_54 kB_9 ?_
        refine s_bipush (v := (16 : Int32)) hF dX12_stepHere_56 kB_16 ?_
        refine s_iconst (v := (5 : Int32)) hF dX12_stepHere_58 kI_5 ?_
        refine s_iconst (v := (0 : Int32)) hF dX12_stepHere_59 kI_0 ?_
        refine s_iconst (v := (0 : Int32)) hF dX12_stepHere_60 kI_0 ?_
        refine s_cVi (st := []) (ci := 12) [.int (23 : Int32), .int (9 : Int32), .int (16 : Int32), .int (5 : Int32), .int (0 : Int32), .int (0 : Int32)] hF hD.dr dX12_stepHere_61 cwX12_143 (Nat.le_of_ble_eq_true rfl) (Nat.le_of_ble_eq_true rfl) rfl rfl (Nat.le_of_ble_eq_true rfl) (isK.mo (isK.mo (isK.mo f0 hm4) hm9) hm14) rfl rfl (Nat.le_of_ble_eq_true rfl) (ctX12_isWord l0 (23 : Int32) (9 : Int32) (16 : Int32) (5 : Int32) (0 : Int32) (0 : Int32) _) (fun r16 m17 hl18 hm19 => ?_)
        refine s_if_eq (tgt := 69) hF dX12_stepHere_64 rfl (fun c20 => ?_) (fun c20 => ?_)
        · refine s_aload_n hF dX12_stepHere_69 rfl 0 rfl ?_
          refine s_bipush (v := (20 : Int32)) hF dX12_stepHere_70 kB_20 ?_
          refine s_iconst (v := (5 : Int32)) hF dX12_stepHere_72 kI_5 ?_
          refine s_iconst (v := (1 : Int32)) hF dX12_stepHere_73 kI_1 ?_
          refine s_bipush (v := (18 : Int32)) hF dX12_stepHere_74 kB_18 ?_
          refine s_iconst (v := (0 : Int32)) hF dX12_stepHere_76 kI_0 ?_
          refine s_iconst (v := (0 : Int32)) hF dX12_stepHere_77 kI_0 ?_
          refine s_cVi (st := []) (ci := 12) [.int (20 : Int32), .int (5 : Int32), .int (1 : Int32), .int (18 : Int32), .int (0 : Int32), .int (0 : Int32)] hF hD.dr dX12_stepHere_78 cwX12_143 (Nat.le_of_ble_eq_true rfl) (Nat.le_of_ble_eq_true rfl) rfl rfl (Nat.le_of_ble_eq_true rfl) (isK.mo (isK.mo (isK.mo (isK.mo f0 hm4) hm9) hm14) hm19) rfl rfl (Nat.le_of_ble_eq_true rfl) (ctX12_isWord l0 (20 : Int32) (5 : Int32) (1 : Int32) (18 : Int32) (0 : Int32) (0 : Int32) _) (fun r21 m22 hl23 hm24 => ?_)
          refine s_if_eq (tgt := 86) hF dX12_stepHere_81 rfl (fun c25 => ?_) (fun c25 => ?_)
          · refine s_aload_n hF dX12_stepHere_86 rfl 0 rfl ?_
            refine s_bipush (v := (12 : Int32)) hF dX12_stepHere_87 kB_12 ?_
            refine s_iconst (v := (1 : Int32)) hF dX12_stepHere_89 kI_1 ?_
            refine s_bipush (v := (25 : Int32)) hF dX12_stepHere_90 kB_25 ?_
            refine s_iconst (v := (0 : Int32)) hF dX12_stepHere_92 kI_0 ?_
            refine s_iconst (v := (0 : Int32)) hF dX12_stepHere_93 kI_0 ?_
            refine s_iconst (v := (0 : Int32)) hF dX12_stepHere_94 kI_0 ?_
            refine s_cVi (st := []) (ci := 12) [.int (12 : Int32), .int (1 : Int32), .int (25 : Int32), .int (0 : Int32), .int (0 : Int32), .int (0 : Int32)] hF hD.dr dX12_stepHere_95 cwX12_143 (Nat.le_of_ble_eq_true rfl) (Nat.le_of_ble_eq_true rfl) rfl rfl (Nat.le_of_ble_eq_true rfl) (isK.mo (isK.mo (isK.mo (isK.mo (isK.mo f0 hm4) hm9) hm14) hm19) hm24) rfl rfl (Nat.le_of_ble_eq_true rfl) (ctX12_isWord l0 (12 : Int32) (1 : Int32) (25 : Int32) (0 : Int32) (0 : Int32) (0 : Int32) _) (fun r26 m27 hl28 hm29 => ?_)
            refine s_if_eq (tgt := 103) hF dX12_stepHere_98 rfl (fun c30 => ?_) (fun c30 => ?_)
            · refine s_aload_n hF dX12_stepHere_103 rfl 0 rfl ?_
              refine s_iconst (v := (3 : Int32)) hF dX12_stepHere_104 kI_3 ?_
              refine s_bipush (v := (15 : Int32)) hF dX12_stepHere_105 kB_15 ?_
              refine s_bipush (v := (16 : Int32)) hF dX12_stepHere_107 kB_16 ?_
              refine s_bipush (v := (25 : Int32)) hF dX12_stepHere_109 kB_25 ?_
              refine s_iconst (v := (0 : Int32)) hF dX12_stepHere_111 kI_0 ?_
              refine s_iconst (v := (0 : Int32)) hF dX12_stepHere_112 kI_0 ?_
              refine s_cVi (st := []) (ci := 12) [.int (3 : Int32), .int (15 : Int32), .int (16 : Int32), .int (25 : Int32), .int (0 : Int32), .int (0 : Int32)] hF hD.dr dX12_stepHere_113 cwX12_143 (Nat.le_of_ble_eq_true rfl) (Nat.le_of_ble_eq_true rfl) rfl rfl (Nat.le_of_ble_eq_true rfl) (isK.mo (isK.mo (isK.mo (isK.mo (isK.mo (isK.mo f0 hm4) hm9) hm14) hm19) hm24) hm29) rfl rfl (Nat.le_of_ble_eq_true rfl) (ctX12_isWord l0 (3 : Int32) (15 : Int32) (16 : Int32) (25 : Int32) (0 : Int32) (0 : Int32) _) (fun r31 m32 hl33 hm34 => ?_)
              refine s_if_eq (tgt := 122) hF dX12_stepHere_116 rfl (fun c35 => ?_) (fun c35 => ?_)
              · refine s_aload_n hF dX12_stepHere_122 rfl 0 rfl ?_
                refine s_bipush (v := (20 : Int32)) hF dX12_stepHere_123 kB_20 ?_
                refine s_bipush (v := (21 : Int32)) hF dX12_stepHere_125 kB_21 ?_
                refine s_bipush (v := (14 : Int32)) hF dX12_stepHere_127 kB_14 ?_
                refine s_iconst (v := (5 : Int32)) hF dX12_stepHere_129 kI_5 ?_
                refine s_iconst (v := (0 : Int32)) hF dX12_stepHere_130 kI_0 ?_
                refine s_iconst (v := (0 : Int32)) hF dX12_stepHere_131 kI_0 ?_
                refine s_cVi (st := []) (ci := 12) [.int (20 : Int32), .int (21 : Int32), .int (14 : Int32), .int (5 : Int32), .int (0 : Int32), .int (0 : Int32)] hF hD.dr dX12_stepHere_132 cwX12_143 (Nat.le_of_ble_eq_true rfl) (Nat.le_of_ble_eq_true rfl) rfl rfl (Nat.le_of_ble_eq_true rfl) (isK.mo (isK.mo (isK.mo (isK.mo (isK.mo (isK.mo (isK.mo f0 hm4) hm9) hm14) hm19) hm24) hm29) hm34) rfl rfl (Nat.le_of_ble_eq_true rfl) (ctX12_isWord l0 (20 : Int32) (21 : Int32) (14 : Int32) (5 : Int32) (0 : Int32) (0 : Int32) _) (fun r36 m37 hl38 hm39 => ?_)
                refine s_if_eq (tgt := 141) hF dX12_stepHere_135 rfl (fun c40 => ?_) (fun c40 => ?_)
                · refine s_aload_n hF dX12_stepHere_141 rfl 0 rfl ?_
                  refine s_iconst (v := (4 : Int32)) hF dX12_stepHere_142 kI_4 ?_
                  refine s_iconst (v := (1 : Int32)) hF dX12_stepHere_143 kI_1 ?_
                  refine s_bipush (v := (25 : Int32)) hF dX12_stepHere_144 kB_25 ?_
                  refine s_iconst (v := (0 : Int32)) hF dX12_stepHere_146 kI_0 ?_
                  refine s_iconst (v := (0 : Int32)) hF dX12_stepHere_147 kI_0 ?_
                  refine s_iconst (v := (0 : Int32)) hF dX12_stepHere_148 kI_0 ?_
                  refine s_cVi (st := []) (ci := 12) [.int (4 : Int32), .int (1 : Int32), .int (25 : Int32), .int (0 : Int32), .int (0 : Int32), .int (0 : Int32)] hF hD.dr dX12_stepHere_149 cwX12_143 (Nat.le_of_ble_eq_true rfl) (Nat.le_of_ble_eq_true rfl) rfl rfl (Nat.le_of_ble_eq_true rfl) (isK.mo (isK.mo (isK.mo (isK.mo (isK.mo (isK.mo (isK.mo (isK.mo f0 hm4) hm9) hm14) hm19) hm24) hm29) hm34) hm39) rfl rfl (Nat.le_of_ble_eq_true rfl) (ctX12_isWord l0 (4 : Int32) (1 : Int32) (25 : Int32) (0 : Int32) (0 : Int32) (0 : Int32) _) (fun r41 m42 hl43 hm44 => ?_)
                  refine s_if_eq (tgt := 158) hF dX12_stepHere_152 rfl (fun c45 => ?_) (fun c45 => ?_)
                  · refine s_aload_n hF dX12_stepHere_158 rfl 0 rfl ?_
                    refine s_iconst (v := (1 : Int32)) hF dX12_stepHere_159 kI_1 ?_
                    refine s_bipush (v := (7 : Int32)) hF dX12_stepHere_160 kB_7 ?_
                    refine s_iconst (v := (1 : Int32)) hF dX12_stepHere_162 kI_1 ?_
                    refine s_bipush (v := (9 : Int32)) hF dX12_stepHere_163 kB_9 ?_
                    refine s_bipush (v := (14 : Int32)) hF dX12_stepHere_165 kB_14 ?_
                    refine s_iconst (v := (0 : Int32)) hF dX12_stepHere_167 kI_0 ?_
                    refine s_cVi (st := []) (ci := 12) [.int (1 : Int32), .int (7 : Int32), .int (1 : Int32), .int (9 : Int32), .int (14 : Int32), .int (0 : Int32)] hF hD.dr dX12_stepHere_168 cwX12_143 (Nat.le_of_ble_eq_true rfl) (Nat.le_of_ble_eq_true rfl) rfl rfl (Nat.le_of_ble_eq_true rfl) (isK.mo (isK.mo (isK.mo (isK.mo (isK.mo (isK.mo (isK.mo (isK.mo (isK.mo f0 hm4) hm9) hm14) hm19) hm24) hm29) hm34) hm39) hm44) rfl rfl (Nat.le_of_ble_eq_true rfl) (ctX12_isWord l0 (1 : Int32) (7 : Int32) (1 : Int32) (9 : Int32) (14 : Int32) (0 : Int32) _) (fun r46 m47 hl48 hm49 => ?_)
                    refine s_if_eq (tgt := 179) hF dX12_stepHere_171 rfl (fun c50 => ?_) (fun c50 => ?_)
                    · refine s_iconst (v := (-1 : Int32)) hF dX12_stepHere_179 kI_m1 ?_
                      exact s_iretD hF hD dX12_stepHere_180 rfl
                    · refine s_bipush (v := (9 : Int32)) hF dX12_stepHere_174 kB_9 ?_
                      refine s_goto (tgt := 180) hF dX12_stepHere_176 rfl ?_
                      exact s_iretD hF hD dX12_stepHere_180 rfl
                  · refine s_bipush (v := (8 : Int32)) hF dX12_stepHere_155 kB_8 ?_
                    exact s_iretD hF hD dX12_stepHere_157 rfl
                · refine s_bipush (v := (7 : Int32)) hF dX12_stepHere_138 kB_7 ?_
                  exact s_iretD hF hD dX12_stepHere_140 rfl
              · refine s_bipush (v := (6 : Int32)) hF dX12_stepHere_119 kB_6 ?_
                exact s_iretD hF hD dX12_stepHere_121 rfl
            · refine s_iconst (v := (5 : Int32)) hF dX12_stepHere_101 kI_5 ?_
              exact s_iretD hF hD dX12_stepHere_102 rfl
          · refine s_iconst (v := (4 : Int32)) hF dX12_stepHere_84 kI_4 ?_
            exact s_iretD hF hD dX12_stepHere_85 rfl
        · refine s_iconst (v := (3 : Int32)) hF dX12_stepHere_67 kI_3 ?_
          exact s_iretD hF hD dX12_stepHere_68 rfl
      · refine s_iconst (v := (2 : Int32)) hF dX12_stepHere_49 kI_2 ?_
        exact s_iretD hF hD dX12_stepHere_50 rfl
    · refine s_iconst (v := (1 : Int32)) hF dX12_stepHere_32 kI_1 ?_
      exact s_iretD hF hD dX12_stepHere_33 rfl
  · refine s_iconst (v := (0 : Int32)) hF dX12_stepHere_14 kI_0 ?_
    exact s_iretD hF hD dX12_stepHere_15 rfl
theorem ctX12_penHere  (l0 : Nat) (μ : Mem) : ∀ (r : Int32) (μ' : Mem), LX12_penHere l0 μ = some (r, μ') → CtD yX12_penHere cX12_penHere 1 (some .int) 3 [.ref l0] μ (encI r) μ' := by
  refine ct_enterD plX12 (Nat.le_of_ble_eq_true rfl) (fun F hF hD hI => ?_)
  unfold LX12_penHere
  refine sim_gd (fun f0 => ?_)
  refine s_aload_n hF dX12_penHere_0 rfl 0 rfl ?_
  refine s_iconst (v := (0 : Int32)) hF dX12_penHere_1 kI_0 ?_
  refine s_aload_n hF dX12_penHere_2 rfl 0 rfl ?_
  refine sim_gd (fun g1 => ?_)
  refine s_getR (x := (g_R μ l0 12)) hF dX12_penHere_3 flX12_23 f0 g1 rfl ?_
  refine s_iconst (v := (0 : Int32)) hF dX12_penHere_6 kI_0 ?_
  refine sim_gd (fun g2 => ?_)
  refine s_iaload (x := (g_I μ (g_R μ l0 12) (0 : Int32).toNatClampNeg)) hF dX12_penHere_7 g2 rfl ?_
  refine s_iconst (v := (1 : Int32)) hF dX12_penHere_8 kI_1 ?_
  refine s_isub hF dX12_penHere_9 ?_
  refine s_cVi (st := []) (ci := 12) [.int (0 : Int32), .int ((g_I μ (g_R μ l0 12) (0 : Int32).toNatClampNeg) - (1 : Int32))] hF hD.dr dX12_penHere_10 cwX12_159 (Nat.le_of_ble_eq_true rfl) (Nat.le_of_ble_eq_true rfl) rfl rfl (Nat.le_of_ble_eq_true rfl) f0 rfl rfl (Nat.le_of_ble_eq_true rfl) (ctX12_number l0 (0 : Int32) ((g_I μ (g_R μ l0 12) (0 : Int32).toNatClampNeg) - (1 : Int32)) _) (fun r3 m4 hl5 hm6 => ?_)
  exact s_iretD hF hD dX12_penHere_13 rfl
theorem sX12_numbers_107 {F : Option Fx} (hF : FxO F RX12 cX12_numbers 3 4) (hD : FxDO F none) (l0 : Nat) (l1 : Nat) (l2 : Int32) (μ : Mem) (f0 : isK μ l0 12 = true) (f1 : isK μ l1 15 = true) : Sim F encV 107 [(0, .ref l0), (1, .ref l1), (2, .int l2)] [] μ (mX12_numbers_107 l0 l1 l2 μ) := by
  unfold mX12_numbers_107
  refine s_iload_n hF dX12_numbers_107 rfl 2 rfl ?_
  refine s_bipush (v := (7 : Int32)) hF dX12_numbers_108 kB_7 ?_
  refine s_icmp_ne (tgt := 133) hF dX12_numbers_110 rfl (fun c37 => ?_) (fun c37 => ?_)
  · refine s_aload_n hF dX12_numbers_113 rfl 1 rfl ?_
    refine s_iconst (v := (2 : Int32)) hF dX12_numbers_114 kI_2 ?_
    refine s_aload_n hF dX12_numbers_115 rfl 0 rfl ?_
    refine s_iconst (v := (0 : Int32)) hF dX12_numbers_116 kI_0 ?_
    refine s_bipush (v := (99 : Int32)) hF dX12_numbers_117 kB_99 ?_
    refine s_cVi (st := [.int (2 : Int32), .ref l1]) (ci := 12) [.int (0 : Int32), .int (99 : Int32)] hF hD.dr dX12_numbers_119 cwX12_159 (Nat.le_of_ble_eq_true rfl) (Nat.le_of_ble_eq_true rfl) rfl rfl (Nat.le_of_ble_eq_true rfl) f0 rfl rfl (Nat.le_of_ble_eq_true rfl) (ctX12_number l0 (0 : Int32) (99 : Int32) _) (fun r38 m39 hl40 hm41 => ?_)
    refine sim_gd (fun g42 => ?_)
    refine s_iastore hF dX12_numbers_122 g42 ?_
    refine s_aload_n hF dX12_numbers_123 rfl 1 rfl ?_
    refine s_iconst (v := (3 : Int32)) hF dX12_numbers_124 kI_3 ?_
    refine s_aload_n hF dX12_numbers_125 rfl 0 rfl ?_
    refine s_iconst (v := (0 : Int32)) hF dX12_numbers_126 kI_0 ?_
    refine s_bipush (v := (99 : Int32)) hF dX12_numbers_127 kB_99 ?_
    refine s_cVi (st := [.int (3 : Int32), .ref l1]) (ci := 12) [.int (0 : Int32), .int (99 : Int32)] hF hD.dr dX12_numbers_129 cwX12_159 (Nat.le_of_ble_eq_true rfl) (Nat.le_of_ble_eq_true rfl) rfl rfl (Nat.le_of_ble_eq_true rfl) (isK.mo f0 hm41) rfl rfl (Nat.le_of_ble_eq_true rfl) (ctX12_number l0 (0 : Int32) (99 : Int32) _) (fun r43 m44 hl45 hm46 => ?_)
    refine sim_gd (fun g47 => ?_)
    refine s_iastore hF dX12_numbers_132 g47 ?_
    exact s_vretD hF hD dX12_numbers_133 rfl
  · exact s_vretD hF hD dX12_numbers_133 rfl
theorem sX12_numbers_97 {F : Option Fx} (hF : FxO F RX12 cX12_numbers 3 4) (hD : FxDO F none) (l0 : Nat) (l1 : Nat) (l2 : Int32) (μ : Mem) (f0 : isK μ l0 12 = true) (f1 : isK μ l1 15 = true) : Sim F encV 97 [(0, .ref l0), (1, .ref l1), (2, .int l2)] [] μ (mX12_numbers_97 l0 l1 l2 μ) := by
  unfold mX12_numbers_97
  refine s_aload_n hF dX12_numbers_97 rfl 1 rfl ?_
  refine s_iconst (v := (3 : Int32)) hF dX12_numbers_98 kI_3 ?_
  refine s_aload_n hF dX12_numbers_99 rfl 0 rfl ?_
  refine s_iconst (v := (0 : Int32)) hF dX12_numbers_100 kI_0 ?_
  refine s_bipush (v := (24 : Int32)) hF dX12_numbers_101 kB_24 ?_
  refine s_cVi (st := [.int (3 : Int32), .ref l1]) (ci := 12) [.int (0 : Int32), .int (24 : Int32)] hF hD.dr dX12_numbers_103 cwX12_159 (Nat.le_of_ble_eq_true rfl) (Nat.le_of_ble_eq_true rfl) rfl rfl (Nat.le_of_ble_eq_true rfl) f0 rfl rfl (Nat.le_of_ble_eq_true rfl) (ctX12_number l0 (0 : Int32) (24 : Int32) _) (fun r48 m49 hl50 hm51 => ?_)
  refine sim_gd (fun g52 => ?_)
  refine s_iastore hF dX12_numbers_106 g52 ?_
  exact sX12_numbers_107 hF hD l0 l1 l2 _ (isK.mo f0 hm51) (isK.mo f1 hm51)
theorem sX12_numbers_86 {F : Option Fx} (hF : FxO F RX12 cX12_numbers 3 4) (hD : FxDO F none) (l0 : Nat) (l1 : Nat) (l2 : Int32) (μ : Mem) (f0 : isK μ l0 12 = true) (f1 : isK μ l1 15 = true) : Sim F encV 86 [(0, .ref l0), (1, .ref l1), (2, .int l2)] [] μ (mX12_numbers_86 l0 l1 l2 μ) := by
  unfold mX12_numbers_86
  refine s_iload_n hF dX12_numbers_86 rfl 2 rfl ?_
  refine s_iconst (v := (5 : Int32)) hF dX12_numbers_87 kI_5 ?_
  refine s_icmp_eq (tgt := 97) hF dX12_numbers_88 rfl (fun c35 => ?_) (fun c35 => ?_)
  · exact sX12_numbers_97 hF hD l0 l1 l2 _ f0 f1
  · refine s_iload_n hF dX12_numbers_91 rfl 2 rfl ?_
    refine s_bipush (v := (6 : Int32)) hF dX12_numbers_92 kB_6 ?_
    refine s_icmp_ne (tgt := 107) hF dX12_numbers_94 rfl (fun c36 => ?_) (fun c36 => ?_)
    · exact sX12_numbers_97 hF hD l0 l1 l2 _ f0 f1
    · exact sX12_numbers_107 hF hD l0 l1 l2 _ f0 f1
theorem sX12_numbers_71 {F : Option Fx} (hF : FxO F RX12 cX12_numbers 3 4) (hD : FxDO F none) (l0 : Nat) (l1 : Nat) (l2 : Int32) (μ : Mem) (f0 : isK μ l0 12 = true) (f1 : isK μ l1 15 = true) : Sim F encV 71 [(0, .ref l0), (1, .ref l1), (2, .int l2)] [] μ (mX12_numbers_71 l0 l1 l2 μ) := by
  unfold mX12_numbers_71
  refine s_iload_n hF dX12_numbers_71 rfl 2 rfl ?_
  refine s_iconst (v := (5 : Int32)) hF dX12_numbers_72 kI_5 ?_
  refine s_icmp_ne (tgt := 86) hF dX12_numbers_73 rfl (fun c29 => ?_) (fun c29 => ?_)
  · refine s_aload_n hF dX12_numbers_76 rfl 1 rfl ?_
    refine s_iconst (v := (2 : Int32)) hF dX12_numbers_77 kI_2 ?_
    refine s_aload_n hF dX12_numbers_78 rfl 0 rfl ?_
    refine s_iconst (v := (0 : Int32)) hF dX12_numbers_79 kI_0 ?_
    refine s_bipush (v := (24 : Int32)) hF dX12_numbers_80 kB_24 ?_
    refine s_cVi (st := [.int (2 : Int32), .ref l1]) (ci := 12) [.int (0 : Int32), .int (24 : Int32)] hF hD.dr dX12_numbers_82 cwX12_159 (Nat.le_of_ble_eq_true rfl) (Nat.le_of_ble_eq_true rfl) rfl rfl (Nat.le_of_ble_eq_true rfl) f0 rfl rfl (Nat.le_of_ble_eq_true rfl) (ctX12_number l0 (0 : Int32) (24 : Int32) _) (fun r30 m31 hl32 hm33 => ?_)
    refine sim_gd (fun g34 => ?_)
    refine s_iastore hF dX12_numbers_85 g34 ?_
    exact sX12_numbers_86 hF hD l0 l1 l2 _ (isK.mo f0 hm33) (isK.mo f1 hm33)
  · exact sX12_numbers_86 hF hD l0 l1 l2 _ f0 f1
theorem sX12_numbers_58 {F : Option Fx} (hF : FxO F RX12 cX12_numbers 3 4) (hD : FxDO F none) (l0 : Nat) (l1 : Nat) (l2 : Int32) (μ : Mem) (f0 : isK μ l0 12 = true) (f1 : isK μ l1 15 = true) : Sim F encV 58 [(0, .ref l0), (1, .ref l1), (2, .int l2)] [] μ (mX12_numbers_58 l0 l1 l2 μ) := by
  unfold mX12_numbers_58
  refine s_iload_n hF dX12_numbers_58 rfl 2 rfl ?_
  refine s_bipush (v := (6 : Int32)) hF dX12_numbers_59 kB_6 ?_
  refine s_icmp_ne (tgt := 71) hF dX12_numbers_61 rfl (fun c23 => ?_) (fun c23 => ?_)
  · refine s_aload_n hF dX12_numbers_64 rfl 1 rfl ?_
    refine s_iconst (v := (2 : Int32)) hF dX12_numbers_65 kI_2 ?_
    refine s_aload_n hF dX12_numbers_66 rfl 0 rfl ?_
    refine s_cVi (st := [.int (2 : Int32), .ref l1]) (ci := 12) [] hF hD.dr dX12_numbers_67 cwX12_244 (Nat.le_of_ble_eq_true rfl) (Nat.le_of_ble_eq_true rfl) rfl rfl (Nat.le_of_ble_eq_true rfl) f0 rfl rfl (Nat.le_of_ble_eq_true rfl) (ctX12_penHere l0 _) (fun r24 m25 hl26 hm27 => ?_)
    refine sim_gd (fun g28 => ?_)
    refine s_iastore hF dX12_numbers_70 g28 ?_
    exact sX12_numbers_71 hF hD l0 l1 l2 _ (isK.mo f0 hm27) (isK.mo f1 hm27)
  · exact sX12_numbers_71 hF hD l0 l1 l2 _ f0 f1
theorem sX12_numbers_43 {F : Option Fx} (hF : FxO F RX12 cX12_numbers 3 4) (hD : FxDO F none) (l0 : Nat) (l1 : Nat) (l2 : Int32) (μ : Mem) (f0 : isK μ l0 12 = true) (f1 : isK μ l1 15 = true) : Sim F encV 43 [(0, .ref l0), (1, .ref l1), (2, .int l2)] [] μ (mX12_numbers_43 l0 l1 l2 μ) := by
  unfold mX12_numbers_43
  refine s_iload_n hF dX12_numbers_43 rfl 2 rfl ?_
  refine s_iconst (v := (2 : Int32)) hF dX12_numbers_44 kI_2 ?_
  refine s_icmp_ge (tgt := 58) hF dX12_numbers_45 rfl (fun c17 => ?_) (fun c17 => ?_)
  · exact sX12_numbers_58 hF hD l0 l1 l2 _ f0 f1
  · refine s_aload_n hF dX12_numbers_48 rfl 1 rfl ?_
    refine s_iconst (v := (2 : Int32)) hF dX12_numbers_49 kI_2 ?_
    refine s_aload_n hF dX12_numbers_50 rfl 0 rfl ?_
    refine s_iconst (v := (0 : Int32)) hF dX12_numbers_51 kI_0 ?_
    refine s_ldc (v := (99999999 : Int32)) hF dX12_numbers_52 cwX12_247 ?_
    refine s_cVi (st := [.int (2 : Int32), .ref l1]) (ci := 12) [.int (0 : Int32), .int (99999999 : Int32)] hF hD.dr dX12_numbers_54 cwX12_159 (Nat.le_of_ble_eq_true rfl) (Nat.le_of_ble_eq_true rfl) rfl rfl (Nat.le_of_ble_eq_true rfl) f0 rfl rfl (Nat.le_of_ble_eq_true rfl) (ctX12_number l0 (0 : Int32) (99999999 : Int32) _) (fun r18 m19 hl20 hm21 => ?_)
    refine sim_gd (fun g22 => ?_)
    refine s_iastore hF dX12_numbers_57 g22 ?_
    exact sX12_numbers_58 hF hD l0 l1 l2 _ (isK.mo f0 hm21) (isK.mo f1 hm21)
theorem sX12_numbers_25 {F : Option Fx} (hF : FxO F RX12 cX12_numbers 3 4) (hD : FxDO F none) (l0 : Nat) (l1 : Nat) (l2 : Int32) (μ : Mem) (f0 : isK μ l0 12 = true) (f1 : isK μ l1 15 = true) : Sim F encV 25 [(0, .ref l0), (1, .ref l1), (2, .int l2)] [] μ (mX12_numbers_25 l0 l1 l2 μ) := by
  unfold mX12_numbers_25
  refine s_iload_n hF dX12_numbers_25 rfl 2 rfl ?_
  refine s_iconst (v := (2 : Int32)) hF dX12_numbers_26 kI_2 ?_
  refine s_icmp_eq (tgt := 43) hF dX12_numbers_27 rfl (fun c10 => ?_) (fun c10 => ?_)
  · exact sX12_numbers_43 hF hD l0 l1 l2 _ f0 f1
  · refine s_iload_n hF dX12_numbers_30 rfl 2 rfl ?_
    refine s_bipush (v := (8 : Int32)) hF dX12_numbers_31 kB_8 ?_
    refine s_icmp_ge (tgt := 43) hF dX12_numbers_33 rfl (fun c11 => ?_) (fun c11 => ?_)
    · exact sX12_numbers_43 hF hD l0 l1 l2 _ f0 f1
    · refine s_aload_n hF dX12_numbers_36 rfl 1 rfl ?_
      refine s_iconst (v := (1 : Int32)) hF dX12_numbers_37 kI_1 ?_
      refine s_aload_n hF dX12_numbers_38 rfl 0 rfl ?_
      refine s_cVi (st := [.int (1 : Int32), .ref l1]) (ci := 12) [] hF hD.dr dX12_numbers_39 cwX12_244 (Nat.le_of_ble_eq_true rfl) (Nat.le_of_ble_eq_true rfl) rfl rfl (Nat.le_of_ble_eq_true rfl) f0 rfl rfl (Nat.le_of_ble_eq_true rfl) (ctX12_penHere l0 _) (fun r12 m13 hl14 hm15 => ?_)
      refine sim_gd (fun g16 => ?_)
      refine s_iastore hF dX12_numbers_42 g16 ?_
      exact sX12_numbers_43 hF hD l0 l1 l2 _ (isK.mo f0 hm15) (isK.mo f1 hm15)
theorem ctX12_numbers  (l0 : Nat) (l1 : Nat) (μ : Mem) : ∀ (r : Unit) (μ' : Mem), LX12_numbers l0 l1 μ = some (r, μ') → CtD yX12_numbers cX12_numbers 3 none 4 [.ref l0, .ref l1] μ (encV r) μ' := by
  refine ct_enterD plX12 (Nat.le_of_ble_eq_true rfl) (fun F hF hD hI => ?_)
  unfold LX12_numbers
  refine sim_gd (fun f0 => ?_)
  refine sim_gd (fun f1 => ?_)
  refine s_aload_n hF dX12_numbers_0 rfl 1 rfl ?_
  refine s_iconst (v := (0 : Int32)) hF dX12_numbers_1 kI_0 ?_
  refine sim_gd (fun g1 => ?_)
  refine s_iaload (x := (g_I μ l1 (0 : Int32).toNatClampNeg)) hF dX12_numbers_2 g1 rfl ?_
  refine s_istore_n (pls' := [(2, .int (g_I μ l1 (0 : Int32).toNatClampNeg)), (0, .ref l0), (1, .ref l1)]) hF dX12_numbers_3 rfl (by decide) rfl ?_
  refine s_iload_n hF dX12_numbers_4 rfl 0 rfl ?_
  refine s_iconst (v := (2 : Int32)) hF dX12_numbers_5 kI_2 ?_
  refine s_icmp_ne (tgt := 25) hF dX12_numbers_6 rfl (fun c2 => ?_) (fun c2 => ?_)
  · refine s_aload_n hF dX12_numbers_9 rfl 2 rfl ?_
    refine s_iconst (v := (1 : Int32)) hF dX12_numbers_10 kI_1 ?_
    refine s_aload_n hF dX12_numbers_11 rfl 1 rfl ?_
    refine s_iconst (v := (0 : Int32)) hF dX12_numbers_12 kI_0 ?_
    refine s_aload_n hF dX12_numbers_13 rfl 1 rfl ?_
    refine sim_gd (fun g3 => ?_)
    refine s_getR (x := (g_R μ l0 12)) hF dX12_numbers_14 flX12_23 f0 g3 rfl ?_
    refine s_iconst (v := (1 : Int32)) hF dX12_numbers_17 kI_1 ?_
    refine sim_gd (fun g4 => ?_)
    refine s_iaload (x := (g_I μ (g_R μ l0 12) (1 : Int32).toNatClampNeg)) hF dX12_numbers_18 g4 rfl ?_
    refine s_iconst (v := (1 : Int32)) hF dX12_numbers_19 kI_1 ?_
    refine s_isub hF dX12_numbers_20 ?_
    refine s_cVi (st := [.int (1 : Int32), .ref l1]) (ci := 12) [.int (0 : Int32), .int ((g_I μ (g_R μ l0 12) (1 : Int32).toNatClampNeg) - (1 : Int32))] hF hD.dr dX12_numbers_21 cwX12_159 (Nat.le_of_ble_eq_true rfl) (Nat.le_of_ble_eq_true rfl) rfl rfl (Nat.le_of_ble_eq_true rfl) f0 rfl rfl (Nat.le_of_ble_eq_true rfl) (ctX12_number l0 (0 : Int32) ((g_I μ (g_R μ l0 12) (1 : Int32).toNatClampNeg) - (1 : Int32)) _) (fun r5 m6 hl7 hm8 => ?_)
    refine sim_gd (fun g9 => ?_)
    refine s_iastore hF dX12_numbers_24 g9 ?_
    refine s_sub [1, 2, 0] rfl ?_
    exact sX12_numbers_25 hF hD l0 l1 (g_I μ l1 (0 : Int32).toNatClampNeg) _ (isK.mo f0 hm8) (isK.mo f1 hm8)
  · refine s_sub [1, 2, 0] rfl ?_
    exact sX12_numbers_25 hF hD l0 l1 (g_I μ l1 (0 : Int32).toNatClampNeg) _ f0 f1
theorem sX12_readsStep_147 {F : Option Fx} {rec : Nat → Mem → Option (Unit × Mem)} {w : Nat} (hB : 5 ≤ w) (hrec : ∀ (l0 : Nat) (μ : Mem) (r : Unit) (μ' : Mem), rec l0 μ = some (r, μ') → CtD yX12_readsStep cX12_readsStep 3 none w [.ref l0] μ (encV r) μ') (hF : FxO F RX12 cX12_readsStep 3 (w + 1)) (hD : FxDO F none) (l0 : Nat) (l2 : Nat) (μ : Mem) (f0 : isK μ l0 12 = true) (f2 : isK μ l2 15 = true) : Sim F encV 147 [(0, .ref l0), (2, .ref l2)] [] μ (mX12_readsStep_147 rec l0 l2 μ) := by
  unfold mX12_readsStep_147
  refine s_aload_n hF dX12_readsStep_147 rfl 1 rfl ?_
  refine s_iconst (v := (4 : Int32)) hF dX12_readsStep_148 kI_4 ?_
  refine s_aload_n hF dX12_readsStep_149 rfl 0 rfl ?_
  refine s_getI (x := (g_I μ l0 28)) hF dX12_readsStep_150 flX12_251 f0 rfl ?_
  refine sim_gd (fun g44 => ?_)
  refine s_iastore hF dX12_readsStep_153 g44 ?_
  refine s_aload_n hF dX12_readsStep_154 rfl 0 rfl ?_
  refine s_bipush (v := (59 : Int32)) hF dX12_readsStep_155 kB_59 ?_
  refine s_cVv (st := []) (ci := 12) [.int (59 : Int32)] hF hD.dr dX12_readsStep_157 cwX12_163 (by omega) (Nat.le_of_ble_eq_true rfl) rfl rfl (Nat.le_of_ble_eq_true rfl) f0 rfl rfl (Nat.le_of_ble_eq_true rfl) (ctX12_sign l0 (59 : Int32) _) (fun r45 m46 hl47 hm48 => ?_)
  exact s_vretD hF hD dX12_readsStep_160 rfl
theorem sX12_readsStep_131 {F : Option Fx} {rec : Nat → Mem → Option (Unit × Mem)} {w : Nat} (hB : 5 ≤ w) (hrec : ∀ (l0 : Nat) (μ : Mem) (r : Unit) (μ' : Mem), rec l0 μ = some (r, μ') → CtD yX12_readsStep cX12_readsStep 3 none w [.ref l0] μ (encV r) μ') (hF : FxO F RX12 cX12_readsStep 3 (w + 1)) (hD : FxDO F none) (l0 : Nat) (l2 : Nat) (μ : Mem) (f0 : isK μ l0 12 = true) (f2 : isK μ l2 15 = true) : Sim F encV 131 [(0, .ref l0), (2, .ref l2)] [] μ (mX12_readsStep_131 rec l0 l2 μ) := by
  unfold mX12_readsStep_131
  refine s_aload_n hF dX12_readsStep_131 rfl 0 rfl ?_
  refine s_bipush (v := (93 : Int32)) hF dX12_readsStep_132 kB_93 ?_
  refine s_cVv (st := []) (ci := 12) [.int (93 : Int32)] hF hD.dr dX12_readsStep_134 cwX12_163 (by omega) (Nat.le_of_ble_eq_true rfl) rfl rfl (Nat.le_of_ble_eq_true rfl) f0 rfl rfl (Nat.le_of_ble_eq_true rfl) (ctX12_sign l0 (93 : Int32) _) (fun r63 m64 hl65 hm66 => ?_)
  refine s_aload_n hF dX12_readsStep_137 rfl 0 rfl ?_
  refine s_dup hF dX12_readsStep_138 rfl ?_
  refine s_getI (x := (g_I m64 l0 8)) hF dX12_readsStep_139 flX12_153 (isK.mo f0 hm66) rfl ?_
  refine s_iconst (v := (1 : Int32)) hF dX12_readsStep_142 kI_1 ?_
  refine s_isub hF dX12_readsStep_143 ?_
  refine s_putI hF dX12_readsStep_144 flX12_153 (isK.mo f0 hm66) ?_
  exact sX12_readsStep_147 hB hrec hF hD l0 l2 _ (isK.mo f0 hm66) (isK.mo f2 hm66)
theorem sX12_readsStep_100 {F : Option Fx} {rec : Nat → Mem → Option (Unit × Mem)} {w : Nat} (hB : 5 ≤ w) (hrec : ∀ (l0 : Nat) (μ : Mem) (r : Unit) (μ' : Mem), rec l0 μ = some (r, μ') → CtD yX12_readsStep cX12_readsStep 3 none w [.ref l0] μ (encV r) μ') (hF : FxO F RX12 cX12_readsStep 3 (w + 1)) (hD : FxDO F none) : ∀ (fu : Nat) (l0 : Nat) (l2 : Nat) (μ : Mem) (f0 : isK μ l0 12 = true) (f2 : isK μ l2 15 = true), Sim F encV 100 [(0, .ref l0), (2, .ref l2)] [] μ (mX12_readsStep_100 rec fu l0 l2 μ) := by
  intro fu
  induction fu with
  | zero =>
    intro l0 l2 μ f0 f2
    exact sim_none
  | succ fu ih =>
    intro l0 l2 μ f0 f2
    rw [mX12_readsStep_100]
    refine s_aload_n hF dX12_readsStep_100 rfl 0 rfl ?_
    refine s_getI (x := (g_I μ l0 5)) hF dX12_readsStep_101 flX12_110 f0 rfl ?_
    refine s_if_ne (tgt := 131) hF dX12_readsStep_104 rfl (fun c49 => ?_) (fun c49 => ?_)
    · refine s_aload_n hF dX12_readsStep_107 rfl 0 rfl ?_
      refine s_aload_n hF dX12_readsStep_108 rfl 0 rfl ?_
      refine s_getI (x := (g_I μ l0 4)) hF dX12_readsStep_109 flX12_103 f0 rfl ?_
      refine s_cVi (st := []) (ci := 12) [.int (g_I μ l0 4)] hF hD.dr dX12_readsStep_112 cwX12_106 (by omega) (Nat.le_of_ble_eq_true rfl) rfl rfl (Nat.le_of_ble_eq_true rfl) f0 rfl rfl (Nat.le_of_ble_eq_true rfl) (ctX12_byteAt l0 (g_I μ l0 4) _) (fun r50 m51 hl52 hm53 => ?_)
      refine s_bipush (v := (93 : Int32)) hF dX12_readsStep_115 kB_93 ?_
      refine s_icmp_eq (tgt := 131) hF dX12_readsStep_117 rfl (fun c54 => ?_) (fun c54 => ?_)
      · exact sX12_readsStep_131 hB hrec hF hD l0 l2 _ (isK.mo f0 hm53) (isK.mo f2 hm53)
      · refine s_aload_n hF dX12_readsStep_120 rfl 0 rfl ?_
        refine s_cVv (st := []) (ci := 12) [] hF hD.dr dX12_readsStep_121 cwX12_258 (by omega) (Nat.le_of_ble_eq_true rfl) rfl rfl (Nat.le_of_ble_eq_true rfl) (isK.mo f0 hm53) rfl rfl (Nat.le_of_ble_eq_true rfl) (hrec l0 _) (fun r55 m56 hl57 hm58 => ?_)
        refine s_aload_n hF dX12_readsStep_124 rfl 0 rfl ?_
        refine s_cVv (st := []) (ci := 12) [] hF hD.dr dX12_readsStep_125 cwX12_116 (by omega) (Nat.le_of_ble_eq_true rfl) rfl rfl (Nat.le_of_ble_eq_true rfl) (isK.mo (isK.mo f0 hm53) hm58) rfl rfl (Nat.le_of_ble_eq_true rfl) (ctX12_blanks l0 _) (fun r59 m60 hl61 hm62 => ?_)
        refine s_goto (tgt := 100) hF dX12_readsStep_128 rfl ?_
        exact ih l0 l2 _ (isK.mo (isK.mo (isK.mo f0 hm53) hm58) hm62) (isK.mo (isK.mo (isK.mo f2 hm53) hm58) hm62)
    · exact sX12_readsStep_131 hB hrec hF hD l0 l2 _ f0 f2
theorem sX12_readsStep_33 {F : Option Fx} {rec : Nat → Mem → Option (Unit × Mem)} {w : Nat} (hB : 5 ≤ w) (hrec : ∀ (l0 : Nat) (μ : Mem) (r : Unit) (μ' : Mem), rec l0 μ = some (r, μ') → CtD yX12_readsStep cX12_readsStep 3 none w [.ref l0] μ (encV r) μ') (hF : FxO F RX12 cX12_readsStep 3 (w + 1)) (hD : FxDO F none) (l0 : Nat) (l1 : Int32) (μ : Mem) (f0 : isK μ l0 12 = true) : Sim F encV 33 [(0, .ref l0), (1, .int l1)] [] μ (mX12_readsStep_33 rec l0 l1 μ) := by
  unfold mX12_readsStep_33
  refine s_aload_n hF dX12_readsStep_33 rfl 0 rfl ?_
  refine s_getI (x := (g_I μ l0 5)) hF dX12_readsStep_34 flX12_110 f0 rfl ?_
  refine s_if_eq (tgt := 41) hF dX12_readsStep_37 rfl (fun c16 => ?_) (fun c16 => ?_)
  · refine s_aload_n hF dX12_readsStep_41 rfl 0 rfl ?_
    refine s_cVv (st := []) (ci := 12) [] hF hD.dr dX12_readsStep_42 cwX12_147 (by omega) (Nat.le_of_ble_eq_true rfl) rfl rfl (Nat.le_of_ble_eq_true rfl) f0 rfl rfl (Nat.le_of_ble_eq_true rfl) (ctX12_skipWord l0 _) (fun r17 m18 hl19 hm20 => ?_)
    refine s_aload_n hF dX12_readsStep_45 rfl 0 rfl ?_
    refine sim_gd (fun g21 => ?_)
    refine s_getR (x := (g_R m18 l0 27)) hF dX12_readsStep_46 flX12_64 (isK.mo f0 hm20) g21 rfl ?_
    refine s_aload_n hF dX12_readsStep_49 rfl 0 rfl ?_
    refine s_getI (x := (g_I m18 l0 28)) hF dX12_readsStep_50 flX12_251 (isK.mo f0 hm20) rfl ?_
    refine sim_gd (fun g22 => ?_)
    refine sim_gd (fun g23 => ?_)
    refine s_aaload (x := (g_R m18 (g_R m18 l0 27) (g_I m18 l0 28).toNatClampNeg)) hF dX12_readsStep_53 (by decide) (by decide) g22 g23 rfl ?_
    refine sim_gd (fun g24 => ?_)
    refine s_astore_n (pls' := [(2, .ref (g_R m18 (g_R m18 l0 27) (g_I m18 l0 28).toNatClampNeg)), (0, .ref l0), (1, .int l1)]) hF dX12_readsStep_54 rfl (by decide) rfl ?_
    refine s_aload_n hF dX12_readsStep_55 rfl 1 rfl ?_
    refine s_dup hF dX12_readsStep_56 rfl ?_
    refine s_getI (x := (g_I m18 l0 28)) hF dX12_readsStep_57 flX12_251 (isK.mo f0 hm20) rfl ?_
    refine s_iconst (v := (1 : Int32)) hF dX12_readsStep_60 kI_1 ?_
    refine s_iadd hF dX12_readsStep_61 ?_
    refine s_putI hF dX12_readsStep_62 flX12_251 (isK.mo f0 hm20) ?_
    refine s_aload_n hF dX12_readsStep_65 rfl 0 rfl ?_
    refine s_iconst (v := (0 : Int32)) hF dX12_readsStep_66 kI_0 ?_
    refine s_iload_n hF dX12_readsStep_67 rfl 2 rfl ?_
    refine sim_gd (fun g25 => ?_)
    refine s_iastore hF dX12_readsStep_68 g25 ?_
    refine s_aload_n hF dX12_readsStep_69 rfl 1 rfl ?_
    refine s_aload_n hF dX12_readsStep_70 rfl 0 rfl ?_
    refine s_cVv (st := []) (ci := 12) [.ref (g_R m18 (g_R m18 l0 27) (g_I m18 l0 28).toNatClampNeg)] hF hD.dr dX12_readsStep_71 cwX12_254 (by omega) (Nat.le_of_ble_eq_true rfl) rfl rfl (Nat.le_of_ble_eq_true rfl) (isK.mo f0 hm20) rfl rfl (Nat.le_of_ble_eq_true rfl) (ctX12_numbers l0 (g_R m18 (g_R m18 l0 27) (g_I m18 l0 28).toNatClampNeg) _) (fun r26 m27 hl28 hm29 => ?_)
    refine s_iload_n hF dX12_readsStep_74 rfl 2 rfl ?_
    refine s_bipush (v := (9 : Int32)) hF dX12_readsStep_75 kB_9 ?_
    refine s_icmp_ne (tgt := 147) hF dX12_readsStep_77 rfl (fun c30 => ?_) (fun c30 => ?_)
    · refine s_aload_n hF dX12_readsStep_80 rfl 0 rfl ?_
      refine s_iconst (v := (1 : Int32)) hF dX12_readsStep_81 kI_1 ?_
      refine s_aload_n hF dX12_readsStep_82 rfl 1 rfl ?_
      refine s_iconst (v := (0 : Int32)) hF dX12_readsStep_83 kI_0 ?_
      refine s_bipush (v := (60 : Int32)) hF dX12_readsStep_84 kB_60 ?_
      refine s_cVi (st := [.int (1 : Int32), .ref (g_R m18 (g_R m18 l0 27) (g_I m18 l0 28).toNatClampNeg)]) (ci := 12) [.int (0 : Int32), .int (60 : Int32)] hF hD.dr dX12_readsStep_86 cwX12_159 (by omega) (Nat.le_of_ble_eq_true rfl) rfl rfl (Nat.le_of_ble_eq_true rfl) (isK.mo (isK.mo f0 hm20) hm29) rfl rfl (Nat.le_of_ble_eq_true rfl) (ctX12_number l0 (0 : Int32) (60 : Int32) _) (fun r31 m32 hl33 hm34 => ?_)
      refine sim_gd (fun g35 => ?_)
      refine s_iastore hF dX12_readsStep_89 g35 ?_
      refine s_aload_n hF dX12_readsStep_90 rfl 1 rfl ?_
      refine s_bipush (v := (91 : Int32)) hF dX12_readsStep_91 kB_91 ?_
      refine s_cVv (st := []) (ci := 12) [.int (91 : Int32)] hF hD.dr dX12_readsStep_93 cwX12_163 (by omega) (Nat.le_of_ble_eq_true rfl) rfl rfl (Nat.le_of_ble_eq_true rfl) (isK.mo (isK.mo (isK.mo f0 hm20) hm29) hm34) rfl rfl (Nat.le_of_ble_eq_true rfl) (ctX12_sign l0 (91 : Int32) _) (fun r36 m37 hl38 hm39 => ?_)
      refine s_aload_n hF dX12_readsStep_96 rfl 1 rfl ?_
      refine s_cVv (st := []) (ci := 12) [] hF hD.dr dX12_readsStep_97 cwX12_116 (by omega) (Nat.le_of_ble_eq_true rfl) rfl rfl (Nat.le_of_ble_eq_true rfl) (isK.mo (isK.mo (isK.mo (isK.mo f0 hm20) hm29) hm34) hm39) rfl rfl (Nat.le_of_ble_eq_true rfl) (ctX12_blanks l0 _) (fun r40 m41 hl42 hm43 => ?_)
      refine s_sub [1, 0] rfl ?_
      exact sX12_readsStep_100 hB hrec hF hD 100000 l0 (g_R m18 (g_R m18 l0 27) (g_I m18 l0 28).toNatClampNeg) _ (isK.mo (isK.mo (isK.mo (isK.mo (isK.mo f0 hm20) hm29) hm34) hm39) hm43) (isK.mo (isK.mo (isK.mo (isK.mo g24 hm29) hm34) hm39) hm43)
    · refine s_sub [1, 0] rfl ?_
      exact sX12_readsStep_147 hB hrec hF hD l0 (g_R m18 (g_R m18 l0 27) (g_I m18 l0 28).toNatClampNeg) _ (isK.mo (isK.mo f0 hm20) hm29) (isK.mo g24 hm29)
  · exact s_vretD hF hD dX12_readsStep_40 rfl
theorem sX12_readsStep_19 {F : Option Fx} {rec : Nat → Mem → Option (Unit × Mem)} {w : Nat} (hB : 5 ≤ w) (hrec : ∀ (l0 : Nat) (μ : Mem) (r : Unit) (μ' : Mem), rec l0 μ = some (r, μ') → CtD yX12_readsStep cX12_readsStep 3 none w [.ref l0] μ (encV r) μ') (hF : FxO F RX12 cX12_readsStep 3 (w + 1)) (hD : FxDO F none) (l0 : Nat) (l1 : Int32) (μ : Mem) (f0 : isK μ l0 12 = true) : Sim F encV 19 [(0, .ref l0), (1, .int l1)] [] μ (mX12_readsStep_19 rec l0 l1 μ) := by
  unfold mX12_readsStep_19
  refine s_iload_n hF dX12_readsStep_19 rfl 1 rfl ?_
  refine s_bipush (v := (9 : Int32)) hF dX12_readsStep_20 kB_9 ?_
  refine s_icmp_ne (tgt := 33) hF dX12_readsStep_22 rfl (fun c10 => ?_) (fun c10 => ?_)
  · refine s_aload_n hF dX12_readsStep_25 rfl 0 rfl ?_
    refine s_cVi (st := []) (ci := 12) [] hF hD.dr dX12_readsStep_26 cwX12_224 (by omega) (Nat.le_of_ble_eq_true rfl) rfl rfl (Nat.le_of_ble_eq_true rfl) f0 rfl rfl (Nat.le_of_ble_eq_true rfl) (ctX12_opensOne l0 _) (fun r11 m12 hl13 hm14 => ?_)
    refine s_if_ne (tgt := 33) hF dX12_readsStep_29 rfl (fun c15 => ?_) (fun c15 => ?_)
    · exact s_vretD hF hD dX12_readsStep_32 rfl
    · exact sX12_readsStep_33 hB hrec hF hD l0 l1 _ (isK.mo f0 hm14)
  · exact sX12_readsStep_33 hB hrec hF hD l0 l1 _ f0
theorem ctX12_readsStep_b {rec : Nat → Mem → Option (Unit × Mem)} {w : Nat} (hB : 5 ≤ w) (hrec : ∀ (l0 : Nat) (μ : Mem) (r : Unit) (μ' : Mem), rec l0 μ = some (r, μ') → CtD yX12_readsStep cX12_readsStep 3 none w [.ref l0] μ (encV r) μ') (l0 : Nat) (μ : Mem) : ∀ (r : Unit) (μ' : Mem), LX12_readsStep_b rec l0 μ = some (r, μ') → CtD yX12_readsStep cX12_readsStep 3 none (w + 1) [.ref l0] μ (encV r) μ' := by
  refine ct_enterD plX12 (Nat.le_of_ble_eq_true rfl) (fun F hF hD hI => ?_)
  unfold LX12_readsStep_b
  refine sim_gd (fun f0 => ?_)
  refine s_aload_n hF dX12_readsStep_0 rfl 0 rfl ?_
  refine s_cVi (st := []) (ci := 12) [] hF hD.dr dX12_readsStep_1 cwX12_248 (by omega) (Nat.le_of_ble_eq_true rfl) rfl rfl (Nat.le_of_ble_eq_true rfl) f0 rfl rfl (Nat.le_of_ble_eq_true rfl) (ctX12_stepHere l0 _) (fun r1 m2 hl3 hm4 => ?_)
  refine s_istore_n (pls' := [(1, .int r1), (0, .ref l0)]) hF dX12_readsStep_4 rfl (by decide) rfl ?_
  refine s_iload_n hF dX12_readsStep_5 rfl 0 rfl ?_
  refine s_iconst (v := (-1 : Int32)) hF dX12_readsStep_6 kI_m1 ?_
  refine s_icmp_ne (tgt := 19) hF dX12_readsStep_7 rfl (fun c5 => ?_) (fun c5 => ?_)
  · refine s_aload_n hF dX12_readsStep_10 rfl 1 rfl ?_
    refine s_iconst (v := (1 : Int32)) hF dX12_readsStep_11 kI_1 ?_
    refine s_aload_n hF dX12_readsStep_12 rfl 1 rfl ?_
    refine s_getI (x := (g_I m2 l0 4)) hF dX12_readsStep_13 flX12_103 (isK.mo f0 hm4) rfl ?_
    refine s_cVv (st := []) (ci := 12) [.int (1 : Int32), .int (g_I m2 l0 4)] hF hD.dr dX12_readsStep_16 cwX12_123 (by omega) (Nat.le_of_ble_eq_true rfl) rfl rfl (Nat.le_of_ble_eq_true rfl) (isK.mo f0 hm4) rfl rfl (Nat.le_of_ble_eq_true rfl) (ctX12_wrong l0 (1 : Int32) (g_I m2 l0 4) _) (fun r6 m7 hl8 hm9 => ?_)
    refine s_sub [1, 0] rfl ?_
    exact sX12_readsStep_19 hB hrec hF hD l0 r1 _ (isK.mo (isK.mo f0 hm4) hm9)
  · refine s_sub [1, 0] rfl ?_
    exact sX12_readsStep_19 hB hrec hF hD l0 r1 _ (isK.mo f0 hm4)
theorem ctX12_readsStep : ∀ (d : Nat) (l0 : Nat) (μ : Mem) (r : Unit) (μ' : Mem), LX12_readsStep d l0 μ = some (r, μ') → CtD yX12_readsStep cX12_readsStep 3 none (5 + 1 * d) [.ref l0] μ (encV r) μ'
  | 0, _, _ => fun r μ' h => by cases h
  | d + 1, l0, μ => fun r μ' h => ctX12_readsStep_b (Nat.le_add_right _ _) (fun l0 μ r μ' h => ctX12_readsStep d l0 μ r μ' h) l0 μ r μ' h
theorem sX12_chain_122 {F : Option Fx} (q46 : Nat → Int32 → Mem → Option (Int32 × Mem)) (hF : FxO F RX12 cX12_chain 5 4) (hD : FxDO F (some .int)) (hq46 : ∀ (l0 : Nat) (l2 : Int32) (μ : Mem) (_ : isK μ l0 12 = true), Sim F encI 46 [(0, .ref l0), (2, .int l2)] [] μ (q46 l0 l2 μ)) (l0 : Nat) (l2 : Int32) (μ : Mem) (f0 : isK μ l0 12 = true) : Sim F encI 122 [(0, .ref l0), (2, .int l2)] [] μ (mX12_chain_122 q46 l0 l2 μ) := by
  unfold mX12_chain_122
  refine s_aload_n hF dX12_chain_122 rfl 0 rfl ?_
  refine s_cVv (st := []) (ci := 12) [] hF hD.dr dX12_chain_123 cwX12_116 (Nat.le_of_ble_eq_true rfl) (Nat.le_of_ble_eq_true rfl) rfl rfl (Nat.le_of_ble_eq_true rfl) f0 rfl rfl (Nat.le_of_ble_eq_true rfl) (ctX12_blanks l0 _) (fun r40 m41 hl42 hm43 => ?_)
  refine s_goto (tgt := 46) hF dX12_chain_126 rfl ?_
  exact hq46 l0 l2 _ (isK.mo f0 hm43)
theorem sX12_chain_98 {F : Option Fx} (q46 : Nat → Int32 → Mem → Option (Int32 × Mem)) (hF : FxO F RX12 cX12_chain 5 4) (hD : FxDO F (some .int)) (hq46 : ∀ (l0 : Nat) (l2 : Int32) (μ : Mem) (_ : isK μ l0 12 = true), Sim F encI 46 [(0, .ref l0), (2, .int l2)] [] μ (q46 l0 l2 μ)) (l0 : Nat) (l2 : Int32) (l4 : Int32) (μ : Mem) (f0 : isK μ l0 12 = true) : Sim F encI 98 [(0, .ref l0), (2, .int l2), (4, .int l4)] [] μ (mX12_chain_98 q46 l0 l2 l4 μ) := by
  unfold mX12_chain_98
  refine s_aload_n hF dX12_chain_98 rfl 0 rfl ?_
  refine s_bipush (v := (59 : Int32)) hF dX12_chain_99 kB_59 ?_
  refine s_cVv (st := []) (ci := 12) [.int (59 : Int32)] hF hD.dr dX12_chain_101 cwX12_163 (Nat.le_of_ble_eq_true rfl) (Nat.le_of_ble_eq_true rfl) rfl rfl (Nat.le_of_ble_eq_true rfl) f0 rfl rfl (Nat.le_of_ble_eq_true rfl) (ctX12_sign l0 (59 : Int32) _) (fun r33 m34 hl35 hm36 => ?_)
  refine s_aload_n hF dX12_chain_104 rfl 0 rfl ?_
  refine s_getI (x := (g_I m34 l0 5)) hF dX12_chain_105 flX12_110 (isK.mo f0 hm36) rfl ?_
  refine s_if_ne (tgt := 122) hF dX12_chain_108 rfl (fun c37 => ?_) (fun c37 => ?_)
  · refine s_aload_n hF dX12_chain_111 rfl 0 rfl ?_
    refine sim_gd (fun g38 => ?_)
    refine s_getR (x := (g_R m34 l0 26)) hF dX12_chain_112 flX12_61 (isK.mo f0 hm36) g38 rfl ?_
    refine s_iload_n hF dX12_chain_115 rfl 1 rfl ?_
    refine s_iload hF dX12_chain_116 2 rfl ?_
    refine sim_gd (fun g39 => ?_)
    refine s_iastore hF dX12_chain_118 g39 ?_
    refine s_iinc (v := (l2 + (1 : Int32))) (pls' := [(2, .int (l2 + (1 : Int32))), (0, .ref l0), (4, .int l4)]) hF dX12_chain_119 1 rfl rfl (by decide) rfl ?_
    refine s_sub [1, 0] rfl ?_
    exact sX12_chain_122 q46 hF hD hq46 l0 (l2 + (1 : Int32)) _ (isK.mo f0 hm36)
  · refine s_sub [0, 1] rfl ?_
    exact sX12_chain_122 q46 hF hD hq46 l0 l2 _ (isK.mo f0 hm36)
theorem sX12_chain_153 {F : Option Fx} (hF : FxO F RX12 cX12_chain 5 4) (hD : FxDO F (some .int)) : ∀ (fu : Nat) (l0 : Nat) (l2 : Int32) (l3 : Int32) (μ : Mem) (f0 : isK μ l0 12 = true), Sim F encI 153 [(0, .ref l0), (2, .int l2), (3, .int l3)] [] μ (mX12_chain_153 fu l0 l2 l3 μ) := by
  intro fu
  induction fu with
  | zero =>
    intro l0 l2 l3 μ f0
    exact sim_none
  | succ fu ih =>
    intro l0 l2 l3 μ f0
    rw [mX12_chain_153]
    refine s_iload_n hF dX12_chain_153 rfl 2 rfl ?_
    refine s_iload_n hF dX12_chain_154 rfl 1 rfl ?_
    refine s_icmp_ge (tgt := 176) hF dX12_chain_155 rfl (fun c49 => ?_) (fun c49 => ?_)
    · refine s_iload_n hF dX12_chain_176 rfl 1 rfl ?_
      exact s_iretD hF hD dX12_chain_177 rfl
    · refine s_aload_n hF dX12_chain_158 rfl 0 rfl ?_
      refine sim_gd (fun g50 => ?_)
      refine s_getR (x := (g_R μ l0 25)) hF dX12_chain_159 flX12_58 f0 g50 rfl ?_
      refine s_iload_n hF dX12_chain_162 rfl 2 rfl ?_
      refine s_aload_n hF dX12_chain_163 rfl 0 rfl ?_
      refine sim_gd (fun g51 => ?_)
      refine s_getR (x := (g_R μ l0 26)) hF dX12_chain_164 flX12_61 f0 g51 rfl ?_
      refine s_iload_n hF dX12_chain_167 rfl 2 rfl ?_
      refine sim_gd (fun g52 => ?_)
      refine s_iaload (x := (g_I μ (g_R μ l0 26) l3.toNatClampNeg)) hF dX12_chain_168 g52 rfl ?_
      refine sim_gd (fun g53 => ?_)
      refine s_iastore hF dX12_chain_169 g53 ?_
      refine s_iinc (v := (l3 + (1 : Int32))) (pls' := [(3, .int (l3 + (1 : Int32))), (0, .ref l0), (2, .int l2)]) hF dX12_chain_170 2 rfl rfl (by decide) rfl ?_
      refine s_goto (tgt := 153) hF dX12_chain_173 rfl ?_
      refine s_sub [1, 2, 0] rfl ?_
      exact ih l0 l2 (l3 + (1 : Int32)) _ f0
theorem sX12_chain_129 {F : Option Fx} (hF : FxO F RX12 cX12_chain 5 4) (hD : FxDO F (some .int)) (l0 : Nat) (l2 : Int32) (μ : Mem) (f0 : isK μ l0 12 = true) : Sim F encI 129 [(0, .ref l0), (2, .int l2)] [] μ (mX12_chain_129 l0 l2 μ) := by
  unfold mX12_chain_129
  refine s_aload_n hF dX12_chain_129 rfl 0 rfl ?_
  refine s_getI (x := (g_I μ l0 5)) hF dX12_chain_130 flX12_110 f0 rfl ?_
  refine s_if_eq (tgt := 141) hF dX12_chain_133 rfl (fun c44 => ?_) (fun c44 => ?_)
  · refine s_aload_n hF dX12_chain_141 rfl 0 rfl ?_
    refine s_iconst (v := (-1 : Int32)) hF dX12_chain_142 kI_m1 ?_
    refine s_putI hF dX12_chain_143 flX12_9 f0 ?_
    refine s_aload_n hF dX12_chain_146 rfl 0 rfl ?_
    refine s_iload_n hF dX12_chain_147 rfl 1 rfl ?_
    refine s_putI hF dX12_chain_148 flX12_190 f0 ?_
    refine s_iconst (v := (0 : Int32)) hF dX12_chain_151 kI_0 ?_
    refine s_istore_n (pls' := [(3, .int (0 : Int32)), (0, .ref l0), (2, .int l2)]) hF dX12_chain_152 rfl (by decide) rfl ?_
    refine s_sub [1, 2, 0] rfl ?_
    exact sX12_chain_153 hF hD 100000 l0 l2 (0 : Int32) _ f0
  · refine s_aload_n hF dX12_chain_136 rfl 0 rfl ?_
    refine s_cVi (st := []) (ci := 12) [] hF hD.dr dX12_chain_137 cwX12_177 (Nat.le_of_ble_eq_true rfl) (Nat.le_of_ble_eq_true rfl) rfl rfl (Nat.le_of_ble_eq_true rfl) f0 rfl rfl (Nat.le_of_ble_eq_true rfl) (ctX12_ends l0 _) (fun r45 m46 hl47 hm48 => ?_)
    exact s_iretD hF hD dX12_chain_140 rfl
theorem sX12_chain_46 {F : Option Fx} (hF : FxO F RX12 cX12_chain 5 4) (hD : FxDO F (some .int)) : ∀ (fu : Nat) (l0 : Nat) (l2 : Int32) (μ : Mem) (f0 : isK μ l0 12 = true), Sim F encI 46 [(0, .ref l0), (2, .int l2)] [] μ (mX12_chain_46 fu l0 l2 μ) := by
  intro fu
  induction fu with
  | zero =>
    intro l0 l2 μ f0
    exact sim_none
  | succ fu ih =>
    intro l0 l2 μ f0
    rw [mX12_chain_46]
    refine s_aload_n hF dX12_chain_46 rfl 0 rfl ?_
    refine s_getI (x := (g_I μ l0 5)) hF dX12_chain_47 flX12_110 f0 rfl ?_
    refine s_if_ne (tgt := 129) hF dX12_chain_50 rfl (fun c17 => ?_) (fun c17 => ?_)
    · refine s_aload_n hF dX12_chain_53 rfl 0 rfl ?_
      refine s_getI (x := (g_I μ l0 4)) hF dX12_chain_54 flX12_103 f0 rfl ?_
      refine s_aload_n hF dX12_chain_57 rfl 0 rfl ?_
      refine s_getI (x := (g_I μ l0 2)) hF dX12_chain_58 flX12_100 f0 rfl ?_
      refine s_icmp_ge (tgt := 129) hF dX12_chain_61 rfl (fun c18 => ?_) (fun c18 => ?_)
      · exact sX12_chain_129 hF hD l0 l2 _ f0
      · refine s_aload_n hF dX12_chain_64 rfl 0 rfl ?_
        refine s_cVv (st := []) (ci := 12) [] hF hD.dr dX12_chain_65 cwX12_116 (Nat.le_of_ble_eq_true rfl) (Nat.le_of_ble_eq_true rfl) rfl rfl (Nat.le_of_ble_eq_true rfl) f0 rfl rfl (Nat.le_of_ble_eq_true rfl) (ctX12_blanks l0 _) (fun r19 m20 hl21 hm22 => ?_)
        refine s_aload_n hF dX12_chain_68 rfl 0 rfl ?_
        refine s_getI (x := (g_I m20 l0 4)) hF dX12_chain_69 flX12_103 (isK.mo f0 hm22) rfl ?_
        refine s_istore_n (pls' := [(3, .int (g_I m20 l0 4)), (0, .ref l0), (2, .int l2)]) hF dX12_chain_72 rfl (by decide) rfl ?_
        refine s_aload_n hF dX12_chain_73 rfl 1 rfl ?_
        refine s_cVi (st := []) (ci := 12) [] hF hD.dr dX12_chain_74 cwX12_244 (Nat.le_of_ble_eq_true rfl) (Nat.le_of_ble_eq_true rfl) rfl rfl (Nat.le_of_ble_eq_true rfl) (isK.mo f0 hm22) rfl rfl (Nat.le_of_ble_eq_true rfl) (ctX12_penHere l0 _) (fun r23 m24 hl25 hm26 => ?_)
        refine s_istore (pls' := [(4, .int r23), (3, .int (g_I m20 l0 4)), (0, .ref l0), (2, .int l2)]) hF dX12_chain_77 (by decide) rfl ?_
        refine s_aload_n hF dX12_chain_79 rfl 2 rfl ?_
        refine s_getI (x := (g_I m24 l0 5)) hF dX12_chain_80 flX12_110 (isK.mo (isK.mo f0 hm22) hm26) rfl ?_
        refine s_if_ne (tgt := 98) hF dX12_chain_83 rfl (fun c27 => ?_) (fun c27 => ?_)
        · refine s_iload_n hF dX12_chain_86 rfl 3 rfl ?_
          refine s_bipush (v := (12 : Int32)) hF dX12_chain_87 kB_12 ?_
          refine s_icmp_ne (tgt := 98) hF dX12_chain_89 rfl (fun c28 => ?_) (fun c28 => ?_)
          · refine s_aload_n hF dX12_chain_92 rfl 2 rfl ?_
            refine s_iconst (v := (3 : Int32)) hF dX12_chain_93 kI_3 ?_
            refine s_iload_n hF dX12_chain_94 rfl 1 rfl ?_
            refine s_cVv (st := []) (ci := 12) [.int (3 : Int32), .int (g_I m20 l0 4)] hF hD.dr dX12_chain_95 cwX12_123 (Nat.le_of_ble_eq_true rfl) (Nat.le_of_ble_eq_true rfl) rfl rfl (Nat.le_of_ble_eq_true rfl) (isK.mo (isK.mo f0 hm22) hm26) rfl rfl (Nat.le_of_ble_eq_true rfl) (ctX12_wrong l0 (3 : Int32) (g_I m20 l0 4) _) (fun r29 m30 hl31 hm32 => ?_)
            refine s_sub [2, 3, 0] rfl ?_
            exact sX12_chain_98 (fun l0 l2 μ => mX12_chain_46 fu l0 l2 μ) hF hD ih l0 l2 r23 _ (isK.mo (isK.mo (isK.mo f0 hm22) hm26) hm32)
          · refine s_sub [2, 3, 0] rfl ?_
            exact sX12_chain_98 (fun l0 l2 μ => mX12_chain_46 fu l0 l2 μ) hF hD ih l0 l2 r23 _ (isK.mo (isK.mo f0 hm22) hm26)
        · refine s_sub [2, 3, 0] rfl ?_
          exact sX12_chain_98 (fun l0 l2 μ => mX12_chain_46 fu l0 l2 μ) hF hD ih l0 l2 r23 _ (isK.mo (isK.mo f0 hm22) hm26)
    · exact sX12_chain_129 hF hD l0 l2 _ f0
theorem sX12_chain_29 {F : Option Fx} (hF : FxO F RX12 cX12_chain 5 4) (hD : FxDO F (some .int)) (l0 : Nat) (l1 : Int32) (k0 : Int32) (k1 : Nat) (μ : Mem) (f0 : isK μ l0 12 = true) : Sim F encI 29 [(0, .ref l0), (1, .int l1)] [.int k0, .ref k1] μ (mX12_chain_29 l0 l1 k0 k1 μ) := by
  unfold mX12_chain_29
  refine s_iconst (v := (1 : Int32)) hF dX12_chain_29 kI_1 ?_
  refine s_iconst (v := (1 : Int32)) hF dX12_chain_30 kI_1 ?_
  refine sim_gd (fun g11 => ?_)
  refine s_cVi (st := []) (ci := 12) [.int k0, .int (1 : Int32), .int (1 : Int32)] hF hD.dr dX12_chain_31 cwX12_167 (Nat.le_of_ble_eq_true rfl) (Nat.le_of_ble_eq_true rfl) rfl rfl (Nat.le_of_ble_eq_true rfl) g11 rfl rfl (Nat.le_of_ble_eq_true rfl) (ctX12_bad k1 k0 (1 : Int32) (1 : Int32) _) (fun r7 m8 hl9 hm10 => ?_)
  refine s_if_eq (tgt := 39) hF dX12_chain_34 rfl (fun c12 => ?_) (fun c12 => ?_)
  · refine s_aload_n hF dX12_chain_39 rfl 0 rfl ?_
    refine s_iload_n hF dX12_chain_40 rfl 1 rfl ?_
    refine s_cVv (st := []) (ci := 12) [.int l1] hF hD.dr dX12_chain_41 cwX12_171 (Nat.le_of_ble_eq_true rfl) (Nat.le_of_ble_eq_true rfl) rfl rfl (Nat.le_of_ble_eq_true rfl) (isK.mo f0 hm10) rfl rfl (Nat.le_of_ble_eq_true rfl) (ctX12_starts l0 l1 _) (fun r13 m14 hl15 hm16 => ?_)
    refine s_iconst (v := (0 : Int32)) hF dX12_chain_44 kI_0 ?_
    refine s_istore_n (pls' := [(2, .int (0 : Int32)), (0, .ref l0), (1, .int l1)]) hF dX12_chain_45 rfl (by decide) rfl ?_
    refine s_sub [1, 0] rfl ?_
    exact sX12_chain_46 hF hD 100000 l0 (0 : Int32) _ (isK.mo (isK.mo f0 hm10) hm16)
  · refine s_iconst (v := (0 : Int32)) hF dX12_chain_37 kI_0 ?_
    exact s_iretD hF hD dX12_chain_38 rfl
theorem ctX12_chain  (l0 : Nat) (l1 : Int32) (μ : Mem) : ∀ (r : Int32) (μ' : Mem), LX12_chain l0 l1 μ = some (r, μ') → CtD yX12_chain cX12_chain 5 (some .int) 4 [.ref l0, .int l1] μ (encI r) μ' := by
  refine ct_enterD plX12 (Nat.le_of_ble_eq_true rfl) (fun F hF hD hI => ?_)
  unfold LX12_chain
  refine sim_gd (fun f0 => ?_)
  refine s_aload_n hF dX12_chain_0 rfl 0 rfl ?_
  refine s_iconst (v := (0 : Int32)) hF dX12_chain_1 kI_0 ?_
  refine s_putI hF dX12_chain_2 flX12_94 f0 ?_
  refine s_aload_n hF dX12_chain_5 rfl 0 rfl ?_
  refine s_iload_n hF dX12_chain_6 rfl 1 rfl ?_
  refine s_iconst (v := (0 : Int32)) hF dX12_chain_7 kI_0 ?_
  refine s_aload_n hF dX12_chain_8 rfl 0 rfl ?_
  refine s_getI (x := (g_I (p_I μ l0 0 (0 : Int32)) l0 1)) hF dX12_chain_9 flX12_97 f0 rfl ?_
  refine s_cSi (st := [.ref l0]) [.int l1, .int (0 : Int32), .int (g_I (p_I μ l0 0 (0 : Int32)) l0 1)] hF hD.dr dX12_chain_12 cwX12_128 (Nat.le_of_ble_eq_true rfl) (Nat.le_of_ble_eq_true rfl) rfl rfl (Nat.le_of_ble_eq_true rfl) (ctX12_in l1 (0 : Int32) (g_I (p_I μ l0 0 (0 : Int32)) l0 1) _) (fun r1 m2 hl3 hm4 => ?_)
  refine s_if_eq (tgt := 24) hF dX12_chain_15 rfl (fun c5 => ?_) (fun c5 => ?_)
  · refine s_iconst (v := (1 : Int32)) hF dX12_chain_24 kI_1 ?_
    refine s_goto (tgt := 29) hF dX12_chain_25 rfl ?_
    exact sX12_chain_29 hF hD l0 l1 (1 : Int32) l0 _ (isK.mo f0 hm4)
  · refine s_iload_n hF dX12_chain_18 rfl 1 rfl ?_
    refine s_bipush (v := (60 : Int32)) hF dX12_chain_19 kB_60 ?_
    refine s_icmp_le (tgt := 28) hF dX12_chain_21 rfl (fun c6 => ?_) (fun c6 => ?_)
    · refine s_iconst (v := (0 : Int32)) hF dX12_chain_28 kI_0 ?_
      exact sX12_chain_29 hF hD l0 l1 (0 : Int32) l0 _ (isK.mo f0 hm4)
    · refine s_iconst (v := (1 : Int32)) hF dX12_chain_24 kI_1 ?_
      refine s_goto (tgt := 29) hF dX12_chain_25 rfl ?_
      exact sX12_chain_29 hF hD l0 l1 (1 : Int32) l0 _ (isK.mo f0 hm4)
theorem sX12_book_148 {F : Option Fx} (q46 : Nat → Int32 → Mem → Option (Int32 × Mem)) (hF : FxO F RX12 cX12_book 6 3) (hD : FxDO F (some .int)) (hq46 : ∀ (l0 : Nat) (l2 : Int32) (μ : Mem) (_ : isK μ l0 12 = true), Sim F encI 46 [(0, .ref l0), (2, .int l2)] [] μ (q46 l0 l2 μ)) (l0 : Nat) (l2 : Int32) (μ : Mem) (f0 : isK μ l0 12 = true) : Sim F encI 148 [(0, .ref l0), (2, .int l2)] [] μ (mX12_book_148 q46 l0 l2 μ) := by
  unfold mX12_book_148
  refine s_aload_n hF dX12_book_148 rfl 0 rfl ?_
  refine s_cVv (st := []) (ci := 12) [] hF hD.dr dX12_book_149 cwX12_116 (Nat.le_of_ble_eq_true rfl) (Nat.le_of_ble_eq_true rfl) rfl rfl (Nat.le_of_ble_eq_true rfl) f0 rfl rfl (Nat.le_of_ble_eq_true rfl) (ctX12_blanks l0 _) (fun r47 m48 hl49 hm50 => ?_)
  refine s_goto (tgt := 46) hF dX12_book_152 rfl ?_
  exact hq46 l0 l2 _ (isK.mo f0 hm50)
theorem sX12_book_102 {F : Option Fx} (q46 : Nat → Int32 → Mem → Option (Int32 × Mem)) (hF : FxO F RX12 cX12_book 6 3) (hD : FxDO F (some .int)) (hq46 : ∀ (l0 : Nat) (l2 : Int32) (μ : Mem) (_ : isK μ l0 12 = true), Sim F encI 46 [(0, .ref l0), (2, .int l2)] [] μ (q46 l0 l2 μ)) (l0 : Nat) (l2 : Int32) (l4 : Int32) (μ : Mem) (f0 : isK μ l0 12 = true) : Sim F encI 102 [(0, .ref l0), (2, .int l2), (4, .int l4)] [] μ (mX12_book_102 q46 l0 l2 l4 μ) := by
  unfold mX12_book_102
  refine s_aload_n hF dX12_book_102 rfl 0 rfl ?_
  refine s_iconst (v := (0 : Int32)) hF dX12_book_103 kI_0 ?_
  refine s_ldcw (v := (9999999 : Int32)) hF dX12_book_104 cwX12_261 ?_
  refine s_cVi (st := []) (ci := 12) [.int (0 : Int32), .int (9999999 : Int32)] hF hD.dr dX12_book_107 cwX12_159 (Nat.le_of_ble_eq_true rfl) (Nat.le_of_ble_eq_true rfl) rfl rfl (Nat.le_of_ble_eq_true rfl) f0 rfl rfl (Nat.le_of_ble_eq_true rfl) (ctX12_number l0 (0 : Int32) (9999999 : Int32) _) (fun r33 m34 hl35 hm36 => ?_)
  refine s_istore (pls' := [(5, .int r33), (0, .ref l0), (2, .int l2), (4, .int l4)]) hF dX12_book_110 (by decide) rfl ?_
  refine s_aload_n hF dX12_book_112 rfl 1 rfl ?_
  refine s_bipush (v := (59 : Int32)) hF dX12_book_113 kB_59 ?_
  refine s_cVv (st := []) (ci := 12) [.int (59 : Int32)] hF hD.dr dX12_book_115 cwX12_163 (Nat.le_of_ble_eq_true rfl) (Nat.le_of_ble_eq_true rfl) rfl rfl (Nat.le_of_ble_eq_true rfl) (isK.mo f0 hm36) rfl rfl (Nat.le_of_ble_eq_true rfl) (ctX12_sign l0 (59 : Int32) _) (fun r37 m38 hl39 hm40 => ?_)
  refine s_aload_n hF dX12_book_118 rfl 1 rfl ?_
  refine s_getI (x := (g_I m38 l0 5)) hF dX12_book_119 flX12_110 (isK.mo (isK.mo f0 hm36) hm40) rfl ?_
  refine s_if_ne (tgt := 148) hF dX12_book_122 rfl (fun c41 => ?_) (fun c41 => ?_)
  · refine s_aload_n hF dX12_book_125 rfl 1 rfl ?_
    refine sim_gd (fun g42 => ?_)
    refine s_getR (x := (g_R m38 l0 22)) hF dX12_book_126 flX12_49 (isK.mo (isK.mo f0 hm36) hm40) g42 rfl ?_
    refine s_iload_n hF dX12_book_129 rfl 2 rfl ?_
    refine sim_gd (fun g43 => ?_)
    refine sim_gd (fun g44 => ?_)
    refine s_aaload (x := (g_R m38 (g_R m38 l0 22) l2.toNatClampNeg)) hF dX12_book_130 (by decide) (by decide) g43 g44 rfl ?_
    refine s_iconst (v := (0 : Int32)) hF dX12_book_131 kI_0 ?_
    refine s_iload hF dX12_book_132 3 rfl ?_
    refine sim_gd (fun g45 => ?_)
    refine s_iastore hF dX12_book_134 g45 ?_
    refine s_aload_n hF dX12_book_135 rfl 1 rfl ?_
    refine s_getR (x := (g_R m38 l0 22)) hF dX12_book_136 flX12_49 (isK.mo (isK.mo f0 hm36) hm40) g42 rfl ?_
    refine s_iload_n hF dX12_book_139 rfl 2 rfl ?_
    refine s_aaload (x := (g_R m38 (g_R m38 l0 22) l2.toNatClampNeg)) hF dX12_book_140 (by decide) (by decide) g43 g44 rfl ?_
    refine s_iconst (v := (1 : Int32)) hF dX12_book_141 kI_1 ?_
    refine s_iload hF dX12_book_142 0 rfl ?_
    refine sim_gd (fun g46 => ?_)
    refine s_iastore hF dX12_book_144 g46 ?_
    refine s_iinc (v := (l2 + (1 : Int32))) (pls' := [(2, .int (l2 + (1 : Int32))), (5, .int r33), (0, .ref l0), (4, .int l4)]) hF dX12_book_145 2 rfl rfl (by decide) rfl ?_
    refine s_sub [2, 0] rfl ?_
    exact sX12_book_148 q46 hF hD hq46 l0 (l2 + (1 : Int32)) _ (isK.mo (isK.mo f0 hm36) hm40)
  · refine s_sub [1, 2] rfl ?_
    exact sX12_book_148 q46 hF hD hq46 l0 l2 _ (isK.mo (isK.mo f0 hm36) hm40)
theorem sX12_book_155 {F : Option Fx} (hF : FxO F RX12 cX12_book 6 3) (hD : FxDO F (some .int)) (l0 : Nat) (l2 : Int32) (μ : Mem) (f0 : isK μ l0 12 = true) : Sim F encI 155 [(0, .ref l0), (2, .int l2)] [] μ (mX12_book_155 l0 l2 μ) := by
  unfold mX12_book_155
  refine s_aload_n hF dX12_book_155 rfl 0 rfl ?_
  refine s_getI (x := (g_I μ l0 5)) hF dX12_book_156 flX12_110 f0 rfl ?_
  refine s_if_eq (tgt := 167) hF dX12_book_159 rfl (fun c51 => ?_) (fun c51 => ?_)
  · refine s_aload_n hF dX12_book_167 rfl 0 rfl ?_
    refine s_iconst (v := (-1 : Int32)) hF dX12_book_168 kI_m1 ?_
    refine s_putI hF dX12_book_169 flX12_9 f0 ?_
    refine s_aload_n hF dX12_book_172 rfl 0 rfl ?_
    refine s_iload_n hF dX12_book_173 rfl 1 rfl ?_
    refine s_putI hF dX12_book_174 flX12_187 f0 ?_
    refine s_aload_n hF dX12_book_177 rfl 0 rfl ?_
    refine sim_gd (fun g52 => ?_)
    refine s_getR (x := (g_R μ l0 22)) hF dX12_book_178 flX12_49 f0 g52 rfl ?_
    refine s_aload_n hF dX12_book_181 rfl 0 rfl ?_
    refine sim_gd (fun g53 => ?_)
    refine s_getR (x := (g_R μ l0 21)) hF dX12_book_182 flX12_46 f0 g53 rfl ?_
    refine s_iload_n hF dX12_book_185 rfl 1 rfl ?_
    refine s_cSv (st := []) [.ref (g_R μ l0 22), .ref (g_R μ l0 21), .int l2] hF hD.dr dX12_book_186 cwX12_180 (Nat.le_of_ble_eq_true rfl) (Nat.le_of_ble_eq_true rfl) rfl rfl (Nat.le_of_ble_eq_true rfl) (ctX12_lays (g_R μ l0 22) (g_R μ l0 21) l2 _) (fun r54 m55 hl56 hm57 => ?_)
    refine s_iload_n hF dX12_book_189 rfl 1 rfl ?_
    exact s_iretD hF hD dX12_book_190 rfl
  · refine s_aload_n hF dX12_book_162 rfl 0 rfl ?_
    refine s_cVi (st := []) (ci := 12) [] hF hD.dr dX12_book_163 cwX12_177 (Nat.le_of_ble_eq_true rfl) (Nat.le_of_ble_eq_true rfl) rfl rfl (Nat.le_of_ble_eq_true rfl) f0 rfl rfl (Nat.le_of_ble_eq_true rfl) (ctX12_ends l0 _) (fun r58 m59 hl60 hm61 => ?_)
    exact s_iretD hF hD dX12_book_166 rfl
theorem sX12_book_46 {F : Option Fx} (hF : FxO F RX12 cX12_book 6 3) (hD : FxDO F (some .int)) : ∀ (fu : Nat) (l0 : Nat) (l2 : Int32) (μ : Mem) (f0 : isK μ l0 12 = true), Sim F encI 46 [(0, .ref l0), (2, .int l2)] [] μ (mX12_book_46 fu l0 l2 μ) := by
  intro fu
  induction fu with
  | zero =>
    intro l0 l2 μ f0
    exact sim_none
  | succ fu ih =>
    intro l0 l2 μ f0
    rw [mX12_book_46]
    refine s_aload_n hF dX12_book_46 rfl 0 rfl ?_
    refine s_getI (x := (g_I μ l0 5)) hF dX12_book_47 flX12_110 f0 rfl ?_
    refine s_if_ne (tgt := 155) hF dX12_book_50 rfl (fun c17 => ?_) (fun c17 => ?_)
    · refine s_aload_n hF dX12_book_53 rfl 0 rfl ?_
      refine s_getI (x := (g_I μ l0 4)) hF dX12_book_54 flX12_103 f0 rfl ?_
      refine s_aload_n hF dX12_book_57 rfl 0 rfl ?_
      refine s_getI (x := (g_I μ l0 2)) hF dX12_book_58 flX12_100 f0 rfl ?_
      refine s_icmp_ge (tgt := 155) hF dX12_book_61 rfl (fun c18 => ?_) (fun c18 => ?_)
      · exact sX12_book_155 hF hD l0 l2 _ f0
      · refine s_aload_n hF dX12_book_64 rfl 0 rfl ?_
        refine s_cVv (st := []) (ci := 12) [] hF hD.dr dX12_book_65 cwX12_116 (Nat.le_of_ble_eq_true rfl) (Nat.le_of_ble_eq_true rfl) rfl rfl (Nat.le_of_ble_eq_true rfl) f0 rfl rfl (Nat.le_of_ble_eq_true rfl) (ctX12_blanks l0 _) (fun r19 m20 hl21 hm22 => ?_)
        refine s_aload_n hF dX12_book_68 rfl 0 rfl ?_
        refine s_getI (x := (g_I m20 l0 4)) hF dX12_book_69 flX12_103 (isK.mo f0 hm22) rfl ?_
        refine s_istore_n (pls' := [(3, .int (g_I m20 l0 4)), (0, .ref l0), (2, .int l2)]) hF dX12_book_72 rfl (by decide) rfl ?_
        refine s_aload_n hF dX12_book_73 rfl 1 rfl ?_
        refine s_iconst (v := (0 : Int32)) hF dX12_book_74 kI_0 ?_
        refine s_sipush (v := (9999 : Int32)) hF dX12_book_75 kS_9999 ?_
        refine s_cVi (st := []) (ci := 12) [.int (0 : Int32), .int (9999 : Int32)] hF hD.dr dX12_book_78 cwX12_159 (Nat.le_of_ble_eq_true rfl) (Nat.le_of_ble_eq_true rfl) rfl rfl (Nat.le_of_ble_eq_true rfl) (isK.mo f0 hm22) rfl rfl (Nat.le_of_ble_eq_true rfl) (ctX12_number l0 (0 : Int32) (9999 : Int32) _) (fun r23 m24 hl25 hm26 => ?_)
        refine s_istore (pls' := [(4, .int r23), (3, .int (g_I m20 l0 4)), (0, .ref l0), (2, .int l2)]) hF dX12_book_81 (by decide) rfl ?_
        refine s_aload_n hF dX12_book_83 rfl 2 rfl ?_
        refine s_getI (x := (g_I m24 l0 5)) hF dX12_book_84 flX12_110 (isK.mo (isK.mo f0 hm22) hm26) rfl ?_
        refine s_if_ne (tgt := 102) hF dX12_book_87 rfl (fun c27 => ?_) (fun c27 => ?_)
        · refine s_iload_n hF dX12_book_90 rfl 3 rfl ?_
          refine s_bipush (v := (6 : Int32)) hF dX12_book_91 kB_6 ?_
          refine s_icmp_ne (tgt := 102) hF dX12_book_93 rfl (fun c28 => ?_) (fun c28 => ?_)
          · refine s_aload_n hF dX12_book_96 rfl 2 rfl ?_
            refine s_iconst (v := (3 : Int32)) hF dX12_book_97 kI_3 ?_
            refine s_iload_n hF dX12_book_98 rfl 1 rfl ?_
            refine s_cVv (st := []) (ci := 12) [.int (3 : Int32), .int (g_I m20 l0 4)] hF hD.dr dX12_book_99 cwX12_123 (Nat.le_of_ble_eq_true rfl) (Nat.le_of_ble_eq_true rfl) rfl rfl (Nat.le_of_ble_eq_true rfl) (isK.mo (isK.mo f0 hm22) hm26) rfl rfl (Nat.le_of_ble_eq_true rfl) (ctX12_wrong l0 (3 : Int32) (g_I m20 l0 4) _) (fun r29 m30 hl31 hm32 => ?_)
            refine s_sub [2, 3, 0] rfl ?_
            exact sX12_book_102 (fun l0 l2 μ => mX12_book_46 fu l0 l2 μ) hF hD ih l0 l2 r23 _ (isK.mo (isK.mo (isK.mo f0 hm22) hm26) hm32)
          · refine s_sub [2, 3, 0] rfl ?_
            exact sX12_book_102 (fun l0 l2 μ => mX12_book_46 fu l0 l2 μ) hF hD ih l0 l2 r23 _ (isK.mo (isK.mo f0 hm22) hm26)
        · refine s_sub [2, 3, 0] rfl ?_
          exact sX12_book_102 (fun l0 l2 μ => mX12_book_46 fu l0 l2 μ) hF hD ih l0 l2 r23 _ (isK.mo (isK.mo f0 hm22) hm26)
    · exact sX12_book_155 hF hD l0 l2 _ f0
theorem sX12_book_29 {F : Option Fx} (hF : FxO F RX12 cX12_book 6 3) (hD : FxDO F (some .int)) (l0 : Nat) (l1 : Int32) (k0 : Int32) (k1 : Nat) (μ : Mem) (f0 : isK μ l0 12 = true) : Sim F encI 29 [(0, .ref l0), (1, .int l1)] [.int k0, .ref k1] μ (mX12_book_29 l0 l1 k0 k1 μ) := by
  unfold mX12_book_29
  refine s_iconst (v := (1 : Int32)) hF dX12_book_29 kI_1 ?_
  refine s_iconst (v := (1 : Int32)) hF dX12_book_30 kI_1 ?_
  refine sim_gd (fun g11 => ?_)
  refine s_cVi (st := []) (ci := 12) [.int k0, .int (1 : Int32), .int (1 : Int32)] hF hD.dr dX12_book_31 cwX12_167 (Nat.le_of_ble_eq_true rfl) (Nat.le_of_ble_eq_true rfl) rfl rfl (Nat.le_of_ble_eq_true rfl) g11 rfl rfl (Nat.le_of_ble_eq_true rfl) (ctX12_bad k1 k0 (1 : Int32) (1 : Int32) _) (fun r7 m8 hl9 hm10 => ?_)
  refine s_if_eq (tgt := 39) hF dX12_book_34 rfl (fun c12 => ?_) (fun c12 => ?_)
  · refine s_aload_n hF dX12_book_39 rfl 0 rfl ?_
    refine s_iload_n hF dX12_book_40 rfl 1 rfl ?_
    refine s_cVv (st := []) (ci := 12) [.int l1] hF hD.dr dX12_book_41 cwX12_171 (Nat.le_of_ble_eq_true rfl) (Nat.le_of_ble_eq_true rfl) rfl rfl (Nat.le_of_ble_eq_true rfl) (isK.mo f0 hm10) rfl rfl (Nat.le_of_ble_eq_true rfl) (ctX12_starts l0 l1 _) (fun r13 m14 hl15 hm16 => ?_)
    refine s_iconst (v := (0 : Int32)) hF dX12_book_44 kI_0 ?_
    refine s_istore_n (pls' := [(2, .int (0 : Int32)), (0, .ref l0), (1, .int l1)]) hF dX12_book_45 rfl (by decide) rfl ?_
    refine s_sub [1, 0] rfl ?_
    exact sX12_book_46 hF hD 100000 l0 (0 : Int32) _ (isK.mo (isK.mo f0 hm10) hm16)
  · refine s_iconst (v := (0 : Int32)) hF dX12_book_37 kI_0 ?_
    exact s_iretD hF hD dX12_book_38 rfl
theorem ctX12_book  (l0 : Nat) (l1 : Int32) (μ : Mem) : ∀ (r : Int32) (μ' : Mem), LX12_book l0 l1 μ = some (r, μ') → CtD yX12_book cX12_book 6 (some .int) 3 [.ref l0, .int l1] μ (encI r) μ' := by
  refine ct_enterD plX12 (Nat.le_of_ble_eq_true rfl) (fun F hF hD hI => ?_)
  unfold LX12_book
  refine sim_gd (fun f0 => ?_)
  refine s_aload_n hF dX12_book_0 rfl 0 rfl ?_
  refine s_iconst (v := (0 : Int32)) hF dX12_book_1 kI_0 ?_
  refine s_putI hF dX12_book_2 flX12_94 f0 ?_
  refine s_aload_n hF dX12_book_5 rfl 0 rfl ?_
  refine s_iload_n hF dX12_book_6 rfl 1 rfl ?_
  refine s_iconst (v := (0 : Int32)) hF dX12_book_7 kI_0 ?_
  refine s_aload_n hF dX12_book_8 rfl 0 rfl ?_
  refine s_getI (x := (g_I (p_I μ l0 0 (0 : Int32)) l0 1)) hF dX12_book_9 flX12_97 f0 rfl ?_
  refine s_cSi (st := [.ref l0]) [.int l1, .int (0 : Int32), .int (g_I (p_I μ l0 0 (0 : Int32)) l0 1)] hF hD.dr dX12_book_12 cwX12_128 (Nat.le_of_ble_eq_true rfl) (Nat.le_of_ble_eq_true rfl) rfl rfl (Nat.le_of_ble_eq_true rfl) (ctX12_in l1 (0 : Int32) (g_I (p_I μ l0 0 (0 : Int32)) l0 1) _) (fun r1 m2 hl3 hm4 => ?_)
  refine s_if_eq (tgt := 24) hF dX12_book_15 rfl (fun c5 => ?_) (fun c5 => ?_)
  · refine s_iconst (v := (1 : Int32)) hF dX12_book_24 kI_1 ?_
    refine s_goto (tgt := 29) hF dX12_book_25 rfl ?_
    exact sX12_book_29 hF hD l0 l1 (1 : Int32) l0 _ (isK.mo f0 hm4)
  · refine s_iload_n hF dX12_book_18 rfl 1 rfl ?_
    refine s_bipush (v := (60 : Int32)) hF dX12_book_19 kB_60 ?_
    refine s_icmp_le (tgt := 28) hF dX12_book_21 rfl (fun c6 => ?_) (fun c6 => ?_)
    · refine s_iconst (v := (0 : Int32)) hF dX12_book_28 kI_0 ?_
      exact sX12_book_29 hF hD l0 l1 (0 : Int32) l0 _ (isK.mo f0 hm4)
    · refine s_iconst (v := (1 : Int32)) hF dX12_book_24 kI_1 ?_
      refine s_goto (tgt := 29) hF dX12_book_25 rfl ?_
      exact sX12_book_29 hF hD l0 l1 (1 : Int32) l0 _ (isK.mo f0 hm4)
theorem ctX12_fault  (l0 : Nat) (μ : Mem) : ∀ (r : Int32) (μ' : Mem), LX12_fault l0 μ = some (r, μ') → CtD yX12_fault cX12_fault 1 (some .int) 0 [.ref l0] μ (encI r) μ' := by
  refine ct_enterD plX12 (Nat.le_of_ble_eq_true rfl) (fun F hF hD hI => ?_)
  unfold LX12_fault
  refine sim_gd (fun f0 => ?_)
  refine s_aload_n hF dX12_fault_0 rfl 0 rfl ?_
  refine s_iconst (v := (0 : Int32)) hF dX12_fault_1 kI_0 ?_
  refine s_putI hF dX12_fault_2 flX12_94 f0 ?_
  refine s_aload_n hF dX12_fault_5 rfl 0 rfl ?_
  refine s_getI (x := (g_I (p_I μ l0 0 (0 : Int32)) l0 3)) hF dX12_fault_6 flX12_9 f0 rfl ?_
  exact s_iretD hF hD dX12_fault_9 rfl
theorem ctX12_jamsBy  (l0 : Int32) (l1 : Int32) (μ : Mem) : ∀ (r : Int32) (μ' : Mem), LX12_jamsBy l0 l1 μ = some (r, μ') → CtD yX12_jamsBy cX12_jamsBy 2 (some .boolean) 0 [.int l0, .int l1] μ (encI r) μ' := by
  refine ct_enterD plX12 (Nat.le_of_ble_eq_true rfl) (fun F hF hD hI => ?_)
  unfold LX12_jamsBy
  refine s_iload_n hF dX12_jamsBy_0 rfl 0 rfl ?_
  refine s_iconst (v := (5 : Int32)) hF dX12_jamsBy_1 kI_5 ?_
  refine s_icmp_ge (tgt := 13) hF dX12_jamsBy_2 rfl (fun c1 => ?_) (fun c1 => ?_)
  · refine s_iconst (v := (0 : Int32)) hF dX12_jamsBy_13 kI_0 ?_
    exact s_zretD hF hD dX12_jamsBy_14 rfl rfl
  · refine s_iload_n hF dX12_jamsBy_5 rfl 1 rfl ?_
    refine s_if_ne (tgt := 13) hF dX12_jamsBy_6 rfl (fun c2 => ?_) (fun c2 => ?_)
    · refine s_iconst (v := (1 : Int32)) hF dX12_jamsBy_9 kI_1 ?_
      refine s_goto (tgt := 14) hF dX12_jamsBy_10 rfl ?_
      exact s_zretD hF hD dX12_jamsBy_14 rfl rfl
    · refine s_iconst (v := (0 : Int32)) hF dX12_jamsBy_13 kI_0 ?_
      exact s_zretD hF hD dX12_jamsBy_14 rfl rfl
theorem ctX12_whole  (l0 : Int32) (l1 : Int32) (l2 : Int32) (l3 : Int32) (μ : Mem) : ∀ (r : Int64) (μ' : Mem), LX12_whole l0 l1 l2 l3 μ = some (r, μ') → CtD yX12_whole cX12_whole 4 (some .long) 0 [.int l0, .int l1, .int l2, .int l3] μ (encL r) μ' := by
  refine ct_enterD plX12 (Nat.le_of_ble_eq_true rfl) (fun F hF hD hI => ?_)
  unfold LX12_whole
  refine s_iload_n hF dX12_whole_0 rfl 0 rfl ?_
  refine sim_if (fun c1 => ?_) (fun c1 => ?_)
  · refine s_tin (v := (0 : Int32)) (tgt := 36) hF dX12_whole_1 c1 (by decide) (by decide) rfl rfl ?_
    refine s_iload_n hF dX12_whole_36 rfl 1 rfl ?_
    refine s_iload_n hF dX12_whole_37 rfl 2 rfl ?_
    refine s_imul hF dX12_whole_38 ?_
    refine s_iload_n hF dX12_whole_39 rfl 3 rfl ?_
    refine sim_gd (fun g2 => ?_)
    refine s_idiv hF dX12_whole_40 g2 ?_
    refine s_i2b hF dX12_whole_41 ?_
    refine s_i2l hF dX12_whole_42 ?_
    exact s_lretD hF hD dX12_whole_43 rfl
  · refine sim_if (fun c3 => ?_) (fun c3 => ?_)
    · refine s_tin (v := (1 : Int32)) (tgt := 44) hF dX12_whole_1 c3 (by decide) (by decide) rfl rfl ?_
      refine s_iload_n hF dX12_whole_44 rfl 1 rfl ?_
      refine s_iload_n hF dX12_whole_45 rfl 2 rfl ?_
      refine s_imul hF dX12_whole_46 ?_
      refine s_iload_n hF dX12_whole_47 rfl 3 rfl ?_
      refine sim_gd (fun g4 => ?_)
      refine s_idiv hF dX12_whole_48 g4 ?_
      refine s_i2s hF dX12_whole_49 ?_
      refine s_i2l hF dX12_whole_50 ?_
      exact s_lretD hF hD dX12_whole_51 rfl
    · refine sim_if (fun c5 => ?_) (fun c5 => ?_)
      · refine s_tin (v := (2 : Int32)) (tgt := 52) hF dX12_whole_1 c5 (by decide) (by decide) rfl rfl ?_
        refine s_iload_n hF dX12_whole_52 rfl 1 rfl ?_
        refine s_iload_n hF dX12_whole_53 rfl 2 rfl ?_
        refine s_imul hF dX12_whole_54 ?_
        refine s_iload_n hF dX12_whole_55 rfl 3 rfl ?_
        refine sim_gd (fun g6 => ?_)
        refine s_idiv hF dX12_whole_56 g6 ?_
        refine s_i2c hF dX12_whole_57 ?_
        refine s_i2l hF dX12_whole_58 ?_
        exact s_lretD hF hD dX12_whole_59 rfl
      · refine sim_if (fun c7 => ?_) (fun c7 => ?_)
        · refine s_tin (v := (3 : Int32)) (tgt := 60) hF dX12_whole_1 c7 (by decide) (by decide) rfl rfl ?_
          refine s_iload_n hF dX12_whole_60 rfl 1 rfl ?_
          refine s_iload_n hF dX12_whole_61 rfl 2 rfl ?_
          refine s_imul hF dX12_whole_62 ?_
          refine s_iload_n hF dX12_whole_63 rfl 3 rfl ?_
          refine sim_gd (fun g8 => ?_)
          refine s_idiv hF dX12_whole_64 g8 ?_
          refine s_i2l hF dX12_whole_65 ?_
          exact s_lretD hF hD dX12_whole_66 rfl
        · refine sim_if (fun c9 => ?_) (fun c9 => ?_)
          · refine s_tin (v := (4 : Int32)) (tgt := 67) hF dX12_whole_1 c9 (by decide) (by decide) rfl rfl ?_
            refine s_iload_n hF dX12_whole_67 rfl 1 rfl ?_
            refine s_i2l hF dX12_whole_68 ?_
            refine s_iload_n hF dX12_whole_69 rfl 2 rfl ?_
            refine s_i2l hF dX12_whole_70 ?_
            refine s_lmul hF dX12_whole_71 ?_
            refine s_iload_n hF dX12_whole_72 rfl 3 rfl ?_
            refine s_i2l hF dX12_whole_73 ?_
            refine sim_gd (fun g10 => ?_)
            refine s_ldiv hF dX12_whole_74 g10 ?_
            exact s_lretD hF hD dX12_whole_75 rfl
          · refine s_tout (tgt := 76) hF dX12_whole_1 (by have e0 := i32_ne c1 (k := (0 : Int32)) (n := 0) rfl; have e1 := i32_ne c3 (k := (1 : Int32)) (n := 1) rfl; have e2 := i32_ne c5 (k := (2 : Int32)) (n := 2) rfl; have e3 := i32_ne c7 (k := (3 : Int32)) (n := 3) rfl; have e4 := i32_ne c9 (k := (4 : Int32)) (n := 4) rfl; omega) rfl ?_
            refine s_iload_n hF dX12_whole_76 rfl 1 rfl ?_
            refine s_iload_n hF dX12_whole_77 rfl 2 rfl ?_
            refine s_imul hF dX12_whole_78 ?_
            refine s_iload_n hF dX12_whole_79 rfl 3 rfl ?_
            refine s_iadd hF dX12_whole_80 ?_
            refine s_iconst (v := (1 : Int32)) hF dX12_whole_81 kI_1 ?_
            refine s_iand hF dX12_whole_82 ?_
            refine s_i2l hF dX12_whole_83 ?_
            exact s_lretD hF hD dX12_whole_84 rfl
theorem ctX12_real  (l0 : Int32) (l1 : Int32) (l2 : Int32) (l3 : Int32) (μ : Mem) : ∀ (r : UInt64) (μ' : Mem), LX12_real l0 l1 l2 l3 μ = some (r, μ') → CtD yX12_real cX12_real 5 (some .double) 0 [.int l0, .int l1, .int l2, .int l3] μ (encD r) μ' := by
  refine ct_enterD plX12 (Nat.le_of_ble_eq_true rfl) (fun F hF hD hI => ?_)
  unfold LX12_real
  refine s_iload_n hF dX12_real_0 rfl 0 rfl ?_
  refine s_bipush (v := (6 : Int32)) hF dX12_real_1 kB_6 ?_
  refine s_icmp_ne (tgt := 15) hF dX12_real_3 rfl (fun c1 => ?_) (fun c1 => ?_)
  · refine s_iload_n hF dX12_real_6 rfl 1 rfl ?_
    refine s_i2d hF dX12_real_7 ?_
    refine s_iload_n hF dX12_real_8 rfl 2 rfl ?_
    refine s_i2d hF dX12_real_9 ?_
    refine s_dmulA hF hD dX12_real_10 (fun z3 ha2 => ?_)
    refine s_iload_n hF dX12_real_11 rfl 3 rfl ?_
    refine s_i2d hF dX12_real_12 ?_
    refine s_ddivA hF hD dX12_real_13 (fun z5 ha4 => ?_)
    exact s_dretD hF hD dX12_real_14 rfl (al_ddiv (al_dmul (al64 _) (al64 _) ha2) (al64 _) ha4)
  · refine s_iload_n hF dX12_real_15 rfl 1 rfl ?_
    refine s_i2f hF dX12_real_16 ?_
    refine s_fstore (pls' := [(4, .float (FP.i2f l1)), (0, .int l0), (1, .int l1), (2, .int l2), (3, .int l3)]) hF dX12_real_17 (by decide) rfl ?_
    refine s_fload hF dX12_real_19 0 rfl ?_
    refine s_iload_n hF dX12_real_21 rfl 3 rfl ?_
    refine s_i2f hF dX12_real_22 ?_
    refine s_fmulA hF hD dX12_real_23 (fun z7 ha6 => ?_)
    refine s_fstore (pls' := [(4, .float z7), (0, .int l0), (1, .int l1), (2, .int l2), (3, .int l3)]) hF dX12_real_24 (by decide) rfl ?_
    refine s_fload hF dX12_real_26 0 rfl ?_
    refine s_iload_n hF dX12_real_28 rfl 4 rfl ?_
    refine s_i2f hF dX12_real_29 ?_
    refine s_fdivA hF hD dX12_real_30 (fun z9 ha8 => ?_)
    refine s_f2dA hF hD dX12_real_31 (fun z11 ha10 => ?_)
    exact s_dretD hF hD dX12_real_32 rfl (al_f2d (al_fdiv (al_fmul (al32 _) (al32 _) ha6) (al32 _) ha8) ha10)
theorem ctX12_isReal  (l0 : Int32) (μ : Mem) : ∀ (r : Int32) (μ' : Mem), LX12_isReal l0 μ = some (r, μ') → CtD yX12_isReal cX12_isReal 1 (some .boolean) 0 [.int l0] μ (encI r) μ' := by
  refine ct_enterD plX12 (Nat.le_of_ble_eq_true rfl) (fun F hF hD hI => ?_)
  unfold LX12_isReal
  refine s_iload_n hF dX12_isReal_0 rfl 0 rfl ?_
  refine s_iconst (v := (5 : Int32)) hF dX12_isReal_1 kI_5 ?_
  refine s_icmp_eq (tgt := 11) hF dX12_isReal_2 rfl (fun c1 => ?_) (fun c1 => ?_)
  · refine s_iconst (v := (1 : Int32)) hF dX12_isReal_11 kI_1 ?_
    refine s_goto (tgt := 16) hF dX12_isReal_12 rfl ?_
    exact s_zretD hF hD dX12_isReal_16 rfl rfl
  · refine s_iload_n hF dX12_isReal_5 rfl 0 rfl ?_
    refine s_bipush (v := (6 : Int32)) hF dX12_isReal_6 kB_6 ?_
    refine s_icmp_ne (tgt := 15) hF dX12_isReal_8 rfl (fun c2 => ?_) (fun c2 => ?_)
    · refine s_iconst (v := (1 : Int32)) hF dX12_isReal_11 kI_1 ?_
      refine s_goto (tgt := 16) hF dX12_isReal_12 rfl ?_
      exact s_zretD hF hD dX12_isReal_16 rfl rfl
    · refine s_iconst (v := (0 : Int32)) hF dX12_isReal_15 kI_0 ?_
      exact s_zretD hF hD dX12_isReal_16 rfl rfl
theorem ctX12_outBy  (l0 : Int32) (l1 : Int32) (l2 : Int32) (l3 : Int32) (μ : Mem) : ∀ (r : Int32) (μ' : Mem), LX12_outBy l0 l1 l2 l3 μ = some (r, μ') → CtD yX12_outBy cX12_outBy 4 (some .int) 1 [.int l0, .int l1, .int l2, .int l3] μ (encI r) μ' := by
  refine ct_enterD plX12 (Nat.le_of_ble_eq_true rfl) (fun F hF hD hI => ?_)
  unfold LX12_outBy
  refine s_iload_n hF dX12_outBy_0 rfl 0 rfl ?_
  refine s_cSi (st := []) [.int l0] hF hD.dr dX12_outBy_1 cwX12_262 (Nat.le_of_ble_eq_true rfl) (Nat.le_of_ble_eq_true rfl) rfl rfl (Nat.le_of_ble_eq_true rfl) (ctX12_isReal l0 _) (fun r1 m2 hl3 hm4 => ?_)
  refine s_if_eq (tgt := 18) hF dX12_outBy_4 rfl (fun c5 => ?_) (fun c5 => ?_)
  · refine s_iload_n hF dX12_outBy_18 rfl 0 rfl ?_
    refine s_iload_n hF dX12_outBy_19 rfl 1 rfl ?_
    refine s_iload_n hF dX12_outBy_20 rfl 2 rfl ?_
    refine s_iload_n hF dX12_outBy_21 rfl 3 rfl ?_
    refine s_cSl (st := []) [.int l0, .int l1, .int l2, .int l3] hF hD.dr dX12_outBy_22 cwX12_269 (Nat.le_of_ble_eq_true rfl) (Nat.le_of_ble_eq_true rfl) rfl rfl (Nat.le_of_ble_eq_true rfl) (ctX12_whole l0 l1 l2 l3 _) (fun r6 m7 hl8 hm9 => ?_)
    refine s_l2i hF dX12_outBy_25 ?_
    exact s_iretD hF hD dX12_outBy_26 rfl
  · refine s_iload_n hF dX12_outBy_7 rfl 0 rfl ?_
    refine s_iload_n hF dX12_outBy_8 rfl 1 rfl ?_
    refine s_iload_n hF dX12_outBy_9 rfl 2 rfl ?_
    refine s_iload_n hF dX12_outBy_10 rfl 3 rfl ?_
    refine s_cSd (st := []) [.int l0, .int l1, .int l2, .int l3] hF hD.dr dX12_outBy_11 cwX12_265 (Nat.le_of_ble_eq_true rfl) (Nat.le_of_ble_eq_true rfl) rfl rfl (Nat.le_of_ble_eq_true rfl) (ctX12_real l0 l1 l2 l3 _) (fun r10 m11 y14 hl12 hm13 ha15 => ?_)
    refine s_d2iA hF dX12_outBy_14 ha15 ?_
    refine s_goto (tgt := 26) hF dX12_outBy_15 rfl ?_
    exact s_iretD hF hD dX12_outBy_26 rfl
theorem ctX12_jams  (l0 : Nat) (l1 : Nat) (l2 : Int32) (μ : Mem) : ∀ (r : Int32) (μ' : Mem), LX12_jams l0 l1 l2 μ = some (r, μ') → CtD yX12_jams cX12_jams 3 (some .boolean) 1 [.ref l0, .ref l1, .int l2] μ (encI r) μ' := by
  refine ct_enterD plX12 (Nat.le_of_ble_eq_true rfl) (fun F hF hD hI => ?_)
  unfold LX12_jams
  refine sim_gd (fun f0 => ?_)
  refine sim_gd (fun f1 => ?_)
  refine s_aload_n hF dX12_jams_0 rfl 0 rfl ?_
  refine sim_gd (fun g1 => ?_)
  refine s_getR (x := (g_R μ l0 14)) hF dX12_jams_1 flX12_31 f0 g1 rfl ?_
  refine s_iload_n hF dX12_jams_4 rfl 2 rfl ?_
  refine sim_gd (fun g2 => ?_)
  refine sim_gd (fun g3 => ?_)
  refine s_aaload (x := (g_R μ (g_R μ l0 14) l2.toNatClampNeg)) hF dX12_jams_5 (by decide) (by decide) g2 g3 rfl ?_
  refine s_iconst (v := (0 : Int32)) hF dX12_jams_6 kI_0 ?_
  refine sim_gd (fun g4 => ?_)
  refine s_iaload (x := (g_I μ (g_R μ (g_R μ l0 14) l2.toNatClampNeg) (0 : Int32).toNatClampNeg)) hF dX12_jams_7 g4 rfl ?_
  refine s_aload_n hF dX12_jams_8 rfl 1 rfl ?_
  refine s_bipush (v := (8 : Int32)) hF dX12_jams_9 kB_8 ?_
  refine s_iload_n hF dX12_jams_11 rfl 2 rfl ?_
  refine s_iadd hF dX12_jams_12 ?_
  refine sim_gd (fun g5 => ?_)
  refine s_iaload (x := (g_I μ l1 ((8 : Int32) + l2).toNatClampNeg)) hF dX12_jams_13 g5 rfl ?_
  refine s_cSi (st := []) [.int (g_I μ (g_R μ (g_R μ l0 14) l2.toNatClampNeg) (0 : Int32).toNatClampNeg), .int (g_I μ l1 ((8 : Int32) + l2).toNatClampNeg)] hF hD.dr dX12_jams_14 cwX12_273 (Nat.le_of_ble_eq_true rfl) (Nat.le_of_ble_eq_true rfl) rfl rfl (Nat.le_of_ble_eq_true rfl) (ctX12_jamsBy (g_I μ (g_R μ (g_R μ l0 14) l2.toNatClampNeg) (0 : Int32).toNatClampNeg) (g_I μ l1 ((8 : Int32) + l2).toNatClampNeg) _) (fun r6 m7 hl8 hm9 => ?_)
  refine sim_gd (fun g10 => ?_)
  exact s_zretD hF hD dX12_jams_17 rfl (nar_z g10)
theorem ctX12_outOf  (l0 : Nat) (l1 : Nat) (l2 : Int32) (l3 : Int32) (μ : Mem) : ∀ (r : Int32) (μ' : Mem), LX12_outOf l0 l1 l2 l3 μ = some (r, μ') → CtD yX12_outOf cX12_outOf 4 (some .int) 2 [.ref l0, .ref l1, .int l2, .int l3] μ (encI r) μ' := by
  refine ct_enterD plX12 (Nat.le_of_ble_eq_true rfl) (fun F hF hD hI => ?_)
  unfold LX12_outOf
  refine sim_gd (fun f0 => ?_)
  refine sim_gd (fun f1 => ?_)
  refine s_aload_n hF dX12_outOf_0 rfl 0 rfl ?_
  refine sim_gd (fun g1 => ?_)
  refine s_getR (x := (g_R μ l0 14)) hF dX12_outOf_1 flX12_31 f0 g1 rfl ?_
  refine s_iload_n hF dX12_outOf_4 rfl 2 rfl ?_
  refine sim_gd (fun g2 => ?_)
  refine sim_gd (fun g3 => ?_)
  refine s_aaload (x := (g_R μ (g_R μ l0 14) l2.toNatClampNeg)) hF dX12_outOf_5 (by decide) (by decide) g2 g3 rfl ?_
  refine s_iconst (v := (0 : Int32)) hF dX12_outOf_6 kI_0 ?_
  refine sim_gd (fun g4 => ?_)
  refine s_iaload (x := (g_I μ (g_R μ (g_R μ l0 14) l2.toNatClampNeg) (0 : Int32).toNatClampNeg)) hF dX12_outOf_7 g4 rfl ?_
  refine s_iload_n hF dX12_outOf_8 rfl 3 rfl ?_
  refine s_aload_n hF dX12_outOf_9 rfl 1 rfl ?_
  refine s_iconst (v := (0 : Int32)) hF dX12_outOf_10 kI_0 ?_
  refine s_iload_n hF dX12_outOf_11 rfl 2 rfl ?_
  refine s_iadd hF dX12_outOf_12 ?_
  refine sim_gd (fun g5 => ?_)
  refine s_iaload (x := (g_I μ l1 ((0 : Int32) + l2).toNatClampNeg)) hF dX12_outOf_13 g5 rfl ?_
  refine s_aload_n hF dX12_outOf_14 rfl 1 rfl ?_
  refine s_bipush (v := (8 : Int32)) hF dX12_outOf_15 kB_8 ?_
  refine s_iload_n hF dX12_outOf_17 rfl 2 rfl ?_
  refine s_iadd hF dX12_outOf_18 ?_
  refine sim_gd (fun g6 => ?_)
  refine s_iaload (x := (g_I μ l1 ((8 : Int32) + l2).toNatClampNeg)) hF dX12_outOf_19 g6 rfl ?_
  refine s_cSi (st := []) [.int (g_I μ (g_R μ (g_R μ l0 14) l2.toNatClampNeg) (0 : Int32).toNatClampNeg), .int l3, .int (g_I μ l1 ((0 : Int32) + l2).toNatClampNeg), .int (g_I μ l1 ((8 : Int32) + l2).toNatClampNeg)] hF hD.dr dX12_outOf_20 cwX12_276 (Nat.le_of_ble_eq_true rfl) (Nat.le_of_ble_eq_true rfl) rfl rfl (Nat.le_of_ble_eq_true rfl) (ctX12_outBy (g_I μ (g_R μ (g_R μ l0 14) l2.toNatClampNeg) (0 : Int32).toNatClampNeg) l3 (g_I μ l1 ((0 : Int32) + l2).toNatClampNeg) (g_I μ l1 ((8 : Int32) + l2).toNatClampNeg) _) (fun r7 m8 hl9 hm10 => ?_)
  exact s_iretD hF hD dX12_outOf_23 rfl
theorem sX12_off_18 {F : Option Fx} (hF : FxO F RX12 cX12_off 4 0) (hD : FxDO F (some .int)) (k0 : Int64) (μ : Mem) : Sim F encI 18 [] [.long k0] μ (mX12_off_18 k0 μ) := by
  unfold mX12_off_18
  refine s_lstore_n (pls' := [(2, .long k0)]) hF dX12_off_18 rfl (by decide) rfl ?_
  refine s_lload_n hF dX12_off_19 rfl 0 rfl ?_
  refine s_ldc2 (v := (2147483647 : Int64)) hF dX12_off_20 cwX12_280 ?_
  refine s_lcmp hF dX12_off_23 ?_
  refine s_if_le (tgt := 33) hF dX12_off_24 rfl (fun c2 => ?_) (fun c2 => ?_)
  · refine s_lload_n hF dX12_off_33 rfl 0 rfl ?_
    refine s_l2i hF dX12_off_34 ?_
    exact s_iretD hF hD dX12_off_35 rfl
  · refine s_ldcw (v := (2147483647 : Int32)) hF dX12_off_27 cwX12_282 ?_
    refine s_goto (tgt := 35) hF dX12_off_30 rfl ?_
    exact s_iretD hF hD dX12_off_35 rfl
theorem ctX12_off  (l0 : Int32) (l1 : Int32) (μ : Mem) : ∀ (r : Int32) (μ' : Mem), LX12_off l0 l1 μ = some (r, μ') → CtD yX12_off cX12_off 4 (some .int) 0 [.int l0, .int l1] μ (encI r) μ' := by
  refine ct_enterD plX12 (Nat.le_of_ble_eq_true rfl) (fun F hF hD hI => ?_)
  unfold LX12_off
  refine s_iload_n hF dX12_off_0 rfl 0 rfl ?_
  refine s_i2l hF dX12_off_1 ?_
  refine s_iload_n hF dX12_off_2 rfl 1 rfl ?_
  refine s_i2l hF dX12_off_3 ?_
  refine s_lsub hF dX12_off_4 ?_
  refine s_lstore_n (pls' := [(2, .long (l0.toInt64 - l1.toInt64)), (0, .int l0), (1, .int l1)]) hF dX12_off_5 rfl (by decide) rfl ?_
  refine s_lload_n hF dX12_off_6 rfl 0 rfl ?_
  refine s_lconst (v := (0 : Int64)) hF dX12_off_7 kL_0 ?_
  refine s_lcmp hF dX12_off_8 ?_
  refine s_if_ge (tgt := 17) hF dX12_off_9 rfl (fun c1 => ?_) (fun c1 => ?_)
  · refine s_lload_n hF dX12_off_17 rfl 0 rfl ?_
    refine s_sub [] rfl ?_
    exact sX12_off_18 hF hD (l0.toInt64 - l1.toInt64) _
  · refine s_lload_n hF dX12_off_12 rfl 0 rfl ?_
    refine s_lneg hF dX12_off_13 ?_
    refine s_goto (tgt := 18) hF dX12_off_14 rfl ?_
    refine s_sub [] rfl ?_
    exact sX12_off_18 hF hD (-(l0.toInt64 - l1.toInt64)) _
theorem ctX12_levelBy  (l0 : Nat) (l1 : Int32) (l2 : Int32) (l3 : Int32) (l4 : Int32) (l5 : Int32) (l6 : Int32) (l7 : Int32) (l8 : Int32) (μ : Mem) : ∀ (r : Int32) (μ' : Mem), LX12_levelBy l0 l1 l2 l3 l4 l5 l6 l7 l8 μ = some (r, μ') → CtD yX12_levelBy cX12_levelBy 9 (some .int) 3 [.ref l0, .int l1, .int l2, .int l3, .int l4, .int l5, .int l6, .int l7, .int l8] μ (encI r) μ' := by
  refine ct_enterD plX12 (Nat.le_of_ble_eq_true rfl) (fun F hF hD hI => ?_)
  unfold LX12_levelBy
  refine sim_gd (fun f0 => ?_)
  refine s_aload_n hF dX12_levelBy_0 rfl 0 rfl ?_
  refine sim_gd (fun g1 => ?_)
  refine s_getR (x := (g_R μ l0 24)) hF dX12_levelBy_1 flX12_55 f0 g1 rfl ?_
  refine s_iconst (v := (0 : Int32)) hF dX12_levelBy_4 kI_0 ?_
  refine s_iload_n hF dX12_levelBy_5 rfl 1 rfl ?_
  refine sim_gd (fun g2 => ?_)
  refine s_iastore hF dX12_levelBy_6 g2 ?_
  refine s_aload_n hF dX12_levelBy_7 rfl 0 rfl ?_
  refine s_getR (x := (g_R μ l0 24)) hF dX12_levelBy_8 flX12_55 f0 g1 rfl ?_
  refine s_iconst (v := (1 : Int32)) hF dX12_levelBy_11 kI_1 ?_
  refine s_iload_n hF dX12_levelBy_12 rfl 2 rfl ?_
  refine sim_gd (fun g3 => ?_)
  refine s_iastore hF dX12_levelBy_13 g3 ?_
  refine s_aload_n hF dX12_levelBy_14 rfl 0 rfl ?_
  refine s_getR (x := (g_R μ l0 24)) hF dX12_levelBy_15 flX12_55 f0 g1 rfl ?_
  refine s_iconst (v := (2 : Int32)) hF dX12_levelBy_18 kI_2 ?_
  refine s_iload_n hF dX12_levelBy_19 rfl 3 rfl ?_
  refine sim_gd (fun g4 => ?_)
  refine s_iastore hF dX12_levelBy_20 g4 ?_
  refine s_aload_n hF dX12_levelBy_21 rfl 0 rfl ?_
  refine s_getR (x := (g_R μ l0 24)) hF dX12_levelBy_22 flX12_55 f0 g1 rfl ?_
  refine s_iconst (v := (3 : Int32)) hF dX12_levelBy_25 kI_3 ?_
  refine s_iload hF dX12_levelBy_26 4 rfl ?_
  refine sim_gd (fun g5 => ?_)
  refine s_iastore hF dX12_levelBy_28 g5 ?_
  refine s_aload_n hF dX12_levelBy_29 rfl 0 rfl ?_
  refine s_getR (x := (g_R μ l0 24)) hF dX12_levelBy_30 flX12_55 f0 g1 rfl ?_
  refine s_iconst (v := (4 : Int32)) hF dX12_levelBy_33 kI_4 ?_
  refine s_iload hF dX12_levelBy_34 5 rfl ?_
  refine sim_gd (fun g6 => ?_)
  refine s_iastore hF dX12_levelBy_36 g6 ?_
  refine s_aload_n hF dX12_levelBy_37 rfl 0 rfl ?_
  refine s_getR (x := (g_R μ l0 24)) hF dX12_levelBy_38 flX12_55 f0 g1 rfl ?_
  refine s_iconst (v := (5 : Int32)) hF dX12_levelBy_41 kI_5 ?_
  refine s_iload hF dX12_levelBy_42 6 rfl ?_
  refine sim_gd (fun g7 => ?_)
  refine s_iastore hF dX12_levelBy_44 g7 ?_
  refine s_aload_n hF dX12_levelBy_45 rfl 0 rfl ?_
  refine s_getR (x := (g_R μ l0 24)) hF dX12_levelBy_46 flX12_55 f0 g1 rfl ?_
  refine s_bipush (v := (6 : Int32)) hF dX12_levelBy_49 kB_6 ?_
  refine s_iload hF dX12_levelBy_51 7 rfl ?_
  refine sim_gd (fun g8 => ?_)
  refine s_iastore hF dX12_levelBy_53 g8 ?_
  refine s_aload_n hF dX12_levelBy_54 rfl 0 rfl ?_
  refine s_getR (x := (g_R μ l0 24)) hF dX12_levelBy_55 flX12_55 f0 g1 rfl ?_
  refine s_bipush (v := (7 : Int32)) hF dX12_levelBy_58 kB_7 ?_
  refine s_iload hF dX12_levelBy_60 8 rfl ?_
  refine sim_gd (fun g9 => ?_)
  refine s_iastore hF dX12_levelBy_62 g9 ?_
  refine s_aload_n hF dX12_levelBy_63 rfl 0 rfl ?_
  refine s_cVi (st := []) (ci := 12) [] hF hD.dr dX12_levelBy_64 cwX12_283 (Nat.le_of_ble_eq_true rfl) (Nat.le_of_ble_eq_true rfl) rfl rfl (Nat.le_of_ble_eq_true rfl) f0 rfl rfl (Nat.le_of_ble_eq_true rfl) (ctX12_byLaw l0 _) (fun r10 m11 hl12 hm13 => ?_)
  exact s_iretD hF hD dX12_levelBy_67 rfl
theorem sX12_levelOf_41 {F : Option Fx} (hF : FxO F RX12 cX12_levelOf 6 4) (hD : FxDO F (some .int)) (l0 : Nat) (l1 : Nat) (l2 : Int32) (l3 : Int32) (l4 : Int32) (k0 : Int32) (μ : Mem) (f0 : isK μ l0 12 = true) (f1 : isK μ l1 15 = true) : Sim F encI 41 [(0, .ref l0), (1, .ref l1), (2, .int l2), (3, .int l3), (4, .int l4)] [.int k0] μ (mX12_levelOf_41 l0 l1 l2 l3 l4 k0 μ) := by
  unfold mX12_levelOf_41
  refine s_istore (pls' := [(5, .int k0), (0, .ref l0), (1, .ref l1), (2, .int l2), (3, .int l3), (4, .int l4)]) hF dX12_levelOf_41 (by decide) rfl ?_
  refine s_aload_n hF dX12_levelOf_43 rfl 1 rfl ?_
  refine s_iload_n hF dX12_levelOf_44 rfl 4 rfl ?_
  refine s_iload hF dX12_levelOf_45 5 rfl ?_
  refine s_iload hF dX12_levelOf_47 0 rfl ?_
  refine s_aload_n hF dX12_levelOf_49 rfl 2 rfl ?_
  refine s_bipush (v := (24 : Int32)) hF dX12_levelOf_50 kB_24 ?_
  refine s_iload_n hF dX12_levelOf_52 rfl 3 rfl ?_
  refine s_iadd hF dX12_levelOf_53 ?_
  refine sim_gd (fun g19 => ?_)
  refine s_iaload (x := (g_I μ l1 ((24 : Int32) + l2).toNatClampNeg)) hF dX12_levelOf_54 g19 rfl ?_
  refine s_aload_n hF dX12_levelOf_55 rfl 2 rfl ?_
  refine s_bipush (v := (32 : Int32)) hF dX12_levelOf_56 kB_32 ?_
  refine sim_gd (fun g20 => ?_)
  refine s_iaload (x := (g_I μ l1 (32 : Int32).toNatClampNeg)) hF dX12_levelOf_58 g20 rfl ?_
  refine s_iload_n hF dX12_levelOf_59 rfl 3 rfl ?_
  refine s_aload_n hF dX12_levelOf_60 rfl 2 rfl ?_
  refine s_iconst (v := (0 : Int32)) hF dX12_levelOf_61 kI_0 ?_
  refine s_iload_n hF dX12_levelOf_62 rfl 3 rfl ?_
  refine s_iadd hF dX12_levelOf_63 ?_
  refine sim_gd (fun g21 => ?_)
  refine s_iaload (x := (g_I μ l1 ((0 : Int32) + l2).toNatClampNeg)) hF dX12_levelOf_64 g21 rfl ?_
  refine s_aload_n hF dX12_levelOf_65 rfl 2 rfl ?_
  refine s_bipush (v := (8 : Int32)) hF dX12_levelOf_66 kB_8 ?_
  refine s_iload_n hF dX12_levelOf_68 rfl 3 rfl ?_
  refine s_iadd hF dX12_levelOf_69 ?_
  refine sim_gd (fun g22 => ?_)
  refine s_iaload (x := (g_I μ l1 ((8 : Int32) + l2).toNatClampNeg)) hF dX12_levelOf_70 g22 rfl ?_
  refine s_cVi (st := []) (ci := 12) [.int l3, .int l4, .int k0, .int (g_I μ l1 ((24 : Int32) + l2).toNatClampNeg), .int (g_I μ l1 (32 : Int32).toNatClampNeg), .int l2, .int (g_I μ l1 ((0 : Int32) + l2).toNatClampNeg), .int (g_I μ l1 ((8 : Int32) + l2).toNatClampNeg)] hF hD.dr dX12_levelOf_71 cwX12_297 (Nat.le_of_ble_eq_true rfl) (Nat.le_of_ble_eq_true rfl) rfl rfl (Nat.le_of_ble_eq_true rfl) f0 rfl rfl (Nat.le_of_ble_eq_true rfl) (ctX12_levelBy l0 l3 l4 k0 (g_I μ l1 ((24 : Int32) + l2).toNatClampNeg) (g_I μ l1 (32 : Int32).toNatClampNeg) l2 (g_I μ l1 ((0 : Int32) + l2).toNatClampNeg) (g_I μ l1 ((8 : Int32) + l2).toNatClampNeg) _) (fun r23 m24 hl25 hm26 => ?_)
  exact s_iretD hF hD dX12_levelOf_74 rfl
theorem sX12_levelOf_20 {F : Option Fx} (hF : FxO F RX12 cX12_levelOf 6 4) (hD : FxDO F (some .int)) (l0 : Nat) (l1 : Nat) (l2 : Int32) (l3 : Int32) (k0 : Int32) (μ : Mem) (f0 : isK μ l0 12 = true) (f1 : isK μ l1 15 = true) : Sim F encI 20 [(0, .ref l0), (1, .ref l1), (2, .int l2), (3, .int l3)] [.int k0] μ (mX12_levelOf_20 l0 l1 l2 l3 k0 μ) := by
  unfold mX12_levelOf_20
  refine s_istore (pls' := [(4, .int k0), (0, .ref l0), (1, .ref l1), (2, .int l2), (3, .int l3)]) hF dX12_levelOf_20 (by decide) rfl ?_
  refine s_aload_n hF dX12_levelOf_22 rfl 1 rfl ?_
  refine s_aload_n hF dX12_levelOf_23 rfl 2 rfl ?_
  refine s_iload_n hF dX12_levelOf_24 rfl 3 rfl ?_
  refine s_cVi (st := []) (ci := 12) [.ref l1, .int l2] hF hD.dr dX12_levelOf_25 cwX12_286 (Nat.le_of_ble_eq_true rfl) (Nat.le_of_ble_eq_true rfl) rfl rfl (Nat.le_of_ble_eq_true rfl) f0 rfl rfl (Nat.le_of_ble_eq_true rfl) (ctX12_jams l0 l1 l2 _) (fun r10 m11 hl12 hm13 => ?_)
  refine s_if_eq (tgt := 35) hF dX12_levelOf_28 rfl (fun c14 => ?_) (fun c14 => ?_)
  · refine s_iload_n hF dX12_levelOf_35 rfl 4 rfl ?_
    refine s_iload hF dX12_levelOf_36 0 rfl ?_
    refine s_cSi (st := []) [.int l3, .int k0] hF hD.dr dX12_levelOf_38 cwX12_294 (Nat.le_of_ble_eq_true rfl) (Nat.le_of_ble_eq_true rfl) rfl rfl (Nat.le_of_ble_eq_true rfl) (ctX12_off l3 k0 _) (fun r15 m16 hl17 hm18 => ?_)
    refine s_sub [1, 2, 3, 4, 0] rfl ?_
    exact sX12_levelOf_41 hF hD l0 l1 l2 l3 k0 r15 _ (isK.mo (isK.mo f0 hm13) hm18) (isK.mo (isK.mo f1 hm13) hm18)
  · refine s_iconst (v := (0 : Int32)) hF dX12_levelOf_31 kI_0 ?_
    refine s_goto (tgt := 41) hF dX12_levelOf_32 rfl ?_
    refine s_sub [1, 2, 3, 4, 0] rfl ?_
    exact sX12_levelOf_41 hF hD l0 l1 l2 l3 k0 (0 : Int32) _ (isK.mo f0 hm13) (isK.mo f1 hm13)
theorem ctX12_levelOf  (l0 : Nat) (l1 : Nat) (l2 : Int32) (l3 : Int32) (μ : Mem) : ∀ (r : Int32) (μ' : Mem), LX12_levelOf l0 l1 l2 l3 μ = some (r, μ') → CtD yX12_levelOf cX12_levelOf 6 (some .int) 4 [.ref l0, .ref l1, .int l2, .int l3] μ (encI r) μ' := by
  refine ct_enterD plX12 (Nat.le_of_ble_eq_true rfl) (fun F hF hD hI => ?_)
  unfold LX12_levelOf
  refine sim_gd (fun f0 => ?_)
  refine sim_gd (fun f1 => ?_)
  refine s_aload_n hF dX12_levelOf_0 rfl 0 rfl ?_
  refine s_aload_n hF dX12_levelOf_1 rfl 1 rfl ?_
  refine s_iload_n hF dX12_levelOf_2 rfl 2 rfl ?_
  refine s_cVi (st := []) (ci := 12) [.ref l1, .int l2] hF hD.dr dX12_levelOf_3 cwX12_286 (Nat.le_of_ble_eq_true rfl) (Nat.le_of_ble_eq_true rfl) rfl rfl (Nat.le_of_ble_eq_true rfl) f0 rfl rfl (Nat.le_of_ble_eq_true rfl) (ctX12_jams l0 l1 l2 _) (fun r1 m2 hl3 hm4 => ?_)
  refine s_if_eq (tgt := 13) hF dX12_levelOf_6 rfl (fun c5 => ?_) (fun c5 => ?_)
  · refine s_aload_n hF dX12_levelOf_13 rfl 0 rfl ?_
    refine s_aload_n hF dX12_levelOf_14 rfl 1 rfl ?_
    refine s_iload_n hF dX12_levelOf_15 rfl 2 rfl ?_
    refine s_iload_n hF dX12_levelOf_16 rfl 3 rfl ?_
    refine s_cVi (st := []) (ci := 12) [.ref l1, .int l2, .int l3] hF hD.dr dX12_levelOf_17 cwX12_290 (Nat.le_of_ble_eq_true rfl) (Nat.le_of_ble_eq_true rfl) rfl rfl (Nat.le_of_ble_eq_true rfl) (isK.mo f0 hm4) rfl rfl (Nat.le_of_ble_eq_true rfl) (ctX12_outOf l0 l1 l2 l3 _) (fun r6 m7 hl8 hm9 => ?_)
    exact sX12_levelOf_20 hF hD l0 l1 l2 l3 r6 _ (isK.mo (isK.mo f0 hm4) hm9) (isK.mo (isK.mo f1 hm4) hm9)
  · refine s_iconst (v := (0 : Int32)) hF dX12_levelOf_9 kI_0 ?_
    refine s_goto (tgt := 20) hF dX12_levelOf_10 rfl ?_
    exact sX12_levelOf_20 hF hD l0 l1 l2 l3 (0 : Int32) _ (isK.mo f0 hm4) (isK.mo f1 hm4)
theorem ctX12_placeOf  (l0 : Int32) (l1 : Int32) (μ : Mem) : ∀ (r : Int32) (μ' : Mem), LX12_placeOf l0 l1 μ = some (r, μ') → CtD yX12_placeOf cX12_placeOf 2 (some .int) 0 [.int l0, .int l1] μ (encI r) μ' := by
  refine ct_enterD plX12 (Nat.le_of_ble_eq_true rfl) (fun F hF hD hI => ?_)
  unfold LX12_placeOf
  refine s_bipush (v := (24 : Int32)) hF dX12_placeOf_0 kB_24 ?_
  refine s_iload_n hF dX12_placeOf_2 rfl 0 rfl ?_
  refine s_imul hF dX12_placeOf_3 ?_
  refine s_iload_n hF dX12_placeOf_4 rfl 1 rfl ?_
  refine s_iadd hF dX12_placeOf_5 ?_
  exact s_iretD hF hD dX12_placeOf_6 rfl
theorem ctX12_readAt  (l0 : Nat) (l1 : Nat) (l2 : Int32) (l3 : Int32) (μ : Mem) : ∀ (r : Int32) (μ' : Mem), LX12_readAt l0 l1 l2 l3 μ = some (r, μ') → CtD yX12_readAt cX12_readAt 5 (some .int) 2 [.ref l0, .ref l1, .int l2, .int l3] μ (encI r) μ' := by
  refine ct_enterD plX12 (Nat.le_of_ble_eq_true rfl) (fun F hF hD hI => ?_)
  unfold LX12_readAt
  refine sim_gd (fun f0 => ?_)
  refine sim_gd (fun f1 => ?_)
  refine s_aload_n hF dX12_readAt_0 rfl 1 rfl ?_
  refine s_sipush (v := (227 : Int32)) hF dX12_readAt_1 kS_227 ?_
  refine s_iload_n hF dX12_readAt_4 rfl 2 rfl ?_
  refine s_iload_n hF dX12_readAt_5 rfl 3 rfl ?_
  refine s_cSi (st := [.int (227 : Int32), .ref l1]) [.int l2, .int l3] hF hD.dr dX12_readAt_6 cwX12_301 (Nat.le_of_ble_eq_true rfl) (Nat.le_of_ble_eq_true rfl) rfl rfl (Nat.le_of_ble_eq_true rfl) (ctX12_placeOf l2 l3 _) (fun r1 m2 hl3 hm4 => ?_)
  refine s_iadd hF dX12_readAt_9 ?_
  refine sim_gd (fun g5 => ?_)
  refine s_iaload (x := (g_I m2 l1 ((227 : Int32) + r1).toNatClampNeg)) hF dX12_readAt_10 g5 rfl ?_
  refine s_istore (pls' := [(4, .int (g_I m2 l1 ((227 : Int32) + r1).toNatClampNeg)), (0, .ref l0), (1, .ref l1), (2, .int l2), (3, .int l3)]) hF dX12_readAt_11 (by decide) rfl ?_
  refine s_iload hF dX12_readAt_13 0 rfl ?_
  refine s_iconst (v := (-1 : Int32)) hF dX12_readAt_15 kI_m1 ?_
  refine s_icmp_ne (tgt := 23) hF dX12_readAt_16 rfl (fun c6 => ?_) (fun c6 => ?_)
  · refine s_iconst (v := (0 : Int32)) hF dX12_readAt_19 kI_0 ?_
    refine s_goto (tgt := 54) hF dX12_readAt_20 rfl ?_
    exact s_iretD hF hD dX12_readAt_54 rfl
  · refine s_aload_n hF dX12_readAt_23 rfl 1 rfl ?_
    refine sim_gd (fun g7 => ?_)
    refine s_getR (x := (g_R m2 l0 14)) hF dX12_readAt_24 flX12_31 (isK.mo f0 hm4) g7 rfl ?_
    refine s_iload_n hF dX12_readAt_27 rfl 3 rfl ?_
    refine sim_gd (fun g8 => ?_)
    refine sim_gd (fun g9 => ?_)
    refine s_aaload (x := (g_R m2 (g_R m2 l0 14) l2.toNatClampNeg)) hF dX12_readAt_28 (by decide) (by decide) g8 g9 rfl ?_
    refine s_iconst (v := (0 : Int32)) hF dX12_readAt_29 kI_0 ?_
    refine sim_gd (fun g10 => ?_)
    refine s_iaload (x := (g_I m2 (g_R m2 (g_R m2 l0 14) l2.toNatClampNeg) (0 : Int32).toNatClampNeg)) hF dX12_readAt_30 g10 rfl ?_
    refine s_aload_n hF dX12_readAt_31 rfl 2 rfl ?_
    refine s_bipush (v := (35 : Int32)) hF dX12_readAt_32 kB_35 ?_
    refine s_iload_n hF dX12_readAt_34 rfl 3 rfl ?_
    refine s_iload_n hF dX12_readAt_35 rfl 4 rfl ?_
    refine s_cSi (st := [.int (35 : Int32), .ref l1, .int (g_I m2 (g_R m2 (g_R m2 l0 14) l2.toNatClampNeg) (0 : Int32).toNatClampNeg)]) [.int l2, .int l3] hF hD.dr dX12_readAt_36 cwX12_301 (Nat.le_of_ble_eq_true rfl) (Nat.le_of_ble_eq_true rfl) rfl rfl (Nat.le_of_ble_eq_true rfl) (ctX12_placeOf l2 l3 _) (fun r11 m12 hl13 hm14 => ?_)
    refine s_iadd hF dX12_readAt_39 ?_
    refine sim_gd (fun g15 => ?_)
    refine s_iaload (x := (g_I m12 l1 ((35 : Int32) + r11).toNatClampNeg)) hF dX12_readAt_40 g15 rfl ?_
    refine s_iload hF dX12_readAt_41 0 rfl ?_
    refine s_bipush (v := (100 : Int32)) hF dX12_readAt_43 kB_100 ?_
    refine sim_gd (fun g16 => ?_)
    refine s_idiv hF dX12_readAt_45 g16 ?_
    refine s_iload hF dX12_readAt_46 0 rfl ?_
    refine s_bipush (v := (100 : Int32)) hF dX12_readAt_48 kB_100 ?_
    refine sim_gd (fun g17 => ?_)
    refine s_irem hF dX12_readAt_50 g17 ?_
    refine s_cSi (st := []) [.int (g_I m2 (g_R m2 (g_R m2 l0 14) l2.toNatClampNeg) (0 : Int32).toNatClampNeg), .int (g_I m12 l1 ((35 : Int32) + r11).toNatClampNeg), .int ((g_I m2 l1 ((227 : Int32) + r1).toNatClampNeg) / (100 : Int32)), .int ((g_I m2 l1 ((227 : Int32) + r1).toNatClampNeg) - (g_I m2 l1 ((227 : Int32) + r1).toNatClampNeg) / (100 : Int32) * (100 : Int32))] hF hD.dr dX12_readAt_51 cwX12_276 (Nat.le_of_ble_eq_true rfl) (Nat.le_of_ble_eq_true rfl) rfl rfl (Nat.le_of_ble_eq_true rfl) (ctX12_outBy (g_I m2 (g_R m2 (g_R m2 l0 14) l2.toNatClampNeg) (0 : Int32).toNatClampNeg) (g_I m12 l1 ((35 : Int32) + r11).toNatClampNeg) ((g_I m2 l1 ((227 : Int32) + r1).toNatClampNeg) / (100 : Int32)) ((g_I m2 l1 ((227 : Int32) + r1).toNatClampNeg) - (g_I m2 l1 ((227 : Int32) + r1).toNatClampNeg) / (100 : Int32) * (100 : Int32)) _) (fun r18 m19 hl20 hm21 => ?_)
    exact s_iretD hF hD dX12_readAt_54 rfl
theorem sX12_blanksFrom_2 {F : Option Fx} (hF : FxO F RX12 cX12_blanksFrom 4 1) (hD : FxDO F none) : ∀ (fu : Nat) (l0 : Nat) (l1 : Int32) (l3 : Int32) (μ : Mem) (f0 : isK μ l0 15 = true), Sim F encV 2 [(0, .ref l0), (1, .int l1), (3, .int l3)] [] μ (mX12_blanksFrom_2 fu l0 l1 l3 μ) := by
  intro fu
  induction fu with
  | zero =>
    intro l0 l1 l3 μ f0
    exact sim_none
  | succ fu ih =>
    intro l0 l1 l3 μ f0
    rw [mX12_blanksFrom_2]
    refine s_iload_n hF dX12_blanksFrom_2 rfl 2 rfl ?_
    refine s_bipush (v := (24 : Int32)) hF dX12_blanksFrom_3 kB_24 ?_
    refine s_icmp_ge (tgt := 37) hF dX12_blanksFrom_5 rfl (fun c1 => ?_) (fun c1 => ?_)
    · exact s_vretD hF hD dX12_blanksFrom_37 rfl
    · refine s_aload_n hF dX12_blanksFrom_8 rfl 0 rfl ?_
      refine s_bipush (v := (35 : Int32)) hF dX12_blanksFrom_9 kB_35 ?_
      refine s_iload_n hF dX12_blanksFrom_11 rfl 1 rfl ?_
      refine s_iload_n hF dX12_blanksFrom_12 rfl 2 rfl ?_
      refine s_cSi (st := [.int (35 : Int32), .ref l0]) [.int l1, .int l3] hF hD.dr dX12_blanksFrom_13 cwX12_301 (Nat.le_of_ble_eq_true rfl) (Nat.le_of_ble_eq_true rfl) rfl rfl (Nat.le_of_ble_eq_true rfl) (ctX12_placeOf l1 l3 _) (fun r2 m3 hl4 hm5 => ?_)
      refine s_iadd hF dX12_blanksFrom_16 ?_
      refine s_iconst (v := (-1 : Int32)) hF dX12_blanksFrom_17 kI_m1 ?_
      refine sim_gd (fun g6 => ?_)
      refine s_iastore hF dX12_blanksFrom_18 g6 ?_
      refine s_aload_n hF dX12_blanksFrom_19 rfl 0 rfl ?_
      refine s_sipush (v := (227 : Int32)) hF dX12_blanksFrom_20 kS_227 ?_
      refine s_iload_n hF dX12_blanksFrom_23 rfl 1 rfl ?_
      refine s_iload_n hF dX12_blanksFrom_24 rfl 2 rfl ?_
      refine s_cSi (st := [.int (227 : Int32), .ref l0]) [.int l1, .int l3] hF hD.dr dX12_blanksFrom_25 cwX12_301 (Nat.le_of_ble_eq_true rfl) (Nat.le_of_ble_eq_true rfl) rfl rfl (Nat.le_of_ble_eq_true rfl) (ctX12_placeOf l1 l3 _) (fun r7 m8 hl9 hm10 => ?_)
      refine s_iadd hF dX12_blanksFrom_28 ?_
      refine s_iconst (v := (-1 : Int32)) hF dX12_blanksFrom_29 kI_m1 ?_
      refine sim_gd (fun g11 => ?_)
      refine s_iastore hF dX12_blanksFrom_30 g11 ?_
      refine s_iinc (v := (l3 + (1 : Int32))) (pls' := [(3, .int (l3 + (1 : Int32))), (0, .ref l0), (1, .int l1)]) hF dX12_blanksFrom_31 2 rfl rfl (by decide) rfl ?_
      refine s_goto (tgt := 2) hF dX12_blanksFrom_34 rfl ?_
      refine s_sub [1, 2, 0] rfl ?_
      exact ih l0 l1 (l3 + (1 : Int32)) _ (isK.mo (isK.mo f0 hm5) hm10)
theorem ctX12_blanksFrom  (l0 : Nat) (l1 : Int32) (l2 : Int32) (μ : Mem) : ∀ (r : Unit) (μ' : Mem), LX12_blanksFrom l0 l1 l2 μ = some (r, μ') → CtD yX12_blanksFrom cX12_blanksFrom 4 none 1 [.ref l0, .int l1, .int l2] μ (encV r) μ' := by
  refine ct_enterD plX12 (Nat.le_of_ble_eq_true rfl) (fun F hF hD hI => ?_)
  unfold LX12_blanksFrom
  refine sim_gd (fun f0 => ?_)
  refine s_iload_n hF dX12_blanksFrom_0 rfl 2 rfl ?_
  refine s_istore_n (pls' := [(3, .int l2), (0, .ref l0), (1, .int l1), (2, .int l2)]) hF dX12_blanksFrom_1 rfl (by decide) rfl ?_
  refine s_sub [1, 2, 0] rfl ?_
  exact sX12_blanksFrom_2 hF hD 100000 l0 l1 l2 _ f0
theorem ctX12_canRead  (l0 : Nat) (l1 : Nat) (l2 : Int32) (μ : Mem) : ∀ (r : Int32) (μ' : Mem), LX12_canRead l0 l1 l2 μ = some (r, μ') → CtD yX12_canRead cX12_canRead 3 (some .boolean) 2 [.ref l0, .ref l1, .int l2] μ (encI r) μ' := by
  refine ct_enterD plX12 (Nat.le_of_ble_eq_true rfl) (fun F hF hD hI => ?_)
  unfold LX12_canRead
  refine sim_gd (fun f0 => ?_)
  refine sim_gd (fun f1 => ?_)
  refine s_aload_n hF dX12_canRead_0 rfl 1 rfl ?_
  refine s_bipush (v := (16 : Int32)) hF dX12_canRead_1 kB_16 ?_
  refine s_iload_n hF dX12_canRead_3 rfl 2 rfl ?_
  refine s_iadd hF dX12_canRead_4 ?_
  refine sim_gd (fun g1 => ?_)
  refine s_iaload (x := (g_I μ l1 ((16 : Int32) + l2).toNatClampNeg)) hF dX12_canRead_5 g1 rfl ?_
  refine s_iconst (v := (-1 : Int32)) hF dX12_canRead_6 kI_m1 ?_
  refine s_icmp_eq (tgt := 38) hF dX12_canRead_7 rfl (fun c2 => ?_) (fun c2 => ?_)
  · refine s_iconst (v := (0 : Int32)) hF dX12_canRead_38 kI_0 ?_
    exact s_zretD hF hD dX12_canRead_39 rfl rfl
  · refine s_aload_n hF dX12_canRead_10 rfl 1 rfl ?_
    refine s_bipush (v := (24 : Int32)) hF dX12_canRead_11 kB_24 ?_
    refine s_iload_n hF dX12_canRead_13 rfl 2 rfl ?_
    refine s_iadd hF dX12_canRead_14 ?_
    refine sim_gd (fun g3 => ?_)
    refine s_iaload (x := (g_I μ l1 ((24 : Int32) + l2).toNatClampNeg)) hF dX12_canRead_15 g3 rfl ?_
    refine s_aload_n hF dX12_canRead_16 rfl 1 rfl ?_
    refine s_bipush (v := (16 : Int32)) hF dX12_canRead_17 kB_16 ?_
    refine s_iload_n hF dX12_canRead_19 rfl 2 rfl ?_
    refine s_iadd hF dX12_canRead_20 ?_
    refine s_iaload (x := (g_I μ l1 ((16 : Int32) + l2).toNatClampNeg)) hF dX12_canRead_21 g1 rfl ?_
    refine s_icmp_ge (tgt := 38) hF dX12_canRead_22 rfl (fun c4 => ?_) (fun c4 => ?_)
    · refine s_iconst (v := (0 : Int32)) hF dX12_canRead_38 kI_0 ?_
      exact s_zretD hF hD dX12_canRead_39 rfl rfl
    · refine s_aload_n hF dX12_canRead_25 rfl 0 rfl ?_
      refine s_aload_n hF dX12_canRead_26 rfl 1 rfl ?_
      refine s_iload_n hF dX12_canRead_27 rfl 2 rfl ?_
      refine s_cVi (st := []) (ci := 12) [.ref l1, .int l2] hF hD.dr dX12_canRead_28 cwX12_286 (Nat.le_of_ble_eq_true rfl) (Nat.le_of_ble_eq_true rfl) rfl rfl (Nat.le_of_ble_eq_true rfl) f0 rfl rfl (Nat.le_of_ble_eq_true rfl) (ctX12_jams l0 l1 l2 _) (fun r5 m6 hl7 hm8 => ?_)
      refine s_if_ne (tgt := 38) hF dX12_canRead_31 rfl (fun c9 => ?_) (fun c9 => ?_)
      · refine s_iconst (v := (1 : Int32)) hF dX12_canRead_34 kI_1 ?_
        refine s_goto (tgt := 39) hF dX12_canRead_35 rfl ?_
        exact s_zretD hF hD dX12_canRead_39 rfl rfl
      · refine s_iconst (v := (0 : Int32)) hF dX12_canRead_38 kI_0 ?_
        exact s_zretD hF hD dX12_canRead_39 rfl rfl
theorem sX12_reads_33 {F : Option Fx} (hF : FxO F RX12 cX12_reads 5 5) (hD : FxDO F (some .boolean)) (l1 : Nat) (l2 : Int32) (l3 : Int32) (k0 : Int32) (k1 : Int32) (k2 : Int32) (k3 : Nat) (μ : Mem) (f1 : isK μ l1 15 = true) : Sim F encI 33 [(1, .ref l1), (2, .int l2), (3, .int l3)] [.int k0, .int k1, .int k2, .ref k3] μ (mX12_reads_33 l1 l2 l3 k0 k1 k2 k3 μ) := by
  unfold mX12_reads_33
  refine s_iadd hF dX12_reads_33 ?_
  refine sim_gd (fun g12 => ?_)
  refine s_iastore hF dX12_reads_34 g12 ?_
  refine s_iload_n hF dX12_reads_35 rfl 1 rfl ?_
  refine s_aload_n hF dX12_reads_36 rfl 0 rfl ?_
  refine s_bipush (v := (24 : Int32)) hF dX12_reads_37 kB_24 ?_
  refine s_iload_n hF dX12_reads_39 rfl 1 rfl ?_
  refine s_iadd hF dX12_reads_40 ?_
  refine sim_gd (fun g13 => ?_)
  refine s_iaload (x := (g_I (p_I μ k3 k2.toNatClampNeg (k1 + k0)) l1 ((24 : Int32) + l2).toNatClampNeg)) hF dX12_reads_41 g13 rfl ?_
  refine s_cSi (st := []) [.int l2, .int (g_I (p_I μ k3 k2.toNatClampNeg (k1 + k0)) l1 ((24 : Int32) + l2).toNatClampNeg)] hF hD.dr dX12_reads_42 cwX12_301 (Nat.le_of_ble_eq_true rfl) (Nat.le_of_ble_eq_true rfl) rfl rfl (Nat.le_of_ble_eq_true rfl) (ctX12_placeOf l2 (g_I (p_I μ k3 k2.toNatClampNeg (k1 + k0)) l1 ((24 : Int32) + l2).toNatClampNeg) _) (fun r14 m15 hl16 hm17 => ?_)
  refine s_istore (pls' := [(4, .int r14), (1, .ref l1), (2, .int l2), (3, .int l3)]) hF dX12_reads_45 (by decide) rfl ?_
  refine s_aload_n hF dX12_reads_47 rfl 1 rfl ?_
  refine s_bipush (v := (35 : Int32)) hF dX12_reads_48 kB_35 ?_
  refine s_iload hF dX12_reads_50 0 rfl ?_
  refine s_iadd hF dX12_reads_52 ?_
  refine s_iload_n hF dX12_reads_53 rfl 3 rfl ?_
  refine sim_gd (fun g18 => ?_)
  refine s_iastore hF dX12_reads_54 g18 ?_
  refine s_aload_n hF dX12_reads_55 rfl 1 rfl ?_
  refine s_sipush (v := (227 : Int32)) hF dX12_reads_56 kS_227 ?_
  refine s_iload hF dX12_reads_59 0 rfl ?_
  refine s_iadd hF dX12_reads_61 ?_
  refine s_bipush (v := (100 : Int32)) hF dX12_reads_62 kB_100 ?_
  refine s_aload_n hF dX12_reads_64 rfl 1 rfl ?_
  refine s_iconst (v := (0 : Int32)) hF dX12_reads_65 kI_0 ?_
  refine s_iload_n hF dX12_reads_66 rfl 2 rfl ?_
  refine s_iadd hF dX12_reads_67 ?_
  refine sim_gd (fun g19 => ?_)
  refine s_iaload (x := (g_I (p_I m15 l1 ((35 : Int32) + r14).toNatClampNeg l3) l1 ((0 : Int32) + l2).toNatClampNeg)) hF dX12_reads_68 g19 rfl ?_
  refine s_imul hF dX12_reads_69 ?_
  refine s_aload_n hF dX12_reads_70 rfl 1 rfl ?_
  refine s_bipush (v := (8 : Int32)) hF dX12_reads_71 kB_8 ?_
  refine s_iload_n hF dX12_reads_73 rfl 2 rfl ?_
  refine s_iadd hF dX12_reads_74 ?_
  refine sim_gd (fun g20 => ?_)
  refine s_iaload (x := (g_I (p_I m15 l1 ((35 : Int32) + r14).toNatClampNeg l3) l1 ((8 : Int32) + l2).toNatClampNeg)) hF dX12_reads_75 g20 rfl ?_
  refine s_iadd hF dX12_reads_76 ?_
  refine sim_gd (fun g21 => ?_)
  refine s_iastore hF dX12_reads_77 g21 ?_
  refine s_aload_n hF dX12_reads_78 rfl 1 rfl ?_
  refine s_bipush (v := (24 : Int32)) hF dX12_reads_79 kB_24 ?_
  refine s_iload_n hF dX12_reads_81 rfl 2 rfl ?_
  refine s_iadd hF dX12_reads_82 ?_
  refine s_dup2 hF dX12_reads_83 rfl rfl ?_
  refine sim_gd (fun g22 => ?_)
  refine s_iaload (x := (g_I (p_I (p_I m15 l1 ((35 : Int32) + r14).toNatClampNeg l3) l1 ((227 : Int32) + r14).toNatClampNeg (((100 : Int32) * (g_I (p_I m15 l1 ((35 : Int32) + r14).toNatClampNeg l3) l1 ((0 : Int32) + l2).toNatClampNeg)) + (g_I (p_I m15 l1 ((35 : Int32) + r14).toNatClampNeg l3) l1 ((8 : Int32) + l2).toNatClampNeg))) l1 ((24 : Int32) + l2).toNatClampNeg)) hF dX12_reads_84 g22 rfl ?_
  refine s_iconst (v := (1 : Int32)) hF dX12_reads_85 kI_1 ?_
  refine s_iadd hF dX12_reads_86 ?_
  refine s_iastore hF dX12_reads_87 g22 ?_
  refine s_aload_n hF dX12_reads_88 rfl 1 rfl ?_
  refine s_bipush (v := (34 : Int32)) hF dX12_reads_89 kB_34 ?_
  refine s_dup2 hF dX12_reads_91 rfl rfl ?_
  refine sim_gd (fun g23 => ?_)
  refine s_iaload (x := (g_I (p_I (p_I (p_I m15 l1 ((35 : Int32) + r14).toNatClampNeg l3) l1 ((227 : Int32) + r14).toNatClampNeg (((100 : Int32) * (g_I (p_I m15 l1 ((35 : Int32) + r14).toNatClampNeg l3) l1 ((0 : Int32) + l2).toNatClampNeg)) + (g_I (p_I m15 l1 ((35 : Int32) + r14).toNatClampNeg l3) l1 ((8 : Int32) + l2).toNatClampNeg))) l1 ((24 : Int32) + l2).toNatClampNeg ((g_I (p_I (p_I m15 l1 ((35 : Int32) + r14).toNatClampNeg l3) l1 ((227 : Int32) + r14).toNatClampNeg (((100 : Int32) * (g_I (p_I m15 l1 ((35 : Int32) + r14).toNatClampNeg l3) l1 ((0 : Int32) + l2).toNatClampNeg)) + (g_I (p_I m15 l1 ((35 : Int32) + r14).toNatClampNeg l3) l1 ((8 : Int32) + l2).toNatClampNeg))) l1 ((24 : Int32) + l2).toNatClampNeg) + (1 : Int32))) l1 (34 : Int32).toNatClampNeg)) hF dX12_reads_92 g23 rfl ?_
  refine s_iconst (v := (1 : Int32)) hF dX12_reads_93 kI_1 ?_
  refine s_iadd hF dX12_reads_94 ?_
  refine s_iastore hF dX12_reads_95 g23 ?_
  refine s_iconst (v := (1 : Int32)) hF dX12_reads_96 kI_1 ?_
  exact s_zretD hF hD dX12_reads_97 rfl rfl
theorem ctX12_reads  (l0 : Nat) (l1 : Nat) (l2 : Int32) (l3 : Int32) (μ : Mem) : ∀ (r : Int32) (μ' : Mem), LX12_reads l0 l1 l2 l3 μ = some (r, μ') → CtD yX12_reads cX12_reads 5 (some .boolean) 5 [.ref l0, .ref l1, .int l2, .int l3] μ (encI r) μ' := by
  refine ct_enterD plX12 (Nat.le_of_ble_eq_true rfl) (fun F hF hD hI => ?_)
  unfold LX12_reads
  refine sim_gd (fun f0 => ?_)
  refine sim_gd (fun f1 => ?_)
  refine s_aload_n hF dX12_reads_0 rfl 0 rfl ?_
  refine s_aload_n hF dX12_reads_1 rfl 1 rfl ?_
  refine s_iload_n hF dX12_reads_2 rfl 2 rfl ?_
  refine s_cVi (st := []) (ci := 12) [.ref l1, .int l2] hF hD.dr dX12_reads_3 cwX12_304 (Nat.le_of_ble_eq_true rfl) (Nat.le_of_ble_eq_true rfl) rfl rfl (Nat.le_of_ble_eq_true rfl) f0 rfl rfl (Nat.le_of_ble_eq_true rfl) (ctX12_canRead l0 l1 l2 _) (fun r1 m2 hl3 hm4 => ?_)
  refine s_if_ne (tgt := 11) hF dX12_reads_6 rfl (fun c5 => ?_) (fun c5 => ?_)
  · refine s_iconst (v := (0 : Int32)) hF dX12_reads_9 kI_0 ?_
    exact s_zretD hF hD dX12_reads_10 rfl rfl
  · refine s_aload_n hF dX12_reads_11 rfl 1 rfl ?_
    refine s_bipush (v := (33 : Int32)) hF dX12_reads_12 kB_33 ?_
    refine s_dup2 hF dX12_reads_14 rfl rfl ?_
    refine sim_gd (fun g6 => ?_)
    refine s_iaload (x := (g_I m2 l1 (33 : Int32).toNatClampNeg)) hF dX12_reads_15 g6 rfl ?_
    refine s_aload_n hF dX12_reads_16 rfl 0 rfl ?_
    refine s_aload_n hF dX12_reads_17 rfl 1 rfl ?_
    refine s_iload_n hF dX12_reads_18 rfl 2 rfl ?_
    refine s_iload_n hF dX12_reads_19 rfl 3 rfl ?_
    refine s_cVi (st := [.int (g_I m2 l1 (33 : Int32).toNatClampNeg), .int (33 : Int32), .ref l1]) (ci := 12) [.ref l1, .int l2, .int l3] hF hD.dr dX12_reads_20 cwX12_307 (Nat.le_of_ble_eq_true rfl) (Nat.le_of_ble_eq_true rfl) rfl rfl (Nat.le_of_ble_eq_true rfl) (isK.mo f0 hm4) rfl rfl (Nat.le_of_ble_eq_true rfl) (ctX12_levelOf l0 l1 l2 l3 _) (fun r7 m8 hl9 hm10 => ?_)
    refine s_bipush (v := (50 : Int32)) hF dX12_reads_23 kB_50 ?_
    refine s_icmp_lt (tgt := 32) hF dX12_reads_25 rfl (fun c11 => ?_) (fun c11 => ?_)
    · refine s_iconst (v := (0 : Int32)) hF dX12_reads_32 kI_0 ?_
      refine s_sub [1, 2, 3] rfl ?_
      exact sX12_reads_33 hF hD l1 l2 l3 (0 : Int32) (g_I m2 l1 (33 : Int32).toNatClampNeg) (33 : Int32) l1 _ (isK.mo (isK.mo f1 hm4) hm10)
    · refine s_iconst (v := (1 : Int32)) hF dX12_reads_28 kI_1 ?_
      refine s_goto (tgt := 33) hF dX12_reads_29 rfl ?_
      refine s_sub [1, 2, 3] rfl ?_
      exact sX12_reads_33 hF hD l1 l2 l3 (1 : Int32) (g_I m2 l1 (33 : Int32).toNatClampNeg) (33 : Int32) l1 _ (isK.mo (isK.mo f1 hm4) hm10)
theorem ctX12_hears  (l0 : Nat) (l1 : Nat) (l2 : Int32) (μ : Mem) : ∀ (r : Int32) (μ' : Mem), LX12_hears l0 l1 l2 μ = some (r, μ') → CtD yX12_hears cX12_hears 4 (some .boolean) 6 [.ref l0, .ref l1, .int l2] μ (encI r) μ' := by
  refine ct_enterD plX12 (Nat.le_of_ble_eq_true rfl) (fun F hF hD hI => ?_)
  unfold LX12_hears
  refine sim_gd (fun f0 => ?_)
  refine sim_gd (fun f1 => ?_)
  refine s_aload_n hF dX12_hears_0 rfl 0 rfl ?_
  refine sim_gd (fun g1 => ?_)
  refine s_getR (x := (g_R μ l0 16)) hF dX12_hears_1 flX12_37 f0 g1 rfl ?_
  refine s_iload_n hF dX12_hears_4 rfl 2 rfl ?_
  refine sim_gd (fun g2 => ?_)
  refine sim_gd (fun g3 => ?_)
  refine s_aaload (x := (g_R μ (g_R μ l0 16) l2.toNatClampNeg)) hF dX12_hears_5 (by decide) (by decide) g2 g3 rfl ?_
  refine s_iconst (v := (0 : Int32)) hF dX12_hears_6 kI_0 ?_
  refine sim_gd (fun g4 => ?_)
  refine s_iaload (x := (g_I μ (g_R μ (g_R μ l0 16) l2.toNatClampNeg) (0 : Int32).toNatClampNeg)) hF dX12_hears_7 g4 rfl ?_
  refine s_istore_n (pls' := [(3, .int (g_I μ (g_R μ (g_R μ l0 16) l2.toNatClampNeg) (0 : Int32).toNatClampNeg)), (0, .ref l0), (1, .ref l1), (2, .int l2)]) hF dX12_hears_8 rfl (by decide) rfl ?_
  refine s_aload_n hF dX12_hears_9 rfl 2 rfl ?_
  refine s_bipush (v := (24 : Int32)) hF dX12_hears_10 kB_24 ?_
  refine s_iload_n hF dX12_hears_12 rfl 0 rfl ?_
  refine s_iadd hF dX12_hears_13 ?_
  refine sim_gd (fun g5 => ?_)
  refine s_iaload (x := (g_I μ l1 ((24 : Int32) + (g_I μ (g_R μ (g_R μ l0 16) l2.toNatClampNeg) (0 : Int32).toNatClampNeg)).toNatClampNeg)) hF dX12_hears_14 g5 rfl ?_
  refine s_if_le (tgt := 52) hF dX12_hears_15 rfl (fun c6 => ?_) (fun c6 => ?_)
  · refine s_iconst (v := (0 : Int32)) hF dX12_hears_52 kI_0 ?_
    exact s_zretD hF hD dX12_hears_53 rfl rfl
  · refine s_aload_n hF dX12_hears_18 rfl 1 rfl ?_
    refine s_aload_n hF dX12_hears_19 rfl 2 rfl ?_
    refine s_aload_n hF dX12_hears_20 rfl 1 rfl ?_
    refine s_getR (x := (g_R μ l0 16)) hF dX12_hears_21 flX12_37 f0 g1 rfl ?_
    refine s_iload_n hF dX12_hears_24 rfl 3 rfl ?_
    refine s_aaload (x := (g_R μ (g_R μ l0 16) l2.toNatClampNeg)) hF dX12_hears_25 (by decide) (by decide) g2 g3 rfl ?_
    refine s_iconst (v := (1 : Int32)) hF dX12_hears_26 kI_1 ?_
    refine sim_gd (fun g7 => ?_)
    refine s_iaload (x := (g_I μ (g_R μ (g_R μ l0 16) l2.toNatClampNeg) (1 : Int32).toNatClampNeg)) hF dX12_hears_27 g7 rfl ?_
    refine s_aload_n hF dX12_hears_28 rfl 1 rfl ?_
    refine s_aload_n hF dX12_hears_29 rfl 2 rfl ?_
    refine s_iload_n hF dX12_hears_30 rfl 0 rfl ?_
    refine s_aload_n hF dX12_hears_31 rfl 2 rfl ?_
    refine s_bipush (v := (24 : Int32)) hF dX12_hears_32 kB_24 ?_
    refine s_iload_n hF dX12_hears_34 rfl 0 rfl ?_
    refine s_iadd hF dX12_hears_35 ?_
    refine s_iaload (x := (g_I μ l1 ((24 : Int32) + (g_I μ (g_R μ (g_R μ l0 16) l2.toNatClampNeg) (0 : Int32).toNatClampNeg)).toNatClampNeg)) hF dX12_hears_36 g5 rfl ?_
    refine s_iconst (v := (1 : Int32)) hF dX12_hears_37 kI_1 ?_
    refine s_isub hF dX12_hears_38 ?_
    refine s_cVi (st := [.int (g_I μ (g_R μ (g_R μ l0 16) l2.toNatClampNeg) (1 : Int32).toNatClampNeg), .ref l1, .ref l0]) (ci := 12) [.ref l1, .int (g_I μ (g_R μ (g_R μ l0 16) l2.toNatClampNeg) (0 : Int32).toNatClampNeg), .int ((g_I μ l1 ((24 : Int32) + (g_I μ (g_R μ (g_R μ l0 16) l2.toNatClampNeg) (0 : Int32).toNatClampNeg)).toNatClampNeg) - (1 : Int32))] hF hD.dr dX12_hears_39 cwX12_310 (Nat.le_of_ble_eq_true rfl) (Nat.le_of_ble_eq_true rfl) rfl rfl (Nat.le_of_ble_eq_true rfl) f0 rfl rfl (Nat.le_of_ble_eq_true rfl) (ctX12_readAt l0 l1 (g_I μ (g_R μ (g_R μ l0 16) l2.toNatClampNeg) (0 : Int32).toNatClampNeg) ((g_I μ l1 ((24 : Int32) + (g_I μ (g_R μ (g_R μ l0 16) l2.toNatClampNeg) (0 : Int32).toNatClampNeg)).toNatClampNeg) - (1 : Int32)) _) (fun r8 m9 hl10 hm11 => ?_)
    refine s_cVi (st := []) (ci := 12) [.ref l1, .int (g_I μ (g_R μ (g_R μ l0 16) l2.toNatClampNeg) (1 : Int32).toNatClampNeg), .int r8] hF hD.dr dX12_hears_42 cwX12_313 (Nat.le_of_ble_eq_true rfl) (Nat.le_of_ble_eq_true rfl) rfl rfl (Nat.le_of_ble_eq_true rfl) (isK.mo f0 hm11) rfl rfl (Nat.le_of_ble_eq_true rfl) (ctX12_reads l0 l1 (g_I μ (g_R μ (g_R μ l0 16) l2.toNatClampNeg) (1 : Int32).toNatClampNeg) r8 _) (fun r12 m13 hl14 hm15 => ?_)
    refine s_if_eq (tgt := 52) hF dX12_hears_45 rfl (fun c16 => ?_) (fun c16 => ?_)
    · refine s_iconst (v := (0 : Int32)) hF dX12_hears_52 kI_0 ?_
      exact s_zretD hF hD dX12_hears_53 rfl rfl
    · refine s_iconst (v := (1 : Int32)) hF dX12_hears_48 kI_1 ?_
      refine s_goto (tgt := 53) hF dX12_hears_49 rfl ?_
      exact s_zretD hF hD dX12_hears_53 rfl rfl
theorem sX12_copiesSheet_66 {F : Option Fx} (hF : FxO F RX12 cX12_copiesSheet 6 1) (hD : FxDO F (some .boolean)) : ∀ (fu : Nat) (l1 : Nat) (l2 : Int32) (l3 : Int32) (l4 : Int32) (l5 : Int32) (μ : Mem) (f1 : isK μ l1 15 = true), Sim F encI 66 [(1, .ref l1), (2, .int l2), (3, .int l3), (4, .int l4), (5, .int l5)] [] μ (mX12_copiesSheet_66 fu l1 l2 l3 l4 l5 μ) := by
  intro fu
  induction fu with
  | zero =>
    intro l1 l2 l3 l4 l5 μ f1
    exact sim_none
  | succ fu ih =>
    intro l1 l2 l3 l4 l5 μ f1
    rw [mX12_copiesSheet_66]
    refine s_iload hF dX12_copiesSheet_66 4 rfl ?_
    refine s_iload hF dX12_copiesSheet_68 3 rfl ?_
    refine s_icmp_ge (tgt := 125) hF dX12_copiesSheet_70 rfl (fun c15 => ?_) (fun c15 => ?_)
    · refine s_aload_n hF dX12_copiesSheet_125 rfl 0 rfl ?_
      refine s_bipush (v := (24 : Int32)) hF dX12_copiesSheet_126 kB_24 ?_
      refine s_iload_n hF dX12_copiesSheet_128 rfl 2 rfl ?_
      refine s_iadd hF dX12_copiesSheet_129 ?_
      refine s_aload_n hF dX12_copiesSheet_130 rfl 0 rfl ?_
      refine s_bipush (v := (24 : Int32)) hF dX12_copiesSheet_131 kB_24 ?_
      refine s_iload_n hF dX12_copiesSheet_133 rfl 2 rfl ?_
      refine s_iadd hF dX12_copiesSheet_134 ?_
      refine sim_gd (fun g16 => ?_)
      refine s_iaload (x := (g_I μ l1 ((24 : Int32) + l3).toNatClampNeg)) hF dX12_copiesSheet_135 g16 rfl ?_
      refine s_iload hF dX12_copiesSheet_136 3 rfl ?_
      refine s_aload_n hF dX12_copiesSheet_138 rfl 0 rfl ?_
      refine s_bipush (v := (24 : Int32)) hF dX12_copiesSheet_139 kB_24 ?_
      refine s_iload_n hF dX12_copiesSheet_141 rfl 1 rfl ?_
      refine s_iadd hF dX12_copiesSheet_142 ?_
      refine sim_gd (fun g17 => ?_)
      refine s_iaload (x := (g_I μ l1 ((24 : Int32) + l2).toNatClampNeg)) hF dX12_copiesSheet_143 g17 rfl ?_
      refine s_cSi (st := [.int (g_I μ l1 ((24 : Int32) + l3).toNatClampNeg), .int ((24 : Int32) + l3), .ref l1]) [.int l4, .int (g_I μ l1 ((24 : Int32) + l2).toNatClampNeg)] hF hD.dr dX12_copiesSheet_144 cwX12_234 (Nat.le_of_ble_eq_true rfl) (Nat.le_of_ble_eq_true rfl) rfl rfl (Nat.le_of_ble_eq_true rfl) (ctX12_less l4 (g_I μ l1 ((24 : Int32) + l2).toNatClampNeg) _) (fun r18 m19 hl20 hm21 => ?_)
      refine s_cSi (st := [.int ((24 : Int32) + l3), .ref l1]) [.int (g_I μ l1 ((24 : Int32) + l3).toNatClampNeg), .int r18] hF hD.dr dX12_copiesSheet_147 cwX12_237 (Nat.le_of_ble_eq_true rfl) (Nat.le_of_ble_eq_true rfl) rfl rfl (Nat.le_of_ble_eq_true rfl) (ctX12_more (g_I μ l1 ((24 : Int32) + l3).toNatClampNeg) r18 _) (fun r22 m23 hl24 hm25 => ?_)
      refine sim_gd (fun g26 => ?_)
      refine s_iastore hF dX12_copiesSheet_150 g26 ?_
      refine s_iconst (v := (1 : Int32)) hF dX12_copiesSheet_151 kI_1 ?_
      exact s_zretD hF hD dX12_copiesSheet_152 rfl rfl
    · refine s_aload_n hF dX12_copiesSheet_73 rfl 0 rfl ?_
      refine s_bipush (v := (35 : Int32)) hF dX12_copiesSheet_74 kB_35 ?_
      refine s_iload_n hF dX12_copiesSheet_76 rfl 2 rfl ?_
      refine s_iload hF dX12_copiesSheet_77 4 rfl ?_
      refine s_cSi (st := [.int (35 : Int32), .ref l1]) [.int l3, .int l5] hF hD.dr dX12_copiesSheet_79 cwX12_301 (Nat.le_of_ble_eq_true rfl) (Nat.le_of_ble_eq_true rfl) rfl rfl (Nat.le_of_ble_eq_true rfl) (ctX12_placeOf l3 l5 _) (fun r27 m28 hl29 hm30 => ?_)
      refine s_iadd hF dX12_copiesSheet_82 ?_
      refine s_aload_n hF dX12_copiesSheet_83 rfl 0 rfl ?_
      refine s_bipush (v := (35 : Int32)) hF dX12_copiesSheet_84 kB_35 ?_
      refine s_iload_n hF dX12_copiesSheet_86 rfl 1 rfl ?_
      refine s_iload hF dX12_copiesSheet_87 4 rfl ?_
      refine s_cSi (st := [.int (35 : Int32), .ref l1, .int ((35 : Int32) + r27), .ref l1]) [.int l2, .int l5] hF hD.dr dX12_copiesSheet_89 cwX12_301 (Nat.le_of_ble_eq_true rfl) (Nat.le_of_ble_eq_true rfl) rfl rfl (Nat.le_of_ble_eq_true rfl) (ctX12_placeOf l2 l5 _) (fun r31 m32 hl33 hm34 => ?_)
      refine s_iadd hF dX12_copiesSheet_92 ?_
      refine sim_gd (fun g35 => ?_)
      refine s_iaload (x := (g_I m32 l1 ((35 : Int32) + r31).toNatClampNeg)) hF dX12_copiesSheet_93 g35 rfl ?_
      refine sim_gd (fun g36 => ?_)
      refine s_iastore hF dX12_copiesSheet_94 g36 ?_
      refine s_aload_n hF dX12_copiesSheet_95 rfl 0 rfl ?_
      refine s_sipush (v := (227 : Int32)) hF dX12_copiesSheet_96 kS_227 ?_
      refine s_iload_n hF dX12_copiesSheet_99 rfl 2 rfl ?_
      refine s_iload hF dX12_copiesSheet_100 4 rfl ?_
      refine s_cSi (st := [.int (227 : Int32), .ref l1]) [.int l3, .int l5] hF hD.dr dX12_copiesSheet_102 cwX12_301 (Nat.le_of_ble_eq_true rfl) (Nat.le_of_ble_eq_true rfl) rfl rfl (Nat.le_of_ble_eq_true rfl) (ctX12_placeOf l3 l5 _) (fun r37 m38 hl39 hm40 => ?_)
      refine s_iadd hF dX12_copiesSheet_105 ?_
      refine s_aload_n hF dX12_copiesSheet_106 rfl 0 rfl ?_
      refine s_sipush (v := (227 : Int32)) hF dX12_copiesSheet_107 kS_227 ?_
      refine s_iload_n hF dX12_copiesSheet_110 rfl 1 rfl ?_
      refine s_iload hF dX12_copiesSheet_111 4 rfl ?_
      refine s_cSi (st := [.int (227 : Int32), .ref l1, .int ((227 : Int32) + r37), .ref l1]) [.int l2, .int l5] hF hD.dr dX12_copiesSheet_113 cwX12_301 (Nat.le_of_ble_eq_true rfl) (Nat.le_of_ble_eq_true rfl) rfl rfl (Nat.le_of_ble_eq_true rfl) (ctX12_placeOf l2 l5 _) (fun r41 m42 hl43 hm44 => ?_)
      refine s_iadd hF dX12_copiesSheet_116 ?_
      refine sim_gd (fun g45 => ?_)
      refine s_iaload (x := (g_I m42 l1 ((227 : Int32) + r41).toNatClampNeg)) hF dX12_copiesSheet_117 g45 rfl ?_
      refine sim_gd (fun g46 => ?_)
      refine s_iastore hF dX12_copiesSheet_118 g46 ?_
      refine s_iinc (v := (l5 + (1 : Int32))) (pls' := [(5, .int (l5 + (1 : Int32))), (1, .ref l1), (2, .int l2), (3, .int l3), (4, .int l4)]) hF dX12_copiesSheet_119 4 rfl rfl (by decide) rfl ?_
      refine s_goto (tgt := 66) hF dX12_copiesSheet_122 rfl ?_
      refine s_sub [1, 2, 3, 4, 0] rfl ?_
      exact ih l1 l2 l3 l4 (l5 + (1 : Int32)) _ (isK.mo (isK.mo (isK.mo (isK.mo f1 hm30) hm34) hm40) hm44)
theorem ctX12_copiesSheet  (l0 : Nat) (l1 : Nat) (l2 : Int32) (l3 : Int32) (l4 : Int32) (μ : Mem) : ∀ (r : Int32) (μ' : Mem), LX12_copiesSheet l0 l1 l2 l3 l4 μ = some (r, μ') → CtD yX12_copiesSheet cX12_copiesSheet 6 (some .boolean) 1 [.ref l0, .ref l1, .int l2, .int l3, .int l4] μ (encI r) μ' := by
  refine ct_enterD plX12 (Nat.le_of_ble_eq_true rfl) (fun F hF hD hI => ?_)
  unfold LX12_copiesSheet
  refine sim_gd (fun f0 => ?_)
  refine sim_gd (fun f1 => ?_)
  refine s_aload_n hF dX12_copiesSheet_0 rfl 1 rfl ?_
  refine s_bipush (v := (16 : Int32)) hF dX12_copiesSheet_1 kB_16 ?_
  refine s_iload_n hF dX12_copiesSheet_3 rfl 2 rfl ?_
  refine s_iadd hF dX12_copiesSheet_4 ?_
  refine sim_gd (fun g1 => ?_)
  refine s_iaload (x := (g_I μ l1 ((16 : Int32) + l2).toNatClampNeg)) hF dX12_copiesSheet_5 g1 rfl ?_
  refine s_iconst (v := (-1 : Int32)) hF dX12_copiesSheet_6 kI_m1 ?_
  refine s_icmp_eq (tgt := 61) hF dX12_copiesSheet_7 rfl (fun c2 => ?_) (fun c2 => ?_)
  · refine s_iconst (v := (0 : Int32)) hF dX12_copiesSheet_61 kI_0 ?_
    exact s_zretD hF hD dX12_copiesSheet_62 rfl rfl
  · refine s_aload_n hF dX12_copiesSheet_10 rfl 1 rfl ?_
    refine s_bipush (v := (16 : Int32)) hF dX12_copiesSheet_11 kB_16 ?_
    refine s_iload_n hF dX12_copiesSheet_13 rfl 3 rfl ?_
    refine s_iadd hF dX12_copiesSheet_14 ?_
    refine sim_gd (fun g3 => ?_)
    refine s_iaload (x := (g_I μ l1 ((16 : Int32) + l3).toNatClampNeg)) hF dX12_copiesSheet_15 g3 rfl ?_
    refine s_iconst (v := (-1 : Int32)) hF dX12_copiesSheet_16 kI_m1 ?_
    refine s_icmp_eq (tgt := 61) hF dX12_copiesSheet_17 rfl (fun c4 => ?_) (fun c4 => ?_)
    · refine s_iconst (v := (0 : Int32)) hF dX12_copiesSheet_61 kI_0 ?_
      exact s_zretD hF hD dX12_copiesSheet_62 rfl rfl
    · refine s_aload_n hF dX12_copiesSheet_20 rfl 0 rfl ?_
      refine sim_gd (fun g5 => ?_)
      refine s_getR (x := (g_R μ l0 14)) hF dX12_copiesSheet_21 flX12_31 f0 g5 rfl ?_
      refine s_iload_n hF dX12_copiesSheet_24 rfl 2 rfl ?_
      refine sim_gd (fun g6 => ?_)
      refine sim_gd (fun g7 => ?_)
      refine s_aaload (x := (g_R μ (g_R μ l0 14) l2.toNatClampNeg)) hF dX12_copiesSheet_25 (by decide) (by decide) g6 g7 rfl ?_
      refine s_iconst (v := (0 : Int32)) hF dX12_copiesSheet_26 kI_0 ?_
      refine sim_gd (fun g8 => ?_)
      refine s_iaload (x := (g_I μ (g_R μ (g_R μ l0 14) l2.toNatClampNeg) (0 : Int32).toNatClampNeg)) hF dX12_copiesSheet_27 g8 rfl ?_
      refine s_aload_n hF dX12_copiesSheet_28 rfl 0 rfl ?_
      refine s_getR (x := (g_R μ l0 14)) hF dX12_copiesSheet_29 flX12_31 f0 g5 rfl ?_
      refine s_iload_n hF dX12_copiesSheet_32 rfl 3 rfl ?_
      refine sim_gd (fun g9 => ?_)
      refine sim_gd (fun g10 => ?_)
      refine s_aaload (x := (g_R μ (g_R μ l0 14) l3.toNatClampNeg)) hF dX12_copiesSheet_33 (by decide) (by decide) g9 g10 rfl ?_
      refine s_iconst (v := (0 : Int32)) hF dX12_copiesSheet_34 kI_0 ?_
      refine sim_gd (fun g11 => ?_)
      refine s_iaload (x := (g_I μ (g_R μ (g_R μ l0 14) l3.toNatClampNeg) (0 : Int32).toNatClampNeg)) hF dX12_copiesSheet_35 g11 rfl ?_
      refine s_icmp_ne (tgt := 61) hF dX12_copiesSheet_36 rfl (fun c12 => ?_) (fun c12 => ?_)
      · refine s_iload hF dX12_copiesSheet_39 4 rfl ?_
        refine s_aload_n hF dX12_copiesSheet_41 rfl 1 rfl ?_
        refine s_bipush (v := (16 : Int32)) hF dX12_copiesSheet_42 kB_16 ?_
        refine s_iload_n hF dX12_copiesSheet_44 rfl 2 rfl ?_
        refine s_iadd hF dX12_copiesSheet_45 ?_
        refine s_iaload (x := (g_I μ l1 ((16 : Int32) + l2).toNatClampNeg)) hF dX12_copiesSheet_46 g1 rfl ?_
        refine s_icmp_gt (tgt := 61) hF dX12_copiesSheet_47 rfl (fun c13 => ?_) (fun c13 => ?_)
        · refine s_iconst (v := (0 : Int32)) hF dX12_copiesSheet_61 kI_0 ?_
          exact s_zretD hF hD dX12_copiesSheet_62 rfl rfl
        · refine s_iload hF dX12_copiesSheet_50 4 rfl ?_
          refine s_aload_n hF dX12_copiesSheet_52 rfl 1 rfl ?_
          refine s_bipush (v := (16 : Int32)) hF dX12_copiesSheet_53 kB_16 ?_
          refine s_iload_n hF dX12_copiesSheet_55 rfl 3 rfl ?_
          refine s_iadd hF dX12_copiesSheet_56 ?_
          refine s_iaload (x := (g_I μ l1 ((16 : Int32) + l3).toNatClampNeg)) hF dX12_copiesSheet_57 g3 rfl ?_
          refine s_icmp_le (tgt := 63) hF dX12_copiesSheet_58 rfl (fun c14 => ?_) (fun c14 => ?_)
          · refine s_iconst (v := (0 : Int32)) hF dX12_copiesSheet_63 kI_0 ?_
            refine s_istore (pls' := [(5, .int (0 : Int32)), (0, .ref l0), (1, .ref l1), (2, .int l2), (3, .int l3), (4, .int l4)]) hF dX12_copiesSheet_64 (by decide) rfl ?_
            refine s_sub [2, 3, 4, 5, 0] rfl ?_
            exact sX12_copiesSheet_66 hF hD 100000 l1 l2 l3 l4 (0 : Int32) _ f1
          · refine s_iconst (v := (0 : Int32)) hF dX12_copiesSheet_61 kI_0 ?_
            exact s_zretD hF hD dX12_copiesSheet_62 rfl rfl
      · refine s_iconst (v := (0 : Int32)) hF dX12_copiesSheet_61 kI_0 ?_
        exact s_zretD hF hD dX12_copiesSheet_62 rfl rfl
theorem sX12_dayEnds_44 {F : Option Fx} (q10 : Nat → Nat → Int32 → Mem → Option (Unit × Mem)) (hF : FxO F RX12 cX12_dayEnds 4 2) (hD : FxDO F none) (hq10 : ∀ (l0 : Nat) (l1 : Nat) (l2 : Int32) (μ : Mem) (_ : isK μ l0 12 = true) (_ : isK μ l1 15 = true), Sim F encV 10 [(0, .ref l0), (1, .ref l1), (2, .int l2)] [] μ (q10 l0 l1 l2 μ)) : ∀ (fu : Nat) (l0 : Nat) (l1 : Nat) (l2 : Int32) (l3 : Int32) (μ : Mem) (f0 : isK μ l0 12 = true) (f1 : isK μ l1 15 = true), Sim F encV 44 [(0, .ref l0), (1, .ref l1), (2, .int l2), (3, .int l3)] [] μ (mX12_dayEnds_44 q10 fu l0 l1 l2 l3 μ) := by
  intro fu
  induction fu with
  | zero =>
    intro l0 l1 l2 l3 μ f0 f1
    exact sim_none
  | succ fu ih =>
    intro l0 l1 l2 l3 μ f0 f1
    rw [mX12_dayEnds_44]
    refine s_iload_n hF dX12_dayEnds_44 rfl 3 rfl ?_
    refine s_aload_n hF dX12_dayEnds_45 rfl 1 rfl ?_
    refine s_bipush (v := (24 : Int32)) hF dX12_dayEnds_46 kB_24 ?_
    refine s_iload_n hF dX12_dayEnds_48 rfl 2 rfl ?_
    refine s_iadd hF dX12_dayEnds_49 ?_
    refine sim_gd (fun g7 => ?_)
    refine s_iaload (x := (g_I μ l1 ((24 : Int32) + l2).toNatClampNeg)) hF dX12_dayEnds_50 g7 rfl ?_
    refine s_icmp_ge (tgt := 106) hF dX12_dayEnds_51 rfl (fun c8 => ?_) (fun c8 => ?_)
    · refine s_aload_n hF dX12_dayEnds_106 rfl 1 rfl ?_
      refine s_iload_n hF dX12_dayEnds_107 rfl 2 rfl ?_
      refine s_aload_n hF dX12_dayEnds_108 rfl 1 rfl ?_
      refine s_bipush (v := (24 : Int32)) hF dX12_dayEnds_109 kB_24 ?_
      refine s_iload_n hF dX12_dayEnds_111 rfl 2 rfl ?_
      refine s_iadd hF dX12_dayEnds_112 ?_
      refine s_iaload (x := (g_I μ l1 ((24 : Int32) + l2).toNatClampNeg)) hF dX12_dayEnds_113 g7 rfl ?_
      refine s_cSv (st := []) [.ref l1, .int l2, .int (g_I μ l1 ((24 : Int32) + l2).toNatClampNeg)] hF hD.dr dX12_dayEnds_114 cwX12_317 (Nat.le_of_ble_eq_true rfl) (Nat.le_of_ble_eq_true rfl) rfl rfl (Nat.le_of_ble_eq_true rfl) (ctX12_blanksFrom l1 l2 (g_I μ l1 ((24 : Int32) + l2).toNatClampNeg) _) (fun r9 m10 hl11 hm12 => ?_)
      refine s_iinc (v := (l2 + (1 : Int32))) (pls' := [(2, .int (l2 + (1 : Int32))), (0, .ref l0), (1, .ref l1), (3, .int l3)]) hF dX12_dayEnds_117 2 rfl rfl (by decide) rfl ?_
      refine s_goto (tgt := 10) hF dX12_dayEnds_120 rfl ?_
      refine s_sub [1, 2, 0] rfl ?_
      exact hq10 l0 l1 (l2 + (1 : Int32)) _ (isK.mo f0 hm12) (isK.mo f1 hm12)
    · refine s_aload_n hF dX12_dayEnds_54 rfl 1 rfl ?_
      refine s_bipush (v := (35 : Int32)) hF dX12_dayEnds_55 kB_35 ?_
      refine s_iload_n hF dX12_dayEnds_57 rfl 2 rfl ?_
      refine s_iload_n hF dX12_dayEnds_58 rfl 3 rfl ?_
      refine s_cSi (st := [.int (35 : Int32), .ref l1]) [.int l2, .int l3] hF hD.dr dX12_dayEnds_59 cwX12_301 (Nat.le_of_ble_eq_true rfl) (Nat.le_of_ble_eq_true rfl) rfl rfl (Nat.le_of_ble_eq_true rfl) (ctX12_placeOf l2 l3 _) (fun r13 m14 hl15 hm16 => ?_)
      refine s_iadd hF dX12_dayEnds_62 ?_
      refine s_aload_n hF dX12_dayEnds_63 rfl 1 rfl ?_
      refine s_bipush (v := (35 : Int32)) hF dX12_dayEnds_64 kB_35 ?_
      refine s_iload_n hF dX12_dayEnds_66 rfl 2 rfl ?_
      refine s_iload_n hF dX12_dayEnds_67 rfl 3 rfl ?_
      refine s_iconst (v := (1 : Int32)) hF dX12_dayEnds_68 kI_1 ?_
      refine s_iadd hF dX12_dayEnds_69 ?_
      refine s_cSi (st := [.int (35 : Int32), .ref l1, .int ((35 : Int32) + r13), .ref l1]) [.int l2, .int (l3 + (1 : Int32))] hF hD.dr dX12_dayEnds_70 cwX12_301 (Nat.le_of_ble_eq_true rfl) (Nat.le_of_ble_eq_true rfl) rfl rfl (Nat.le_of_ble_eq_true rfl) (ctX12_placeOf l2 (l3 + (1 : Int32)) _) (fun r17 m18 hl19 hm20 => ?_)
      refine s_iadd hF dX12_dayEnds_73 ?_
      refine sim_gd (fun g21 => ?_)
      refine s_iaload (x := (g_I m18 l1 ((35 : Int32) + r17).toNatClampNeg)) hF dX12_dayEnds_74 g21 rfl ?_
      refine sim_gd (fun g22 => ?_)
      refine s_iastore hF dX12_dayEnds_75 g22 ?_
      refine s_aload_n hF dX12_dayEnds_76 rfl 1 rfl ?_
      refine s_sipush (v := (227 : Int32)) hF dX12_dayEnds_77 kS_227 ?_
      refine s_iload_n hF dX12_dayEnds_80 rfl 2 rfl ?_
      refine s_iload_n hF dX12_dayEnds_81 rfl 3 rfl ?_
      refine s_cSi (st := [.int (227 : Int32), .ref l1]) [.int l2, .int l3] hF hD.dr dX12_dayEnds_82 cwX12_301 (Nat.le_of_ble_eq_true rfl) (Nat.le_of_ble_eq_true rfl) rfl rfl (Nat.le_of_ble_eq_true rfl) (ctX12_placeOf l2 l3 _) (fun r23 m24 hl25 hm26 => ?_)
      refine s_iadd hF dX12_dayEnds_85 ?_
      refine s_aload_n hF dX12_dayEnds_86 rfl 1 rfl ?_
      refine s_sipush (v := (227 : Int32)) hF dX12_dayEnds_87 kS_227 ?_
      refine s_iload_n hF dX12_dayEnds_90 rfl 2 rfl ?_
      refine s_iload_n hF dX12_dayEnds_91 rfl 3 rfl ?_
      refine s_iconst (v := (1 : Int32)) hF dX12_dayEnds_92 kI_1 ?_
      refine s_iadd hF dX12_dayEnds_93 ?_
      refine s_cSi (st := [.int (227 : Int32), .ref l1, .int ((227 : Int32) + r23), .ref l1]) [.int l2, .int (l3 + (1 : Int32))] hF hD.dr dX12_dayEnds_94 cwX12_301 (Nat.le_of_ble_eq_true rfl) (Nat.le_of_ble_eq_true rfl) rfl rfl (Nat.le_of_ble_eq_true rfl) (ctX12_placeOf l2 (l3 + (1 : Int32)) _) (fun r27 m28 hl29 hm30 => ?_)
      refine s_iadd hF dX12_dayEnds_97 ?_
      refine sim_gd (fun g31 => ?_)
      refine s_iaload (x := (g_I m28 l1 ((227 : Int32) + r27).toNatClampNeg)) hF dX12_dayEnds_98 g31 rfl ?_
      refine sim_gd (fun g32 => ?_)
      refine s_iastore hF dX12_dayEnds_99 g32 ?_
      refine s_iinc (v := (l3 + (1 : Int32))) (pls' := [(3, .int (l3 + (1 : Int32))), (0, .ref l0), (1, .ref l1), (2, .int l2)]) hF dX12_dayEnds_100 3 rfl rfl (by decide) rfl ?_
      refine s_goto (tgt := 44) hF dX12_dayEnds_103 rfl ?_
      refine s_sub [1, 2, 3, 0] rfl ?_
      exact ih l0 l1 l2 (l3 + (1 : Int32)) _ (isK.mo (isK.mo (isK.mo (isK.mo f0 hm16) hm20) hm26) hm30) (isK.mo (isK.mo (isK.mo (isK.mo f1 hm16) hm20) hm26) hm30)
theorem sX12_dayEnds_10 {F : Option Fx} (hF : FxO F RX12 cX12_dayEnds 4 2) (hD : FxDO F none) : ∀ (fu : Nat) (l0 : Nat) (l1 : Nat) (l2 : Int32) (μ : Mem) (f0 : isK μ l0 12 = true) (f1 : isK μ l1 15 = true), Sim F encV 10 [(0, .ref l0), (1, .ref l1), (2, .int l2)] [] μ (mX12_dayEnds_10 fu l0 l1 l2 μ) := by
  intro fu
  induction fu with
  | zero =>
    intro l0 l1 l2 μ f0 f1
    exact sim_none
  | succ fu ih =>
    intro l0 l1 l2 μ f0 f1
    rw [mX12_dayEnds_10]
    refine s_iload_n hF dX12_dayEnds_10 rfl 2 rfl ?_
    refine s_aload_n hF dX12_dayEnds_11 rfl 0 rfl ?_
    refine sim_gd (fun g2 => ?_)
    refine s_getR (x := (g_R μ l0 12)) hF dX12_dayEnds_12 flX12_23 f0 g2 rfl ?_
    refine s_iconst (v := (0 : Int32)) hF dX12_dayEnds_15 kI_0 ?_
    refine sim_gd (fun g3 => ?_)
    refine s_iaload (x := (g_I μ (g_R μ l0 12) (0 : Int32).toNatClampNeg)) hF dX12_dayEnds_16 g3 rfl ?_
    refine s_icmp_ge (tgt := 123) hF dX12_dayEnds_17 rfl (fun c4 => ?_) (fun c4 => ?_)
    · exact s_vretD hF hD dX12_dayEnds_123 rfl
    · refine s_aload_n hF dX12_dayEnds_20 rfl 1 rfl ?_
      refine s_bipush (v := (24 : Int32)) hF dX12_dayEnds_21 kB_24 ?_
      refine s_iload_n hF dX12_dayEnds_23 rfl 2 rfl ?_
      refine s_iadd hF dX12_dayEnds_24 ?_
      refine sim_gd (fun g5 => ?_)
      refine s_iaload (x := (g_I μ l1 ((24 : Int32) + l2).toNatClampNeg)) hF dX12_dayEnds_25 g5 rfl ?_
      refine s_if_ne (tgt := 32) hF dX12_dayEnds_26 rfl (fun c6 => ?_) (fun c6 => ?_)
      · refine s_goto (tgt := 117) hF dX12_dayEnds_29 rfl ?_
        refine s_iinc (v := (l2 + (1 : Int32))) (pls' := [(2, .int (l2 + (1 : Int32))), (0, .ref l0), (1, .ref l1)]) hF dX12_dayEnds_117 2 rfl rfl (by decide) rfl ?_
        refine s_goto (tgt := 10) hF dX12_dayEnds_120 rfl ?_
        refine s_sub [1, 2, 0] rfl ?_
        exact ih l0 l1 (l2 + (1 : Int32)) _ f0 f1
      · refine s_aload_n hF dX12_dayEnds_32 rfl 1 rfl ?_
        refine s_bipush (v := (24 : Int32)) hF dX12_dayEnds_33 kB_24 ?_
        refine s_iload_n hF dX12_dayEnds_35 rfl 2 rfl ?_
        refine s_iadd hF dX12_dayEnds_36 ?_
        refine s_dup2 hF dX12_dayEnds_37 rfl rfl ?_
        refine s_iaload (x := (g_I μ l1 ((24 : Int32) + l2).toNatClampNeg)) hF dX12_dayEnds_38 g5 rfl ?_
        refine s_iconst (v := (1 : Int32)) hF dX12_dayEnds_39 kI_1 ?_
        refine s_isub hF dX12_dayEnds_40 ?_
        refine s_iastore hF dX12_dayEnds_41 g5 ?_
        refine s_iconst (v := (0 : Int32)) hF dX12_dayEnds_42 kI_0 ?_
        refine s_istore_n (pls' := [(3, .int (0 : Int32)), (0, .ref l0), (1, .ref l1), (2, .int l2)]) hF dX12_dayEnds_43 rfl (by decide) rfl ?_
        refine s_sub [1, 2, 3, 0] rfl ?_
        exact sX12_dayEnds_44 (fun l0 l1 l2 μ => mX12_dayEnds_10 fu l0 l1 l2 μ) hF hD ih 100000 l0 l1 l2 (0 : Int32) _ f0 f1
theorem ctX12_dayEnds  (l0 : Nat) (l1 : Nat) (μ : Mem) : ∀ (r : Unit) (μ' : Mem), LX12_dayEnds l0 l1 μ = some (r, μ') → CtD yX12_dayEnds cX12_dayEnds 4 none 2 [.ref l0, .ref l1] μ (encV r) μ' := by
  refine ct_enterD plX12 (Nat.le_of_ble_eq_true rfl) (fun F hF hD hI => ?_)
  unfold LX12_dayEnds
  refine sim_gd (fun f0 => ?_)
  refine sim_gd (fun f1 => ?_)
  refine s_aload_n hF dX12_dayEnds_0 rfl 1 rfl ?_
  refine s_bipush (v := (32 : Int32)) hF dX12_dayEnds_1 kB_32 ?_
  refine s_dup2 hF dX12_dayEnds_3 rfl rfl ?_
  refine sim_gd (fun g1 => ?_)
  refine s_iaload (x := (g_I μ l1 (32 : Int32).toNatClampNeg)) hF dX12_dayEnds_4 g1 rfl ?_
  refine s_iconst (v := (1 : Int32)) hF dX12_dayEnds_5 kI_1 ?_
  refine s_iadd hF dX12_dayEnds_6 ?_
  refine s_iastore hF dX12_dayEnds_7 g1 ?_
  refine s_iconst (v := (0 : Int32)) hF dX12_dayEnds_8 kI_0 ?_
  refine s_istore_n (pls' := [(2, .int (0 : Int32)), (0, .ref l0), (1, .ref l1)]) hF dX12_dayEnds_9 rfl (by decide) rfl ?_
  refine s_sub [1, 2, 0] rfl ?_
  exact sX12_dayEnds_10 hF hD 100000 l0 l1 (0 : Int32) _ f0 f1
theorem ctX12_laysSheet  (l0 : Nat) (l1 : Int32) (l2 : Int32) (μ : Mem) : ∀ (r : Int32) (μ' : Mem), LX12_laysSheet l0 l1 l2 μ = some (r, μ') → CtD yX12_laysSheet cX12_laysSheet 3 (some .boolean) 2 [.ref l0, .int l1, .int l2] μ (encI r) μ' := by
  refine ct_enterD plX12 (Nat.le_of_ble_eq_true rfl) (fun F hF hD hI => ?_)
  unfold LX12_laysSheet
  refine sim_gd (fun f0 => ?_)
  refine s_iload_n hF dX12_laysSheet_0 rfl 2 rfl ?_
  refine s_if_ge (tgt := 6) hF dX12_laysSheet_1 rfl (fun c1 => ?_) (fun c1 => ?_)
  · refine s_aload_n hF dX12_laysSheet_6 rfl 0 rfl ?_
    refine s_bipush (v := (16 : Int32)) hF dX12_laysSheet_7 kB_16 ?_
    refine s_iload_n hF dX12_laysSheet_9 rfl 1 rfl ?_
    refine s_iadd hF dX12_laysSheet_10 ?_
    refine s_iload_n hF dX12_laysSheet_11 rfl 2 rfl ?_
    refine sim_gd (fun g2 => ?_)
    refine s_iastore hF dX12_laysSheet_12 g2 ?_
    refine s_aload_n hF dX12_laysSheet_13 rfl 0 rfl ?_
    refine s_bipush (v := (24 : Int32)) hF dX12_laysSheet_14 kB_24 ?_
    refine s_iload_n hF dX12_laysSheet_16 rfl 1 rfl ?_
    refine s_iadd hF dX12_laysSheet_17 ?_
    refine s_iconst (v := (0 : Int32)) hF dX12_laysSheet_18 kI_0 ?_
    refine sim_gd (fun g3 => ?_)
    refine s_iastore hF dX12_laysSheet_19 g3 ?_
    refine s_aload_n hF dX12_laysSheet_20 rfl 0 rfl ?_
    refine s_iload_n hF dX12_laysSheet_21 rfl 1 rfl ?_
    refine s_iconst (v := (0 : Int32)) hF dX12_laysSheet_22 kI_0 ?_
    refine s_cSv (st := []) [.ref l0, .int l1, .int (0 : Int32)] hF hD.dr dX12_laysSheet_23 cwX12_317 (Nat.le_of_ble_eq_true rfl) (Nat.le_of_ble_eq_true rfl) rfl rfl (Nat.le_of_ble_eq_true rfl) (ctX12_blanksFrom l0 l1 (0 : Int32) _) (fun r4 m5 hl6 hm7 => ?_)
    refine s_iconst (v := (1 : Int32)) hF dX12_laysSheet_26 kI_1 ?_
    exact s_zretD hF hD dX12_laysSheet_27 rfl rfl
  · refine s_iconst (v := (0 : Int32)) hF dX12_laysSheet_4 kI_0 ?_
    exact s_zretD hF hD dX12_laysSheet_5 rfl rfl
theorem sX12_does_188 {F : Option Fx} (hF : FxO F RX12 cX12_does 4 7) (hD : FxDO F (some .boolean)) (l1 : Nat) (l2 : Nat) (l3 : Int32) (μ : Mem) (f1 : isK μ l1 15 = true) (f2 : isK μ l2 15 = true) : Sim F encI 188 [(1, .ref l1), (2, .ref l2), (3, .int l3)] [] μ (mX12_does_188 l1 l2 l3 μ) := by
  unfold mX12_does_188
  refine s_aload_n hF dX12_does_188 rfl 0 rfl ?_
  refine s_iconst (v := (0 : Int32)) hF dX12_does_189 kI_0 ?_
  refine s_iload_n hF dX12_does_190 rfl 2 rfl ?_
  refine s_iadd hF dX12_does_191 ?_
  refine s_aload_n hF dX12_does_192 rfl 1 rfl ?_
  refine s_iconst (v := (2 : Int32)) hF dX12_does_193 kI_2 ?_
  refine sim_gd (fun g69 => ?_)
  refine s_iaload (x := (g_I μ l2 (2 : Int32).toNatClampNeg)) hF dX12_does_194 g69 rfl ?_
  refine sim_gd (fun g70 => ?_)
  refine s_iastore hF dX12_does_195 g70 ?_
  refine s_aload_n hF dX12_does_196 rfl 0 rfl ?_
  refine s_bipush (v := (8 : Int32)) hF dX12_does_197 kB_8 ?_
  refine s_iload_n hF dX12_does_199 rfl 2 rfl ?_
  refine s_iadd hF dX12_does_200 ?_
  refine s_aload_n hF dX12_does_201 rfl 1 rfl ?_
  refine s_iconst (v := (3 : Int32)) hF dX12_does_202 kI_3 ?_
  refine sim_gd (fun g71 => ?_)
  refine s_iaload (x := (g_I (p_I μ l1 ((0 : Int32) + l3).toNatClampNeg (g_I μ l2 (2 : Int32).toNatClampNeg)) l2 (3 : Int32).toNatClampNeg)) hF dX12_does_203 g71 rfl ?_
  refine sim_gd (fun g72 => ?_)
  refine s_iastore hF dX12_does_204 g72 ?_
  refine s_iconst (v := (1 : Int32)) hF dX12_does_205 kI_1 ?_
  exact s_zretD hF hD dX12_does_206 rfl rfl
theorem ctX12_does  (l0 : Nat) (l1 : Nat) (l2 : Nat) (μ : Mem) : ∀ (r : Int32) (μ' : Mem), LX12_does l0 l1 l2 μ = some (r, μ') → CtD yX12_does cX12_does 4 (some .boolean) 7 [.ref l0, .ref l1, .ref l2] μ (encI r) μ' := by
  refine ct_enterD plX12 (Nat.le_of_ble_eq_true rfl) (fun F hF hD hI => ?_)
  unfold LX12_does
  refine sim_gd (fun f0 => ?_)
  refine sim_gd (fun f1 => ?_)
  refine sim_gd (fun f2 => ?_)
  refine s_aload_n hF dX12_does_0 rfl 2 rfl ?_
  refine s_iconst (v := (1 : Int32)) hF dX12_does_1 kI_1 ?_
  refine sim_gd (fun g1 => ?_)
  refine s_iaload (x := (g_I μ l2 (1 : Int32).toNatClampNeg)) hF dX12_does_2 g1 rfl ?_
  refine s_istore_n (pls' := [(3, .int (g_I μ l2 (1 : Int32).toNatClampNeg)), (0, .ref l0), (1, .ref l1), (2, .ref l2)]) hF dX12_does_3 rfl (by decide) rfl ?_
  refine s_aload_n hF dX12_does_4 rfl 3 rfl ?_
  refine s_iconst (v := (0 : Int32)) hF dX12_does_5 kI_0 ?_
  refine sim_gd (fun g2 => ?_)
  refine s_iaload (x := (g_I μ l2 (0 : Int32).toNatClampNeg)) hF dX12_does_6 g2 rfl ?_
  refine sim_if (fun c3 => ?_) (fun c3 => ?_)
  · refine s_tin (v := (0 : Int32)) (tgt := 52) hF dX12_does_7 c3 (by decide) (by decide) rfl rfl ?_
    refine s_aload_n hF dX12_does_52 rfl 1 rfl ?_
    refine s_aload_n hF dX12_does_53 rfl 2 rfl ?_
    refine s_iload_n hF dX12_does_54 rfl 0 rfl ?_
    refine s_aload_n hF dX12_does_55 rfl 3 rfl ?_
    refine s_iconst (v := (2 : Int32)) hF dX12_does_56 kI_2 ?_
    refine sim_gd (fun g4 => ?_)
    refine s_iaload (x := (g_I μ l2 (2 : Int32).toNatClampNeg)) hF dX12_does_57 g4 rfl ?_
    refine s_cVi (st := []) (ci := 12) [.ref l1, .int (g_I μ l2 (1 : Int32).toNatClampNeg), .int (g_I μ l2 (2 : Int32).toNatClampNeg)] hF hD.dr dX12_does_58 cwX12_313 (Nat.le_of_ble_eq_true rfl) (Nat.le_of_ble_eq_true rfl) rfl rfl (Nat.le_of_ble_eq_true rfl) f0 rfl rfl (Nat.le_of_ble_eq_true rfl) (ctX12_reads l0 l1 (g_I μ l2 (1 : Int32).toNatClampNeg) (g_I μ l2 (2 : Int32).toNatClampNeg) _) (fun r5 m6 hl7 hm8 => ?_)
    refine sim_gd (fun g9 => ?_)
    exact s_zretD hF hD dX12_does_61 rfl (nar_z g9)
  · refine sim_if (fun c10 => ?_) (fun c10 => ?_)
    · refine s_tin (v := (1 : Int32)) (tgt := 62) hF dX12_does_7 c10 (by decide) (by decide) rfl rfl ?_
      refine s_aload_n hF dX12_does_62 rfl 1 rfl ?_
      refine s_aload_n hF dX12_does_63 rfl 2 rfl ?_
      refine s_iload_n hF dX12_does_64 rfl 0 rfl ?_
      refine s_aload_n hF dX12_does_65 rfl 3 rfl ?_
      refine s_iconst (v := (2 : Int32)) hF dX12_does_66 kI_2 ?_
      refine sim_gd (fun g11 => ?_)
      refine s_iaload (x := (g_I μ l2 (2 : Int32).toNatClampNeg)) hF dX12_does_67 g11 rfl ?_
      refine s_ineg hF dX12_does_68 ?_
      refine s_cVi (st := []) (ci := 12) [.ref l1, .int (g_I μ l2 (1 : Int32).toNatClampNeg), .int (-(g_I μ l2 (2 : Int32).toNatClampNeg))] hF hD.dr dX12_does_69 cwX12_313 (Nat.le_of_ble_eq_true rfl) (Nat.le_of_ble_eq_true rfl) rfl rfl (Nat.le_of_ble_eq_true rfl) f0 rfl rfl (Nat.le_of_ble_eq_true rfl) (ctX12_reads l0 l1 (g_I μ l2 (1 : Int32).toNatClampNeg) (-(g_I μ l2 (2 : Int32).toNatClampNeg)) _) (fun r12 m13 hl14 hm15 => ?_)
      refine sim_gd (fun g16 => ?_)
      exact s_zretD hF hD dX12_does_72 rfl (nar_z g16)
    · refine sim_if (fun c17 => ?_) (fun c17 => ?_)
      · refine s_tin (v := (2 : Int32)) (tgt := 73) hF dX12_does_7 c17 (by decide) (by decide) rfl rfl ?_
        refine s_aload_n hF dX12_does_73 rfl 1 rfl ?_
        refine s_aload_n hF dX12_does_74 rfl 2 rfl ?_
        refine s_iload_n hF dX12_does_75 rfl 0 rfl ?_
        refine s_cVi (st := []) (ci := 12) [.ref l1, .int (g_I μ l2 (1 : Int32).toNatClampNeg)] hF hD.dr dX12_does_76 cwX12_321 (Nat.le_of_ble_eq_true rfl) (Nat.le_of_ble_eq_true rfl) rfl rfl (Nat.le_of_ble_eq_true rfl) f0 rfl rfl (Nat.le_of_ble_eq_true rfl) (ctX12_hears l0 l1 (g_I μ l2 (1 : Int32).toNatClampNeg) _) (fun r18 m19 hl20 hm21 => ?_)
        refine sim_gd (fun g22 => ?_)
        exact s_zretD hF hD dX12_does_79 rfl (nar_z g22)
      · refine sim_if (fun c23 => ?_) (fun c23 => ?_)
        · refine s_tin (v := (3 : Int32)) (tgt := 80) hF dX12_does_7 c23 (by decide) (by decide) rfl rfl ?_
          refine s_aload_n hF dX12_does_80 rfl 2 rfl ?_
          refine s_bipush (v := (24 : Int32)) hF dX12_does_81 kB_24 ?_
          refine s_iload_n hF dX12_does_83 rfl 0 rfl ?_
          refine s_iadd hF dX12_does_84 ?_
          refine sim_gd (fun g24 => ?_)
          refine s_iaload (x := (g_I μ l1 ((24 : Int32) + (g_I μ l2 (1 : Int32).toNatClampNeg)).toNatClampNeg)) hF dX12_does_85 g24 rfl ?_
          refine s_if_le (tgt := 107) hF dX12_does_86 rfl (fun c25 => ?_) (fun c25 => ?_)
          · refine s_iconst (v := (0 : Int32)) hF dX12_does_107 kI_0 ?_
            exact s_zretD hF hD dX12_does_108 rfl rfl
          · refine s_aload_n hF dX12_does_89 rfl 2 rfl ?_
            refine s_iload_n hF dX12_does_90 rfl 0 rfl ?_
            refine s_aload_n hF dX12_does_91 rfl 2 rfl ?_
            refine s_bipush (v := (16 : Int32)) hF dX12_does_92 kB_16 ?_
            refine s_iload_n hF dX12_does_94 rfl 0 rfl ?_
            refine s_iadd hF dX12_does_95 ?_
            refine sim_gd (fun g26 => ?_)
            refine s_iaload (x := (g_I μ l1 ((16 : Int32) + (g_I μ l2 (1 : Int32).toNatClampNeg)).toNatClampNeg)) hF dX12_does_96 g26 rfl ?_
            refine s_cSi (st := []) [.ref l1, .int (g_I μ l2 (1 : Int32).toNatClampNeg), .int (g_I μ l1 ((16 : Int32) + (g_I μ l2 (1 : Int32).toNatClampNeg)).toNatClampNeg)] hF hD.dr dX12_does_97 cwX12_324 (Nat.le_of_ble_eq_true rfl) (Nat.le_of_ble_eq_true rfl) rfl rfl (Nat.le_of_ble_eq_true rfl) (ctX12_laysSheet l1 (g_I μ l2 (1 : Int32).toNatClampNeg) (g_I μ l1 ((16 : Int32) + (g_I μ l2 (1 : Int32).toNatClampNeg)).toNatClampNeg) _) (fun r27 m28 hl29 hm30 => ?_)
            refine s_if_eq (tgt := 107) hF dX12_does_100 rfl (fun c31 => ?_) (fun c31 => ?_)
            · refine s_iconst (v := (0 : Int32)) hF dX12_does_107 kI_0 ?_
              exact s_zretD hF hD dX12_does_108 rfl rfl
            · refine s_iconst (v := (1 : Int32)) hF dX12_does_103 kI_1 ?_
              refine s_goto (tgt := 108) hF dX12_does_104 rfl ?_
              exact s_zretD hF hD dX12_does_108 rfl rfl
        · refine sim_if (fun c32 => ?_) (fun c32 => ?_)
          · refine s_tin (v := (4 : Int32)) (tgt := 109) hF dX12_does_7 c32 (by decide) (by decide) rfl rfl ?_
            refine s_aload_n hF dX12_does_109 rfl 2 rfl ?_
            refine s_bipush (v := (16 : Int32)) hF dX12_does_110 kB_16 ?_
            refine s_iload_n hF dX12_does_112 rfl 0 rfl ?_
            refine s_iadd hF dX12_does_113 ?_
            refine sim_gd (fun g33 => ?_)
            refine s_iaload (x := (g_I μ l1 ((16 : Int32) + (g_I μ l2 (1 : Int32).toNatClampNeg)).toNatClampNeg)) hF dX12_does_114 g33 rfl ?_
            refine s_iconst (v := (-1 : Int32)) hF dX12_does_115 kI_m1 ?_
            refine s_icmp_ne (tgt := 121) hF dX12_does_116 rfl (fun c34 => ?_) (fun c34 => ?_)
            · refine s_iconst (v := (0 : Int32)) hF dX12_does_119 kI_0 ?_
              exact s_zretD hF hD dX12_does_120 rfl rfl
            · refine s_aload_n hF dX12_does_121 rfl 2 rfl ?_
              refine s_iload_n hF dX12_does_122 rfl 0 rfl ?_
              refine s_iconst (v := (0 : Int32)) hF dX12_does_123 kI_0 ?_
              refine s_cSi (st := []) [.ref l1, .int (g_I μ l2 (1 : Int32).toNatClampNeg), .int (0 : Int32)] hF hD.dr dX12_does_124 cwX12_324 (Nat.le_of_ble_eq_true rfl) (Nat.le_of_ble_eq_true rfl) rfl rfl (Nat.le_of_ble_eq_true rfl) (ctX12_laysSheet l1 (g_I μ l2 (1 : Int32).toNatClampNeg) (0 : Int32) _) (fun r35 m36 hl37 hm38 => ?_)
              refine s_pop hF dX12_does_127 rfl ?_
              refine s_aload_n hF dX12_does_128 rfl 2 rfl ?_
              refine s_bipush (v := (16 : Int32)) hF dX12_does_129 kB_16 ?_
              refine s_iload_n hF dX12_does_131 rfl 0 rfl ?_
              refine s_iadd hF dX12_does_132 ?_
              refine s_iconst (v := (-1 : Int32)) hF dX12_does_133 kI_m1 ?_
              refine sim_gd (fun g39 => ?_)
              refine s_iastore hF dX12_does_134 g39 ?_
              refine s_iconst (v := (1 : Int32)) hF dX12_does_135 kI_1 ?_
              exact s_zretD hF hD dX12_does_136 rfl rfl
          · refine sim_if (fun c40 => ?_) (fun c40 => ?_)
            · refine s_tin (v := (5 : Int32)) (tgt := 137) hF dX12_does_7 c40 (by decide) (by decide) rfl rfl ?_
              refine s_aload_n hF dX12_does_137 rfl 2 rfl ?_
              refine s_iload_n hF dX12_does_138 rfl 0 rfl ?_
              refine s_aload_n hF dX12_does_139 rfl 3 rfl ?_
              refine s_iconst (v := (2 : Int32)) hF dX12_does_140 kI_2 ?_
              refine sim_gd (fun g41 => ?_)
              refine s_iaload (x := (g_I μ l2 (2 : Int32).toNatClampNeg)) hF dX12_does_141 g41 rfl ?_
              refine s_aload_n hF dX12_does_142 rfl 3 rfl ?_
              refine s_iconst (v := (3 : Int32)) hF dX12_does_143 kI_3 ?_
              refine sim_gd (fun g42 => ?_)
              refine s_iaload (x := (g_I μ l2 (3 : Int32).toNatClampNeg)) hF dX12_does_144 g42 rfl ?_
              refine s_isub hF dX12_does_145 ?_
              refine s_cSi (st := []) [.ref l1, .int (g_I μ l2 (1 : Int32).toNatClampNeg), .int ((g_I μ l2 (2 : Int32).toNatClampNeg) - (g_I μ l2 (3 : Int32).toNatClampNeg))] hF hD.dr dX12_does_146 cwX12_324 (Nat.le_of_ble_eq_true rfl) (Nat.le_of_ble_eq_true rfl) rfl rfl (Nat.le_of_ble_eq_true rfl) (ctX12_laysSheet l1 (g_I μ l2 (1 : Int32).toNatClampNeg) ((g_I μ l2 (2 : Int32).toNatClampNeg) - (g_I μ l2 (3 : Int32).toNatClampNeg)) _) (fun r43 m44 hl45 hm46 => ?_)
              refine sim_gd (fun g47 => ?_)
              exact s_zretD hF hD dX12_does_149 rfl (nar_z g47)
            · refine sim_if (fun c48 => ?_) (fun c48 => ?_)
              · refine s_tin (v := (6 : Int32)) (tgt := 150) hF dX12_does_7 c48 (by decide) (by decide) rfl rfl ?_
                refine s_aload_n hF dX12_does_150 rfl 1 rfl ?_
                refine s_aload_n hF dX12_does_151 rfl 2 rfl ?_
                refine s_iload_n hF dX12_does_152 rfl 0 rfl ?_
                refine s_aload_n hF dX12_does_153 rfl 3 rfl ?_
                refine s_iconst (v := (2 : Int32)) hF dX12_does_154 kI_2 ?_
                refine sim_gd (fun g49 => ?_)
                refine s_iaload (x := (g_I μ l2 (2 : Int32).toNatClampNeg)) hF dX12_does_155 g49 rfl ?_
                refine s_aload_n hF dX12_does_156 rfl 3 rfl ?_
                refine s_iconst (v := (3 : Int32)) hF dX12_does_157 kI_3 ?_
                refine sim_gd (fun g50 => ?_)
                refine s_iaload (x := (g_I μ l2 (3 : Int32).toNatClampNeg)) hF dX12_does_158 g50 rfl ?_
                refine s_cVi (st := []) (ci := 12) [.ref l1, .int (g_I μ l2 (1 : Int32).toNatClampNeg), .int (g_I μ l2 (2 : Int32).toNatClampNeg), .int (g_I μ l2 (3 : Int32).toNatClampNeg)] hF hD.dr dX12_does_159 cwX12_327 (Nat.le_of_ble_eq_true rfl) (Nat.le_of_ble_eq_true rfl) rfl rfl (Nat.le_of_ble_eq_true rfl) f0 rfl rfl (Nat.le_of_ble_eq_true rfl) (ctX12_copiesSheet l0 l1 (g_I μ l2 (1 : Int32).toNatClampNeg) (g_I μ l2 (2 : Int32).toNatClampNeg) (g_I μ l2 (3 : Int32).toNatClampNeg) _) (fun r51 m52 hl53 hm54 => ?_)
                refine sim_gd (fun g55 => ?_)
                exact s_zretD hF hD dX12_does_162 rfl (nar_z g55)
              · refine sim_if (fun c56 => ?_) (fun c56 => ?_)
                · refine s_tin (v := (7 : Int32)) (tgt := 163) hF dX12_does_7 c56 (by decide) (by decide) rfl rfl ?_
                  refine s_aload_n hF dX12_does_163 rfl 2 rfl ?_
                  refine s_iconst (v := (0 : Int32)) hF dX12_does_164 kI_0 ?_
                  refine s_iload_n hF dX12_does_165 rfl 0 rfl ?_
                  refine s_iadd hF dX12_does_166 ?_
                  refine sim_gd (fun g57 => ?_)
                  refine s_iaload (x := (g_I μ l1 ((0 : Int32) + (g_I μ l2 (1 : Int32).toNatClampNeg)).toNatClampNeg)) hF dX12_does_167 g57 rfl ?_
                  refine s_aload_n hF dX12_does_168 rfl 3 rfl ?_
                  refine s_iconst (v := (2 : Int32)) hF dX12_does_169 kI_2 ?_
                  refine sim_gd (fun g58 => ?_)
                  refine s_iaload (x := (g_I μ l2 (2 : Int32).toNatClampNeg)) hF dX12_does_170 g58 rfl ?_
                  refine s_icmp_ne (tgt := 188) hF dX12_does_171 rfl (fun c59 => ?_) (fun c59 => ?_)
                  · refine s_aload_n hF dX12_does_174 rfl 2 rfl ?_
                    refine s_bipush (v := (8 : Int32)) hF dX12_does_175 kB_8 ?_
                    refine s_iload_n hF dX12_does_177 rfl 0 rfl ?_
                    refine s_iadd hF dX12_does_178 ?_
                    refine sim_gd (fun g60 => ?_)
                    refine s_iaload (x := (g_I μ l1 ((8 : Int32) + (g_I μ l2 (1 : Int32).toNatClampNeg)).toNatClampNeg)) hF dX12_does_179 g60 rfl ?_
                    refine s_aload_n hF dX12_does_180 rfl 3 rfl ?_
                    refine s_iconst (v := (3 : Int32)) hF dX12_does_181 kI_3 ?_
                    refine sim_gd (fun g61 => ?_)
                    refine s_iaload (x := (g_I μ l2 (3 : Int32).toNatClampNeg)) hF dX12_does_182 g61 rfl ?_
                    refine s_icmp_ne (tgt := 188) hF dX12_does_183 rfl (fun c62 => ?_) (fun c62 => ?_)
                    · refine s_iconst (v := (0 : Int32)) hF dX12_does_186 kI_0 ?_
                      exact s_zretD hF hD dX12_does_187 rfl rfl
                    · refine s_sub [2, 3, 0] rfl ?_
                      exact sX12_does_188 hF hD l1 l2 (g_I μ l2 (1 : Int32).toNatClampNeg) _ f1 f2
                  · refine s_sub [2, 3, 0] rfl ?_
                    exact sX12_does_188 hF hD l1 l2 (g_I μ l2 (1 : Int32).toNatClampNeg) _ f1 f2
                · refine s_tout (tgt := 207) hF dX12_does_7 (by have e0 := i32_ne c3 (k := (0 : Int32)) (n := 0) rfl; have e1 := i32_ne c10 (k := (1 : Int32)) (n := 1) rfl; have e2 := i32_ne c17 (k := (2 : Int32)) (n := 2) rfl; have e3 := i32_ne c23 (k := (3 : Int32)) (n := 3) rfl; have e4 := i32_ne c32 (k := (4 : Int32)) (n := 4) rfl; have e5 := i32_ne c40 (k := (5 : Int32)) (n := 5) rfl; have e6 := i32_ne c48 (k := (6 : Int32)) (n := 6) rfl; have e7 := i32_ne c56 (k := (7 : Int32)) (n := 7) rfl; omega) rfl ?_
                  refine s_aload_n hF dX12_does_207 rfl 2 rfl ?_
                  refine s_bipush (v := (32 : Int32)) hF dX12_does_208 kB_32 ?_
                  refine sim_gd (fun g63 => ?_)
                  refine s_iaload (x := (g_I μ l1 (32 : Int32).toNatClampNeg)) hF dX12_does_210 g63 rfl ?_
                  refine s_sipush (v := (900 : Int32)) hF dX12_does_211 kS_900 ?_
                  refine s_icmp_lt (tgt := 219) hF dX12_does_214 rfl (fun c64 => ?_) (fun c64 => ?_)
                  · refine s_aload_n hF dX12_does_219 rfl 1 rfl ?_
                    refine s_aload_n hF dX12_does_220 rfl 2 rfl ?_
                    refine s_cVv (st := []) (ci := 12) [.ref l1] hF hD.dr dX12_does_221 cwX12_331 (Nat.le_of_ble_eq_true rfl) (Nat.le_of_ble_eq_true rfl) rfl rfl (Nat.le_of_ble_eq_true rfl) f0 rfl rfl (Nat.le_of_ble_eq_true rfl) (ctX12_dayEnds l0 l1 _) (fun r65 m66 hl67 hm68 => ?_)
                    refine s_iconst (v := (1 : Int32)) hF dX12_does_224 kI_1 ?_
                    exact s_zretD hF hD dX12_does_225 rfl rfl
                  · refine s_iconst (v := (0 : Int32)) hF dX12_does_217 kI_0 ?_
                    exact s_zretD hF hD dX12_does_218 rfl rfl
theorem sX12_goes_144 {F : Option Fx} {rec : Nat → Int32 → Int32 → Mem → Option (Unit × Mem)} (q2 : Nat → Int32 → Int32 → Mem → Option (Unit × Mem)) {w : Nat} (hB : 8 ≤ w) (hrec : ∀ (l0 : Nat) (l1 : Int32) (l2 : Int32) (μ : Mem) (r : Unit) (μ' : Mem), rec l0 l1 l2 μ = some (r, μ') → CtD yX12_goes cX12_goes 5 none w [.ref l0, .int l1, .int l2] μ (encV r) μ') (hF : FxO F RX12 cX12_goes 5 (w + 1)) (hD : FxDO F none) (hq2 : ∀ (l0 : Nat) (l2 : Int32) (l3 : Int32) (μ : Mem) (_ : isK μ l0 12 = true), Sim F encV 2 [(0, .ref l0), (2, .int l2), (3, .int l3)] [] μ (q2 l0 l2 l3 μ)) (l0 : Nat) (l2 : Int32) (l3 : Int32) (μ : Mem) (f0 : isK μ l0 12 = true) : Sim F encV 144 [(0, .ref l0), (2, .int l2), (3, .int l3)] [] μ (mX12_goes_144 rec q2 l0 l2 l3 μ) := by
  unfold mX12_goes_144
  refine s_aload_n hF dX12_goes_144 rfl 0 rfl ?_
  refine sim_gd (fun g16 => ?_)
  refine s_getR (x := (g_R μ l0 27)) hF dX12_goes_145 flX12_64 f0 g16 rfl ?_
  refine s_iload_n hF dX12_goes_148 rfl 2 rfl ?_
  refine sim_gd (fun g17 => ?_)
  refine sim_gd (fun g18 => ?_)
  refine s_aaload (x := (g_R μ (g_R μ l0 27) l3.toNatClampNeg)) hF dX12_goes_149 (by decide) (by decide) g17 g18 rfl ?_
  refine s_iconst (v := (4 : Int32)) hF dX12_goes_150 kI_4 ?_
  refine sim_gd (fun g19 => ?_)
  refine s_iaload (x := (g_I μ (g_R μ (g_R μ l0 27) l3.toNatClampNeg) (4 : Int32).toNatClampNeg)) hF dX12_goes_151 g19 rfl ?_
  refine s_istore_n (pls' := [(3, .int (g_I μ (g_R μ (g_R μ l0 27) l3.toNatClampNeg) (4 : Int32).toNatClampNeg)), (0, .ref l0), (2, .int l2)]) hF dX12_goes_152 rfl (by decide) rfl ?_
  refine s_goto (tgt := 2) hF dX12_goes_153 rfl ?_
  refine s_sub [1, 2, 0] rfl ?_
  exact hq2 l0 l2 (g_I μ (g_R μ (g_R μ l0 27) l3.toNatClampNeg) (4 : Int32).toNatClampNeg) _ f0
theorem sX12_goes_43 {F : Option Fx} {rec : Nat → Int32 → Int32 → Mem → Option (Unit × Mem)} (q2 : Nat → Int32 → Int32 → Mem → Option (Unit × Mem)) {w : Nat} (hB : 8 ≤ w) (hrec : ∀ (l0 : Nat) (l1 : Int32) (l2 : Int32) (μ : Mem) (r : Unit) (μ' : Mem), rec l0 l1 l2 μ = some (r, μ') → CtD yX12_goes cX12_goes 5 none w [.ref l0, .int l1, .int l2] μ (encV r) μ') (hF : FxO F RX12 cX12_goes 5 (w + 1)) (hD : FxDO F none) (hq2 : ∀ (l0 : Nat) (l2 : Int32) (l3 : Int32) (μ : Mem) (_ : isK μ l0 12 = true), Sim F encV 2 [(0, .ref l0), (2, .int l2), (3, .int l3)] [] μ (q2 l0 l2 l3 μ)) : ∀ (fu : Nat) (l0 : Nat) (l2 : Int32) (l3 : Int32) (l4 : Int32) (μ : Mem) (f0 : isK μ l0 12 = true), Sim F encV 43 [(0, .ref l0), (2, .int l2), (3, .int l3), (4, .int l4)] [] μ (mX12_goes_43 rec q2 fu l0 l2 l3 l4 μ) := by
  intro fu
  induction fu with
  | zero =>
    intro l0 l2 l3 l4 μ f0
    exact sim_none
  | succ fu ih =>
    intro l0 l2 l3 l4 μ f0
    rw [mX12_goes_43]
    refine s_iload hF dX12_goes_43 3 rfl ?_
    refine s_aload_n hF dX12_goes_45 rfl 0 rfl ?_
    refine sim_gd (fun g20 => ?_)
    refine s_getR (x := (g_R μ l0 27)) hF dX12_goes_46 flX12_64 f0 g20 rfl ?_
    refine s_iload_n hF dX12_goes_49 rfl 2 rfl ?_
    refine sim_gd (fun g21 => ?_)
    refine sim_gd (fun g22 => ?_)
    refine s_aaload (x := (g_R μ (g_R μ l0 27) l3.toNatClampNeg)) hF dX12_goes_50 (by decide) (by decide) g21 g22 rfl ?_
    refine s_iconst (v := (1 : Int32)) hF dX12_goes_51 kI_1 ?_
    refine sim_gd (fun g23 => ?_)
    refine s_iaload (x := (g_I μ (g_R μ (g_R μ l0 27) l3.toNatClampNeg) (1 : Int32).toNatClampNeg)) hF dX12_goes_52 g23 rfl ?_
    refine s_icmp_ge (tgt := 87) hF dX12_goes_53 rfl (fun c24 => ?_) (fun c24 => ?_)
    · refine s_goto (tgt := 144) hF dX12_goes_87 rfl ?_
      refine s_sub [0, 1, 2] rfl ?_
      exact sX12_goes_144 q2 hB hrec hF hD hq2 l0 l2 l3 _ f0
    · refine s_aload_n hF dX12_goes_56 rfl 0 rfl ?_
      refine s_getI (x := (g_I μ l0 39)) hF dX12_goes_57 flX12_334 f0 rfl ?_
      refine s_sipush (v := (200 : Int32)) hF dX12_goes_60 kS_200 ?_
      refine s_icmp_ge (tgt := 87) hF dX12_goes_63 rfl (fun c25 => ?_) (fun c25 => ?_)
      · refine s_goto (tgt := 144) hF dX12_goes_87 rfl ?_
        refine s_sub [0, 1, 2] rfl ?_
        exact sX12_goes_144 q2 hB hrec hF hD hq2 l0 l2 l3 _ f0
      · refine s_aload_n hF dX12_goes_66 rfl 0 rfl ?_
        refine s_iload_n hF dX12_goes_67 rfl 2 rfl ?_
        refine s_iconst (v := (1 : Int32)) hF dX12_goes_68 kI_1 ?_
        refine s_iadd hF dX12_goes_69 ?_
        refine s_aload_n hF dX12_goes_70 rfl 0 rfl ?_
        refine s_getR (x := (g_R μ l0 27)) hF dX12_goes_71 flX12_64 f0 g20 rfl ?_
        refine s_iload_n hF dX12_goes_74 rfl 2 rfl ?_
        refine s_aaload (x := (g_R μ (g_R μ l0 27) l3.toNatClampNeg)) hF dX12_goes_75 (by decide) (by decide) g21 g22 rfl ?_
        refine s_iconst (v := (4 : Int32)) hF dX12_goes_76 kI_4 ?_
        refine sim_gd (fun g26 => ?_)
        refine s_iaload (x := (g_I μ (g_R μ (g_R μ l0 27) l3.toNatClampNeg) (4 : Int32).toNatClampNeg)) hF dX12_goes_77 g26 rfl ?_
        refine s_cVv (st := []) (ci := 12) [.int (l3 + (1 : Int32)), .int (g_I μ (g_R μ (g_R μ l0 27) l3.toNatClampNeg) (4 : Int32).toNatClampNeg)] hF hD.dr dX12_goes_78 cwX12_337 (by omega) (Nat.le_of_ble_eq_true rfl) rfl rfl (Nat.le_of_ble_eq_true rfl) f0 rfl rfl (Nat.le_of_ble_eq_true rfl) (hrec l0 (l3 + (1 : Int32)) (g_I μ (g_R μ (g_R μ l0 27) l3.toNatClampNeg) (4 : Int32).toNatClampNeg) _) (fun r27 m28 hl29 hm30 => ?_)
        refine s_iinc (v := (l4 + (1 : Int32))) (pls' := [(4, .int (l4 + (1 : Int32))), (0, .ref l0), (2, .int l2), (3, .int l3)]) hF dX12_goes_81 3 rfl rfl (by decide) rfl ?_
        refine s_goto (tgt := 43) hF dX12_goes_84 rfl ?_
        refine s_sub [1, 2, 3, 0] rfl ?_
        exact ih l0 l2 l3 (l4 + (1 : Int32)) _ (isK.mo f0 hm30)
theorem sX12_goes_121 {F : Option Fx} {rec : Nat → Int32 → Int32 → Mem → Option (Unit × Mem)} (q2 : Nat → Int32 → Int32 → Mem → Option (Unit × Mem)) {w : Nat} (hB : 8 ≤ w) (hrec : ∀ (l0 : Nat) (l1 : Int32) (l2 : Int32) (μ : Mem) (r : Unit) (μ' : Mem), rec l0 l1 l2 μ = some (r, μ') → CtD yX12_goes cX12_goes 5 none w [.ref l0, .int l1, .int l2] μ (encV r) μ') (hF : FxO F RX12 cX12_goes 5 (w + 1)) (hD : FxDO F none) (hq2 : ∀ (l0 : Nat) (l2 : Int32) (l3 : Int32) (μ : Mem) (_ : isK μ l0 12 = true), Sim F encV 2 [(0, .ref l0), (2, .int l2), (3, .int l3)] [] μ (q2 l0 l2 l3 μ)) (l0 : Nat) (l2 : Int32) (l3 : Int32) (l4 : Int32) (k0 : Int32) (k1 : Int32) (k2 : Nat) (μ : Mem) (f0 : isK μ l0 12 = true) : Sim F encV 121 [(0, .ref l0), (2, .int l2), (3, .int l3), (4, .int l4)] [.int k0, .int k1, .ref k2] μ (mX12_goes_121 rec q2 l0 l2 l3 l4 k0 k1 k2 μ) := by
  unfold mX12_goes_121
  refine s_iadd hF dX12_goes_121 ?_
  refine sim_gd (fun g14 => ?_)
  refine s_putI hF dX12_goes_122 flX12_344 g14 ?_
  refine s_aload_n hF dX12_goes_125 rfl 0 rfl ?_
  refine s_dup hF dX12_goes_126 rfl ?_
  refine s_getI (x := (g_I (p_I μ k2 40 (k1 + k0)) l0 36)) hF dX12_goes_127 flX12_196 f0 rfl ?_
  refine s_iload hF dX12_goes_130 3 rfl ?_
  refine s_if_eq (tgt := 139) hF dX12_goes_132 rfl (fun c15 => ?_) (fun c15 => ?_)
  · refine s_iconst (v := (1 : Int32)) hF dX12_goes_139 kI_1 ?_
    refine s_iadd hF dX12_goes_140 ?_
    refine s_putI hF dX12_goes_141 flX12_196 f0 ?_
    refine s_sub [0, 1, 2] rfl ?_
    exact sX12_goes_144 q2 hB hrec hF hD hq2 l0 l2 l3 _ f0
  · refine s_iconst (v := (0 : Int32)) hF dX12_goes_135 kI_0 ?_
    refine s_goto (tgt := 140) hF dX12_goes_136 rfl ?_
    refine s_iadd hF dX12_goes_140 ?_
    refine s_putI hF dX12_goes_141 flX12_196 f0 ?_
    refine s_sub [0, 1, 2] rfl ?_
    exact sX12_goes_144 q2 hB hrec hF hD hq2 l0 l2 l3 _ f0
theorem sX12_goes_2 {F : Option Fx} {rec : Nat → Int32 → Int32 → Mem → Option (Unit × Mem)} {w : Nat} (hB : 8 ≤ w) (hrec : ∀ (l0 : Nat) (l1 : Int32) (l2 : Int32) (μ : Mem) (r : Unit) (μ' : Mem), rec l0 l1 l2 μ = some (r, μ') → CtD yX12_goes cX12_goes 5 none w [.ref l0, .int l1, .int l2] μ (encV r) μ') (hF : FxO F RX12 cX12_goes 5 (w + 1)) (hD : FxDO F none) : ∀ (fu : Nat) (l0 : Nat) (l2 : Int32) (l3 : Int32) (μ : Mem) (f0 : isK μ l0 12 = true), Sim F encV 2 [(0, .ref l0), (2, .int l2), (3, .int l3)] [] μ (mX12_goes_2 rec fu l0 l2 l3 μ) := by
  intro fu
  induction fu with
  | zero =>
    intro l0 l2 l3 μ f0
    exact sim_none
  | succ fu ih =>
    intro l0 l2 l3 μ f0
    rw [mX12_goes_2]
    refine s_iload_n hF dX12_goes_2 rfl 2 rfl ?_
    refine s_iload_n hF dX12_goes_3 rfl 1 rfl ?_
    refine s_icmp_ge (tgt := 156) hF dX12_goes_4 rfl (fun c1 => ?_) (fun c1 => ?_)
    · exact s_vretD hF hD dX12_goes_156 rfl
    · refine s_aload_n hF dX12_goes_7 rfl 0 rfl ?_
      refine s_getI (x := (g_I μ l0 39)) hF dX12_goes_8 flX12_334 f0 rfl ?_
      refine s_sipush (v := (200 : Int32)) hF dX12_goes_11 kS_200 ?_
      refine s_icmp_ge (tgt := 156) hF dX12_goes_14 rfl (fun c2 => ?_) (fun c2 => ?_)
      · exact s_vretD hF hD dX12_goes_156 rfl
      · refine s_aload_n hF dX12_goes_17 rfl 0 rfl ?_
        refine s_dup hF dX12_goes_18 rfl ?_
        refine s_getI (x := (g_I μ l0 39)) hF dX12_goes_19 flX12_334 f0 rfl ?_
        refine s_iconst (v := (1 : Int32)) hF dX12_goes_22 kI_1 ?_
        refine s_iadd hF dX12_goes_23 ?_
        refine s_putI hF dX12_goes_24 flX12_334 f0 ?_
        refine s_aload_n hF dX12_goes_27 rfl 0 rfl ?_
        refine sim_gd (fun g3 => ?_)
        refine s_getR (x := (g_R μ l0 27)) hF dX12_goes_28 flX12_64 f0 g3 rfl ?_
        refine s_iload_n hF dX12_goes_31 rfl 2 rfl ?_
        refine sim_gd (fun g4 => ?_)
        refine sim_gd (fun g5 => ?_)
        refine s_aaload (x := (g_R μ (g_R μ l0 27) l3.toNatClampNeg)) hF dX12_goes_32 (by decide) (by decide) g4 g5 rfl ?_
        refine s_iconst (v := (0 : Int32)) hF dX12_goes_33 kI_0 ?_
        refine sim_gd (fun g6 => ?_)
        refine s_iaload (x := (g_I (p_I μ l0 39 ((g_I μ l0 39) + (1 : Int32))) (g_R μ (g_R μ l0 27) l3.toNatClampNeg) (0 : Int32).toNatClampNeg)) hF dX12_goes_34 g6 rfl ?_
        refine s_bipush (v := (9 : Int32)) hF dX12_goes_35 kB_9 ?_
        refine s_icmp_ne (tgt := 90) hF dX12_goes_37 rfl (fun c7 => ?_) (fun c7 => ?_)
        · refine s_iconst (v := (0 : Int32)) hF dX12_goes_40 kI_0 ?_
          refine s_istore (pls' := [(4, .int (0 : Int32)), (0, .ref l0), (2, .int l2), (3, .int l3)]) hF dX12_goes_41 (by decide) rfl ?_
          refine s_sub [1, 2, 3, 0] rfl ?_
          exact sX12_goes_43 (fun l0 l2 l3 μ => mX12_goes_2 rec fu l0 l2 l3 μ) hB hrec hF hD ih 100000 l0 l2 l3 (0 : Int32) _ f0
        · refine s_aload_n hF dX12_goes_90 rfl 0 rfl ?_
          refine s_aload_n hF dX12_goes_91 rfl 0 rfl ?_
          refine sim_gd (fun g8 => ?_)
          refine s_getR (x := (g_R μ l0 29)) hF dX12_goes_92 flX12_67 f0 g8 rfl ?_
          refine s_aload_n hF dX12_goes_95 rfl 0 rfl ?_
          refine s_getR (x := (g_R μ l0 27)) hF dX12_goes_96 flX12_64 f0 g3 rfl ?_
          refine s_iload_n hF dX12_goes_99 rfl 2 rfl ?_
          refine s_aaload (x := (g_R μ (g_R μ l0 27) l3.toNatClampNeg)) hF dX12_goes_100 (by decide) (by decide) g4 g5 rfl ?_
          refine s_cVi (st := []) (ci := 12) [.ref (g_R μ l0 29), .ref (g_R μ (g_R μ l0 27) l3.toNatClampNeg)] hF hD.dr dX12_goes_101 cwX12_340 (by omega) (Nat.le_of_ble_eq_true rfl) rfl rfl (Nat.le_of_ble_eq_true rfl) f0 rfl rfl (Nat.le_of_ble_eq_true rfl) (ctX12_does l0 (g_R μ l0 29) (g_R μ (g_R μ l0 27) l3.toNatClampNeg) _) (fun r9 m10 hl11 hm12 => ?_)
          refine s_istore (pls' := [(4, .int r9), (0, .ref l0), (2, .int l2), (3, .int l3)]) hF dX12_goes_104 (by decide) rfl ?_
          refine s_aload_n hF dX12_goes_106 rfl 1 rfl ?_
          refine s_dup hF dX12_goes_107 rfl ?_
          refine s_getI (x := (g_I m10 l0 40)) hF dX12_goes_108 flX12_344 (isK.mo f0 hm12) rfl ?_
          refine s_iload hF dX12_goes_111 0 rfl ?_
          refine s_if_eq (tgt := 120) hF dX12_goes_113 rfl (fun c13 => ?_) (fun c13 => ?_)
          · refine s_iconst (v := (0 : Int32)) hF dX12_goes_120 kI_0 ?_
            refine s_sub [1, 2, 3, 0] rfl ?_
            exact sX12_goes_121 (fun l0 l2 l3 μ => mX12_goes_2 rec fu l0 l2 l3 μ) hB hrec hF hD ih l0 l2 l3 r9 (0 : Int32) (g_I m10 l0 40) l0 _ (isK.mo f0 hm12)
          · refine s_iconst (v := (1 : Int32)) hF dX12_goes_116 kI_1 ?_
            refine s_goto (tgt := 121) hF dX12_goes_117 rfl ?_
            refine s_sub [1, 2, 3, 0] rfl ?_
            exact sX12_goes_121 (fun l0 l2 l3 μ => mX12_goes_2 rec fu l0 l2 l3 μ) hB hrec hF hD ih l0 l2 l3 r9 (1 : Int32) (g_I m10 l0 40) l0 _ (isK.mo f0 hm12)
theorem ctX12_goes_b {rec : Nat → Int32 → Int32 → Mem → Option (Unit × Mem)} {w : Nat} (hB : 8 ≤ w) (hrec : ∀ (l0 : Nat) (l1 : Int32) (l2 : Int32) (μ : Mem) (r : Unit) (μ' : Mem), rec l0 l1 l2 μ = some (r, μ') → CtD yX12_goes cX12_goes 5 none w [.ref l0, .int l1, .int l2] μ (encV r) μ') (l0 : Nat) (l1 : Int32) (l2 : Int32) (μ : Mem) : ∀ (r : Unit) (μ' : Mem), LX12_goes_b rec l0 l1 l2 μ = some (r, μ') → CtD yX12_goes cX12_goes 5 none (w + 1) [.ref l0, .int l1, .int l2] μ (encV r) μ' := by
  refine ct_enterD plX12 (Nat.le_of_ble_eq_true rfl) (fun F hF hD hI => ?_)
  unfold LX12_goes_b
  refine sim_gd (fun f0 => ?_)
  refine s_iload_n hF dX12_goes_0 rfl 1 rfl ?_
  refine s_istore_n (pls' := [(3, .int l1), (0, .ref l0), (1, .int l1), (2, .int l2)]) hF dX12_goes_1 rfl (by decide) rfl ?_
  refine s_sub [1, 3, 0] rfl ?_
  exact sX12_goes_2 hB hrec hF hD 100000 l0 l2 l1 _ f0
theorem ctX12_goes : ∀ (d : Nat) (l0 : Nat) (l1 : Int32) (l2 : Int32) (μ : Mem) (r : Unit) (μ' : Mem), LX12_goes d l0 l1 l2 μ = some (r, μ') → CtD yX12_goes cX12_goes 5 none (8 + 1 * d) [.ref l0, .int l1, .int l2] μ (encV r) μ'
  | 0, _, _, _, _ => fun r μ' h => by cases h
  | d + 1, l0, l1, l2, μ => fun r μ' h => ctX12_goes_b (Nat.le_add_right _ _) (fun l0 l1 l2 μ r μ' h => ctX12_goes d l0 l1 l2 μ r μ' h) l0 l1 l2 μ r μ' h
theorem sX12_work_101 {F : Option Fx} (hF : FxO F RX12 cX12_work 2 21) (hD : FxDO F (some .int)) (l0 : Nat) (μ : Mem) (f0 : isK μ l0 12 = true) : Sim F encI 101 [(0, .ref l0)] [] μ (mX12_work_101 l0 μ) := by
  unfold mX12_work_101
  refine s_aload_n hF dX12_work_101 rfl 0 rfl ?_
  refine s_getI (x := (g_I μ l0 5)) hF dX12_work_102 flX12_110 f0 rfl ?_
  refine s_if_eq (tgt := 113) hF dX12_work_105 rfl (fun c28 => ?_) (fun c28 => ?_)
  · refine s_aload_n hF dX12_work_113 rfl 0 rfl ?_
    refine s_iconst (v := (-1 : Int32)) hF dX12_work_114 kI_m1 ?_
    refine s_putI hF dX12_work_115 flX12_9 f0 ?_
    refine s_aload_n hF dX12_work_118 rfl 0 rfl ?_
    refine sim_gd (fun g29 => ?_)
    refine s_getR (x := (g_R μ l0 29)) hF dX12_work_119 flX12_67 f0 g29 rfl ?_
    refine s_aload_n hF dX12_work_122 rfl 0 rfl ?_
    refine sim_gd (fun g30 => ?_)
    refine s_getR (x := (g_R μ l0 31)) hF dX12_work_123 flX12_73 f0 g30 rfl ?_
    refine s_aload_n hF dX12_work_126 rfl 0 rfl ?_
    refine s_getI (x := (g_I (p_I μ l0 3 (-1 : Int32)) l0 35)) hF dX12_work_127 flX12_193 f0 rfl ?_
    refine sim_gd (fun g31 => ?_)
    refine sim_gd (fun g32 => ?_)
    refine s_aaload (x := (g_R μ (g_R μ l0 31) (g_I (p_I μ l0 3 (-1 : Int32)) l0 35).toNatClampNeg)) hF dX12_work_130 (by decide) (by decide) g31 g32 rfl ?_
    refine s_cSv (st := []) [.ref (g_R μ l0 29), .ref (g_R μ (g_R μ l0 31) (g_I (p_I μ l0 3 (-1 : Int32)) l0 35).toNatClampNeg)] hF hD.dr dX12_work_131 cwX12_347 (Nat.le_of_ble_eq_true rfl) (Nat.le_of_ble_eq_true rfl) rfl rfl (Nat.le_of_ble_eq_true rfl) (ctX12_copies (g_R μ l0 29) (g_R μ (g_R μ l0 31) (g_I (p_I μ l0 3 (-1 : Int32)) l0 35).toNatClampNeg) _) (fun r33 m34 hl35 hm36 => ?_)
    refine s_aload_n hF dX12_work_134 rfl 0 rfl ?_
    refine s_dup hF dX12_work_135 rfl ?_
    refine s_getI (x := (g_I m34 l0 35)) hF dX12_work_136 flX12_193 (isK.mo f0 hm36) rfl ?_
    refine s_iconst (v := (1 : Int32)) hF dX12_work_139 kI_1 ?_
    refine s_iadd hF dX12_work_140 ?_
    refine s_putI hF dX12_work_141 flX12_193 (isK.mo f0 hm36) ?_
    refine s_aload_n hF dX12_work_144 rfl 0 rfl ?_
    refine s_iconst (v := (0 : Int32)) hF dX12_work_145 kI_0 ?_
    refine s_putI hF dX12_work_146 flX12_334 (isK.mo f0 hm36) ?_
    refine s_aload_n hF dX12_work_149 rfl 0 rfl ?_
    refine s_iconst (v := (0 : Int32)) hF dX12_work_150 kI_0 ?_
    refine s_putI hF dX12_work_151 flX12_344 (isK.mo f0 hm36) ?_
    refine s_aload_n hF dX12_work_154 rfl 0 rfl ?_
    refine s_iconst (v := (0 : Int32)) hF dX12_work_155 kI_0 ?_
    refine s_putI hF dX12_work_156 flX12_196 (isK.mo f0 hm36) ?_
    refine s_aload_n hF dX12_work_159 rfl 0 rfl ?_
    refine s_iconst (v := (0 : Int32)) hF dX12_work_160 kI_0 ?_
    refine s_aload_n hF dX12_work_161 rfl 0 rfl ?_
    refine s_getI (x := (g_I (p_I (p_I (p_I (p_I m34 l0 35 ((g_I m34 l0 35) + (1 : Int32))) l0 39 (0 : Int32)) l0 40 (0 : Int32)) l0 36 (0 : Int32)) l0 28)) hF dX12_work_162 flX12_251 (isK.mo f0 hm36) rfl ?_
    refine s_cVv (st := []) (ci := 12) [.int (0 : Int32), .int (g_I (p_I (p_I (p_I (p_I m34 l0 35 ((g_I m34 l0 35) + (1 : Int32))) l0 39 (0 : Int32)) l0 40 (0 : Int32)) l0 36 (0 : Int32)) l0 28)] hF hD.dr dX12_work_165 cwX12_337 (Nat.le_of_ble_eq_true rfl) (Nat.le_of_ble_eq_true rfl) rfl rfl (Nat.le_of_ble_eq_true rfl) (isK.mo f0 hm36) rfl rfl (Nat.le_of_ble_eq_true rfl) (ctX12_goes 12 l0 (0 : Int32) (g_I (p_I (p_I (p_I (p_I m34 l0 35 ((g_I m34 l0 35) + (1 : Int32))) l0 39 (0 : Int32)) l0 40 (0 : Int32)) l0 36 (0 : Int32)) l0 28) _) (fun r37 m38 hl39 hm40 => ?_)
    refine s_aload_n hF dX12_work_168 rfl 0 rfl ?_
    refine s_getI (x := (g_I m38 l0 40)) hF dX12_work_169 flX12_344 (isK.mo (isK.mo f0 hm36) hm40) rfl ?_
    exact s_iretD hF hD dX12_work_172 rfl
  · refine s_aload_n hF dX12_work_108 rfl 0 rfl ?_
    refine s_cVi (st := []) (ci := 12) [] hF hD.dr dX12_work_109 cwX12_177 (Nat.le_of_ble_eq_true rfl) (Nat.le_of_ble_eq_true rfl) rfl rfl (Nat.le_of_ble_eq_true rfl) f0 rfl rfl (Nat.le_of_ble_eq_true rfl) (ctX12_ends l0 _) (fun r41 m42 hl43 hm44 => ?_)
    exact s_iretD hF hD dX12_work_112 rfl
theorem sX12_work_72 {F : Option Fx} (hF : FxO F RX12 cX12_work 2 21) (hD : FxDO F (some .int)) : ∀ (fu : Nat) (l0 : Nat) (μ : Mem) (f0 : isK μ l0 12 = true), Sim F encI 72 [(0, .ref l0)] [] μ (mX12_work_72 fu l0 μ) := by
  intro fu
  induction fu with
  | zero =>
    intro l0 μ f0
    exact sim_none
  | succ fu ih =>
    intro l0 μ f0
    rw [mX12_work_72]
    refine s_aload_n hF dX12_work_72 rfl 0 rfl ?_
    refine s_getI (x := (g_I μ l0 5)) hF dX12_work_73 flX12_110 f0 rfl ?_
    refine s_if_ne (tgt := 101) hF dX12_work_76 rfl (fun c18 => ?_) (fun c18 => ?_)
    · refine s_aload_n hF dX12_work_79 rfl 0 rfl ?_
      refine s_getI (x := (g_I μ l0 4)) hF dX12_work_80 flX12_103 f0 rfl ?_
      refine s_aload_n hF dX12_work_83 rfl 0 rfl ?_
      refine s_getI (x := (g_I μ l0 2)) hF dX12_work_84 flX12_100 f0 rfl ?_
      refine s_icmp_ge (tgt := 101) hF dX12_work_87 rfl (fun c19 => ?_) (fun c19 => ?_)
      · exact sX12_work_101 hF hD l0 _ f0
      · refine s_aload_n hF dX12_work_90 rfl 0 rfl ?_
        refine s_cVv (st := []) (ci := 12) [] hF hD.dr dX12_work_91 cwX12_258 (Nat.le_of_ble_eq_true rfl) (Nat.le_of_ble_eq_true rfl) rfl rfl (Nat.le_of_ble_eq_true rfl) f0 rfl rfl (Nat.le_of_ble_eq_true rfl) (ctX12_readsStep 12 l0 _) (fun r20 m21 hl22 hm23 => ?_)
        refine s_aload_n hF dX12_work_94 rfl 0 rfl ?_
        refine s_cVv (st := []) (ci := 12) [] hF hD.dr dX12_work_95 cwX12_116 (Nat.le_of_ble_eq_true rfl) (Nat.le_of_ble_eq_true rfl) rfl rfl (Nat.le_of_ble_eq_true rfl) (isK.mo f0 hm23) rfl rfl (Nat.le_of_ble_eq_true rfl) (ctX12_blanks l0 _) (fun r24 m25 hl26 hm27 => ?_)
        refine s_goto (tgt := 72) hF dX12_work_98 rfl ?_
        exact ih l0 _ (isK.mo (isK.mo f0 hm23) hm27)
    · exact sX12_work_101 hF hD l0 _ f0
theorem sX12_work_30 {F : Option Fx} (hF : FxO F RX12 cX12_work 2 21) (hD : FxDO F (some .int)) (l0 : Nat) (l1 : Int32) (k0 : Int32) (k1 : Nat) (μ : Mem) (f0 : isK μ l0 12 = true) : Sim F encI 30 [(0, .ref l0), (1, .int l1)] [.int k0, .ref k1] μ (mX12_work_30 l0 l1 k0 k1 μ) := by
  unfold mX12_work_30
  refine s_iconst (v := (1 : Int32)) hF dX12_work_30 kI_1 ?_
  refine s_iconst (v := (1 : Int32)) hF dX12_work_31 kI_1 ?_
  refine sim_gd (fun g11 => ?_)
  refine s_cVi (st := []) (ci := 12) [.int k0, .int (1 : Int32), .int (1 : Int32)] hF hD.dr dX12_work_32 cwX12_167 (Nat.le_of_ble_eq_true rfl) (Nat.le_of_ble_eq_true rfl) rfl rfl (Nat.le_of_ble_eq_true rfl) g11 rfl rfl (Nat.le_of_ble_eq_true rfl) (ctX12_bad k1 k0 (1 : Int32) (1 : Int32) _) (fun r7 m8 hl9 hm10 => ?_)
  refine s_if_eq (tgt := 40) hF dX12_work_35 rfl (fun c12 => ?_) (fun c12 => ?_)
  · refine s_aload_n hF dX12_work_40 rfl 0 rfl ?_
    refine s_getI (x := (g_I m8 l0 35)) hF dX12_work_41 flX12_193 (isK.mo f0 hm10) rfl ?_
    refine s_bipush (v := (16 : Int32)) hF dX12_work_44 kB_16 ?_
    refine s_icmp_ne (tgt := 62) hF dX12_work_46 rfl (fun c13 => ?_) (fun c13 => ?_)
    · refine s_aload_n hF dX12_work_49 rfl 0 rfl ?_
      refine s_iconst (v := (0 : Int32)) hF dX12_work_50 kI_0 ?_
      refine s_putI hF dX12_work_51 flX12_97 (isK.mo f0 hm10) ?_
      refine s_aload_n hF dX12_work_54 rfl 0 rfl ?_
      refine s_iconst (v := (-1 : Int32)) hF dX12_work_55 kI_m1 ?_
      refine s_putI hF dX12_work_56 flX12_9 (isK.mo f0 hm10) ?_
      refine s_bipush (v := (-20 : Int32)) hF dX12_work_59 kB_m20 ?_
      exact s_iretD hF hD dX12_work_61 rfl
    · refine s_aload_n hF dX12_work_62 rfl 0 rfl ?_
      refine s_iload_n hF dX12_work_63 rfl 1 rfl ?_
      refine s_cVv (st := []) (ci := 12) [.int l1] hF hD.dr dX12_work_64 cwX12_171 (Nat.le_of_ble_eq_true rfl) (Nat.le_of_ble_eq_true rfl) rfl rfl (Nat.le_of_ble_eq_true rfl) (isK.mo f0 hm10) rfl rfl (Nat.le_of_ble_eq_true rfl) (ctX12_starts l0 l1 _) (fun r14 m15 hl16 hm17 => ?_)
      refine s_aload_n hF dX12_work_67 rfl 0 rfl ?_
      refine s_iconst (v := (0 : Int32)) hF dX12_work_68 kI_0 ?_
      refine s_putI hF dX12_work_69 flX12_251 (isK.mo (isK.mo f0 hm10) hm17) ?_
      refine s_sub [0] rfl ?_
      exact sX12_work_72 hF hD 100000 l0 _ (isK.mo (isK.mo f0 hm10) hm17)
  · refine s_iconst (v := (0 : Int32)) hF dX12_work_38 kI_0 ?_
    exact s_iretD hF hD dX12_work_39 rfl
theorem ctX12_work  (l0 : Nat) (l1 : Int32) (μ : Mem) : ∀ (r : Int32) (μ' : Mem), LX12_work l0 l1 μ = some (r, μ') → CtD yX12_work cX12_work 2 (some .int) 21 [.ref l0, .int l1] μ (encI r) μ' := by
  refine ct_enterD plX12 (Nat.le_of_ble_eq_true rfl) (fun F hF hD hI => ?_)
  unfold LX12_work
  refine sim_gd (fun f0 => ?_)
  refine s_aload_n hF dX12_work_0 rfl 0 rfl ?_
  refine s_iconst (v := (0 : Int32)) hF dX12_work_1 kI_0 ?_
  refine s_putI hF dX12_work_2 flX12_94 f0 ?_
  refine s_aload_n hF dX12_work_5 rfl 0 rfl ?_
  refine s_iload_n hF dX12_work_6 rfl 1 rfl ?_
  refine s_iconst (v := (0 : Int32)) hF dX12_work_7 kI_0 ?_
  refine s_aload_n hF dX12_work_8 rfl 0 rfl ?_
  refine s_getI (x := (g_I (p_I μ l0 0 (0 : Int32)) l0 1)) hF dX12_work_9 flX12_97 f0 rfl ?_
  refine s_cSi (st := [.ref l0]) [.int l1, .int (0 : Int32), .int (g_I (p_I μ l0 0 (0 : Int32)) l0 1)] hF hD.dr dX12_work_12 cwX12_128 (Nat.le_of_ble_eq_true rfl) (Nat.le_of_ble_eq_true rfl) rfl rfl (Nat.le_of_ble_eq_true rfl) (ctX12_in l1 (0 : Int32) (g_I (p_I μ l0 0 (0 : Int32)) l0 1) _) (fun r1 m2 hl3 hm4 => ?_)
  refine s_if_eq (tgt := 25) hF dX12_work_15 rfl (fun c5 => ?_) (fun c5 => ?_)
  · refine s_iconst (v := (1 : Int32)) hF dX12_work_25 kI_1 ?_
    refine s_goto (tgt := 30) hF dX12_work_26 rfl ?_
    exact sX12_work_30 hF hD l0 l1 (1 : Int32) l0 _ (isK.mo f0 hm4)
  · refine s_iload_n hF dX12_work_18 rfl 1 rfl ?_
    refine s_sipush (v := (150 : Int32)) hF dX12_work_19 kS_150 ?_
    refine s_icmp_le (tgt := 29) hF dX12_work_22 rfl (fun c6 => ?_) (fun c6 => ?_)
    · refine s_iconst (v := (0 : Int32)) hF dX12_work_29 kI_0 ?_
      exact sX12_work_30 hF hD l0 l1 (0 : Int32) l0 _ (isK.mo f0 hm4)
    · refine s_iconst (v := (1 : Int32)) hF dX12_work_25 kI_1 ?_
      refine s_goto (tgt := 30) hF dX12_work_26 rfl ?_
      exact sX12_work_30 hF hD l0 l1 (1 : Int32) l0 _ (isK.mo f0 hm4)
