theorem ctX12_undo  (l0 : Nat) (μ : Mem) : ∀ (r : Int32) (μ' : Mem), LX12_undo l0 μ = some (r, μ') → CtD yX12_undo cX12_undo 1 (some .int) 1 [.ref l0] μ (encI r) μ' := by
  refine ct_enterD plX12 (Nat.le_of_ble_eq_true rfl) (fun F hF hD hI => ?_)
  unfold LX12_undo
  refine sim_gd (fun f0 => ?_)
  refine s_aload_n hF dX12_undo_0 rfl 0 rfl ?_
  refine s_iconst (v := (0 : Int32)) hF dX12_undo_1 kI_0 ?_
  refine s_putI hF dX12_undo_2 flX12_94 f0 ?_
  refine s_aload_n hF dX12_undo_5 rfl 0 rfl ?_
  refine s_getI (x := (g_I (p_I μ l0 0 (0 : Int32)) l0 35)) hF dX12_undo_6 flX12_193 f0 rfl ?_
  refine s_if_ne (tgt := 14) hF dX12_undo_9 rfl (fun c1 => ?_) (fun c1 => ?_)
  · refine s_iconst (v := (-1 : Int32)) hF dX12_undo_12 kI_m1 ?_
    exact s_iretD hF hD dX12_undo_13 rfl
  · refine s_aload_n hF dX12_undo_14 rfl 0 rfl ?_
    refine s_dup hF dX12_undo_15 rfl ?_
    refine s_getI (x := (g_I (p_I μ l0 0 (0 : Int32)) l0 35)) hF dX12_undo_16 flX12_193 f0 rfl ?_
    refine s_iconst (v := (1 : Int32)) hF dX12_undo_19 kI_1 ?_
    refine s_isub hF dX12_undo_20 ?_
    refine s_putI hF dX12_undo_21 flX12_193 f0 ?_
    refine s_aload_n hF dX12_undo_24 rfl 0 rfl ?_
    refine sim_gd (fun g2 => ?_)
    refine s_getR (x := (g_R μ l0 31)) hF dX12_undo_25 flX12_73 f0 g2 rfl ?_
    refine s_aload_n hF dX12_undo_28 rfl 0 rfl ?_
    refine s_getI (x := (g_I (p_I (p_I μ l0 0 (0 : Int32)) l0 35 ((g_I (p_I μ l0 0 (0 : Int32)) l0 35) - (1 : Int32))) l0 35)) hF dX12_undo_29 flX12_193 f0 rfl ?_
    refine sim_gd (fun g3 => ?_)
    refine sim_gd (fun g4 => ?_)
    refine s_aaload (x := (g_R μ (g_R μ l0 31) (g_I (p_I (p_I μ l0 0 (0 : Int32)) l0 35 ((g_I (p_I μ l0 0 (0 : Int32)) l0 35) - (1 : Int32))) l0 35).toNatClampNeg)) hF dX12_undo_32 (by decide) (by decide) g3 g4 rfl ?_
    refine s_aload_n hF dX12_undo_33 rfl 0 rfl ?_
    refine sim_gd (fun g5 => ?_)
    refine s_getR (x := (g_R μ l0 29)) hF dX12_undo_34 flX12_67 f0 g5 rfl ?_
    refine s_cSv (st := []) [.ref (g_R μ (g_R μ l0 31) (g_I (p_I (p_I μ l0 0 (0 : Int32)) l0 35 ((g_I (p_I μ l0 0 (0 : Int32)) l0 35) - (1 : Int32))) l0 35).toNatClampNeg), .ref (g_R μ l0 29)] hF hD.dr dX12_undo_37 cwX12_347 (Nat.le_of_ble_eq_true rfl) (Nat.le_of_ble_eq_true rfl) rfl rfl (Nat.le_of_ble_eq_true rfl) (ctX12_copies (g_R μ (g_R μ l0 31) (g_I (p_I (p_I μ l0 0 (0 : Int32)) l0 35 ((g_I (p_I μ l0 0 (0 : Int32)) l0 35) - (1 : Int32))) l0 35).toNatClampNeg) (g_R μ l0 29) _) (fun r6 m7 hl8 hm9 => ?_)
    refine s_aload_n hF dX12_undo_40 rfl 0 rfl ?_
    refine s_iconst (v := (0 : Int32)) hF dX12_undo_41 kI_0 ?_
    refine s_putI hF dX12_undo_42 flX12_196 (isK.mo f0 hm9) ?_
    refine s_aload_n hF dX12_undo_45 rfl 0 rfl ?_
    refine s_getI (x := (g_I (p_I m7 l0 36 (0 : Int32)) l0 35)) hF dX12_undo_46 flX12_193 (isK.mo f0 hm9) rfl ?_
    exact s_iretD hF hD dX12_undo_49 rfl
theorem sX12_records_4 {F : Option Fx} (hF : FxO F RX12 cX12_records 4 0) (hD : FxDO F (some .int)) : ∀ (fu : Nat) (l0 : Nat) (l1 : Nat) (l2 : Int32) (l3 : Int32) (μ : Mem) (f0 : isK μ l0 12 = true) (f1 : isK μ l1 15 = true), Sim F encI 4 [(0, .ref l0), (1, .ref l1), (2, .int l2), (3, .int l3)] [] μ (mX12_records_4 fu l0 l1 l2 l3 μ) := by
  intro fu
  induction fu with
  | zero =>
    intro l0 l1 l2 l3 μ f0 f1
    exact sim_none
  | succ fu ih =>
    intro l0 l1 l2 l3 μ f0 f1
    rw [mX12_records_4]
    refine s_iload_n hF dX12_records_4 rfl 3 rfl ?_
    refine s_aload_n hF dX12_records_5 rfl 0 rfl ?_
    refine sim_gd (fun g1 => ?_)
    refine s_getR (x := (g_R μ l0 12)) hF dX12_records_6 flX12_23 f0 g1 rfl ?_
    refine s_iconst (v := (0 : Int32)) hF dX12_records_9 kI_0 ?_
    refine sim_gd (fun g2 => ?_)
    refine s_iaload (x := (g_I μ (g_R μ l0 12) (0 : Int32).toNatClampNeg)) hF dX12_records_10 g2 rfl ?_
    refine s_icmp_ge (tgt := 29) hF dX12_records_11 rfl (fun c3 => ?_) (fun c3 => ?_)
    · refine s_iload_n hF dX12_records_29 rfl 2 rfl ?_
      exact s_iretD hF hD dX12_records_30 rfl
    · refine s_iload_n hF dX12_records_14 rfl 2 rfl ?_
      refine s_aload_n hF dX12_records_15 rfl 1 rfl ?_
      refine s_bipush (v := (24 : Int32)) hF dX12_records_16 kB_24 ?_
      refine s_iload_n hF dX12_records_18 rfl 3 rfl ?_
      refine s_iadd hF dX12_records_19 ?_
      refine sim_gd (fun g4 => ?_)
      refine s_iaload (x := (g_I μ l1 ((24 : Int32) + l3).toNatClampNeg)) hF dX12_records_20 g4 rfl ?_
      refine s_iadd hF dX12_records_21 ?_
      refine s_istore_n (pls' := [(2, .int (l2 + (g_I μ l1 ((24 : Int32) + l3).toNatClampNeg))), (0, .ref l0), (1, .ref l1), (3, .int l3)]) hF dX12_records_22 rfl (by decide) rfl ?_
      refine s_iinc (v := (l3 + (1 : Int32))) (pls' := [(3, .int (l3 + (1 : Int32))), (2, .int (l2 + (g_I μ l1 ((24 : Int32) + l3).toNatClampNeg))), (0, .ref l0), (1, .ref l1)]) hF dX12_records_23 3 rfl rfl (by decide) rfl ?_
      refine s_goto (tgt := 4) hF dX12_records_26 rfl ?_
      refine s_sub [2, 3, 1, 0] rfl ?_
      exact ih l0 l1 (l2 + (g_I μ l1 ((24 : Int32) + l3).toNatClampNeg)) (l3 + (1 : Int32)) _ f0 f1
theorem ctX12_records  (l0 : Nat) (l1 : Nat) (μ : Mem) : ∀ (r : Int32) (μ' : Mem), LX12_records l0 l1 μ = some (r, μ') → CtD yX12_records cX12_records 4 (some .int) 0 [.ref l0, .ref l1] μ (encI r) μ' := by
  refine ct_enterD plX12 (Nat.le_of_ble_eq_true rfl) (fun F hF hD hI => ?_)
  unfold LX12_records
  refine sim_gd (fun f0 => ?_)
  refine sim_gd (fun f1 => ?_)
  refine s_iconst (v := (0 : Int32)) hF dX12_records_0 kI_0 ?_
  refine s_istore_n (pls' := [(2, .int (0 : Int32)), (0, .ref l0), (1, .ref l1)]) hF dX12_records_1 rfl (by decide) rfl ?_
  refine s_iconst (v := (0 : Int32)) hF dX12_records_2 kI_0 ?_
  refine s_istore_n (pls' := [(3, .int (0 : Int32)), (2, .int (0 : Int32)), (0, .ref l0), (1, .ref l1)]) hF dX12_records_3 rfl (by decide) rfl ?_
  refine s_sub [2, 3, 1, 0] rfl ?_
  exact sX12_records_4 hF hD 100000 l0 l1 (0 : Int32) (0 : Int32) _ f0 f1
theorem sX12_told_72 {F : Option Fx} (q38 : Nat → Int32 → Int32 → Int32 → Int32 → Mem → Option (Int32 × Mem)) (hF : FxO F RX12 cX12_told 5 2) (hD : FxDO F (some .int)) (hq38 : ∀ (l0 : Nat) (l1 : Int32) (l2 : Int32) (l3 : Int32) (l4 : Int32) (μ : Mem) (_ : isK μ l0 12 = true), Sim F encI 38 [(0, .ref l0), (1, .int l1), (2, .int l2), (3, .int l3), (4, .int l4)] [] μ (q38 l0 l1 l2 l3 l4 μ)) (l0 : Nat) (l1 : Int32) (l3 : Int32) (l4 : Int32) (k0 : Int32) (k1 : Int32) (μ : Mem) (f0 : isK μ l0 12 = true) : Sim F encI 72 [(0, .ref l0), (1, .int l1), (3, .int l3), (4, .int l4)] [.int k0, .int k1] μ (mX12_told_72 q38 l0 l1 l3 l4 k0 k1 μ) := by
  unfold mX12_told_72
  refine s_ior hF dX12_told_72 ?_
  refine s_istore_n (pls' := [(2, .int (k1 ||| k0)), (0, .ref l0), (1, .int l1), (3, .int l3), (4, .int l4)]) hF dX12_told_73 rfl (by decide) rfl ?_
  refine s_iload_n hF dX12_told_74 rfl 3 rfl ?_
  refine s_aload_n hF dX12_told_75 rfl 1 rfl ?_
  refine s_aload_n hF dX12_told_76 rfl 1 rfl ?_
  refine sim_gd (fun g41 => ?_)
  refine s_getR (x := (g_R μ l0 29)) hF dX12_told_77 flX12_67 f0 g41 rfl ?_
  refine s_iload hF dX12_told_80 4 rfl ?_
  refine s_cVi (st := [.int l3]) (ci := 12) [.ref (g_R μ l0 29), .int l4] hF hD.dr dX12_told_82 cwX12_286 (Nat.le_of_ble_eq_true rfl) (Nat.le_of_ble_eq_true rfl) rfl rfl (Nat.le_of_ble_eq_true rfl) f0 rfl rfl (Nat.le_of_ble_eq_true rfl) (ctX12_jams l0 (g_R μ l0 29) l4 _) (fun r42 m43 hl44 hm45 => ?_)
  refine s_if_eq (tgt := 95) hF dX12_told_85 rfl (fun c46 => ?_) (fun c46 => ?_)
  · refine s_iconst (v := (0 : Int32)) hF dX12_told_95 kI_0 ?_
    refine s_ior hF dX12_told_96 ?_
    refine s_istore_n (pls' := [(3, .int (l3 ||| (0 : Int32))), (2, .int (k1 ||| k0)), (0, .ref l0), (1, .int l1), (4, .int l4)]) hF dX12_told_97 rfl (by decide) rfl ?_
    refine s_iinc (v := (l4 + (1 : Int32))) (pls' := [(4, .int (l4 + (1 : Int32))), (3, .int (l3 ||| (0 : Int32))), (2, .int (k1 ||| k0)), (0, .ref l0), (1, .int l1)]) hF dX12_told_98 4 rfl rfl (by decide) rfl ?_
    refine s_goto (tgt := 38) hF dX12_told_101 rfl ?_
    refine s_sub [3, 4, 2, 1, 0] rfl ?_
    exact hq38 l0 l1 (k1 ||| k0) (l3 ||| (0 : Int32)) (l4 + (1 : Int32)) _ (isK.mo f0 hm45)
  · refine s_iconst (v := (1 : Int32)) hF dX12_told_88 kI_1 ?_
    refine s_iload hF dX12_told_89 4 rfl ?_
    refine s_ishl hF dX12_told_91 ?_
    refine s_goto (tgt := 96) hF dX12_told_92 rfl ?_
    refine s_ior hF dX12_told_96 ?_
    refine s_istore_n (pls' := [(3, .int (l3 ||| ((1 : Int32) <<< (l4 &&& 31)))), (2, .int (k1 ||| k0)), (0, .ref l0), (1, .int l1), (4, .int l4)]) hF dX12_told_97 rfl (by decide) rfl ?_
    refine s_iinc (v := (l4 + (1 : Int32))) (pls' := [(4, .int (l4 + (1 : Int32))), (3, .int (l3 ||| ((1 : Int32) <<< (l4 &&& 31)))), (2, .int (k1 ||| k0)), (0, .ref l0), (1, .int l1)]) hF dX12_told_98 4 rfl rfl (by decide) rfl ?_
    refine s_goto (tgt := 38) hF dX12_told_101 rfl ?_
    refine s_sub [3, 4, 2, 1, 0] rfl ?_
    exact hq38 l0 l1 (k1 ||| k0) (l3 ||| ((1 : Int32) <<< (l4 &&& 31))) (l4 + (1 : Int32)) _ (isK.mo f0 hm45)
theorem sX12_told_38 {F : Option Fx} (hF : FxO F RX12 cX12_told 5 2) (hD : FxDO F (some .int)) : ∀ (fu : Nat) (l0 : Nat) (l1 : Int32) (l2 : Int32) (l3 : Int32) (l4 : Int32) (μ : Mem) (f0 : isK μ l0 12 = true), Sim F encI 38 [(0, .ref l0), (1, .int l1), (2, .int l2), (3, .int l3), (4, .int l4)] [] μ (mX12_told_38 fu l0 l1 l2 l3 l4 μ) := by
  intro fu
  induction fu with
  | zero =>
    intro l0 l1 l2 l3 l4 μ f0
    exact sim_none
  | succ fu ih =>
    intro l0 l1 l2 l3 l4 μ f0
    rw [mX12_told_38]
    refine s_iload hF dX12_told_38 4 rfl ?_
    refine s_aload_n hF dX12_told_40 rfl 0 rfl ?_
    refine sim_gd (fun g12 => ?_)
    refine s_getR (x := (g_R μ l0 12)) hF dX12_told_41 flX12_23 f0 g12 rfl ?_
    refine s_iconst (v := (0 : Int32)) hF dX12_told_44 kI_0 ?_
    refine sim_gd (fun g13 => ?_)
    refine s_iaload (x := (g_I μ (g_R μ l0 12) (0 : Int32).toNatClampNeg)) hF dX12_told_45 g13 rfl ?_
    refine s_icmp_ge (tgt := 104) hF dX12_told_46 rfl (fun c14 => ?_) (fun c14 => ?_)
    · refine s_iload_n hF dX12_told_104 rfl 1 rfl ?_
      refine sim_if (fun c15 => ?_) (fun c15 => ?_)
      · refine s_tin (v := (0 : Int32)) (tgt := 160) hF dX12_told_105 c15 (by decide) (by decide) rfl rfl ?_
        refine s_aload_n hF dX12_told_160 rfl 0 rfl ?_
        refine s_getR (x := (g_R μ l0 12)) hF dX12_told_161 flX12_23 f0 g12 rfl ?_
        refine s_iload_n hF dX12_told_164 rfl 1 rfl ?_
        refine sim_gd (fun g16 => ?_)
        refine s_iaload (x := (g_I μ (g_R μ l0 12) l1.toNatClampNeg)) hF dX12_told_165 g16 rfl ?_
        exact s_iretD hF hD dX12_told_166 rfl
      · refine sim_if (fun c17 => ?_) (fun c17 => ?_)
        · refine s_tin (v := (1 : Int32)) (tgt := 160) hF dX12_told_105 c17 (by decide) (by decide) rfl rfl ?_
          refine s_aload_n hF dX12_told_160 rfl 0 rfl ?_
          refine s_getR (x := (g_R μ l0 12)) hF dX12_told_161 flX12_23 f0 g12 rfl ?_
          refine s_iload_n hF dX12_told_164 rfl 1 rfl ?_
          refine sim_gd (fun g18 => ?_)
          refine s_iaload (x := (g_I μ (g_R μ l0 12) l1.toNatClampNeg)) hF dX12_told_165 g18 rfl ?_
          exact s_iretD hF hD dX12_told_166 rfl
        · refine sim_if (fun c19 => ?_) (fun c19 => ?_)
          · refine s_tin (v := (2 : Int32)) (tgt := 167) hF dX12_told_105 c19 (by decide) (by decide) rfl rfl ?_
            refine s_aload_n hF dX12_told_167 rfl 0 rfl ?_
            refine sim_gd (fun g20 => ?_)
            refine s_getR (x := (g_R μ l0 29)) hF dX12_told_168 flX12_67 f0 g20 rfl ?_
            refine s_bipush (v := (32 : Int32)) hF dX12_told_171 kB_32 ?_
            refine sim_gd (fun g21 => ?_)
            refine s_iaload (x := (g_I μ (g_R μ l0 29) (32 : Int32).toNatClampNeg)) hF dX12_told_173 g21 rfl ?_
            exact s_iretD hF hD dX12_told_174 rfl
          · refine sim_if (fun c22 => ?_) (fun c22 => ?_)
            · refine s_tin (v := (3 : Int32)) (tgt := 175) hF dX12_told_105 c22 (by decide) (by decide) rfl rfl ?_
              refine s_iload_n hF dX12_told_175 rfl 2 rfl ?_
              exact s_iretD hF hD dX12_told_176 rfl
            · refine sim_if (fun c23 => ?_) (fun c23 => ?_)
              · refine s_tin (v := (4 : Int32)) (tgt := 177) hF dX12_told_105 c23 (by decide) (by decide) rfl rfl ?_
                refine s_aload_n hF dX12_told_177 rfl 0 rfl ?_
                refine s_aload_n hF dX12_told_178 rfl 0 rfl ?_
                refine sim_gd (fun g24 => ?_)
                refine s_getR (x := (g_R μ l0 29)) hF dX12_told_179 flX12_67 f0 g24 rfl ?_
                refine s_cVi (st := []) (ci := 12) [.ref (g_R μ l0 29)] hF hD.dr dX12_told_182 cwX12_351 (Nat.le_of_ble_eq_true rfl) (Nat.le_of_ble_eq_true rfl) rfl rfl (Nat.le_of_ble_eq_true rfl) f0 rfl rfl (Nat.le_of_ble_eq_true rfl) (ctX12_records l0 (g_R μ l0 29) _) (fun r25 m26 hl27 hm28 => ?_)
                exact s_iretD hF hD dX12_told_185 rfl
              · refine sim_if (fun c29 => ?_) (fun c29 => ?_)
                · refine s_tin (v := (5 : Int32)) (tgt := 186) hF dX12_told_105 c29 (by decide) (by decide) rfl rfl ?_
                  refine s_aload_n hF dX12_told_186 rfl 0 rfl ?_
                  refine sim_gd (fun g30 => ?_)
                  refine s_getR (x := (g_R μ l0 29)) hF dX12_told_187 flX12_67 f0 g30 rfl ?_
                  refine s_bipush (v := (33 : Int32)) hF dX12_told_190 kB_33 ?_
                  refine sim_gd (fun g31 => ?_)
                  refine s_iaload (x := (g_I μ (g_R μ l0 29) (33 : Int32).toNatClampNeg)) hF dX12_told_192 g31 rfl ?_
                  exact s_iretD hF hD dX12_told_193 rfl
                · refine sim_if (fun c32 => ?_) (fun c32 => ?_)
                  · refine s_tin (v := (6 : Int32)) (tgt := 194) hF dX12_told_105 c32 (by decide) (by decide) rfl rfl ?_
                    refine s_aload_n hF dX12_told_194 rfl 0 rfl ?_
                    refine sim_gd (fun g33 => ?_)
                    refine s_getR (x := (g_R μ l0 29)) hF dX12_told_195 flX12_67 f0 g33 rfl ?_
                    refine s_bipush (v := (34 : Int32)) hF dX12_told_198 kB_34 ?_
                    refine sim_gd (fun g34 => ?_)
                    refine s_iaload (x := (g_I μ (g_R μ l0 29) (34 : Int32).toNatClampNeg)) hF dX12_told_200 g34 rfl ?_
                    exact s_iretD hF hD dX12_told_201 rfl
                  · refine sim_if (fun c35 => ?_) (fun c35 => ?_)
                    · refine s_tin (v := (7 : Int32)) (tgt := 202) hF dX12_told_105 c35 (by decide) (by decide) rfl rfl ?_
                      refine s_aload_n hF dX12_told_202 rfl 0 rfl ?_
                      refine s_getI (x := (g_I μ l0 34)) hF dX12_told_203 flX12_190 f0 rfl ?_
                      exact s_iretD hF hD dX12_told_206 rfl
                    · refine sim_if (fun c36 => ?_) (fun c36 => ?_)
                      · refine s_tin (v := (8 : Int32)) (tgt := 207) hF dX12_told_105 c36 (by decide) (by decide) rfl rfl ?_
                        refine s_aload_n hF dX12_told_207 rfl 0 rfl ?_
                        refine s_getI (x := (g_I μ l0 33)) hF dX12_told_208 flX12_187 f0 rfl ?_
                        exact s_iretD hF hD dX12_told_211 rfl
                      · refine sim_if (fun c37 => ?_) (fun c37 => ?_)
                        · refine s_tin (v := (9 : Int32)) (tgt := 212) hF dX12_told_105 c37 (by decide) (by decide) rfl rfl ?_
                          refine s_aload_n hF dX12_told_212 rfl 0 rfl ?_
                          refine s_getI (x := (g_I μ l0 36)) hF dX12_told_213 flX12_196 f0 rfl ?_
                          exact s_iretD hF hD dX12_told_216 rfl
                        · refine s_tout (tgt := 217) hF dX12_told_105 (by have e0 := i32_ne c15 (k := (0 : Int32)) (n := 0) rfl; have e1 := i32_ne c17 (k := (1 : Int32)) (n := 1) rfl; have e2 := i32_ne c19 (k := (2 : Int32)) (n := 2) rfl; have e3 := i32_ne c22 (k := (3 : Int32)) (n := 3) rfl; have e4 := i32_ne c23 (k := (4 : Int32)) (n := 4) rfl; have e5 := i32_ne c29 (k := (5 : Int32)) (n := 5) rfl; have e6 := i32_ne c32 (k := (6 : Int32)) (n := 6) rfl; have e7 := i32_ne c35 (k := (7 : Int32)) (n := 7) rfl; have e8 := i32_ne c36 (k := (8 : Int32)) (n := 8) rfl; have e9 := i32_ne c37 (k := (9 : Int32)) (n := 9) rfl; omega) rfl ?_
                          refine s_iload_n hF dX12_told_217 rfl 3 rfl ?_
                          exact s_iretD hF hD dX12_told_218 rfl
    · refine s_iload_n hF dX12_told_49 rfl 2 rfl ?_
      refine s_aload_n hF dX12_told_50 rfl 0 rfl ?_
      refine sim_gd (fun g38 => ?_)
      refine s_getR (x := (g_R μ l0 29)) hF dX12_told_51 flX12_67 f0 g38 rfl ?_
      refine s_bipush (v := (16 : Int32)) hF dX12_told_54 kB_16 ?_
      refine s_iload hF dX12_told_56 4 rfl ?_
      refine s_iadd hF dX12_told_58 ?_
      refine sim_gd (fun g39 => ?_)
      refine s_iaload (x := (g_I μ (g_R μ l0 29) ((16 : Int32) + l4).toNatClampNeg)) hF dX12_told_59 g39 rfl ?_
      refine s_iconst (v := (-1 : Int32)) hF dX12_told_60 kI_m1 ?_
      refine s_icmp_ne (tgt := 68) hF dX12_told_61 rfl (fun c40 => ?_) (fun c40 => ?_)
      · refine s_iconst (v := (0 : Int32)) hF dX12_told_64 kI_0 ?_
        refine s_goto (tgt := 72) hF dX12_told_65 rfl ?_
        refine s_sub [0, 1, 3, 4] rfl ?_
        exact sX12_told_72 (fun l0 l1 l2 l3 l4 μ => mX12_told_38 fu l0 l1 l2 l3 l4 μ) hF hD ih l0 l1 l3 l4 (0 : Int32) l2 _ f0
      · refine s_iconst (v := (1 : Int32)) hF dX12_told_68 kI_1 ?_
        refine s_iload hF dX12_told_69 4 rfl ?_
        refine s_ishl hF dX12_told_71 ?_
        refine s_sub [0, 1, 3, 4] rfl ?_
        exact sX12_told_72 (fun l0 l1 l2 l3 l4 μ => mX12_told_38 fu l0 l1 l2 l3 l4 μ) hF hD ih l0 l1 l3 l4 ((1 : Int32) <<< (l4 &&& 31)) l2 _ f0
theorem sX12_told_21 {F : Option Fx} (hF : FxO F RX12 cX12_told 5 2) (hD : FxDO F (some .int)) (l0 : Nat) (l1 : Int32) (k0 : Int32) (k1 : Nat) (μ : Mem) (f0 : isK μ l0 12 = true) : Sim F encI 21 [(0, .ref l0), (1, .int l1)] [.int k0, .ref k1] μ (mX12_told_21 l0 l1 k0 k1 μ) := by
  unfold mX12_told_21
  refine s_iconst (v := (1 : Int32)) hF dX12_told_21 kI_1 ?_
  refine s_iconst (v := (1 : Int32)) hF dX12_told_22 kI_1 ?_
  refine sim_gd (fun g10 => ?_)
  refine s_cVi (st := []) (ci := 12) [.int k0, .int (1 : Int32), .int (1 : Int32)] hF hD.dr dX12_told_23 cwX12_167 (Nat.le_of_ble_eq_true rfl) (Nat.le_of_ble_eq_true rfl) rfl rfl (Nat.le_of_ble_eq_true rfl) g10 rfl rfl (Nat.le_of_ble_eq_true rfl) (ctX12_bad k1 k0 (1 : Int32) (1 : Int32) _) (fun r6 m7 hl8 hm9 => ?_)
  refine s_if_eq (tgt := 31) hF dX12_told_26 rfl (fun c11 => ?_) (fun c11 => ?_)
  · refine s_iconst (v := (0 : Int32)) hF dX12_told_31 kI_0 ?_
    refine s_istore_n (pls' := [(2, .int (0 : Int32)), (0, .ref l0), (1, .int l1)]) hF dX12_told_32 rfl (by decide) rfl ?_
    refine s_iconst (v := (0 : Int32)) hF dX12_told_33 kI_0 ?_
    refine s_istore_n (pls' := [(3, .int (0 : Int32)), (2, .int (0 : Int32)), (0, .ref l0), (1, .int l1)]) hF dX12_told_34 rfl (by decide) rfl ?_
    refine s_iconst (v := (0 : Int32)) hF dX12_told_35 kI_0 ?_
    refine s_istore (pls' := [(4, .int (0 : Int32)), (3, .int (0 : Int32)), (2, .int (0 : Int32)), (0, .ref l0), (1, .int l1)]) hF dX12_told_36 (by decide) rfl ?_
    refine s_sub [3, 4, 2, 1, 0] rfl ?_
    exact sX12_told_38 hF hD 100000 l0 l1 (0 : Int32) (0 : Int32) (0 : Int32) _ (isK.mo f0 hm9)
  · refine s_iconst (v := (0 : Int32)) hF dX12_told_29 kI_0 ?_
    exact s_iretD hF hD dX12_told_30 rfl
theorem ctX12_told  (l0 : Nat) (l1 : Int32) (μ : Mem) : ∀ (r : Int32) (μ' : Mem), LX12_told l0 l1 μ = some (r, μ') → CtD yX12_told cX12_told 5 (some .int) 2 [.ref l0, .int l1] μ (encI r) μ' := by
  refine ct_enterD plX12 (Nat.le_of_ble_eq_true rfl) (fun F hF hD hI => ?_)
  unfold LX12_told
  refine sim_gd (fun f0 => ?_)
  refine s_aload_n hF dX12_told_0 rfl 0 rfl ?_
  refine s_iconst (v := (0 : Int32)) hF dX12_told_1 kI_0 ?_
  refine s_putI hF dX12_told_2 flX12_94 f0 ?_
  refine s_aload_n hF dX12_told_5 rfl 0 rfl ?_
  refine s_iload_n hF dX12_told_6 rfl 1 rfl ?_
  refine s_iconst (v := (0 : Int32)) hF dX12_told_7 kI_0 ?_
  refine s_bipush (v := (10 : Int32)) hF dX12_told_8 kB_10 ?_
  refine s_cSi (st := [.ref l0]) [.int l1, .int (0 : Int32), .int (10 : Int32)] hF hD.dr dX12_told_10 cwX12_128 (Nat.le_of_ble_eq_true rfl) (Nat.le_of_ble_eq_true rfl) rfl rfl (Nat.le_of_ble_eq_true rfl) (ctX12_in l1 (0 : Int32) (10 : Int32) _) (fun r1 m2 hl3 hm4 => ?_)
  refine s_if_ne (tgt := 20) hF dX12_told_13 rfl (fun c5 => ?_) (fun c5 => ?_)
  · refine s_iconst (v := (1 : Int32)) hF dX12_told_16 kI_1 ?_
    refine s_goto (tgt := 21) hF dX12_told_17 rfl ?_
    exact sX12_told_21 hF hD l0 l1 (1 : Int32) l0 _ (isK.mo f0 hm4)
  · refine s_iconst (v := (0 : Int32)) hF dX12_told_20 kI_0 ?_
    exact sX12_told_21 hF hD l0 l1 (0 : Int32) l0 _ (isK.mo f0 hm4)
theorem ctX12_isPen  (l0 : Nat) (l1 : Int32) (μ : Mem) : ∀ (r : Int32) (μ' : Mem), LX12_isPen l0 l1 μ = some (r, μ') → CtD yX12_isPen cX12_isPen 2 (some .boolean) 1 [.ref l0, .int l1] μ (encI r) μ' := by
  refine ct_enterD plX12 (Nat.le_of_ble_eq_true rfl) (fun F hF hD hI => ?_)
  unfold LX12_isPen
  refine sim_gd (fun f0 => ?_)
  refine s_iload_n hF dX12_isPen_0 rfl 1 rfl ?_
  refine s_iconst (v := (0 : Int32)) hF dX12_isPen_1 kI_0 ?_
  refine s_aload_n hF dX12_isPen_2 rfl 0 rfl ?_
  refine sim_gd (fun g1 => ?_)
  refine s_getR (x := (g_R μ l0 12)) hF dX12_isPen_3 flX12_23 f0 g1 rfl ?_
  refine s_iconst (v := (0 : Int32)) hF dX12_isPen_6 kI_0 ?_
  refine sim_gd (fun g2 => ?_)
  refine s_iaload (x := (g_I μ (g_R μ l0 12) (0 : Int32).toNatClampNeg)) hF dX12_isPen_7 g2 rfl ?_
  refine s_iconst (v := (1 : Int32)) hF dX12_isPen_8 kI_1 ?_
  refine s_isub hF dX12_isPen_9 ?_
  refine s_cSi (st := []) [.int l1, .int (0 : Int32), .int ((g_I μ (g_R μ l0 12) (0 : Int32).toNatClampNeg) - (1 : Int32))] hF hD.dr dX12_isPen_10 cwX12_128 (Nat.le_of_ble_eq_true rfl) (Nat.le_of_ble_eq_true rfl) rfl rfl (Nat.le_of_ble_eq_true rfl) (ctX12_in l1 (0 : Int32) ((g_I μ (g_R μ l0 12) (0 : Int32).toNatClampNeg) - (1 : Int32)) _) (fun r3 m4 hl5 hm6 => ?_)
  refine sim_gd (fun g7 => ?_)
  exact s_zretD hF hD dX12_isPen_13 rfl (nar_z g7)
theorem sX12_wired_5 {F : Option Fx} (hF : FxO F RX12 cX12_wired 5 0) (hD : FxDO F (some .int)) : ∀ (fu : Nat) (l0 : Nat) (l1 : Int32) (l2 : Int32) (l3 : Int32) (l4 : Int32) (μ : Mem) (f0 : isK μ l0 12 = true), Sim F encI 5 [(0, .ref l0), (1, .int l1), (2, .int l2), (3, .int l3), (4, .int l4)] [] μ (mX12_wired_5 fu l0 l1 l2 l3 l4 μ) := by
  intro fu
  induction fu with
  | zero =>
    intro l0 l1 l2 l3 l4 μ f0
    exact sim_none
  | succ fu ih =>
    intro l0 l1 l2 l3 l4 μ f0
    rw [mX12_wired_5]
    refine s_iload hF dX12_wired_5 4 rfl ?_
    refine s_aload_n hF dX12_wired_7 rfl 0 rfl ?_
    refine sim_gd (fun g1 => ?_)
    refine s_getR (x := (g_R μ l0 12)) hF dX12_wired_8 flX12_23 f0 g1 rfl ?_
    refine s_iconst (v := (1 : Int32)) hF dX12_wired_11 kI_1 ?_
    refine sim_gd (fun g2 => ?_)
    refine s_iaload (x := (g_I μ (g_R μ l0 12) (1 : Int32).toNatClampNeg)) hF dX12_wired_12 g2 rfl ?_
    refine s_icmp_ge (tgt := 55) hF dX12_wired_13 rfl (fun c3 => ?_) (fun c3 => ?_)
    · refine s_iload_n hF dX12_wired_55 rfl 3 rfl ?_
      exact s_iretD hF hD dX12_wired_56 rfl
    · refine s_iload_n hF dX12_wired_16 rfl 3 rfl ?_
      refine s_aload_n hF dX12_wired_17 rfl 0 rfl ?_
      refine sim_gd (fun g4 => ?_)
      refine s_getR (x := (g_R μ l0 16)) hF dX12_wired_18 flX12_37 f0 g4 rfl ?_
      refine s_iload hF dX12_wired_21 4 rfl ?_
      refine sim_gd (fun g5 => ?_)
      refine sim_gd (fun g6 => ?_)
      refine s_aaload (x := (g_R μ (g_R μ l0 16) l4.toNatClampNeg)) hF dX12_wired_23 (by decide) (by decide) g5 g6 rfl ?_
      refine s_iload_n hF dX12_wired_24 rfl 2 rfl ?_
      refine sim_gd (fun g7 => ?_)
      refine s_iaload (x := (g_I μ (g_R μ (g_R μ l0 16) l4.toNatClampNeg) l2.toNatClampNeg)) hF dX12_wired_25 g7 rfl ?_
      refine s_iload_n hF dX12_wired_26 rfl 1 rfl ?_
      refine s_icmp_ne (tgt := 46) hF dX12_wired_27 rfl (fun c8 => ?_) (fun c8 => ?_)
      · refine s_iconst (v := (1 : Int32)) hF dX12_wired_30 kI_1 ?_
        refine s_aload_n hF dX12_wired_31 rfl 0 rfl ?_
        refine s_getR (x := (g_R μ l0 16)) hF dX12_wired_32 flX12_37 f0 g4 rfl ?_
        refine s_iload hF dX12_wired_35 4 rfl ?_
        refine s_aaload (x := (g_R μ (g_R μ l0 16) l4.toNatClampNeg)) hF dX12_wired_37 (by decide) (by decide) g5 g6 rfl ?_
        refine s_iconst (v := (1 : Int32)) hF dX12_wired_38 kI_1 ?_
        refine s_iload_n hF dX12_wired_39 rfl 2 rfl ?_
        refine s_isub hF dX12_wired_40 ?_
        refine sim_gd (fun g9 => ?_)
        refine s_iaload (x := (g_I μ (g_R μ (g_R μ l0 16) l4.toNatClampNeg) ((1 : Int32) - l2).toNatClampNeg)) hF dX12_wired_41 g9 rfl ?_
        refine s_ishl hF dX12_wired_42 ?_
        refine s_goto (tgt := 47) hF dX12_wired_43 rfl ?_
        refine s_ior hF dX12_wired_47 ?_
        refine s_istore_n (pls' := [(3, .int (l3 ||| ((1 : Int32) <<< ((g_I μ (g_R μ (g_R μ l0 16) l4.toNatClampNeg) ((1 : Int32) - l2).toNatClampNeg) &&& 31)))), (0, .ref l0), (1, .int l1), (2, .int l2), (4, .int l4)]) hF dX12_wired_48 rfl (by decide) rfl ?_
        refine s_iinc (v := (l4 + (1 : Int32))) (pls' := [(4, .int (l4 + (1 : Int32))), (3, .int (l3 ||| ((1 : Int32) <<< ((g_I μ (g_R μ (g_R μ l0 16) l4.toNatClampNeg) ((1 : Int32) - l2).toNatClampNeg) &&& 31)))), (0, .ref l0), (1, .int l1), (2, .int l2)]) hF dX12_wired_49 4 rfl rfl (by decide) rfl ?_
        refine s_goto (tgt := 5) hF dX12_wired_52 rfl ?_
        refine s_sub [2, 3, 4, 1, 0] rfl ?_
        exact ih l0 l1 l2 (l3 ||| ((1 : Int32) <<< ((g_I μ (g_R μ (g_R μ l0 16) l4.toNatClampNeg) ((1 : Int32) - l2).toNatClampNeg) &&& 31))) (l4 + (1 : Int32)) _ f0
      · refine s_iconst (v := (0 : Int32)) hF dX12_wired_46 kI_0 ?_
        refine s_ior hF dX12_wired_47 ?_
        refine s_istore_n (pls' := [(3, .int (l3 ||| (0 : Int32))), (0, .ref l0), (1, .int l1), (2, .int l2), (4, .int l4)]) hF dX12_wired_48 rfl (by decide) rfl ?_
        refine s_iinc (v := (l4 + (1 : Int32))) (pls' := [(4, .int (l4 + (1 : Int32))), (3, .int (l3 ||| (0 : Int32))), (0, .ref l0), (1, .int l1), (2, .int l2)]) hF dX12_wired_49 4 rfl rfl (by decide) rfl ?_
        refine s_goto (tgt := 5) hF dX12_wired_52 rfl ?_
        refine s_sub [2, 3, 4, 1, 0] rfl ?_
        exact ih l0 l1 l2 (l3 ||| (0 : Int32)) (l4 + (1 : Int32)) _ f0
theorem ctX12_wired  (l0 : Nat) (l1 : Int32) (l2 : Int32) (μ : Mem) : ∀ (r : Int32) (μ' : Mem), LX12_wired l0 l1 l2 μ = some (r, μ') → CtD yX12_wired cX12_wired 5 (some .int) 0 [.ref l0, .int l1, .int l2] μ (encI r) μ' := by
  refine ct_enterD plX12 (Nat.le_of_ble_eq_true rfl) (fun F hF hD hI => ?_)
  unfold LX12_wired
  refine sim_gd (fun f0 => ?_)
  refine s_iconst (v := (0 : Int32)) hF dX12_wired_0 kI_0 ?_
  refine s_istore_n (pls' := [(3, .int (0 : Int32)), (0, .ref l0), (1, .int l1), (2, .int l2)]) hF dX12_wired_1 rfl (by decide) rfl ?_
  refine s_iconst (v := (0 : Int32)) hF dX12_wired_2 kI_0 ?_
  refine s_istore (pls' := [(4, .int (0 : Int32)), (3, .int (0 : Int32)), (0, .ref l0), (1, .int l1), (2, .int l2)]) hF dX12_wired_3 (by decide) rfl ?_
  refine s_sub [2, 3, 4, 1, 0] rfl ?_
  exact sX12_wired_5 hF hD 100000 l0 l1 l2 (0 : Int32) (0 : Int32) _ f0
theorem sX12_pen_43 {F : Option Fx} (hF : FxO F RX12 cX12_pen 3 2) (hD : FxDO F (some .int)) (l0 : Nat) (l1 : Int32) (l2 : Int32) (k0 : Int32) (k1 : Nat) (μ : Mem) (f0 : isK μ l0 12 = true) : Sim F encI 43 [(0, .ref l0), (1, .int l1), (2, .int l2)] [.int k0, .ref k1] μ (mX12_pen_43 l0 l1 l2 k0 k1 μ) := by
  unfold mX12_pen_43
  refine s_iconst (v := (2 : Int32)) hF dX12_pen_43 kI_2 ?_
  refine s_iconst (v := (1 : Int32)) hF dX12_pen_44 kI_1 ?_
  refine sim_gd (fun g21 => ?_)
  refine s_cVi (st := []) (ci := 12) [.int k0, .int (2 : Int32), .int (1 : Int32)] hF hD.dr dX12_pen_45 cwX12_167 (Nat.le_of_ble_eq_true rfl) (Nat.le_of_ble_eq_true rfl) rfl rfl (Nat.le_of_ble_eq_true rfl) g21 rfl rfl (Nat.le_of_ble_eq_true rfl) (ctX12_bad k1 k0 (2 : Int32) (1 : Int32) _) (fun r17 m18 hl19 hm20 => ?_)
  refine s_if_eq (tgt := 53) hF dX12_pen_48 rfl (fun c22 => ?_) (fun c22 => ?_)
  · refine s_iload_n hF dX12_pen_53 rfl 2 rfl ?_
    refine sim_if (fun c23 => ?_) (fun c23 => ?_)
    · refine s_tin (v := (0 : Int32)) (tgt := 88) hF dX12_pen_54 c23 (by decide) (by decide) rfl rfl ?_
      refine s_aload_n hF dX12_pen_88 rfl 0 rfl ?_
      refine sim_gd (fun g24 => ?_)
      refine s_getR (x := (g_R m18 l0 14)) hF dX12_pen_89 flX12_31 (isK.mo f0 hm20) g24 rfl ?_
      refine s_iload_n hF dX12_pen_92 rfl 1 rfl ?_
      refine sim_gd (fun g25 => ?_)
      refine sim_gd (fun g26 => ?_)
      refine s_aaload (x := (g_R m18 (g_R m18 l0 14) l1.toNatClampNeg)) hF dX12_pen_93 (by decide) (by decide) g25 g26 rfl ?_
      refine s_iconst (v := (0 : Int32)) hF dX12_pen_94 kI_0 ?_
      refine sim_gd (fun g27 => ?_)
      refine s_iaload (x := (g_I m18 (g_R m18 (g_R m18 l0 14) l1.toNatClampNeg) (0 : Int32).toNatClampNeg)) hF dX12_pen_95 g27 rfl ?_
      exact s_iretD hF hD dX12_pen_96 rfl
    · refine sim_if (fun c28 => ?_) (fun c28 => ?_)
      · refine s_tin (v := (1 : Int32)) (tgt := 97) hF dX12_pen_54 c28 (by decide) (by decide) rfl rfl ?_
        refine s_aload_n hF dX12_pen_97 rfl 0 rfl ?_
        refine sim_gd (fun g29 => ?_)
        refine s_getR (x := (g_R m18 l0 29)) hF dX12_pen_98 flX12_67 (isK.mo f0 hm20) g29 rfl ?_
        refine s_iconst (v := (0 : Int32)) hF dX12_pen_101 kI_0 ?_
        refine s_iload_n hF dX12_pen_102 rfl 1 rfl ?_
        refine s_iadd hF dX12_pen_103 ?_
        refine sim_gd (fun g30 => ?_)
        refine s_iaload (x := (g_I m18 (g_R m18 l0 29) ((0 : Int32) + l1).toNatClampNeg)) hF dX12_pen_104 g30 rfl ?_
        exact s_iretD hF hD dX12_pen_105 rfl
      · refine sim_if (fun c31 => ?_) (fun c31 => ?_)
        · refine s_tin (v := (2 : Int32)) (tgt := 106) hF dX12_pen_54 c31 (by decide) (by decide) rfl rfl ?_
          refine s_aload_n hF dX12_pen_106 rfl 0 rfl ?_
          refine sim_gd (fun g32 => ?_)
          refine s_getR (x := (g_R m18 l0 29)) hF dX12_pen_107 flX12_67 (isK.mo f0 hm20) g32 rfl ?_
          refine s_bipush (v := (8 : Int32)) hF dX12_pen_110 kB_8 ?_
          refine s_iload_n hF dX12_pen_112 rfl 1 rfl ?_
          refine s_iadd hF dX12_pen_113 ?_
          refine sim_gd (fun g33 => ?_)
          refine s_iaload (x := (g_I m18 (g_R m18 l0 29) ((8 : Int32) + l1).toNatClampNeg)) hF dX12_pen_114 g33 rfl ?_
          exact s_iretD hF hD dX12_pen_115 rfl
        · refine sim_if (fun c34 => ?_) (fun c34 => ?_)
          · refine s_tin (v := (3 : Int32)) (tgt := 116) hF dX12_pen_54 c34 (by decide) (by decide) rfl rfl ?_
            refine s_aload_n hF dX12_pen_116 rfl 0 rfl ?_
            refine sim_gd (fun g35 => ?_)
            refine s_getR (x := (g_R m18 l0 29)) hF dX12_pen_117 flX12_67 (isK.mo f0 hm20) g35 rfl ?_
            refine s_bipush (v := (16 : Int32)) hF dX12_pen_120 kB_16 ?_
            refine s_iload_n hF dX12_pen_122 rfl 1 rfl ?_
            refine s_iadd hF dX12_pen_123 ?_
            refine sim_gd (fun g36 => ?_)
            refine s_iaload (x := (g_I m18 (g_R m18 l0 29) ((16 : Int32) + l1).toNatClampNeg)) hF dX12_pen_124 g36 rfl ?_
            exact s_iretD hF hD dX12_pen_125 rfl
          · refine sim_if (fun c37 => ?_) (fun c37 => ?_)
            · refine s_tin (v := (4 : Int32)) (tgt := 126) hF dX12_pen_54 c37 (by decide) (by decide) rfl rfl ?_
              refine s_aload_n hF dX12_pen_126 rfl 0 rfl ?_
              refine sim_gd (fun g38 => ?_)
              refine s_getR (x := (g_R m18 l0 29)) hF dX12_pen_127 flX12_67 (isK.mo f0 hm20) g38 rfl ?_
              refine s_bipush (v := (24 : Int32)) hF dX12_pen_130 kB_24 ?_
              refine s_iload_n hF dX12_pen_132 rfl 1 rfl ?_
              refine s_iadd hF dX12_pen_133 ?_
              refine sim_gd (fun g39 => ?_)
              refine s_iaload (x := (g_I m18 (g_R m18 l0 29) ((24 : Int32) + l1).toNatClampNeg)) hF dX12_pen_134 g39 rfl ?_
              exact s_iretD hF hD dX12_pen_135 rfl
            · refine s_tout (tgt := 136) hF dX12_pen_54 (by have e0 := i32_ne c23 (k := (0 : Int32)) (n := 0) rfl; have e1 := i32_ne c28 (k := (1 : Int32)) (n := 1) rfl; have e2 := i32_ne c31 (k := (2 : Int32)) (n := 2) rfl; have e3 := i32_ne c34 (k := (3 : Int32)) (n := 3) rfl; have e4 := i32_ne c37 (k := (4 : Int32)) (n := 4) rfl; omega) rfl ?_
              refine s_aload_n hF dX12_pen_136 rfl 0 rfl ?_
              refine s_iload_n hF dX12_pen_137 rfl 1 rfl ?_
              refine s_iload_n hF dX12_pen_138 rfl 2 rfl ?_
              refine s_iconst (v := (5 : Int32)) hF dX12_pen_139 kI_5 ?_
              refine s_isub hF dX12_pen_140 ?_
              refine s_cVi (st := []) (ci := 12) [.int l1, .int (l2 - (5 : Int32))] hF hD.dr dX12_pen_141 cwX12_358 (Nat.le_of_ble_eq_true rfl) (Nat.le_of_ble_eq_true rfl) rfl rfl (Nat.le_of_ble_eq_true rfl) (isK.mo f0 hm20) rfl rfl (Nat.le_of_ble_eq_true rfl) (ctX12_wired l0 l1 (l2 - (5 : Int32)) _) (fun r40 m41 hl42 hm43 => ?_)
              exact s_iretD hF hD dX12_pen_144 rfl
  · refine s_iconst (v := (0 : Int32)) hF dX12_pen_51 kI_0 ?_
    exact s_iretD hF hD dX12_pen_52 rfl
theorem sX12_pen_19 {F : Option Fx} (hF : FxO F RX12 cX12_pen 3 2) (hD : FxDO F (some .int)) (l0 : Nat) (l1 : Int32) (l2 : Int32) (k0 : Int32) (k1 : Nat) (μ : Mem) (f0 : isK μ l0 12 = true) : Sim F encI 19 [(0, .ref l0), (1, .int l1), (2, .int l2)] [.int k0, .ref k1] μ (mX12_pen_19 l0 l1 l2 k0 k1 μ) := by
  unfold mX12_pen_19
  refine s_iconst (v := (1 : Int32)) hF dX12_pen_19 kI_1 ?_
  refine s_iconst (v := (0 : Int32)) hF dX12_pen_20 kI_0 ?_
  refine sim_gd (fun g10 => ?_)
  refine s_cVi (st := []) (ci := 12) [.int k0, .int (1 : Int32), .int (0 : Int32)] hF hD.dr dX12_pen_21 cwX12_167 (Nat.le_of_ble_eq_true rfl) (Nat.le_of_ble_eq_true rfl) rfl rfl (Nat.le_of_ble_eq_true rfl) g10 rfl rfl (Nat.le_of_ble_eq_true rfl) (ctX12_bad k1 k0 (1 : Int32) (0 : Int32) _) (fun r6 m7 hl8 hm9 => ?_)
  refine s_if_ne (tgt := 51) hF dX12_pen_24 rfl (fun c11 => ?_) (fun c11 => ?_)
  · refine s_aload_n hF dX12_pen_27 rfl 0 rfl ?_
    refine s_iload_n hF dX12_pen_28 rfl 2 rfl ?_
    refine s_iconst (v := (0 : Int32)) hF dX12_pen_29 kI_0 ?_
    refine s_bipush (v := (6 : Int32)) hF dX12_pen_30 kB_6 ?_
    refine s_cSi (st := [.ref l0]) [.int l2, .int (0 : Int32), .int (6 : Int32)] hF hD.dr dX12_pen_32 cwX12_128 (Nat.le_of_ble_eq_true rfl) (Nat.le_of_ble_eq_true rfl) rfl rfl (Nat.le_of_ble_eq_true rfl) (ctX12_in l2 (0 : Int32) (6 : Int32) _) (fun r12 m13 hl14 hm15 => ?_)
    refine s_if_ne (tgt := 42) hF dX12_pen_35 rfl (fun c16 => ?_) (fun c16 => ?_)
    · refine s_iconst (v := (1 : Int32)) hF dX12_pen_38 kI_1 ?_
      refine s_goto (tgt := 43) hF dX12_pen_39 rfl ?_
      exact sX12_pen_43 hF hD l0 l1 l2 (1 : Int32) l0 _ (isK.mo (isK.mo f0 hm9) hm15)
    · refine s_iconst (v := (0 : Int32)) hF dX12_pen_42 kI_0 ?_
      exact sX12_pen_43 hF hD l0 l1 l2 (0 : Int32) l0 _ (isK.mo (isK.mo f0 hm9) hm15)
  · refine s_iconst (v := (0 : Int32)) hF dX12_pen_51 kI_0 ?_
    exact s_iretD hF hD dX12_pen_52 rfl
theorem ctX12_pen  (l0 : Nat) (l1 : Int32) (l2 : Int32) (μ : Mem) : ∀ (r : Int32) (μ' : Mem), LX12_pen l0 l1 l2 μ = some (r, μ') → CtD yX12_pen cX12_pen 3 (some .int) 2 [.ref l0, .int l1, .int l2] μ (encI r) μ' := by
  refine ct_enterD plX12 (Nat.le_of_ble_eq_true rfl) (fun F hF hD hI => ?_)
  unfold LX12_pen
  refine sim_gd (fun f0 => ?_)
  refine s_aload_n hF dX12_pen_0 rfl 0 rfl ?_
  refine s_iconst (v := (0 : Int32)) hF dX12_pen_1 kI_0 ?_
  refine s_putI hF dX12_pen_2 flX12_94 f0 ?_
  refine s_aload_n hF dX12_pen_5 rfl 0 rfl ?_
  refine s_aload_n hF dX12_pen_6 rfl 0 rfl ?_
  refine s_iload_n hF dX12_pen_7 rfl 1 rfl ?_
  refine s_cVi (st := [.ref l0]) (ci := 12) [.int l1] hF hD.dr dX12_pen_8 cwX12_355 (Nat.le_of_ble_eq_true rfl) (Nat.le_of_ble_eq_true rfl) rfl rfl (Nat.le_of_ble_eq_true rfl) f0 rfl rfl (Nat.le_of_ble_eq_true rfl) (ctX12_isPen l0 l1 _) (fun r1 m2 hl3 hm4 => ?_)
  refine s_if_ne (tgt := 18) hF dX12_pen_11 rfl (fun c5 => ?_) (fun c5 => ?_)
  · refine s_iconst (v := (1 : Int32)) hF dX12_pen_14 kI_1 ?_
    refine s_goto (tgt := 19) hF dX12_pen_15 rfl ?_
    exact sX12_pen_19 hF hD l0 l1 l2 (1 : Int32) l0 _ (isK.mo f0 hm4)
  · refine s_iconst (v := (0 : Int32)) hF dX12_pen_18 kI_0 ?_
    exact sX12_pen_19 hF hD l0 l1 l2 (0 : Int32) l0 _ (isK.mo f0 hm4)
theorem sX12_wire_50 {F : Option Fx} (hF : FxO F RX12 cX12_wire 3 1) (hD : FxDO F (some .int)) (l0 : Nat) (l1 : Int32) (l2 : Int32) (k0 : Int32) (k1 : Nat) (μ : Mem) (f0 : isK μ l0 12 = true) : Sim F encI 50 [(0, .ref l0), (1, .int l1), (2, .int l2)] [.int k0, .ref k1] μ (mX12_wire_50 l0 l1 l2 k0 k1 μ) := by
  unfold mX12_wire_50
  refine s_iconst (v := (2 : Int32)) hF dX12_wire_50 kI_2 ?_
  refine s_iconst (v := (1 : Int32)) hF dX12_wire_51 kI_1 ?_
  refine sim_gd (fun g23 => ?_)
  refine s_cVi (st := []) (ci := 12) [.int k0, .int (2 : Int32), .int (1 : Int32)] hF hD.dr dX12_wire_52 cwX12_167 (Nat.le_of_ble_eq_true rfl) (Nat.le_of_ble_eq_true rfl) rfl rfl (Nat.le_of_ble_eq_true rfl) g23 rfl rfl (Nat.le_of_ble_eq_true rfl) (ctX12_bad k1 k0 (2 : Int32) (1 : Int32) _) (fun r19 m20 hl21 hm22 => ?_)
  refine s_if_eq (tgt := 60) hF dX12_wire_55 rfl (fun c24 => ?_) (fun c24 => ?_)
  · refine s_aload_n hF dX12_wire_60 rfl 0 rfl ?_
    refine sim_gd (fun g25 => ?_)
    refine s_getR (x := (g_R m20 l0 16)) hF dX12_wire_61 flX12_37 (isK.mo f0 hm22) g25 rfl ?_
    refine s_iload_n hF dX12_wire_64 rfl 1 rfl ?_
    refine sim_gd (fun g26 => ?_)
    refine sim_gd (fun g27 => ?_)
    refine s_aaload (x := (g_R m20 (g_R m20 l0 16) l1.toNatClampNeg)) hF dX12_wire_65 (by decide) (by decide) g26 g27 rfl ?_
    refine s_iload_n hF dX12_wire_66 rfl 2 rfl ?_
    refine sim_gd (fun g28 => ?_)
    refine s_iaload (x := (g_I m20 (g_R m20 (g_R m20 l0 16) l1.toNatClampNeg) l2.toNatClampNeg)) hF dX12_wire_67 g28 rfl ?_
    exact s_iretD hF hD dX12_wire_68 rfl
  · refine s_iconst (v := (0 : Int32)) hF dX12_wire_58 kI_0 ?_
    exact s_iretD hF hD dX12_wire_59 rfl
theorem sX12_wire_27 {F : Option Fx} (hF : FxO F RX12 cX12_wire 3 1) (hD : FxDO F (some .int)) (l0 : Nat) (l1 : Int32) (l2 : Int32) (k0 : Int32) (k1 : Nat) (μ : Mem) (f0 : isK μ l0 12 = true) : Sim F encI 27 [(0, .ref l0), (1, .int l1), (2, .int l2)] [.int k0, .ref k1] μ (mX12_wire_27 l0 l1 l2 k0 k1 μ) := by
  unfold mX12_wire_27
  refine s_iconst (v := (1 : Int32)) hF dX12_wire_27 kI_1 ?_
  refine s_iconst (v := (0 : Int32)) hF dX12_wire_28 kI_0 ?_
  refine sim_gd (fun g12 => ?_)
  refine s_cVi (st := []) (ci := 12) [.int k0, .int (1 : Int32), .int (0 : Int32)] hF hD.dr dX12_wire_29 cwX12_167 (Nat.le_of_ble_eq_true rfl) (Nat.le_of_ble_eq_true rfl) rfl rfl (Nat.le_of_ble_eq_true rfl) g12 rfl rfl (Nat.le_of_ble_eq_true rfl) (ctX12_bad k1 k0 (1 : Int32) (0 : Int32) _) (fun r8 m9 hl10 hm11 => ?_)
  refine s_if_ne (tgt := 58) hF dX12_wire_32 rfl (fun c13 => ?_) (fun c13 => ?_)
  · refine s_aload_n hF dX12_wire_35 rfl 0 rfl ?_
    refine s_iload_n hF dX12_wire_36 rfl 2 rfl ?_
    refine s_iconst (v := (0 : Int32)) hF dX12_wire_37 kI_0 ?_
    refine s_iconst (v := (1 : Int32)) hF dX12_wire_38 kI_1 ?_
    refine s_cSi (st := [.ref l0]) [.int l2, .int (0 : Int32), .int (1 : Int32)] hF hD.dr dX12_wire_39 cwX12_128 (Nat.le_of_ble_eq_true rfl) (Nat.le_of_ble_eq_true rfl) rfl rfl (Nat.le_of_ble_eq_true rfl) (ctX12_in l2 (0 : Int32) (1 : Int32) _) (fun r14 m15 hl16 hm17 => ?_)
    refine s_if_ne (tgt := 49) hF dX12_wire_42 rfl (fun c18 => ?_) (fun c18 => ?_)
    · refine s_iconst (v := (1 : Int32)) hF dX12_wire_45 kI_1 ?_
      refine s_goto (tgt := 50) hF dX12_wire_46 rfl ?_
      exact sX12_wire_50 hF hD l0 l1 l2 (1 : Int32) l0 _ (isK.mo (isK.mo f0 hm11) hm17)
    · refine s_iconst (v := (0 : Int32)) hF dX12_wire_49 kI_0 ?_
      exact sX12_wire_50 hF hD l0 l1 l2 (0 : Int32) l0 _ (isK.mo (isK.mo f0 hm11) hm17)
  · refine s_iconst (v := (0 : Int32)) hF dX12_wire_58 kI_0 ?_
    exact s_iretD hF hD dX12_wire_59 rfl
theorem ctX12_wire  (l0 : Nat) (l1 : Int32) (l2 : Int32) (μ : Mem) : ∀ (r : Int32) (μ' : Mem), LX12_wire l0 l1 l2 μ = some (r, μ') → CtD yX12_wire cX12_wire 3 (some .int) 1 [.ref l0, .int l1, .int l2] μ (encI r) μ' := by
  refine ct_enterD plX12 (Nat.le_of_ble_eq_true rfl) (fun F hF hD hI => ?_)
  unfold LX12_wire
  refine sim_gd (fun f0 => ?_)
  refine s_aload_n hF dX12_wire_0 rfl 0 rfl ?_
  refine s_iconst (v := (0 : Int32)) hF dX12_wire_1 kI_0 ?_
  refine s_putI hF dX12_wire_2 flX12_94 f0 ?_
  refine s_aload_n hF dX12_wire_5 rfl 0 rfl ?_
  refine s_iload_n hF dX12_wire_6 rfl 1 rfl ?_
  refine s_iconst (v := (0 : Int32)) hF dX12_wire_7 kI_0 ?_
  refine s_aload_n hF dX12_wire_8 rfl 0 rfl ?_
  refine sim_gd (fun g1 => ?_)
  refine s_getR (x := (g_R μ l0 12)) hF dX12_wire_9 flX12_23 f0 g1 rfl ?_
  refine s_iconst (v := (1 : Int32)) hF dX12_wire_12 kI_1 ?_
  refine sim_gd (fun g2 => ?_)
  refine s_iaload (x := (g_I (p_I μ l0 0 (0 : Int32)) (g_R μ l0 12) (1 : Int32).toNatClampNeg)) hF dX12_wire_13 g2 rfl ?_
  refine s_iconst (v := (1 : Int32)) hF dX12_wire_14 kI_1 ?_
  refine s_isub hF dX12_wire_15 ?_
  refine s_cSi (st := [.ref l0]) [.int l1, .int (0 : Int32), .int ((g_I (p_I μ l0 0 (0 : Int32)) (g_R μ l0 12) (1 : Int32).toNatClampNeg) - (1 : Int32))] hF hD.dr dX12_wire_16 cwX12_128 (Nat.le_of_ble_eq_true rfl) (Nat.le_of_ble_eq_true rfl) rfl rfl (Nat.le_of_ble_eq_true rfl) (ctX12_in l1 (0 : Int32) ((g_I (p_I μ l0 0 (0 : Int32)) (g_R μ l0 12) (1 : Int32).toNatClampNeg) - (1 : Int32)) _) (fun r3 m4 hl5 hm6 => ?_)
  refine s_if_ne (tgt := 26) hF dX12_wire_19 rfl (fun c7 => ?_) (fun c7 => ?_)
  · refine s_iconst (v := (1 : Int32)) hF dX12_wire_22 kI_1 ?_
    refine s_goto (tgt := 27) hF dX12_wire_23 rfl ?_
    exact sX12_wire_27 hF hD l0 l1 l2 (1 : Int32) l0 _ (isK.mo f0 hm6)
  · refine s_iconst (v := (0 : Int32)) hF dX12_wire_26 kI_0 ?_
    exact sX12_wire_27 hF hD l0 l1 l2 (0 : Int32) l0 _ (isK.mo f0 hm6)
theorem sX12_record_52 {F : Option Fx} (hF : FxO F RX12 cX12_record 3 3) (hD : FxDO F (some .int)) (l0 : Nat) (l1 : Int32) (l2 : Int32) (k0 : Int32) (k1 : Nat) (μ : Mem) (f0 : isK μ l0 12 = true) : Sim F encI 52 [(0, .ref l0), (1, .int l1), (2, .int l2)] [.int k0, .ref k1] μ (mX12_record_52 l0 l1 l2 k0 k1 μ) := by
  unfold mX12_record_52
  refine s_iconst (v := (2 : Int32)) hF dX12_record_52 kI_2 ?_
  refine s_iconst (v := (3 : Int32)) hF dX12_record_53 kI_3 ?_
  refine sim_gd (fun g23 => ?_)
  refine s_cVi (st := []) (ci := 12) [.int k0, .int (2 : Int32), .int (3 : Int32)] hF hD.dr dX12_record_54 cwX12_167 (Nat.le_of_ble_eq_true rfl) (Nat.le_of_ble_eq_true rfl) rfl rfl (Nat.le_of_ble_eq_true rfl) g23 rfl rfl (Nat.le_of_ble_eq_true rfl) (ctX12_bad k1 k0 (2 : Int32) (3 : Int32) _) (fun r19 m20 hl21 hm22 => ?_)
  refine s_if_eq (tgt := 62) hF dX12_record_57 rfl (fun c24 => ?_) (fun c24 => ?_)
  · refine s_aload_n hF dX12_record_62 rfl 0 rfl ?_
    refine s_aload_n hF dX12_record_63 rfl 0 rfl ?_
    refine sim_gd (fun g25 => ?_)
    refine s_getR (x := (g_R m20 l0 29)) hF dX12_record_64 flX12_67 (isK.mo f0 hm22) g25 rfl ?_
    refine s_iload_n hF dX12_record_67 rfl 1 rfl ?_
    refine s_iload_n hF dX12_record_68 rfl 2 rfl ?_
    refine s_cVi (st := []) (ci := 12) [.ref (g_R m20 l0 29), .int l1, .int l2] hF hD.dr dX12_record_69 cwX12_310 (Nat.le_of_ble_eq_true rfl) (Nat.le_of_ble_eq_true rfl) rfl rfl (Nat.le_of_ble_eq_true rfl) (isK.mo f0 hm22) rfl rfl (Nat.le_of_ble_eq_true rfl) (ctX12_readAt l0 (g_R m20 l0 29) l1 l2 _) (fun r26 m27 hl28 hm29 => ?_)
    exact s_iretD hF hD dX12_record_72 rfl
  · refine s_iconst (v := (0 : Int32)) hF dX12_record_60 kI_0 ?_
    exact s_iretD hF hD dX12_record_61 rfl
theorem sX12_record_19 {F : Option Fx} (hF : FxO F RX12 cX12_record 3 3) (hD : FxDO F (some .int)) (l0 : Nat) (l1 : Int32) (l2 : Int32) (k0 : Int32) (k1 : Nat) (μ : Mem) (f0 : isK μ l0 12 = true) : Sim F encI 19 [(0, .ref l0), (1, .int l1), (2, .int l2)] [.int k0, .ref k1] μ (mX12_record_19 l0 l1 l2 k0 k1 μ) := by
  unfold mX12_record_19
  refine s_iconst (v := (1 : Int32)) hF dX12_record_19 kI_1 ?_
  refine s_iconst (v := (0 : Int32)) hF dX12_record_20 kI_0 ?_
  refine sim_gd (fun g10 => ?_)
  refine s_cVi (st := []) (ci := 12) [.int k0, .int (1 : Int32), .int (0 : Int32)] hF hD.dr dX12_record_21 cwX12_167 (Nat.le_of_ble_eq_true rfl) (Nat.le_of_ble_eq_true rfl) rfl rfl (Nat.le_of_ble_eq_true rfl) g10 rfl rfl (Nat.le_of_ble_eq_true rfl) (ctX12_bad k1 k0 (1 : Int32) (0 : Int32) _) (fun r6 m7 hl8 hm9 => ?_)
  refine s_if_ne (tgt := 60) hF dX12_record_24 rfl (fun c11 => ?_) (fun c11 => ?_)
  · refine s_aload_n hF dX12_record_27 rfl 0 rfl ?_
    refine s_iload_n hF dX12_record_28 rfl 2 rfl ?_
    refine s_iconst (v := (0 : Int32)) hF dX12_record_29 kI_0 ?_
    refine s_aload_n hF dX12_record_30 rfl 0 rfl ?_
    refine sim_gd (fun g12 => ?_)
    refine s_getR (x := (g_R m7 l0 29)) hF dX12_record_31 flX12_67 (isK.mo f0 hm9) g12 rfl ?_
    refine s_bipush (v := (24 : Int32)) hF dX12_record_34 kB_24 ?_
    refine s_iload_n hF dX12_record_36 rfl 1 rfl ?_
    refine s_iadd hF dX12_record_37 ?_
    refine sim_gd (fun g13 => ?_)
    refine s_iaload (x := (g_I m7 (g_R m7 l0 29) ((24 : Int32) + l1).toNatClampNeg)) hF dX12_record_38 g13 rfl ?_
    refine s_iconst (v := (1 : Int32)) hF dX12_record_39 kI_1 ?_
    refine s_isub hF dX12_record_40 ?_
    refine s_cSi (st := [.ref l0]) [.int l2, .int (0 : Int32), .int ((g_I m7 (g_R m7 l0 29) ((24 : Int32) + l1).toNatClampNeg) - (1 : Int32))] hF hD.dr dX12_record_41 cwX12_128 (Nat.le_of_ble_eq_true rfl) (Nat.le_of_ble_eq_true rfl) rfl rfl (Nat.le_of_ble_eq_true rfl) (ctX12_in l2 (0 : Int32) ((g_I m7 (g_R m7 l0 29) ((24 : Int32) + l1).toNatClampNeg) - (1 : Int32)) _) (fun r14 m15 hl16 hm17 => ?_)
    refine s_if_ne (tgt := 51) hF dX12_record_44 rfl (fun c18 => ?_) (fun c18 => ?_)
    · refine s_iconst (v := (1 : Int32)) hF dX12_record_47 kI_1 ?_
      refine s_goto (tgt := 52) hF dX12_record_48 rfl ?_
      exact sX12_record_52 hF hD l0 l1 l2 (1 : Int32) l0 _ (isK.mo (isK.mo f0 hm9) hm17)
    · refine s_iconst (v := (0 : Int32)) hF dX12_record_51 kI_0 ?_
      exact sX12_record_52 hF hD l0 l1 l2 (0 : Int32) l0 _ (isK.mo (isK.mo f0 hm9) hm17)
  · refine s_iconst (v := (0 : Int32)) hF dX12_record_60 kI_0 ?_
    exact s_iretD hF hD dX12_record_61 rfl
theorem ctX12_record  (l0 : Nat) (l1 : Int32) (l2 : Int32) (μ : Mem) : ∀ (r : Int32) (μ' : Mem), LX12_record l0 l1 l2 μ = some (r, μ') → CtD yX12_record cX12_record 3 (some .int) 3 [.ref l0, .int l1, .int l2] μ (encI r) μ' := by
  refine ct_enterD plX12 (Nat.le_of_ble_eq_true rfl) (fun F hF hD hI => ?_)
  unfold LX12_record
  refine sim_gd (fun f0 => ?_)
  refine s_aload_n hF dX12_record_0 rfl 0 rfl ?_
  refine s_iconst (v := (0 : Int32)) hF dX12_record_1 kI_0 ?_
  refine s_putI hF dX12_record_2 flX12_94 f0 ?_
  refine s_aload_n hF dX12_record_5 rfl 0 rfl ?_
  refine s_aload_n hF dX12_record_6 rfl 0 rfl ?_
  refine s_iload_n hF dX12_record_7 rfl 1 rfl ?_
  refine s_cVi (st := [.ref l0]) (ci := 12) [.int l1] hF hD.dr dX12_record_8 cwX12_355 (Nat.le_of_ble_eq_true rfl) (Nat.le_of_ble_eq_true rfl) rfl rfl (Nat.le_of_ble_eq_true rfl) f0 rfl rfl (Nat.le_of_ble_eq_true rfl) (ctX12_isPen l0 l1 _) (fun r1 m2 hl3 hm4 => ?_)
  refine s_if_ne (tgt := 18) hF dX12_record_11 rfl (fun c5 => ?_) (fun c5 => ?_)
  · refine s_iconst (v := (1 : Int32)) hF dX12_record_14 kI_1 ?_
    refine s_goto (tgt := 19) hF dX12_record_15 rfl ?_
    exact sX12_record_19 hF hD l0 l1 l2 (1 : Int32) l0 _ (isK.mo f0 hm4)
  · refine s_iconst (v := (0 : Int32)) hF dX12_record_18 kI_0 ?_
    exact sX12_record_19 hF hD l0 l1 l2 (0 : Int32) l0 _ (isK.mo f0 hm4)
theorem sX12_out_19 {F : Option Fx} (hF : FxO F RX12 cX12_out 3 3) (hD : FxDO F (some .int)) (l0 : Nat) (l1 : Int32) (l2 : Int32) (k0 : Int32) (k1 : Nat) (μ : Mem) (f0 : isK μ l0 12 = true) : Sim F encI 19 [(0, .ref l0), (1, .int l1), (2, .int l2)] [.int k0, .ref k1] μ (mX12_out_19 l0 l1 l2 k0 k1 μ) := by
  unfold mX12_out_19
  refine s_iconst (v := (1 : Int32)) hF dX12_out_19 kI_1 ?_
  refine s_iconst (v := (0 : Int32)) hF dX12_out_20 kI_0 ?_
  refine sim_gd (fun g10 => ?_)
  refine s_cVi (st := []) (ci := 12) [.int k0, .int (1 : Int32), .int (0 : Int32)] hF hD.dr dX12_out_21 cwX12_167 (Nat.le_of_ble_eq_true rfl) (Nat.le_of_ble_eq_true rfl) rfl rfl (Nat.le_of_ble_eq_true rfl) g10 rfl rfl (Nat.le_of_ble_eq_true rfl) (ctX12_bad k1 k0 (1 : Int32) (0 : Int32) _) (fun r6 m7 hl8 hm9 => ?_)
  refine s_if_ne (tgt := 45) hF dX12_out_24 rfl (fun c11 => ?_) (fun c11 => ?_)
  · refine s_aload_n hF dX12_out_27 rfl 0 rfl ?_
    refine s_aload_n hF dX12_out_28 rfl 0 rfl ?_
    refine s_aload_n hF dX12_out_29 rfl 0 rfl ?_
    refine sim_gd (fun g12 => ?_)
    refine s_getR (x := (g_R m7 l0 29)) hF dX12_out_30 flX12_67 (isK.mo f0 hm9) g12 rfl ?_
    refine s_iload_n hF dX12_out_33 rfl 1 rfl ?_
    refine s_cVi (st := [.ref l0]) (ci := 12) [.ref (g_R m7 l0 29), .int l1] hF hD.dr dX12_out_34 cwX12_286 (Nat.le_of_ble_eq_true rfl) (Nat.le_of_ble_eq_true rfl) rfl rfl (Nat.le_of_ble_eq_true rfl) (isK.mo f0 hm9) rfl rfl (Nat.le_of_ble_eq_true rfl) (ctX12_jams l0 (g_R m7 l0 29) l1 _) (fun r13 m14 hl15 hm16 => ?_)
    refine s_iconst (v := (2 : Int32)) hF dX12_out_37 kI_2 ?_
    refine s_iconst (v := (4 : Int32)) hF dX12_out_38 kI_4 ?_
    refine s_cVi (st := []) (ci := 12) [.int r13, .int (2 : Int32), .int (4 : Int32)] hF hD.dr dX12_out_39 cwX12_167 (Nat.le_of_ble_eq_true rfl) (Nat.le_of_ble_eq_true rfl) rfl rfl (Nat.le_of_ble_eq_true rfl) (isK.mo (isK.mo f0 hm9) hm16) rfl rfl (Nat.le_of_ble_eq_true rfl) (ctX12_bad l0 r13 (2 : Int32) (4 : Int32) _) (fun r17 m18 hl19 hm20 => ?_)
    refine s_if_eq (tgt := 47) hF dX12_out_42 rfl (fun c21 => ?_) (fun c21 => ?_)
    · refine s_aload_n hF dX12_out_47 rfl 0 rfl ?_
      refine s_aload_n hF dX12_out_48 rfl 0 rfl ?_
      refine sim_gd (fun g22 => ?_)
      refine s_getR (x := (g_R m18 l0 29)) hF dX12_out_49 flX12_67 (isK.mo (isK.mo (isK.mo f0 hm9) hm16) hm20) g22 rfl ?_
      refine s_iload_n hF dX12_out_52 rfl 1 rfl ?_
      refine s_iload_n hF dX12_out_53 rfl 2 rfl ?_
      refine s_cVi (st := []) (ci := 12) [.ref (g_R m18 l0 29), .int l1, .int l2] hF hD.dr dX12_out_54 cwX12_290 (Nat.le_of_ble_eq_true rfl) (Nat.le_of_ble_eq_true rfl) rfl rfl (Nat.le_of_ble_eq_true rfl) (isK.mo (isK.mo (isK.mo f0 hm9) hm16) hm20) rfl rfl (Nat.le_of_ble_eq_true rfl) (ctX12_outOf l0 (g_R m18 l0 29) l1 l2 _) (fun r23 m24 hl25 hm26 => ?_)
      exact s_iretD hF hD dX12_out_57 rfl
    · refine s_iconst (v := (0 : Int32)) hF dX12_out_45 kI_0 ?_
      exact s_iretD hF hD dX12_out_46 rfl
  · refine s_iconst (v := (0 : Int32)) hF dX12_out_45 kI_0 ?_
    exact s_iretD hF hD dX12_out_46 rfl
theorem ctX12_out  (l0 : Nat) (l1 : Int32) (l2 : Int32) (μ : Mem) : ∀ (r : Int32) (μ' : Mem), LX12_out l0 l1 l2 μ = some (r, μ') → CtD yX12_out cX12_out 3 (some .int) 3 [.ref l0, .int l1, .int l2] μ (encI r) μ' := by
  refine ct_enterD plX12 (Nat.le_of_ble_eq_true rfl) (fun F hF hD hI => ?_)
  unfold LX12_out
  refine sim_gd (fun f0 => ?_)
  refine s_aload_n hF dX12_out_0 rfl 0 rfl ?_
  refine s_iconst (v := (0 : Int32)) hF dX12_out_1 kI_0 ?_
  refine s_putI hF dX12_out_2 flX12_94 f0 ?_
  refine s_aload_n hF dX12_out_5 rfl 0 rfl ?_
  refine s_aload_n hF dX12_out_6 rfl 0 rfl ?_
  refine s_iload_n hF dX12_out_7 rfl 1 rfl ?_
  refine s_cVi (st := [.ref l0]) (ci := 12) [.int l1] hF hD.dr dX12_out_8 cwX12_355 (Nat.le_of_ble_eq_true rfl) (Nat.le_of_ble_eq_true rfl) rfl rfl (Nat.le_of_ble_eq_true rfl) f0 rfl rfl (Nat.le_of_ble_eq_true rfl) (ctX12_isPen l0 l1 _) (fun r1 m2 hl3 hm4 => ?_)
  refine s_if_ne (tgt := 18) hF dX12_out_11 rfl (fun c5 => ?_) (fun c5 => ?_)
  · refine s_iconst (v := (1 : Int32)) hF dX12_out_14 kI_1 ?_
    refine s_goto (tgt := 19) hF dX12_out_15 rfl ?_
    exact sX12_out_19 hF hD l0 l1 l2 (1 : Int32) l0 _ (isK.mo f0 hm4)
  · refine s_iconst (v := (0 : Int32)) hF dX12_out_18 kI_0 ?_
    exact sX12_out_19 hF hD l0 l1 l2 (0 : Int32) l0 _ (isK.mo f0 hm4)
theorem sX12_level_19 {F : Option Fx} (hF : FxO F RX12 cX12_level 3 5) (hD : FxDO F (some .int)) (l0 : Nat) (l1 : Int32) (l2 : Int32) (k0 : Int32) (k1 : Nat) (μ : Mem) (f0 : isK μ l0 12 = true) : Sim F encI 19 [(0, .ref l0), (1, .int l1), (2, .int l2)] [.int k0, .ref k1] μ (mX12_level_19 l0 l1 l2 k0 k1 μ) := by
  unfold mX12_level_19
  refine s_iconst (v := (1 : Int32)) hF dX12_level_19 kI_1 ?_
  refine s_iconst (v := (0 : Int32)) hF dX12_level_20 kI_0 ?_
  refine sim_gd (fun g10 => ?_)
  refine s_cVi (st := []) (ci := 12) [.int k0, .int (1 : Int32), .int (0 : Int32)] hF hD.dr dX12_level_21 cwX12_167 (Nat.le_of_ble_eq_true rfl) (Nat.le_of_ble_eq_true rfl) rfl rfl (Nat.le_of_ble_eq_true rfl) g10 rfl rfl (Nat.le_of_ble_eq_true rfl) (ctX12_bad k1 k0 (1 : Int32) (0 : Int32) _) (fun r6 m7 hl8 hm9 => ?_)
  refine s_if_eq (tgt := 29) hF dX12_level_24 rfl (fun c11 => ?_) (fun c11 => ?_)
  · refine s_aload_n hF dX12_level_29 rfl 0 rfl ?_
    refine s_aload_n hF dX12_level_30 rfl 0 rfl ?_
    refine sim_gd (fun g12 => ?_)
    refine s_getR (x := (g_R m7 l0 29)) hF dX12_level_31 flX12_67 (isK.mo f0 hm9) g12 rfl ?_
    refine s_iload_n hF dX12_level_34 rfl 1 rfl ?_
    refine s_iload_n hF dX12_level_35 rfl 2 rfl ?_
    refine s_cVi (st := []) (ci := 12) [.ref (g_R m7 l0 29), .int l1, .int l2] hF hD.dr dX12_level_36 cwX12_307 (Nat.le_of_ble_eq_true rfl) (Nat.le_of_ble_eq_true rfl) rfl rfl (Nat.le_of_ble_eq_true rfl) (isK.mo f0 hm9) rfl rfl (Nat.le_of_ble_eq_true rfl) (ctX12_levelOf l0 (g_R m7 l0 29) l1 l2 _) (fun r13 m14 hl15 hm16 => ?_)
    exact s_iretD hF hD dX12_level_39 rfl
  · refine s_iconst (v := (0 : Int32)) hF dX12_level_27 kI_0 ?_
    exact s_iretD hF hD dX12_level_28 rfl
theorem ctX12_level  (l0 : Nat) (l1 : Int32) (l2 : Int32) (μ : Mem) : ∀ (r : Int32) (μ' : Mem), LX12_level l0 l1 l2 μ = some (r, μ') → CtD yX12_level cX12_level 3 (some .int) 5 [.ref l0, .int l1, .int l2] μ (encI r) μ' := by
  refine ct_enterD plX12 (Nat.le_of_ble_eq_true rfl) (fun F hF hD hI => ?_)
  unfold LX12_level
  refine sim_gd (fun f0 => ?_)
  refine s_aload_n hF dX12_level_0 rfl 0 rfl ?_
  refine s_iconst (v := (0 : Int32)) hF dX12_level_1 kI_0 ?_
  refine s_putI hF dX12_level_2 flX12_94 f0 ?_
  refine s_aload_n hF dX12_level_5 rfl 0 rfl ?_
  refine s_aload_n hF dX12_level_6 rfl 0 rfl ?_
  refine s_iload_n hF dX12_level_7 rfl 1 rfl ?_
  refine s_cVi (st := [.ref l0]) (ci := 12) [.int l1] hF hD.dr dX12_level_8 cwX12_355 (Nat.le_of_ble_eq_true rfl) (Nat.le_of_ble_eq_true rfl) rfl rfl (Nat.le_of_ble_eq_true rfl) f0 rfl rfl (Nat.le_of_ble_eq_true rfl) (ctX12_isPen l0 l1 _) (fun r1 m2 hl3 hm4 => ?_)
  refine s_if_ne (tgt := 18) hF dX12_level_11 rfl (fun c5 => ?_) (fun c5 => ?_)
  · refine s_iconst (v := (1 : Int32)) hF dX12_level_14 kI_1 ?_
    refine s_goto (tgt := 19) hF dX12_level_15 rfl ?_
    exact sX12_level_19 hF hD l0 l1 l2 (1 : Int32) l0 _ (isK.mo f0 hm4)
  · refine s_iconst (v := (0 : Int32)) hF dX12_level_18 kI_0 ?_
    exact sX12_level_19 hF hD l0 l1 l2 (0 : Int32) l0 _ (isK.mo f0 hm4)
theorem sX12_would_71 {F : Option Fx} (hF : FxO F RX12 cX12_would 9 4) (hD : FxDO F (some .int)) (l0 : Nat) (l1 : Int32) (l2 : Int32) (l3 : Int32) (l4 : Int32) (l5 : Int32) (l6 : Int32) (l7 : Int32) (l8 : Int32) (k0 : Int32) (k1 : Nat) (μ : Mem) (f0 : isK μ l0 12 = true) : Sim F encI 71 [(0, .ref l0), (1, .int l1), (2, .int l2), (3, .int l3), (4, .int l4), (5, .int l5), (6, .int l6), (7, .int l7), (8, .int l8)] [.int k0, .ref k1] μ (mX12_would_71 l0 l1 l2 l3 l4 l5 l6 l7 l8 k0 k1 μ) := by
  unfold mX12_would_71
  refine s_iconst (v := (1 : Int32)) hF dX12_would_71 kI_1 ?_
  refine s_iconst (v := (1 : Int32)) hF dX12_would_72 kI_1 ?_
  refine sim_gd (fun g31 => ?_)
  refine s_cVi (st := []) (ci := 12) [.int k0, .int (1 : Int32), .int (1 : Int32)] hF hD.dr dX12_would_73 cwX12_167 (Nat.le_of_ble_eq_true rfl) (Nat.le_of_ble_eq_true rfl) rfl rfl (Nat.le_of_ble_eq_true rfl) g31 rfl rfl (Nat.le_of_ble_eq_true rfl) (ctX12_bad k1 k0 (1 : Int32) (1 : Int32) _) (fun r27 m28 hl29 hm30 => ?_)
  refine s_if_eq (tgt := 81) hF dX12_would_76 rfl (fun c32 => ?_) (fun c32 => ?_)
  · refine s_aload_n hF dX12_would_81 rfl 0 rfl ?_
    refine s_iload_n hF dX12_would_82 rfl 1 rfl ?_
    refine s_iload_n hF dX12_would_83 rfl 2 rfl ?_
    refine s_iload_n hF dX12_would_84 rfl 3 rfl ?_
    refine s_iload hF dX12_would_85 4 rfl ?_
    refine s_iload hF dX12_would_87 5 rfl ?_
    refine s_iload hF dX12_would_89 6 rfl ?_
    refine s_iload hF dX12_would_91 7 rfl ?_
    refine s_iload hF dX12_would_93 8 rfl ?_
    refine s_cVi (st := []) (ci := 12) [.int l1, .int l2, .int l3, .int l4, .int l5, .int l6, .int l7, .int l8] hF hD.dr dX12_would_95 cwX12_297 (Nat.le_of_ble_eq_true rfl) (Nat.le_of_ble_eq_true rfl) rfl rfl (Nat.le_of_ble_eq_true rfl) (isK.mo f0 hm30) rfl rfl (Nat.le_of_ble_eq_true rfl) (ctX12_levelBy l0 l1 l2 l3 l4 l5 l6 l7 l8 _) (fun r33 m34 hl35 hm36 => ?_)
    exact s_iretD hF hD dX12_would_98 rfl
  · refine s_iconst (v := (0 : Int32)) hF dX12_would_79 kI_0 ?_
    exact s_iretD hF hD dX12_would_80 rfl
theorem ctX12_would  (l0 : Nat) (l1 : Int32) (l2 : Int32) (l3 : Int32) (l4 : Int32) (l5 : Int32) (l6 : Int32) (l7 : Int32) (l8 : Int32) (μ : Mem) : ∀ (r : Int32) (μ' : Mem), LX12_would l0 l1 l2 l3 l4 l5 l6 l7 l8 μ = some (r, μ') → CtD yX12_would cX12_would 9 (some .int) 4 [.ref l0, .int l1, .int l2, .int l3, .int l4, .int l5, .int l6, .int l7, .int l8] μ (encI r) μ' := by
  refine ct_enterD plX12 (Nat.le_of_ble_eq_true rfl) (fun F hF hD hI => ?_)
  unfold LX12_would
  refine sim_gd (fun f0 => ?_)
  refine s_aload_n hF dX12_would_0 rfl 0 rfl ?_
  refine s_iconst (v := (0 : Int32)) hF dX12_would_1 kI_0 ?_
  refine s_putI hF dX12_would_2 flX12_94 f0 ?_
  refine s_aload_n hF dX12_would_5 rfl 0 rfl ?_
  refine s_iload_n hF dX12_would_6 rfl 3 rfl ?_
  refine s_if_lt (tgt := 66) hF dX12_would_7 rfl (fun c1 => ?_) (fun c1 => ?_)
  · refine s_iconst (v := (1 : Int32)) hF dX12_would_66 kI_1 ?_
    refine s_goto (tgt := 71) hF dX12_would_67 rfl ?_
    exact sX12_would_71 hF hD l0 l1 l2 l3 l4 l5 l6 l7 l8 (1 : Int32) l0 _ f0
  · refine s_iload hF dX12_would_10 4 rfl ?_
    refine s_iconst (v := (0 : Int32)) hF dX12_would_12 kI_0 ?_
    refine s_bipush (v := (24 : Int32)) hF dX12_would_13 kB_24 ?_
    refine s_cSi (st := [.ref l0]) [.int l4, .int (0 : Int32), .int (24 : Int32)] hF hD.dr dX12_would_15 cwX12_128 (Nat.le_of_ble_eq_true rfl) (Nat.le_of_ble_eq_true rfl) rfl rfl (Nat.le_of_ble_eq_true rfl) (ctX12_in l4 (0 : Int32) (24 : Int32) _) (fun r2 m3 hl4 hm5 => ?_)
    refine s_if_eq (tgt := 66) hF dX12_would_18 rfl (fun c6 => ?_) (fun c6 => ?_)
    · refine s_iconst (v := (1 : Int32)) hF dX12_would_66 kI_1 ?_
      refine s_goto (tgt := 71) hF dX12_would_67 rfl ?_
      exact sX12_would_71 hF hD l0 l1 l2 l3 l4 l5 l6 l7 l8 (1 : Int32) l0 _ (isK.mo f0 hm5)
    · refine s_iload hF dX12_would_21 5 rfl ?_
      refine s_iconst (v := (0 : Int32)) hF dX12_would_23 kI_0 ?_
      refine s_sipush (v := (900 : Int32)) hF dX12_would_24 kS_900 ?_
      refine s_cSi (st := [.ref l0]) [.int l5, .int (0 : Int32), .int (900 : Int32)] hF hD.dr dX12_would_27 cwX12_128 (Nat.le_of_ble_eq_true rfl) (Nat.le_of_ble_eq_true rfl) rfl rfl (Nat.le_of_ble_eq_true rfl) (ctX12_in l5 (0 : Int32) (900 : Int32) _) (fun r7 m8 hl9 hm10 => ?_)
      refine s_if_eq (tgt := 66) hF dX12_would_30 rfl (fun c11 => ?_) (fun c11 => ?_)
      · refine s_iconst (v := (1 : Int32)) hF dX12_would_66 kI_1 ?_
        refine s_goto (tgt := 71) hF dX12_would_67 rfl ?_
        exact sX12_would_71 hF hD l0 l1 l2 l3 l4 l5 l6 l7 l8 (1 : Int32) l0 _ (isK.mo (isK.mo f0 hm5) hm10)
      · refine s_iload hF dX12_would_33 6 rfl ?_
        refine s_iconst (v := (0 : Int32)) hF dX12_would_35 kI_0 ?_
        refine s_bipush (v := (7 : Int32)) hF dX12_would_36 kB_7 ?_
        refine s_cSi (st := [.ref l0]) [.int l6, .int (0 : Int32), .int (7 : Int32)] hF hD.dr dX12_would_38 cwX12_128 (Nat.le_of_ble_eq_true rfl) (Nat.le_of_ble_eq_true rfl) rfl rfl (Nat.le_of_ble_eq_true rfl) (ctX12_in l6 (0 : Int32) (7 : Int32) _) (fun r12 m13 hl14 hm15 => ?_)
        refine s_if_eq (tgt := 66) hF dX12_would_41 rfl (fun c16 => ?_) (fun c16 => ?_)
        · refine s_iconst (v := (1 : Int32)) hF dX12_would_66 kI_1 ?_
          refine s_goto (tgt := 71) hF dX12_would_67 rfl ?_
          exact sX12_would_71 hF hD l0 l1 l2 l3 l4 l5 l6 l7 l8 (1 : Int32) l0 _ (isK.mo (isK.mo (isK.mo f0 hm5) hm10) hm15)
        · refine s_iload hF dX12_would_44 7 rfl ?_
          refine s_iconst (v := (0 : Int32)) hF dX12_would_46 kI_0 ?_
          refine s_bipush (v := (99 : Int32)) hF dX12_would_47 kB_99 ?_
          refine s_cSi (st := [.ref l0]) [.int l7, .int (0 : Int32), .int (99 : Int32)] hF hD.dr dX12_would_49 cwX12_128 (Nat.le_of_ble_eq_true rfl) (Nat.le_of_ble_eq_true rfl) rfl rfl (Nat.le_of_ble_eq_true rfl) (ctX12_in l7 (0 : Int32) (99 : Int32) _) (fun r17 m18 hl19 hm20 => ?_)
          refine s_if_eq (tgt := 66) hF dX12_would_52 rfl (fun c21 => ?_) (fun c21 => ?_)
          · refine s_iconst (v := (1 : Int32)) hF dX12_would_66 kI_1 ?_
            refine s_goto (tgt := 71) hF dX12_would_67 rfl ?_
            exact sX12_would_71 hF hD l0 l1 l2 l3 l4 l5 l6 l7 l8 (1 : Int32) l0 _ (isK.mo (isK.mo (isK.mo (isK.mo f0 hm5) hm10) hm15) hm20)
          · refine s_iload hF dX12_would_55 8 rfl ?_
            refine s_iconst (v := (0 : Int32)) hF dX12_would_57 kI_0 ?_
            refine s_bipush (v := (99 : Int32)) hF dX12_would_58 kB_99 ?_
            refine s_cSi (st := [.ref l0]) [.int l8, .int (0 : Int32), .int (99 : Int32)] hF hD.dr dX12_would_60 cwX12_128 (Nat.le_of_ble_eq_true rfl) (Nat.le_of_ble_eq_true rfl) rfl rfl (Nat.le_of_ble_eq_true rfl) (ctX12_in l8 (0 : Int32) (99 : Int32) _) (fun r22 m23 hl24 hm25 => ?_)
            refine s_if_ne (tgt := 70) hF dX12_would_63 rfl (fun c26 => ?_) (fun c26 => ?_)
            · refine s_iconst (v := (1 : Int32)) hF dX12_would_66 kI_1 ?_
              refine s_goto (tgt := 71) hF dX12_would_67 rfl ?_
              exact sX12_would_71 hF hD l0 l1 l2 l3 l4 l5 l6 l7 l8 (1 : Int32) l0 _ (isK.mo (isK.mo (isK.mo (isK.mo (isK.mo f0 hm5) hm10) hm15) hm20) hm25)
            · refine s_iconst (v := (0 : Int32)) hF dX12_would_70 kI_0 ?_
              exact sX12_would_71 hF hD l0 l1 l2 l3 l4 l5 l6 l7 l8 (0 : Int32) l0 _ (isK.mo (isK.mo (isK.mo (isK.mo (isK.mo f0 hm5) hm10) hm15) hm20) hm25)
theorem sX12_total_85 {F : Option Fx} (q34 : Nat → Int32 → Int64 → Int32 → Mem → Option (Int32 × Mem)) (hF : FxO F RX12 cX12_total 5 3) (hD : FxDO F (some .int)) (hq34 : ∀ (l0 : Nat) (l1 : Int32) (l2 : Int64) (l4 : Int32) (μ : Mem) (_ : isK μ l0 12 = true), Sim F encI 34 [(0, .ref l0), (1, .int l1), (2, .long l2), (4, .int l4)] [] μ (q34 l0 l1 l2 l4 μ)) (l0 : Nat) (l1 : Int32) (l2 : Int64) (l4 : Int32) (k0 : Int32) (k1 : Nat) (μ : Mem) (f0 : isK μ l0 12 = true) : Sim F encI 85 [(0, .ref l0), (1, .int l1), (2, .long l2), (4, .int l4)] [.int k0, .ref k1] μ (mX12_total_85 q34 l0 l1 l2 l4 k0 k1 μ) := by
  unfold mX12_total_85
  refine s_iconst (v := (2 : Int32)) hF dX12_total_85 kI_2 ?_
  refine s_iconst (v := (4 : Int32)) hF dX12_total_86 kI_4 ?_
  refine sim_gd (fun g25 => ?_)
  refine s_cVi (st := []) (ci := 12) [.int k0, .int (2 : Int32), .int (4 : Int32)] hF hD.dr dX12_total_87 cwX12_167 (Nat.le_of_ble_eq_true rfl) (Nat.le_of_ble_eq_true rfl) rfl rfl (Nat.le_of_ble_eq_true rfl) g25 rfl rfl (Nat.le_of_ble_eq_true rfl) (ctX12_bad k1 k0 (2 : Int32) (4 : Int32) _) (fun r21 m22 hl23 hm24 => ?_)
  refine s_if_eq (tgt := 95) hF dX12_total_90 rfl (fun c26 => ?_) (fun c26 => ?_)
  · refine s_iinc (v := (l4 + (1 : Int32))) (pls' := [(4, .int (l4 + (1 : Int32))), (0, .ref l0), (1, .int l1), (2, .long l2)]) hF dX12_total_95 3 rfl rfl (by decide) rfl ?_
    refine s_goto (tgt := 34) hF dX12_total_98 rfl ?_
    refine s_sub [1, 2, 3, 0] rfl ?_
    exact hq34 l0 l1 l2 (l4 + (1 : Int32)) _ (isK.mo f0 hm24)
  · refine s_iconst (v := (0 : Int32)) hF dX12_total_93 kI_0 ?_
    exact s_iretD hF hD dX12_total_94 rfl
theorem sX12_total_34 {F : Option Fx} (hF : FxO F RX12 cX12_total 5 3) (hD : FxDO F (some .int)) : ∀ (fu : Nat) (l0 : Nat) (l1 : Int32) (l2 : Int64) (l4 : Int32) (μ : Mem) (f0 : isK μ l0 12 = true), Sim F encI 34 [(0, .ref l0), (1, .int l1), (2, .long l2), (4, .int l4)] [] μ (mX12_total_34 fu l0 l1 l2 l4 μ) := by
  intro fu
  induction fu with
  | zero =>
    intro l0 l1 l2 l4 μ f0
    exact sim_none
  | succ fu ih =>
    intro l0 l1 l2 l4 μ f0
    rw [mX12_total_34]
    refine s_iload hF dX12_total_34 3 rfl ?_
    refine s_aload_n hF dX12_total_36 rfl 0 rfl ?_
    refine sim_gd (fun g12 => ?_)
    refine s_getR (x := (g_R μ l0 29)) hF dX12_total_37 flX12_67 f0 g12 rfl ?_
    refine s_bipush (v := (24 : Int32)) hF dX12_total_40 kB_24 ?_
    refine s_iload_n hF dX12_total_42 rfl 1 rfl ?_
    refine s_iadd hF dX12_total_43 ?_
    refine sim_gd (fun g13 => ?_)
    refine s_iaload (x := (g_I μ (g_R μ l0 29) ((24 : Int32) + l1).toNatClampNeg)) hF dX12_total_44 g13 rfl ?_
    refine s_icmp_ge (tgt := 101) hF dX12_total_45 rfl (fun c14 => ?_) (fun c14 => ?_)
    · refine s_lload_n hF dX12_total_101 rfl 2 rfl ?_
      refine s_l2i hF dX12_total_102 ?_
      exact s_iretD hF hD dX12_total_103 rfl
    · refine s_lload_n hF dX12_total_48 rfl 2 rfl ?_
      refine s_aload_n hF dX12_total_49 rfl 0 rfl ?_
      refine s_aload_n hF dX12_total_50 rfl 0 rfl ?_
      refine s_getR (x := (g_R μ l0 29)) hF dX12_total_51 flX12_67 f0 g12 rfl ?_
      refine s_iload_n hF dX12_total_54 rfl 1 rfl ?_
      refine s_iload hF dX12_total_55 3 rfl ?_
      refine s_cVi (st := [.long l2]) (ci := 12) [.ref (g_R μ l0 29), .int l1, .int l4] hF hD.dr dX12_total_57 cwX12_310 (Nat.le_of_ble_eq_true rfl) (Nat.le_of_ble_eq_true rfl) rfl rfl (Nat.le_of_ble_eq_true rfl) f0 rfl rfl (Nat.le_of_ble_eq_true rfl) (ctX12_readAt l0 (g_R μ l0 29) l1 l4 _) (fun r15 m16 hl17 hm18 => ?_)
      refine s_i2l hF dX12_total_60 ?_
      refine s_ladd hF dX12_total_61 ?_
      refine s_lstore_n (pls' := [(2, .long (l2 + r15.toInt64)), (0, .ref l0), (1, .int l1), (4, .int l4)]) hF dX12_total_62 rfl (by decide) rfl ?_
      refine s_aload_n hF dX12_total_63 rfl 1 rfl ?_
      refine s_lload_n hF dX12_total_64 rfl 0 rfl ?_
      refine s_ldc2 (v := (2147483647 : Int64)) hF dX12_total_65 cwX12_280 ?_
      refine s_lcmp hF dX12_total_68 ?_
      refine s_if_gt (tgt := 80) hF dX12_total_69 rfl (fun c19 => ?_) (fun c19 => ?_)
      · refine s_iconst (v := (1 : Int32)) hF dX12_total_80 kI_1 ?_
        refine s_goto (tgt := 85) hF dX12_total_81 rfl ?_
        refine s_sub [1, 2, 0, 3] rfl ?_
        exact sX12_total_85 (fun l0 l1 l2 l4 μ => mX12_total_34 fu l0 l1 l2 l4 μ) hF hD ih l0 l1 (l2 + r15.toInt64) l4 (1 : Int32) l0 _ (isK.mo f0 hm18)
      · refine s_lload_n hF dX12_total_72 rfl 0 rfl ?_
        refine s_ldc2 (v := (-2147483648 : Int64)) hF dX12_total_73 cwX12_361 ?_
        refine s_lcmp hF dX12_total_76 ?_
        refine s_if_ge (tgt := 84) hF dX12_total_77 rfl (fun c20 => ?_) (fun c20 => ?_)
        · refine s_iconst (v := (0 : Int32)) hF dX12_total_84 kI_0 ?_
          refine s_sub [1, 2, 0, 3] rfl ?_
          exact sX12_total_85 (fun l0 l1 l2 l4 μ => mX12_total_34 fu l0 l1 l2 l4 μ) hF hD ih l0 l1 (l2 + r15.toInt64) l4 (0 : Int32) l0 _ (isK.mo f0 hm18)
        · refine s_iconst (v := (1 : Int32)) hF dX12_total_80 kI_1 ?_
          refine s_goto (tgt := 85) hF dX12_total_81 rfl ?_
          refine s_sub [1, 2, 0, 3] rfl ?_
          exact sX12_total_85 (fun l0 l1 l2 l4 μ => mX12_total_34 fu l0 l1 l2 l4 μ) hF hD ih l0 l1 (l2 + r15.toInt64) l4 (1 : Int32) l0 _ (isK.mo f0 hm18)
theorem sX12_total_19 {F : Option Fx} (hF : FxO F RX12 cX12_total 5 3) (hD : FxDO F (some .int)) (l0 : Nat) (l1 : Int32) (k0 : Int32) (k1 : Nat) (μ : Mem) (f0 : isK μ l0 12 = true) : Sim F encI 19 [(0, .ref l0), (1, .int l1)] [.int k0, .ref k1] μ (mX12_total_19 l0 l1 k0 k1 μ) := by
  unfold mX12_total_19
  refine s_iconst (v := (1 : Int32)) hF dX12_total_19 kI_1 ?_
  refine s_iconst (v := (0 : Int32)) hF dX12_total_20 kI_0 ?_
  refine sim_gd (fun g10 => ?_)
  refine s_cVi (st := []) (ci := 12) [.int k0, .int (1 : Int32), .int (0 : Int32)] hF hD.dr dX12_total_21 cwX12_167 (Nat.le_of_ble_eq_true rfl) (Nat.le_of_ble_eq_true rfl) rfl rfl (Nat.le_of_ble_eq_true rfl) g10 rfl rfl (Nat.le_of_ble_eq_true rfl) (ctX12_bad k1 k0 (1 : Int32) (0 : Int32) _) (fun r6 m7 hl8 hm9 => ?_)
  refine s_if_eq (tgt := 29) hF dX12_total_24 rfl (fun c11 => ?_) (fun c11 => ?_)
  · refine s_lconst (v := (0 : Int64)) hF dX12_total_29 kL_0 ?_
    refine s_lstore_n (pls' := [(2, .long (0 : Int64)), (0, .ref l0), (1, .int l1)]) hF dX12_total_30 rfl (by decide) rfl ?_
    refine s_iconst (v := (0 : Int32)) hF dX12_total_31 kI_0 ?_
    refine s_istore (pls' := [(4, .int (0 : Int32)), (2, .long (0 : Int64)), (0, .ref l0), (1, .int l1)]) hF dX12_total_32 (by decide) rfl ?_
    refine s_sub [2, 3, 1, 0] rfl ?_
    exact sX12_total_34 hF hD 100000 l0 l1 (0 : Int64) (0 : Int32) _ (isK.mo f0 hm9)
  · refine s_iconst (v := (0 : Int32)) hF dX12_total_27 kI_0 ?_
    exact s_iretD hF hD dX12_total_28 rfl
theorem ctX12_total  (l0 : Nat) (l1 : Int32) (μ : Mem) : ∀ (r : Int32) (μ' : Mem), LX12_total l0 l1 μ = some (r, μ') → CtD yX12_total cX12_total 5 (some .int) 3 [.ref l0, .int l1] μ (encI r) μ' := by
  refine ct_enterD plX12 (Nat.le_of_ble_eq_true rfl) (fun F hF hD hI => ?_)
  unfold LX12_total
  refine sim_gd (fun f0 => ?_)
  refine s_aload_n hF dX12_total_0 rfl 0 rfl ?_
  refine s_iconst (v := (0 : Int32)) hF dX12_total_1 kI_0 ?_
  refine s_putI hF dX12_total_2 flX12_94 f0 ?_
  refine s_aload_n hF dX12_total_5 rfl 0 rfl ?_
  refine s_aload_n hF dX12_total_6 rfl 0 rfl ?_
  refine s_iload_n hF dX12_total_7 rfl 1 rfl ?_
  refine s_cVi (st := [.ref l0]) (ci := 12) [.int l1] hF hD.dr dX12_total_8 cwX12_355 (Nat.le_of_ble_eq_true rfl) (Nat.le_of_ble_eq_true rfl) rfl rfl (Nat.le_of_ble_eq_true rfl) f0 rfl rfl (Nat.le_of_ble_eq_true rfl) (ctX12_isPen l0 l1 _) (fun r1 m2 hl3 hm4 => ?_)
  refine s_if_ne (tgt := 18) hF dX12_total_11 rfl (fun c5 => ?_) (fun c5 => ?_)
  · refine s_iconst (v := (1 : Int32)) hF dX12_total_14 kI_1 ?_
    refine s_goto (tgt := 19) hF dX12_total_15 rfl ?_
    exact sX12_total_19 hF hD l0 l1 (1 : Int32) l0 _ (isK.mo f0 hm4)
  · refine s_iconst (v := (0 : Int32)) hF dX12_total_18 kI_0 ?_
    exact sX12_total_19 hF hD l0 l1 (0 : Int32) l0 _ (isK.mo f0 hm4)
theorem ctX12_realAt  (l0 : Nat) (l1 : Int32) (l2 : Int32) (μ : Mem) : ∀ (r : UInt64) (μ' : Mem), LX12_realAt l0 l1 l2 μ = some (r, μ') → CtD yX12_realAt cX12_realAt 4 (some .double) 1 [.ref l0, .int l1, .int l2] μ (encD r) μ' := by
  refine ct_enterD plX12 (Nat.le_of_ble_eq_true rfl) (fun F hF hD hI => ?_)
  unfold LX12_realAt
  refine sim_gd (fun f0 => ?_)
  refine s_aload_n hF dX12_realAt_0 rfl 0 rfl ?_
  refine sim_gd (fun g1 => ?_)
  refine s_getR (x := (g_R μ l0 29)) hF dX12_realAt_1 flX12_67 f0 g1 rfl ?_
  refine s_sipush (v := (227 : Int32)) hF dX12_realAt_4 kS_227 ?_
  refine s_iload_n hF dX12_realAt_7 rfl 1 rfl ?_
  refine s_iload_n hF dX12_realAt_8 rfl 2 rfl ?_
  refine s_cSi (st := [.int (227 : Int32), .ref (g_R μ l0 29)]) [.int l1, .int l2] hF hD.dr dX12_realAt_9 cwX12_301 (Nat.le_of_ble_eq_true rfl) (Nat.le_of_ble_eq_true rfl) rfl rfl (Nat.le_of_ble_eq_true rfl) (ctX12_placeOf l1 l2 _) (fun r2 m3 hl4 hm5 => ?_)
  refine s_iadd hF dX12_realAt_12 ?_
  refine sim_gd (fun g6 => ?_)
  refine s_iaload (x := (g_I m3 (g_R μ l0 29) ((227 : Int32) + r2).toNatClampNeg)) hF dX12_realAt_13 g6 rfl ?_
  refine s_istore_n (pls' := [(3, .int (g_I m3 (g_R μ l0 29) ((227 : Int32) + r2).toNatClampNeg)), (0, .ref l0), (1, .int l1), (2, .int l2)]) hF dX12_realAt_14 rfl (by decide) rfl ?_
  refine s_iload_n hF dX12_realAt_15 rfl 0 rfl ?_
  refine s_iconst (v := (-1 : Int32)) hF dX12_realAt_16 kI_m1 ?_
  refine s_icmp_ne (tgt := 24) hF dX12_realAt_17 rfl (fun c7 => ?_) (fun c7 => ?_)
  · refine s_dconst0 hF dX12_realAt_20 ?_
    refine s_goto (tgt := 56) hF dX12_realAt_21 rfl ?_
    exact s_dretD hF hD dX12_realAt_56 rfl (al64 _)
  · refine s_aload_n hF dX12_realAt_24 rfl 1 rfl ?_
    refine sim_gd (fun g8 => ?_)
    refine s_getR (x := (g_R m3 l0 14)) hF dX12_realAt_25 flX12_31 (isK.mo f0 hm5) g8 rfl ?_
    refine s_iload_n hF dX12_realAt_28 rfl 2 rfl ?_
    refine sim_gd (fun g9 => ?_)
    refine sim_gd (fun g10 => ?_)
    refine s_aaload (x := (g_R m3 (g_R m3 l0 14) l1.toNatClampNeg)) hF dX12_realAt_29 (by decide) (by decide) g9 g10 rfl ?_
    refine s_iconst (v := (0 : Int32)) hF dX12_realAt_30 kI_0 ?_
    refine sim_gd (fun g11 => ?_)
    refine s_iaload (x := (g_I m3 (g_R m3 (g_R m3 l0 14) l1.toNatClampNeg) (0 : Int32).toNatClampNeg)) hF dX12_realAt_31 g11 rfl ?_
    refine s_aload_n hF dX12_realAt_32 rfl 1 rfl ?_
    refine sim_gd (fun g12 => ?_)
    refine s_getR (x := (g_R m3 l0 29)) hF dX12_realAt_33 flX12_67 (isK.mo f0 hm5) g12 rfl ?_
    refine s_bipush (v := (35 : Int32)) hF dX12_realAt_36 kB_35 ?_
    refine s_iload_n hF dX12_realAt_38 rfl 2 rfl ?_
    refine s_iload_n hF dX12_realAt_39 rfl 3 rfl ?_
    refine s_cSi (st := [.int (35 : Int32), .ref (g_R m3 l0 29), .int (g_I m3 (g_R m3 (g_R m3 l0 14) l1.toNatClampNeg) (0 : Int32).toNatClampNeg)]) [.int l1, .int l2] hF hD.dr dX12_realAt_40 cwX12_301 (Nat.le_of_ble_eq_true rfl) (Nat.le_of_ble_eq_true rfl) rfl rfl (Nat.le_of_ble_eq_true rfl) (ctX12_placeOf l1 l2 _) (fun r13 m14 hl15 hm16 => ?_)
    refine s_iadd hF dX12_realAt_43 ?_
    refine sim_gd (fun g17 => ?_)
    refine s_iaload (x := (g_I m14 (g_R m3 l0 29) ((35 : Int32) + r13).toNatClampNeg)) hF dX12_realAt_44 g17 rfl ?_
    refine s_iload_n hF dX12_realAt_45 rfl 0 rfl ?_
    refine s_bipush (v := (100 : Int32)) hF dX12_realAt_46 kB_100 ?_
    refine sim_gd (fun g18 => ?_)
    refine s_idiv hF dX12_realAt_48 g18 ?_
    refine s_iload_n hF dX12_realAt_49 rfl 0 rfl ?_
    refine s_bipush (v := (100 : Int32)) hF dX12_realAt_50 kB_100 ?_
    refine sim_gd (fun g19 => ?_)
    refine s_irem hF dX12_realAt_52 g19 ?_
    refine s_cSd (st := []) [.int (g_I m3 (g_R m3 (g_R m3 l0 14) l1.toNatClampNeg) (0 : Int32).toNatClampNeg), .int (g_I m14 (g_R m3 l0 29) ((35 : Int32) + r13).toNatClampNeg), .int ((g_I m3 (g_R μ l0 29) ((227 : Int32) + r2).toNatClampNeg) / (100 : Int32)), .int ((g_I m3 (g_R μ l0 29) ((227 : Int32) + r2).toNatClampNeg) - (g_I m3 (g_R μ l0 29) ((227 : Int32) + r2).toNatClampNeg) / (100 : Int32) * (100 : Int32))] hF hD.dr dX12_realAt_53 cwX12_265 (Nat.le_of_ble_eq_true rfl) (Nat.le_of_ble_eq_true rfl) rfl rfl (Nat.le_of_ble_eq_true rfl) (ctX12_real (g_I m3 (g_R m3 (g_R m3 l0 14) l1.toNatClampNeg) (0 : Int32).toNatClampNeg) (g_I m14 (g_R m3 l0 29) ((35 : Int32) + r13).toNatClampNeg) ((g_I m3 (g_R μ l0 29) ((227 : Int32) + r2).toNatClampNeg) / (100 : Int32)) ((g_I m3 (g_R μ l0 29) ((227 : Int32) + r2).toNatClampNeg) - (g_I m3 (g_R μ l0 29) ((227 : Int32) + r2).toNatClampNeg) / (100 : Int32) * (100 : Int32)) _) (fun r20 m21 y24 hl22 hm23 ha25 => ?_)
    exact s_dretD hF hD dX12_realAt_56 rfl ha25
theorem ctX12_wholeAt  (l0 : Nat) (l1 : Int32) (l2 : Int32) (μ : Mem) : ∀ (r : Int64) (μ' : Mem), LX12_wholeAt l0 l1 l2 μ = some (r, μ') → CtD yX12_wholeAt cX12_wholeAt 4 (some .long) 1 [.ref l0, .int l1, .int l2] μ (encL r) μ' := by
  refine ct_enterD plX12 (Nat.le_of_ble_eq_true rfl) (fun F hF hD hI => ?_)
  unfold LX12_wholeAt
  refine sim_gd (fun f0 => ?_)
  refine s_aload_n hF dX12_wholeAt_0 rfl 0 rfl ?_
  refine sim_gd (fun g1 => ?_)
  refine s_getR (x := (g_R μ l0 29)) hF dX12_wholeAt_1 flX12_67 f0 g1 rfl ?_
  refine s_sipush (v := (227 : Int32)) hF dX12_wholeAt_4 kS_227 ?_
  refine s_iload_n hF dX12_wholeAt_7 rfl 1 rfl ?_
  refine s_iload_n hF dX12_wholeAt_8 rfl 2 rfl ?_
  refine s_cSi (st := [.int (227 : Int32), .ref (g_R μ l0 29)]) [.int l1, .int l2] hF hD.dr dX12_wholeAt_9 cwX12_301 (Nat.le_of_ble_eq_true rfl) (Nat.le_of_ble_eq_true rfl) rfl rfl (Nat.le_of_ble_eq_true rfl) (ctX12_placeOf l1 l2 _) (fun r2 m3 hl4 hm5 => ?_)
  refine s_iadd hF dX12_wholeAt_12 ?_
  refine sim_gd (fun g6 => ?_)
  refine s_iaload (x := (g_I m3 (g_R μ l0 29) ((227 : Int32) + r2).toNatClampNeg)) hF dX12_wholeAt_13 g6 rfl ?_
  refine s_istore_n (pls' := [(3, .int (g_I m3 (g_R μ l0 29) ((227 : Int32) + r2).toNatClampNeg)), (0, .ref l0), (1, .int l1), (2, .int l2)]) hF dX12_wholeAt_14 rfl (by decide) rfl ?_
  refine s_iload_n hF dX12_wholeAt_15 rfl 0 rfl ?_
  refine s_iconst (v := (-1 : Int32)) hF dX12_wholeAt_16 kI_m1 ?_
  refine s_icmp_ne (tgt := 24) hF dX12_wholeAt_17 rfl (fun c7 => ?_) (fun c7 => ?_)
  · refine s_lconst (v := (0 : Int64)) hF dX12_wholeAt_20 kL_0 ?_
    refine s_goto (tgt := 56) hF dX12_wholeAt_21 rfl ?_
    exact s_lretD hF hD dX12_wholeAt_56 rfl
  · refine s_aload_n hF dX12_wholeAt_24 rfl 1 rfl ?_
    refine sim_gd (fun g8 => ?_)
    refine s_getR (x := (g_R m3 l0 14)) hF dX12_wholeAt_25 flX12_31 (isK.mo f0 hm5) g8 rfl ?_
    refine s_iload_n hF dX12_wholeAt_28 rfl 2 rfl ?_
    refine sim_gd (fun g9 => ?_)
    refine sim_gd (fun g10 => ?_)
    refine s_aaload (x := (g_R m3 (g_R m3 l0 14) l1.toNatClampNeg)) hF dX12_wholeAt_29 (by decide) (by decide) g9 g10 rfl ?_
    refine s_iconst (v := (0 : Int32)) hF dX12_wholeAt_30 kI_0 ?_
    refine sim_gd (fun g11 => ?_)
    refine s_iaload (x := (g_I m3 (g_R m3 (g_R m3 l0 14) l1.toNatClampNeg) (0 : Int32).toNatClampNeg)) hF dX12_wholeAt_31 g11 rfl ?_
    refine s_aload_n hF dX12_wholeAt_32 rfl 1 rfl ?_
    refine sim_gd (fun g12 => ?_)
    refine s_getR (x := (g_R m3 l0 29)) hF dX12_wholeAt_33 flX12_67 (isK.mo f0 hm5) g12 rfl ?_
    refine s_bipush (v := (35 : Int32)) hF dX12_wholeAt_36 kB_35 ?_
    refine s_iload_n hF dX12_wholeAt_38 rfl 2 rfl ?_
    refine s_iload_n hF dX12_wholeAt_39 rfl 3 rfl ?_
    refine s_cSi (st := [.int (35 : Int32), .ref (g_R m3 l0 29), .int (g_I m3 (g_R m3 (g_R m3 l0 14) l1.toNatClampNeg) (0 : Int32).toNatClampNeg)]) [.int l1, .int l2] hF hD.dr dX12_wholeAt_40 cwX12_301 (Nat.le_of_ble_eq_true rfl) (Nat.le_of_ble_eq_true rfl) rfl rfl (Nat.le_of_ble_eq_true rfl) (ctX12_placeOf l1 l2 _) (fun r13 m14 hl15 hm16 => ?_)
    refine s_iadd hF dX12_wholeAt_43 ?_
    refine sim_gd (fun g17 => ?_)
    refine s_iaload (x := (g_I m14 (g_R m3 l0 29) ((35 : Int32) + r13).toNatClampNeg)) hF dX12_wholeAt_44 g17 rfl ?_
    refine s_iload_n hF dX12_wholeAt_45 rfl 0 rfl ?_
    refine s_bipush (v := (100 : Int32)) hF dX12_wholeAt_46 kB_100 ?_
    refine sim_gd (fun g18 => ?_)
    refine s_idiv hF dX12_wholeAt_48 g18 ?_
    refine s_iload_n hF dX12_wholeAt_49 rfl 0 rfl ?_
    refine s_bipush (v := (100 : Int32)) hF dX12_wholeAt_50 kB_100 ?_
    refine sim_gd (fun g19 => ?_)
    refine s_irem hF dX12_wholeAt_52 g19 ?_
    refine s_cSl (st := []) [.int (g_I m3 (g_R m3 (g_R m3 l0 14) l1.toNatClampNeg) (0 : Int32).toNatClampNeg), .int (g_I m14 (g_R m3 l0 29) ((35 : Int32) + r13).toNatClampNeg), .int ((g_I m3 (g_R μ l0 29) ((227 : Int32) + r2).toNatClampNeg) / (100 : Int32)), .int ((g_I m3 (g_R μ l0 29) ((227 : Int32) + r2).toNatClampNeg) - (g_I m3 (g_R μ l0 29) ((227 : Int32) + r2).toNatClampNeg) / (100 : Int32) * (100 : Int32))] hF hD.dr dX12_wholeAt_53 cwX12_269 (Nat.le_of_ble_eq_true rfl) (Nat.le_of_ble_eq_true rfl) rfl rfl (Nat.le_of_ble_eq_true rfl) (ctX12_whole (g_I m3 (g_R m3 (g_R m3 l0 14) l1.toNatClampNeg) (0 : Int32).toNatClampNeg) (g_I m14 (g_R m3 l0 29) ((35 : Int32) + r13).toNatClampNeg) ((g_I m3 (g_R μ l0 29) ((227 : Int32) + r2).toNatClampNeg) / (100 : Int32)) ((g_I m3 (g_R μ l0 29) ((227 : Int32) + r2).toNatClampNeg) - (g_I m3 (g_R μ l0 29) ((227 : Int32) + r2).toNatClampNeg) / (100 : Int32) * (100 : Int32)) _) (fun r20 m21 hl22 hm23 => ?_)
    exact s_lretD hF hD dX12_wholeAt_56 rfl
theorem ctX12_isNumber  (l0 : UInt64) (μ : Mem) : ∀ (r : Int32) (μ' : Mem), LX12_isNumber l0 μ = some (r, μ') → CtD yX12_isNumber cX12_isNumber 2 (some .boolean) 0 [.double l0] μ (encI r) μ' := by
  refine ct_enterD plX12 (Nat.le_of_ble_eq_true rfl) (fun F hF hD hI => ?_)
  unfold LX12_isNumber
  refine s_dload_n hF dX12_isNumber_0 rfl 0 rfl ?_
  refine s_dload_n hF dX12_isNumber_1 rfl 0 rfl ?_
  refine s_dcmpA hF dX12_isNumber_2 (al64 _) (al64 _) ?_
  refine s_if_ne (tgt := 10) hF dX12_isNumber_3 rfl (fun c1 => ?_) (fun c1 => ?_)
  · refine s_iconst (v := (1 : Int32)) hF dX12_isNumber_6 kI_1 ?_
    refine s_goto (tgt := 11) hF dX12_isNumber_7 rfl ?_
    exact s_zretD hF hD dX12_isNumber_11 rfl rfl
  · refine s_iconst (v := (0 : Int32)) hF dX12_isNumber_10 kI_0 ?_
    exact s_zretD hF hD dX12_isNumber_11 rfl rfl
theorem ctX12_isEndless  (l0 : UInt64) (μ : Mem) : ∀ (r : Int32) (μ' : Mem), LX12_isEndless l0 μ = some (r, μ') → CtD yX12_isEndless cX12_isEndless 2 (some .boolean) 1 [.double l0] μ (encI r) μ' := by
  refine ct_enterD plX12 (Nat.le_of_ble_eq_true rfl) (fun F hF hD hI => ?_)
  unfold LX12_isEndless
  refine s_dload_n hF dX12_isEndless_0 rfl 0 rfl ?_
  refine s_cSi (st := []) [.double l0] hF hD.dr dX12_isEndless_1 cwX12_363 (Nat.le_of_ble_eq_true rfl) (Nat.le_of_ble_eq_true rfl) rfl rfl (Nat.le_of_ble_eq_true rfl) (ctX12_isNumber l0 _) (fun r1 m2 hl3 hm4 => ?_)
  refine s_if_eq (tgt := 20) hF dX12_isEndless_4 rfl (fun c5 => ?_) (fun c5 => ?_)
  · refine s_iconst (v := (0 : Int32)) hF dX12_isEndless_20 kI_0 ?_
    exact s_zretD hF hD dX12_isEndless_21 rfl rfl
  · refine s_dload_n hF dX12_isEndless_7 rfl 0 rfl ?_
    refine s_dload_n hF dX12_isEndless_8 rfl 0 rfl ?_
    refine s_dsubA hF hD dX12_isEndless_9 (fun z7 ha6 => ?_)
    refine s_cSi (st := []) [.double z7] hF hD.dr dX12_isEndless_10 cwX12_363 (Nat.le_of_ble_eq_true rfl) (Nat.le_of_ble_eq_true rfl) rfl rfl (Nat.le_of_ble_eq_true rfl) (fun r9 m9 h9 => ctX12_isNumber z7 _ r9 m9 ((LX12_isNumber_al (al_dsub (al64 _) (al64 _) ha6) _).symm.trans h9)) (fun r8 m9 hl10 hm11 => ?_)
    refine s_if_ne (tgt := 20) hF dX12_isEndless_13 rfl (fun c12 => ?_) (fun c12 => ?_)
    · refine s_iconst (v := (1 : Int32)) hF dX12_isEndless_16 kI_1 ?_
      refine s_goto (tgt := 21) hF dX12_isEndless_17 rfl ?_
      exact s_zretD hF hD dX12_isEndless_21 rfl rfl
    · refine s_iconst (v := (0 : Int32)) hF dX12_isEndless_20 kI_0 ?_
      exact s_zretD hF hD dX12_isEndless_21 rfl rfl
theorem sX12_strange_57 {F : Option Fx} (hF : FxO F RX12 cX12_strange 5 2) (hD : FxDO F (some .int)) : ∀ (fu : Nat) (l0 : Nat) (l1 : Int32) (l2 : Int32) (l3 : Int32) (l4 : Int32) (μ : Mem) (f0 : isK μ l0 12 = true), Sim F encI 57 [(0, .ref l0), (1, .int l1), (2, .int l2), (3, .int l3), (4, .int l4)] [] μ (mX12_strange_57 fu l0 l1 l2 l3 l4 μ) := by
  intro fu
  induction fu with
  | zero =>
    intro l0 l1 l2 l3 l4 μ f0
    exact sim_none
  | succ fu ih =>
    intro l0 l1 l2 l3 l4 μ f0
    rw [mX12_strange_57]
    refine s_iload hF dX12_strange_57 4 rfl ?_
    refine s_aload_n hF dX12_strange_59 rfl 0 rfl ?_
    refine sim_gd (fun g23 => ?_)
    refine s_getR (x := (g_R μ l0 29)) hF dX12_strange_60 flX12_67 f0 g23 rfl ?_
    refine s_bipush (v := (24 : Int32)) hF dX12_strange_63 kB_24 ?_
    refine s_iload_n hF dX12_strange_65 rfl 1 rfl ?_
    refine s_iadd hF dX12_strange_66 ?_
    refine sim_gd (fun g24 => ?_)
    refine s_iaload (x := (g_I μ (g_R μ l0 29) ((24 : Int32) + l1).toNatClampNeg)) hF dX12_strange_67 g24 rfl ?_
    refine s_icmp_ge (tgt := 137) hF dX12_strange_68 rfl (fun c25 => ?_) (fun c25 => ?_)
    · refine s_iload_n hF dX12_strange_137 rfl 3 rfl ?_
      exact s_iretD hF hD dX12_strange_138 rfl
    · refine s_aload_n hF dX12_strange_71 rfl 0 rfl ?_
      refine sim_gd (fun g26 => ?_)
      refine s_getR (x := (g_R μ l0 14)) hF dX12_strange_72 flX12_31 f0 g26 rfl ?_
      refine s_iload_n hF dX12_strange_75 rfl 1 rfl ?_
      refine sim_gd (fun g27 => ?_)
      refine sim_gd (fun g28 => ?_)
      refine s_aaload (x := (g_R μ (g_R μ l0 14) l1.toNatClampNeg)) hF dX12_strange_76 (by decide) (by decide) g27 g28 rfl ?_
      refine s_iconst (v := (0 : Int32)) hF dX12_strange_77 kI_0 ?_
      refine sim_gd (fun g29 => ?_)
      refine s_iaload (x := (g_I μ (g_R μ (g_R μ l0 14) l1.toNatClampNeg) (0 : Int32).toNatClampNeg)) hF dX12_strange_78 g29 rfl ?_
      refine s_cSi (st := []) [.int (g_I μ (g_R μ (g_R μ l0 14) l1.toNatClampNeg) (0 : Int32).toNatClampNeg)] hF hD.dr dX12_strange_79 cwX12_262 (Nat.le_of_ble_eq_true rfl) (Nat.le_of_ble_eq_true rfl) rfl rfl (Nat.le_of_ble_eq_true rfl) (ctX12_isReal (g_I μ (g_R μ (g_R μ l0 14) l1.toNatClampNeg) (0 : Int32).toNatClampNeg) _) (fun r30 m31 hl32 hm33 => ?_)
      refine s_if_eq (tgt := 137) hF dX12_strange_82 rfl (fun c34 => ?_) (fun c34 => ?_)
      · refine s_iload_n hF dX12_strange_137 rfl 3 rfl ?_
        exact s_iretD hF hD dX12_strange_138 rfl
      · refine s_iload_n hF dX12_strange_85 rfl 3 rfl ?_
        refine s_iload_n hF dX12_strange_86 rfl 2 rfl ?_
        refine s_if_ne (tgt := 111) hF dX12_strange_87 rfl (fun c35 => ?_) (fun c35 => ?_)
        · refine s_aload_n hF dX12_strange_90 rfl 0 rfl ?_
          refine s_iload_n hF dX12_strange_91 rfl 1 rfl ?_
          refine s_iload hF dX12_strange_92 4 rfl ?_
          refine s_cVd (st := [.int l3]) (ci := 12) [.int l1, .int l4] hF hD.dr dX12_strange_94 cwX12_367 (Nat.le_of_ble_eq_true rfl) (Nat.le_of_ble_eq_true rfl) rfl rfl (Nat.le_of_ble_eq_true rfl) (isK.mo f0 hm33) rfl rfl (Nat.le_of_ble_eq_true rfl) (ctX12_realAt l0 l1 l4 _) (fun r36 m37 y40 hl38 hm39 ha41 => ?_)
          refine s_cSi (st := [.int l3]) [.double y40] hF hD.dr dX12_strange_97 cwX12_363 (Nat.le_of_ble_eq_true rfl) (Nat.le_of_ble_eq_true rfl) rfl rfl (Nat.le_of_ble_eq_true rfl) (fun r9 m9 h9 => ctX12_isNumber y40 _ r9 m9 ((LX12_isNumber_al ha41 _).symm.trans h9)) (fun r42 m43 hl44 hm45 => ?_)
          refine s_if_eq (tgt := 107) hF dX12_strange_100 rfl (fun c46 => ?_) (fun c46 => ?_)
          · refine s_iconst (v := (1 : Int32)) hF dX12_strange_107 kI_1 ?_
            refine s_goto (tgt := 129) hF dX12_strange_108 rfl ?_
            refine s_iadd hF dX12_strange_129 ?_
            refine s_istore_n (pls' := [(3, .int (l3 + (1 : Int32))), (0, .ref l0), (1, .int l1), (2, .int l2), (4, .int l4)]) hF dX12_strange_130 rfl (by decide) rfl ?_
            refine s_iinc (v := (l4 + (1 : Int32))) (pls' := [(4, .int (l4 + (1 : Int32))), (3, .int (l3 + (1 : Int32))), (0, .ref l0), (1, .int l1), (2, .int l2)]) hF dX12_strange_131 4 rfl rfl (by decide) rfl ?_
            refine s_goto (tgt := 57) hF dX12_strange_134 rfl ?_
            refine s_sub [2, 3, 4, 1, 0] rfl ?_
            exact ih l0 l1 l2 (l3 + (1 : Int32)) (l4 + (1 : Int32)) _ (isK.mo (isK.mo (isK.mo f0 hm33) hm39) hm45)
          · refine s_iconst (v := (0 : Int32)) hF dX12_strange_103 kI_0 ?_
            refine s_goto (tgt := 129) hF dX12_strange_104 rfl ?_
            refine s_iadd hF dX12_strange_129 ?_
            refine s_istore_n (pls' := [(3, .int (l3 + (0 : Int32))), (0, .ref l0), (1, .int l1), (2, .int l2), (4, .int l4)]) hF dX12_strange_130 rfl (by decide) rfl ?_
            refine s_iinc (v := (l4 + (1 : Int32))) (pls' := [(4, .int (l4 + (1 : Int32))), (3, .int (l3 + (0 : Int32))), (0, .ref l0), (1, .int l1), (2, .int l2)]) hF dX12_strange_131 4 rfl rfl (by decide) rfl ?_
            refine s_goto (tgt := 57) hF dX12_strange_134 rfl ?_
            refine s_sub [2, 3, 4, 1, 0] rfl ?_
            exact ih l0 l1 l2 (l3 + (0 : Int32)) (l4 + (1 : Int32)) _ (isK.mo (isK.mo (isK.mo f0 hm33) hm39) hm45)
        · refine s_aload_n hF dX12_strange_111 rfl 0 rfl ?_
          refine s_iload_n hF dX12_strange_112 rfl 1 rfl ?_
          refine s_iload hF dX12_strange_113 4 rfl ?_
          refine s_cVd (st := [.int l3]) (ci := 12) [.int l1, .int l4] hF hD.dr dX12_strange_115 cwX12_367 (Nat.le_of_ble_eq_true rfl) (Nat.le_of_ble_eq_true rfl) rfl rfl (Nat.le_of_ble_eq_true rfl) (isK.mo f0 hm33) rfl rfl (Nat.le_of_ble_eq_true rfl) (ctX12_realAt l0 l1 l4 _) (fun r47 m48 y51 hl49 hm50 ha52 => ?_)
          refine s_cSi (st := [.int l3]) [.double y51] hF hD.dr dX12_strange_118 cwX12_371 (Nat.le_of_ble_eq_true rfl) (Nat.le_of_ble_eq_true rfl) rfl rfl (Nat.le_of_ble_eq_true rfl) (fun r9 m9 h9 => ctX12_isEndless y51 _ r9 m9 ((LX12_isEndless_al ha52 _).symm.trans h9)) (fun r53 m54 hl55 hm56 => ?_)
          refine s_if_eq (tgt := 128) hF dX12_strange_121 rfl (fun c57 => ?_) (fun c57 => ?_)
          · refine s_iconst (v := (0 : Int32)) hF dX12_strange_128 kI_0 ?_
            refine s_iadd hF dX12_strange_129 ?_
            refine s_istore_n (pls' := [(3, .int (l3 + (0 : Int32))), (0, .ref l0), (1, .int l1), (2, .int l2), (4, .int l4)]) hF dX12_strange_130 rfl (by decide) rfl ?_
            refine s_iinc (v := (l4 + (1 : Int32))) (pls' := [(4, .int (l4 + (1 : Int32))), (3, .int (l3 + (0 : Int32))), (0, .ref l0), (1, .int l1), (2, .int l2)]) hF dX12_strange_131 4 rfl rfl (by decide) rfl ?_
            refine s_goto (tgt := 57) hF dX12_strange_134 rfl ?_
            refine s_sub [2, 3, 4, 1, 0] rfl ?_
            exact ih l0 l1 l2 (l3 + (0 : Int32)) (l4 + (1 : Int32)) _ (isK.mo (isK.mo (isK.mo f0 hm33) hm50) hm56)
          · refine s_iconst (v := (1 : Int32)) hF dX12_strange_124 kI_1 ?_
            refine s_goto (tgt := 129) hF dX12_strange_125 rfl ?_
            refine s_iadd hF dX12_strange_129 ?_
            refine s_istore_n (pls' := [(3, .int (l3 + (1 : Int32))), (0, .ref l0), (1, .int l1), (2, .int l2), (4, .int l4)]) hF dX12_strange_130 rfl (by decide) rfl ?_
            refine s_iinc (v := (l4 + (1 : Int32))) (pls' := [(4, .int (l4 + (1 : Int32))), (3, .int (l3 + (1 : Int32))), (0, .ref l0), (1, .int l1), (2, .int l2)]) hF dX12_strange_131 4 rfl rfl (by decide) rfl ?_
            refine s_goto (tgt := 57) hF dX12_strange_134 rfl ?_
            refine s_sub [2, 3, 4, 1, 0] rfl ?_
            exact ih l0 l1 l2 (l3 + (1 : Int32)) (l4 + (1 : Int32)) _ (isK.mo (isK.mo (isK.mo f0 hm33) hm50) hm56)
theorem sX12_strange_42 {F : Option Fx} (hF : FxO F RX12 cX12_strange 5 2) (hD : FxDO F (some .int)) (l0 : Nat) (l1 : Int32) (l2 : Int32) (k0 : Int32) (k1 : Nat) (μ : Mem) (f0 : isK μ l0 12 = true) : Sim F encI 42 [(0, .ref l0), (1, .int l1), (2, .int l2)] [.int k0, .ref k1] μ (mX12_strange_42 l0 l1 l2 k0 k1 μ) := by
  unfold mX12_strange_42
  refine s_iconst (v := (2 : Int32)) hF dX12_strange_42 kI_2 ?_
  refine s_iconst (v := (1 : Int32)) hF dX12_strange_43 kI_1 ?_
  refine sim_gd (fun g21 => ?_)
  refine s_cVi (st := []) (ci := 12) [.int k0, .int (2 : Int32), .int (1 : Int32)] hF hD.dr dX12_strange_44 cwX12_167 (Nat.le_of_ble_eq_true rfl) (Nat.le_of_ble_eq_true rfl) rfl rfl (Nat.le_of_ble_eq_true rfl) g21 rfl rfl (Nat.le_of_ble_eq_true rfl) (ctX12_bad k1 k0 (2 : Int32) (1 : Int32) _) (fun r17 m18 hl19 hm20 => ?_)
  refine s_if_eq (tgt := 52) hF dX12_strange_47 rfl (fun c22 => ?_) (fun c22 => ?_)
  · refine s_iconst (v := (0 : Int32)) hF dX12_strange_52 kI_0 ?_
    refine s_istore_n (pls' := [(3, .int (0 : Int32)), (0, .ref l0), (1, .int l1), (2, .int l2)]) hF dX12_strange_53 rfl (by decide) rfl ?_
    refine s_iconst (v := (0 : Int32)) hF dX12_strange_54 kI_0 ?_
    refine s_istore (pls' := [(4, .int (0 : Int32)), (3, .int (0 : Int32)), (0, .ref l0), (1, .int l1), (2, .int l2)]) hF dX12_strange_55 (by decide) rfl ?_
    refine s_sub [2, 3, 4, 1, 0] rfl ?_
    exact sX12_strange_57 hF hD 100000 l0 l1 l2 (0 : Int32) (0 : Int32) _ (isK.mo f0 hm20)
  · refine s_iconst (v := (0 : Int32)) hF dX12_strange_50 kI_0 ?_
    exact s_iretD hF hD dX12_strange_51 rfl
theorem sX12_strange_19 {F : Option Fx} (hF : FxO F RX12 cX12_strange 5 2) (hD : FxDO F (some .int)) (l0 : Nat) (l1 : Int32) (l2 : Int32) (k0 : Int32) (k1 : Nat) (μ : Mem) (f0 : isK μ l0 12 = true) : Sim F encI 19 [(0, .ref l0), (1, .int l1), (2, .int l2)] [.int k0, .ref k1] μ (mX12_strange_19 l0 l1 l2 k0 k1 μ) := by
  unfold mX12_strange_19
  refine s_iconst (v := (1 : Int32)) hF dX12_strange_19 kI_1 ?_
  refine s_iconst (v := (0 : Int32)) hF dX12_strange_20 kI_0 ?_
  refine sim_gd (fun g10 => ?_)
  refine s_cVi (st := []) (ci := 12) [.int k0, .int (1 : Int32), .int (0 : Int32)] hF hD.dr dX12_strange_21 cwX12_167 (Nat.le_of_ble_eq_true rfl) (Nat.le_of_ble_eq_true rfl) rfl rfl (Nat.le_of_ble_eq_true rfl) g10 rfl rfl (Nat.le_of_ble_eq_true rfl) (ctX12_bad k1 k0 (1 : Int32) (0 : Int32) _) (fun r6 m7 hl8 hm9 => ?_)
  refine s_if_ne (tgt := 50) hF dX12_strange_24 rfl (fun c11 => ?_) (fun c11 => ?_)
  · refine s_aload_n hF dX12_strange_27 rfl 0 rfl ?_
    refine s_iload_n hF dX12_strange_28 rfl 2 rfl ?_
    refine s_iconst (v := (0 : Int32)) hF dX12_strange_29 kI_0 ?_
    refine s_iconst (v := (1 : Int32)) hF dX12_strange_30 kI_1 ?_
    refine s_cSi (st := [.ref l0]) [.int l2, .int (0 : Int32), .int (1 : Int32)] hF hD.dr dX12_strange_31 cwX12_128 (Nat.le_of_ble_eq_true rfl) (Nat.le_of_ble_eq_true rfl) rfl rfl (Nat.le_of_ble_eq_true rfl) (ctX12_in l2 (0 : Int32) (1 : Int32) _) (fun r12 m13 hl14 hm15 => ?_)
    refine s_if_ne (tgt := 41) hF dX12_strange_34 rfl (fun c16 => ?_) (fun c16 => ?_)
    · refine s_iconst (v := (1 : Int32)) hF dX12_strange_37 kI_1 ?_
      refine s_goto (tgt := 42) hF dX12_strange_38 rfl ?_
      exact sX12_strange_42 hF hD l0 l1 l2 (1 : Int32) l0 _ (isK.mo (isK.mo f0 hm9) hm15)
    · refine s_iconst (v := (0 : Int32)) hF dX12_strange_41 kI_0 ?_
      exact sX12_strange_42 hF hD l0 l1 l2 (0 : Int32) l0 _ (isK.mo (isK.mo f0 hm9) hm15)
  · refine s_iconst (v := (0 : Int32)) hF dX12_strange_50 kI_0 ?_
    exact s_iretD hF hD dX12_strange_51 rfl
theorem ctX12_strange  (l0 : Nat) (l1 : Int32) (l2 : Int32) (μ : Mem) : ∀ (r : Int32) (μ' : Mem), LX12_strange l0 l1 l2 μ = some (r, μ') → CtD yX12_strange cX12_strange 5 (some .int) 2 [.ref l0, .int l1, .int l2] μ (encI r) μ' := by
  refine ct_enterD plX12 (Nat.le_of_ble_eq_true rfl) (fun F hF hD hI => ?_)
  unfold LX12_strange
  refine sim_gd (fun f0 => ?_)
  refine s_aload_n hF dX12_strange_0 rfl 0 rfl ?_
  refine s_iconst (v := (0 : Int32)) hF dX12_strange_1 kI_0 ?_
  refine s_putI hF dX12_strange_2 flX12_94 f0 ?_
  refine s_aload_n hF dX12_strange_5 rfl 0 rfl ?_
  refine s_aload_n hF dX12_strange_6 rfl 0 rfl ?_
  refine s_iload_n hF dX12_strange_7 rfl 1 rfl ?_
  refine s_cVi (st := [.ref l0]) (ci := 12) [.int l1] hF hD.dr dX12_strange_8 cwX12_355 (Nat.le_of_ble_eq_true rfl) (Nat.le_of_ble_eq_true rfl) rfl rfl (Nat.le_of_ble_eq_true rfl) f0 rfl rfl (Nat.le_of_ble_eq_true rfl) (ctX12_isPen l0 l1 _) (fun r1 m2 hl3 hm4 => ?_)
  refine s_if_ne (tgt := 18) hF dX12_strange_11 rfl (fun c5 => ?_) (fun c5 => ?_)
  · refine s_iconst (v := (1 : Int32)) hF dX12_strange_14 kI_1 ?_
    refine s_goto (tgt := 19) hF dX12_strange_15 rfl ?_
    exact sX12_strange_19 hF hD l0 l1 l2 (1 : Int32) l0 _ (isK.mo f0 hm4)
  · refine s_iconst (v := (0 : Int32)) hF dX12_strange_18 kI_0 ?_
    exact sX12_strange_19 hF hD l0 l1 l2 (0 : Int32) l0 _ (isK.mo f0 hm4)
theorem ctX12_isMore  (l0 : Nat) (l1 : Int32) (l2 : Int32) (l3 : Int32) (μ : Mem) : ∀ (r : Int32) (μ' : Mem), LX12_isMore l0 l1 l2 l3 μ = some (r, μ') → CtD yX12_isMore cX12_isMore 4 (some .boolean) 2 [.ref l0, .int l1, .int l2, .int l3] μ (encI r) μ' := by
  refine ct_enterD plX12 (Nat.le_of_ble_eq_true rfl) (fun F hF hD hI => ?_)
  unfold LX12_isMore
  refine sim_gd (fun f0 => ?_)
  refine s_aload_n hF dX12_isMore_0 rfl 0 rfl ?_
  refine sim_gd (fun g1 => ?_)
  refine s_getR (x := (g_R μ l0 14)) hF dX12_isMore_1 flX12_31 f0 g1 rfl ?_
  refine s_iload_n hF dX12_isMore_4 rfl 1 rfl ?_
  refine sim_gd (fun g2 => ?_)
  refine sim_gd (fun g3 => ?_)
  refine s_aaload (x := (g_R μ (g_R μ l0 14) l1.toNatClampNeg)) hF dX12_isMore_5 (by decide) (by decide) g2 g3 rfl ?_
  refine s_iconst (v := (0 : Int32)) hF dX12_isMore_6 kI_0 ?_
  refine sim_gd (fun g4 => ?_)
  refine s_iaload (x := (g_I μ (g_R μ (g_R μ l0 14) l1.toNatClampNeg) (0 : Int32).toNatClampNeg)) hF dX12_isMore_7 g4 rfl ?_
  refine s_cSi (st := []) [.int (g_I μ (g_R μ (g_R μ l0 14) l1.toNatClampNeg) (0 : Int32).toNatClampNeg)] hF hD.dr dX12_isMore_8 cwX12_262 (Nat.le_of_ble_eq_true rfl) (Nat.le_of_ble_eq_true rfl) rfl rfl (Nat.le_of_ble_eq_true rfl) (ctX12_isReal (g_I μ (g_R μ (g_R μ l0 14) l1.toNatClampNeg) (0 : Int32).toNatClampNeg) _) (fun r5 m6 hl7 hm8 => ?_)
  refine s_if_eq (tgt := 38) hF dX12_isMore_11 rfl (fun c9 => ?_) (fun c9 => ?_)
  · refine s_aload_n hF dX12_isMore_38 rfl 0 rfl ?_
    refine s_iload_n hF dX12_isMore_39 rfl 1 rfl ?_
    refine s_iload_n hF dX12_isMore_40 rfl 2 rfl ?_
    refine s_cVl (st := []) (ci := 12) [.int l1, .int l2] hF hD.dr dX12_isMore_41 cwX12_374 (Nat.le_of_ble_eq_true rfl) (Nat.le_of_ble_eq_true rfl) rfl rfl (Nat.le_of_ble_eq_true rfl) (isK.mo f0 hm8) rfl rfl (Nat.le_of_ble_eq_true rfl) (ctX12_wholeAt l0 l1 l2 _) (fun r10 m11 hl12 hm13 => ?_)
    refine s_aload_n hF dX12_isMore_44 rfl 0 rfl ?_
    refine s_iload_n hF dX12_isMore_45 rfl 1 rfl ?_
    refine s_iload_n hF dX12_isMore_46 rfl 3 rfl ?_
    refine s_cVl (st := [.long r10]) (ci := 12) [.int l1, .int l3] hF hD.dr dX12_isMore_47 cwX12_374 (Nat.le_of_ble_eq_true rfl) (Nat.le_of_ble_eq_true rfl) rfl rfl (Nat.le_of_ble_eq_true rfl) (isK.mo (isK.mo f0 hm8) hm13) rfl rfl (Nat.le_of_ble_eq_true rfl) (ctX12_wholeAt l0 l1 l3 _) (fun r14 m15 hl16 hm17 => ?_)
    refine s_lcmp hF dX12_isMore_50 ?_
    refine s_if_le (tgt := 58) hF dX12_isMore_51 rfl (fun c18 => ?_) (fun c18 => ?_)
    · refine s_iconst (v := (0 : Int32)) hF dX12_isMore_58 kI_0 ?_
      exact s_zretD hF hD dX12_isMore_59 rfl rfl
    · refine s_iconst (v := (1 : Int32)) hF dX12_isMore_54 kI_1 ?_
      refine s_goto (tgt := 59) hF dX12_isMore_55 rfl ?_
      exact s_zretD hF hD dX12_isMore_59 rfl rfl
  · refine s_aload_n hF dX12_isMore_14 rfl 0 rfl ?_
    refine s_iload_n hF dX12_isMore_15 rfl 1 rfl ?_
    refine s_iload_n hF dX12_isMore_16 rfl 2 rfl ?_
    refine s_cVd (st := []) (ci := 12) [.int l1, .int l2] hF hD.dr dX12_isMore_17 cwX12_367 (Nat.le_of_ble_eq_true rfl) (Nat.le_of_ble_eq_true rfl) rfl rfl (Nat.le_of_ble_eq_true rfl) (isK.mo f0 hm8) rfl rfl (Nat.le_of_ble_eq_true rfl) (ctX12_realAt l0 l1 l2 _) (fun r19 m20 y23 hl21 hm22 ha24 => ?_)
    refine s_aload_n hF dX12_isMore_20 rfl 0 rfl ?_
    refine s_iload_n hF dX12_isMore_21 rfl 1 rfl ?_
    refine s_iload_n hF dX12_isMore_22 rfl 3 rfl ?_
    refine s_cVd (st := [.double y23]) (ci := 12) [.int l1, .int l3] hF hD.dr dX12_isMore_23 cwX12_367 (Nat.le_of_ble_eq_true rfl) (Nat.le_of_ble_eq_true rfl) rfl rfl (Nat.le_of_ble_eq_true rfl) (isK.mo (isK.mo f0 hm8) hm22) rfl rfl (Nat.le_of_ble_eq_true rfl) (ctX12_realAt l0 l1 l3 _) (fun r25 m26 y29 hl27 hm28 ha30 => ?_)
    refine s_dcmpA hF dX12_isMore_26 ha24 ha30 ?_
    refine s_if_le (tgt := 34) hF dX12_isMore_27 rfl (fun c31 => ?_) (fun c31 => ?_)
    · refine s_iconst (v := (0 : Int32)) hF dX12_isMore_34 kI_0 ?_
      refine s_goto (tgt := 59) hF dX12_isMore_35 rfl ?_
      exact s_zretD hF hD dX12_isMore_59 rfl rfl
    · refine s_iconst (v := (1 : Int32)) hF dX12_isMore_30 kI_1 ?_
      refine s_goto (tgt := 59) hF dX12_isMore_31 rfl ?_
      exact s_zretD hF hD dX12_isMore_59 rfl rfl
theorem sX12_extreme_101 {F : Option Fx} (q57 : Nat → Int32 → Int32 → Int32 → Int32 → Mem → Option (Int32 × Mem)) (hF : FxO F RX12 cX12_extreme 5 3) (hD : FxDO F (some .int)) (hq57 : ∀ (l0 : Nat) (l1 : Int32) (l2 : Int32) (l3 : Int32) (l4 : Int32) (μ : Mem) (_ : isK μ l0 12 = true), Sim F encI 57 [(0, .ref l0), (1, .int l1), (2, .int l2), (3, .int l3), (4, .int l4)] [] μ (q57 l0 l1 l2 l3 l4 μ)) (l0 : Nat) (l1 : Int32) (l2 : Int32) (l3 : Int32) (l4 : Int32) (μ : Mem) (f0 : isK μ l0 12 = true) : Sim F encI 101 [(0, .ref l0), (1, .int l1), (2, .int l2), (3, .int l3), (4, .int l4)] [] μ (mX12_extreme_101 q57 l0 l1 l2 l3 l4 μ) := by
  unfold mX12_extreme_101
  refine s_iload_n hF dX12_extreme_101 rfl 3 rfl ?_
  refine s_iconst (v := (-1 : Int32)) hF dX12_extreme_102 kI_m1 ?_
  refine s_icmp_eq (tgt := 135) hF dX12_extreme_103 rfl (fun c46 => ?_) (fun c46 => ?_)
  · refine s_iload hF dX12_extreme_135 4 rfl ?_
    refine s_goto (tgt := 141) hF dX12_extreme_137 rfl ?_
    refine s_istore_n (pls' := [(3, .int l4), (0, .ref l0), (1, .int l1), (2, .int l2), (4, .int l4)]) hF dX12_extreme_141 rfl (by decide) rfl ?_
    refine s_iinc (v := (l4 + (1 : Int32))) (pls' := [(4, .int (l4 + (1 : Int32))), (3, .int l4), (0, .ref l0), (1, .int l1), (2, .int l2)]) hF dX12_extreme_142 4 rfl rfl (by decide) rfl ?_
    refine s_goto (tgt := 57) hF dX12_extreme_145 rfl ?_
    refine s_sub [2, 3, 4, 1, 0] rfl ?_
    exact hq57 l0 l1 l2 l4 (l4 + (1 : Int32)) _ f0
  · refine s_iload_n hF dX12_extreme_106 rfl 2 rfl ?_
    refine s_if_ne (tgt := 124) hF dX12_extreme_107 rfl (fun c47 => ?_) (fun c47 => ?_)
    · refine s_aload_n hF dX12_extreme_110 rfl 0 rfl ?_
      refine s_iload_n hF dX12_extreme_111 rfl 1 rfl ?_
      refine s_iload hF dX12_extreme_112 4 rfl ?_
      refine s_iload_n hF dX12_extreme_114 rfl 3 rfl ?_
      refine s_cVi (st := []) (ci := 12) [.int l1, .int l4, .int l3] hF hD.dr dX12_extreme_115 cwX12_378 (Nat.le_of_ble_eq_true rfl) (Nat.le_of_ble_eq_true rfl) rfl rfl (Nat.le_of_ble_eq_true rfl) f0 rfl rfl (Nat.le_of_ble_eq_true rfl) (ctX12_isMore l0 l1 l4 l3 _) (fun r48 m49 hl50 hm51 => ?_)
      refine s_if_eq (tgt := 140) hF dX12_extreme_118 rfl (fun c52 => ?_) (fun c52 => ?_)
      · refine s_iload_n hF dX12_extreme_140 rfl 3 rfl ?_
        refine s_istore_n (pls' := [(3, .int l3), (0, .ref l0), (1, .int l1), (2, .int l2), (4, .int l4)]) hF dX12_extreme_141 rfl (by decide) rfl ?_
        refine s_iinc (v := (l4 + (1 : Int32))) (pls' := [(4, .int (l4 + (1 : Int32))), (3, .int l3), (0, .ref l0), (1, .int l1), (2, .int l2)]) hF dX12_extreme_142 4 rfl rfl (by decide) rfl ?_
        refine s_goto (tgt := 57) hF dX12_extreme_145 rfl ?_
        refine s_sub [2, 3, 4, 1, 0] rfl ?_
        exact hq57 l0 l1 l2 l3 (l4 + (1 : Int32)) _ (isK.mo f0 hm51)
      · refine s_goto (tgt := 135) hF dX12_extreme_121 rfl ?_
        refine s_iload hF dX12_extreme_135 4 rfl ?_
        refine s_goto (tgt := 141) hF dX12_extreme_137 rfl ?_
        refine s_istore_n (pls' := [(3, .int l4), (0, .ref l0), (1, .int l1), (2, .int l2), (4, .int l4)]) hF dX12_extreme_141 rfl (by decide) rfl ?_
        refine s_iinc (v := (l4 + (1 : Int32))) (pls' := [(4, .int (l4 + (1 : Int32))), (3, .int l4), (0, .ref l0), (1, .int l1), (2, .int l2)]) hF dX12_extreme_142 4 rfl rfl (by decide) rfl ?_
        refine s_goto (tgt := 57) hF dX12_extreme_145 rfl ?_
        refine s_sub [2, 3, 4, 1, 0] rfl ?_
        exact hq57 l0 l1 l2 l4 (l4 + (1 : Int32)) _ (isK.mo f0 hm51)
    · refine s_aload_n hF dX12_extreme_124 rfl 0 rfl ?_
      refine s_iload_n hF dX12_extreme_125 rfl 1 rfl ?_
      refine s_iload_n hF dX12_extreme_126 rfl 3 rfl ?_
      refine s_iload hF dX12_extreme_127 4 rfl ?_
      refine s_cVi (st := []) (ci := 12) [.int l1, .int l3, .int l4] hF hD.dr dX12_extreme_129 cwX12_378 (Nat.le_of_ble_eq_true rfl) (Nat.le_of_ble_eq_true rfl) rfl rfl (Nat.le_of_ble_eq_true rfl) f0 rfl rfl (Nat.le_of_ble_eq_true rfl) (ctX12_isMore l0 l1 l3 l4 _) (fun r53 m54 hl55 hm56 => ?_)
      refine s_if_eq (tgt := 140) hF dX12_extreme_132 rfl (fun c57 => ?_) (fun c57 => ?_)
      · refine s_iload_n hF dX12_extreme_140 rfl 3 rfl ?_
        refine s_istore_n (pls' := [(3, .int l3), (0, .ref l0), (1, .int l1), (2, .int l2), (4, .int l4)]) hF dX12_extreme_141 rfl (by decide) rfl ?_
        refine s_iinc (v := (l4 + (1 : Int32))) (pls' := [(4, .int (l4 + (1 : Int32))), (3, .int l3), (0, .ref l0), (1, .int l1), (2, .int l2)]) hF dX12_extreme_142 4 rfl rfl (by decide) rfl ?_
        refine s_goto (tgt := 57) hF dX12_extreme_145 rfl ?_
        refine s_sub [2, 3, 4, 1, 0] rfl ?_
        exact hq57 l0 l1 l2 l3 (l4 + (1 : Int32)) _ (isK.mo f0 hm56)
      · refine s_iload hF dX12_extreme_135 4 rfl ?_
        refine s_goto (tgt := 141) hF dX12_extreme_137 rfl ?_
        refine s_istore_n (pls' := [(3, .int l4), (0, .ref l0), (1, .int l1), (2, .int l2), (4, .int l4)]) hF dX12_extreme_141 rfl (by decide) rfl ?_
        refine s_iinc (v := (l4 + (1 : Int32))) (pls' := [(4, .int (l4 + (1 : Int32))), (3, .int l4), (0, .ref l0), (1, .int l1), (2, .int l2)]) hF dX12_extreme_142 4 rfl rfl (by decide) rfl ?_
        refine s_goto (tgt := 57) hF dX12_extreme_145 rfl ?_
        refine s_sub [2, 3, 4, 1, 0] rfl ?_
        exact hq57 l0 l1 l2 l4 (l4 + (1 : Int32)) _ (isK.mo f0 hm56)
theorem sX12_extreme_57 {F : Option Fx} (hF : FxO F RX12 cX12_extreme 5 3) (hD : FxDO F (some .int)) : ∀ (fu : Nat) (l0 : Nat) (l1 : Int32) (l2 : Int32) (l3 : Int32) (l4 : Int32) (μ : Mem) (f0 : isK μ l0 12 = true), Sim F encI 57 [(0, .ref l0), (1, .int l1), (2, .int l2), (3, .int l3), (4, .int l4)] [] μ (mX12_extreme_57 fu l0 l1 l2 l3 l4 μ) := by
  intro fu
  induction fu with
  | zero =>
    intro l0 l1 l2 l3 l4 μ f0
    exact sim_none
  | succ fu ih =>
    intro l0 l1 l2 l3 l4 μ f0
    rw [mX12_extreme_57]
    refine s_iload hF dX12_extreme_57 4 rfl ?_
    refine s_aload_n hF dX12_extreme_59 rfl 0 rfl ?_
    refine sim_gd (fun g23 => ?_)
    refine s_getR (x := (g_R μ l0 29)) hF dX12_extreme_60 flX12_67 f0 g23 rfl ?_
    refine s_bipush (v := (24 : Int32)) hF dX12_extreme_63 kB_24 ?_
    refine s_iload_n hF dX12_extreme_65 rfl 1 rfl ?_
    refine s_iadd hF dX12_extreme_66 ?_
    refine sim_gd (fun g24 => ?_)
    refine s_iaload (x := (g_I μ (g_R μ l0 29) ((24 : Int32) + l1).toNatClampNeg)) hF dX12_extreme_67 g24 rfl ?_
    refine s_icmp_ge (tgt := 148) hF dX12_extreme_68 rfl (fun c25 => ?_) (fun c25 => ?_)
    · refine s_iload_n hF dX12_extreme_148 rfl 3 rfl ?_
      exact s_iretD hF hD dX12_extreme_149 rfl
    · refine s_aload_n hF dX12_extreme_71 rfl 0 rfl ?_
      refine sim_gd (fun g26 => ?_)
      refine s_getR (x := (g_R μ l0 14)) hF dX12_extreme_72 flX12_31 f0 g26 rfl ?_
      refine s_iload_n hF dX12_extreme_75 rfl 1 rfl ?_
      refine sim_gd (fun g27 => ?_)
      refine sim_gd (fun g28 => ?_)
      refine s_aaload (x := (g_R μ (g_R μ l0 14) l1.toNatClampNeg)) hF dX12_extreme_76 (by decide) (by decide) g27 g28 rfl ?_
      refine s_iconst (v := (0 : Int32)) hF dX12_extreme_77 kI_0 ?_
      refine sim_gd (fun g29 => ?_)
      refine s_iaload (x := (g_I μ (g_R μ (g_R μ l0 14) l1.toNatClampNeg) (0 : Int32).toNatClampNeg)) hF dX12_extreme_78 g29 rfl ?_
      refine s_cSi (st := []) [.int (g_I μ (g_R μ (g_R μ l0 14) l1.toNatClampNeg) (0 : Int32).toNatClampNeg)] hF hD.dr dX12_extreme_79 cwX12_262 (Nat.le_of_ble_eq_true rfl) (Nat.le_of_ble_eq_true rfl) rfl rfl (Nat.le_of_ble_eq_true rfl) (ctX12_isReal (g_I μ (g_R μ (g_R μ l0 14) l1.toNatClampNeg) (0 : Int32).toNatClampNeg) _) (fun r30 m31 hl32 hm33 => ?_)
      refine s_if_eq (tgt := 101) hF dX12_extreme_82 rfl (fun c34 => ?_) (fun c34 => ?_)
      · exact sX12_extreme_101 (fun l0 l1 l2 l3 l4 μ => mX12_extreme_57 fu l0 l1 l2 l3 l4 μ) hF hD ih l0 l1 l2 l3 l4 _ (isK.mo f0 hm33)
      · refine s_aload_n hF dX12_extreme_85 rfl 0 rfl ?_
        refine s_iload_n hF dX12_extreme_86 rfl 1 rfl ?_
        refine s_iload hF dX12_extreme_87 4 rfl ?_
        refine s_cVd (st := []) (ci := 12) [.int l1, .int l4] hF hD.dr dX12_extreme_89 cwX12_367 (Nat.le_of_ble_eq_true rfl) (Nat.le_of_ble_eq_true rfl) rfl rfl (Nat.le_of_ble_eq_true rfl) (isK.mo f0 hm33) rfl rfl (Nat.le_of_ble_eq_true rfl) (ctX12_realAt l0 l1 l4 _) (fun r35 m36 y39 hl37 hm38 ha40 => ?_)
        refine s_cSi (st := []) [.double y39] hF hD.dr dX12_extreme_92 cwX12_363 (Nat.le_of_ble_eq_true rfl) (Nat.le_of_ble_eq_true rfl) rfl rfl (Nat.le_of_ble_eq_true rfl) (fun r9 m9 h9 => ctX12_isNumber y39 _ r9 m9 ((LX12_isNumber_al ha40 _).symm.trans h9)) (fun r41 m42 hl43 hm44 => ?_)
        refine s_if_ne (tgt := 101) hF dX12_extreme_95 rfl (fun c45 => ?_) (fun c45 => ?_)
        · refine s_goto (tgt := 142) hF dX12_extreme_98 rfl ?_
          refine s_iinc (v := (l4 + (1 : Int32))) (pls' := [(4, .int (l4 + (1 : Int32))), (0, .ref l0), (1, .int l1), (2, .int l2), (3, .int l3)]) hF dX12_extreme_142 4 rfl rfl (by decide) rfl ?_
          refine s_goto (tgt := 57) hF dX12_extreme_145 rfl ?_
          refine s_sub [1, 2, 3, 4, 0] rfl ?_
          exact ih l0 l1 l2 l3 (l4 + (1 : Int32)) _ (isK.mo (isK.mo (isK.mo f0 hm33) hm38) hm44)
        · exact sX12_extreme_101 (fun l0 l1 l2 l3 l4 μ => mX12_extreme_57 fu l0 l1 l2 l3 l4 μ) hF hD ih l0 l1 l2 l3 l4 _ (isK.mo (isK.mo (isK.mo f0 hm33) hm38) hm44)
theorem sX12_extreme_42 {F : Option Fx} (hF : FxO F RX12 cX12_extreme 5 3) (hD : FxDO F (some .int)) (l0 : Nat) (l1 : Int32) (l2 : Int32) (k0 : Int32) (k1 : Nat) (μ : Mem) (f0 : isK μ l0 12 = true) : Sim F encI 42 [(0, .ref l0), (1, .int l1), (2, .int l2)] [.int k0, .ref k1] μ (mX12_extreme_42 l0 l1 l2 k0 k1 μ) := by
  unfold mX12_extreme_42
  refine s_iconst (v := (2 : Int32)) hF dX12_extreme_42 kI_2 ?_
  refine s_iconst (v := (1 : Int32)) hF dX12_extreme_43 kI_1 ?_
  refine sim_gd (fun g21 => ?_)
  refine s_cVi (st := []) (ci := 12) [.int k0, .int (2 : Int32), .int (1 : Int32)] hF hD.dr dX12_extreme_44 cwX12_167 (Nat.le_of_ble_eq_true rfl) (Nat.le_of_ble_eq_true rfl) rfl rfl (Nat.le_of_ble_eq_true rfl) g21 rfl rfl (Nat.le_of_ble_eq_true rfl) (ctX12_bad k1 k0 (2 : Int32) (1 : Int32) _) (fun r17 m18 hl19 hm20 => ?_)
  refine s_if_eq (tgt := 52) hF dX12_extreme_47 rfl (fun c22 => ?_) (fun c22 => ?_)
  · refine s_iconst (v := (-1 : Int32)) hF dX12_extreme_52 kI_m1 ?_
    refine s_istore_n (pls' := [(3, .int (-1 : Int32)), (0, .ref l0), (1, .int l1), (2, .int l2)]) hF dX12_extreme_53 rfl (by decide) rfl ?_
    refine s_iconst (v := (0 : Int32)) hF dX12_extreme_54 kI_0 ?_
    refine s_istore (pls' := [(4, .int (0 : Int32)), (3, .int (-1 : Int32)), (0, .ref l0), (1, .int l1), (2, .int l2)]) hF dX12_extreme_55 (by decide) rfl ?_
    refine s_sub [2, 3, 4, 1, 0] rfl ?_
    exact sX12_extreme_57 hF hD 100000 l0 l1 l2 (-1 : Int32) (0 : Int32) _ (isK.mo f0 hm20)
  · refine s_iconst (v := (0 : Int32)) hF dX12_extreme_50 kI_0 ?_
    exact s_iretD hF hD dX12_extreme_51 rfl
theorem sX12_extreme_19 {F : Option Fx} (hF : FxO F RX12 cX12_extreme 5 3) (hD : FxDO F (some .int)) (l0 : Nat) (l1 : Int32) (l2 : Int32) (k0 : Int32) (k1 : Nat) (μ : Mem) (f0 : isK μ l0 12 = true) : Sim F encI 19 [(0, .ref l0), (1, .int l1), (2, .int l2)] [.int k0, .ref k1] μ (mX12_extreme_19 l0 l1 l2 k0 k1 μ) := by
  unfold mX12_extreme_19
  refine s_iconst (v := (1 : Int32)) hF dX12_extreme_19 kI_1 ?_
  refine s_iconst (v := (0 : Int32)) hF dX12_extreme_20 kI_0 ?_
  refine sim_gd (fun g10 => ?_)
  refine s_cVi (st := []) (ci := 12) [.int k0, .int (1 : Int32), .int (0 : Int32)] hF hD.dr dX12_extreme_21 cwX12_167 (Nat.le_of_ble_eq_true rfl) (Nat.le_of_ble_eq_true rfl) rfl rfl (Nat.le_of_ble_eq_true rfl) g10 rfl rfl (Nat.le_of_ble_eq_true rfl) (ctX12_bad k1 k0 (1 : Int32) (0 : Int32) _) (fun r6 m7 hl8 hm9 => ?_)
  refine s_if_ne (tgt := 50) hF dX12_extreme_24 rfl (fun c11 => ?_) (fun c11 => ?_)
  · refine s_aload_n hF dX12_extreme_27 rfl 0 rfl ?_
    refine s_iload_n hF dX12_extreme_28 rfl 2 rfl ?_
    refine s_iconst (v := (0 : Int32)) hF dX12_extreme_29 kI_0 ?_
    refine s_iconst (v := (1 : Int32)) hF dX12_extreme_30 kI_1 ?_
    refine s_cSi (st := [.ref l0]) [.int l2, .int (0 : Int32), .int (1 : Int32)] hF hD.dr dX12_extreme_31 cwX12_128 (Nat.le_of_ble_eq_true rfl) (Nat.le_of_ble_eq_true rfl) rfl rfl (Nat.le_of_ble_eq_true rfl) (ctX12_in l2 (0 : Int32) (1 : Int32) _) (fun r12 m13 hl14 hm15 => ?_)
    refine s_if_ne (tgt := 41) hF dX12_extreme_34 rfl (fun c16 => ?_) (fun c16 => ?_)
    · refine s_iconst (v := (1 : Int32)) hF dX12_extreme_37 kI_1 ?_
      refine s_goto (tgt := 42) hF dX12_extreme_38 rfl ?_
      exact sX12_extreme_42 hF hD l0 l1 l2 (1 : Int32) l0 _ (isK.mo (isK.mo f0 hm9) hm15)
    · refine s_iconst (v := (0 : Int32)) hF dX12_extreme_41 kI_0 ?_
      exact sX12_extreme_42 hF hD l0 l1 l2 (0 : Int32) l0 _ (isK.mo (isK.mo f0 hm9) hm15)
  · refine s_iconst (v := (0 : Int32)) hF dX12_extreme_50 kI_0 ?_
    exact s_iretD hF hD dX12_extreme_51 rfl
theorem ctX12_extreme  (l0 : Nat) (l1 : Int32) (l2 : Int32) (μ : Mem) : ∀ (r : Int32) (μ' : Mem), LX12_extreme l0 l1 l2 μ = some (r, μ') → CtD yX12_extreme cX12_extreme 5 (some .int) 3 [.ref l0, .int l1, .int l2] μ (encI r) μ' := by
  refine ct_enterD plX12 (Nat.le_of_ble_eq_true rfl) (fun F hF hD hI => ?_)
  unfold LX12_extreme
  refine sim_gd (fun f0 => ?_)
  refine s_aload_n hF dX12_extreme_0 rfl 0 rfl ?_
  refine s_iconst (v := (0 : Int32)) hF dX12_extreme_1 kI_0 ?_
  refine s_putI hF dX12_extreme_2 flX12_94 f0 ?_
  refine s_aload_n hF dX12_extreme_5 rfl 0 rfl ?_
  refine s_aload_n hF dX12_extreme_6 rfl 0 rfl ?_
  refine s_iload_n hF dX12_extreme_7 rfl 1 rfl ?_
  refine s_cVi (st := [.ref l0]) (ci := 12) [.int l1] hF hD.dr dX12_extreme_8 cwX12_355 (Nat.le_of_ble_eq_true rfl) (Nat.le_of_ble_eq_true rfl) rfl rfl (Nat.le_of_ble_eq_true rfl) f0 rfl rfl (Nat.le_of_ble_eq_true rfl) (ctX12_isPen l0 l1 _) (fun r1 m2 hl3 hm4 => ?_)
  refine s_if_ne (tgt := 18) hF dX12_extreme_11 rfl (fun c5 => ?_) (fun c5 => ?_)
  · refine s_iconst (v := (1 : Int32)) hF dX12_extreme_14 kI_1 ?_
    refine s_goto (tgt := 19) hF dX12_extreme_15 rfl ?_
    exact sX12_extreme_19 hF hD l0 l1 l2 (1 : Int32) l0 _ (isK.mo f0 hm4)
  · refine s_iconst (v := (0 : Int32)) hF dX12_extreme_18 kI_0 ?_
    exact sX12_extreme_19 hF hD l0 l1 l2 (0 : Int32) l0 _ (isK.mo f0 hm4)
theorem sX12_chainJams_2 {F : Option Fx} (hF : FxO F RX12 cX12_chainJams 2 2) (hD : FxDO F (some .boolean)) : ∀ (fu : Nat) (l0 : Nat) (l1 : Int32) (μ : Mem) (f0 : isK μ l0 12 = true), Sim F encI 2 [(0, .ref l0), (1, .int l1)] [] μ (mX12_chainJams_2 fu l0 l1 μ) := by
  intro fu
  induction fu with
  | zero =>
    intro l0 l1 μ f0
    exact sim_none
  | succ fu ih =>
    intro l0 l1 μ f0
    rw [mX12_chainJams_2]
    refine s_iload_n hF dX12_chainJams_2 rfl 1 rfl ?_
    refine s_aload_n hF dX12_chainJams_3 rfl 0 rfl ?_
    refine s_getI (x := (g_I μ l0 34)) hF dX12_chainJams_4 flX12_190 f0 rfl ?_
    refine s_icmp_ge (tgt := 35) hF dX12_chainJams_7 rfl (fun c1 => ?_) (fun c1 => ?_)
    · refine s_iconst (v := (0 : Int32)) hF dX12_chainJams_35 kI_0 ?_
      exact s_zretD hF hD dX12_chainJams_36 rfl rfl
    · refine s_aload_n hF dX12_chainJams_10 rfl 0 rfl ?_
      refine s_aload_n hF dX12_chainJams_11 rfl 0 rfl ?_
      refine sim_gd (fun g2 => ?_)
      refine s_getR (x := (g_R μ l0 29)) hF dX12_chainJams_12 flX12_67 f0 g2 rfl ?_
      refine s_aload_n hF dX12_chainJams_15 rfl 0 rfl ?_
      refine sim_gd (fun g3 => ?_)
      refine s_getR (x := (g_R μ l0 25)) hF dX12_chainJams_16 flX12_58 f0 g3 rfl ?_
      refine s_iload_n hF dX12_chainJams_19 rfl 1 rfl ?_
      refine sim_gd (fun g4 => ?_)
      refine s_iaload (x := (g_I μ (g_R μ l0 25) l1.toNatClampNeg)) hF dX12_chainJams_20 g4 rfl ?_
      refine s_cVi (st := []) (ci := 12) [.ref (g_R μ l0 29), .int (g_I μ (g_R μ l0 25) l1.toNatClampNeg)] hF hD.dr dX12_chainJams_21 cwX12_286 (Nat.le_of_ble_eq_true rfl) (Nat.le_of_ble_eq_true rfl) rfl rfl (Nat.le_of_ble_eq_true rfl) f0 rfl rfl (Nat.le_of_ble_eq_true rfl) (ctX12_jams l0 (g_R μ l0 29) (g_I μ (g_R μ l0 25) l1.toNatClampNeg) _) (fun r5 m6 hl7 hm8 => ?_)
      refine s_if_eq (tgt := 29) hF dX12_chainJams_24 rfl (fun c9 => ?_) (fun c9 => ?_)
      · refine s_iinc (v := (l1 + (1 : Int32))) (pls' := [(1, .int (l1 + (1 : Int32))), (0, .ref l0)]) hF dX12_chainJams_29 1 rfl rfl (by decide) rfl ?_
        refine s_goto (tgt := 2) hF dX12_chainJams_32 rfl ?_
        refine s_sub [1, 0] rfl ?_
        exact ih l0 (l1 + (1 : Int32)) _ (isK.mo f0 hm8)
      · refine s_iconst (v := (1 : Int32)) hF dX12_chainJams_27 kI_1 ?_
        exact s_zretD hF hD dX12_chainJams_28 rfl rfl
theorem ctX12_chainJams  (l0 : Nat) (μ : Mem) : ∀ (r : Int32) (μ' : Mem), LX12_chainJams l0 μ = some (r, μ') → CtD yX12_chainJams cX12_chainJams 2 (some .boolean) 2 [.ref l0] μ (encI r) μ' := by
  refine ct_enterD plX12 (Nat.le_of_ble_eq_true rfl) (fun F hF hD hI => ?_)
  unfold LX12_chainJams
  refine sim_gd (fun f0 => ?_)
  refine s_iconst (v := (0 : Int32)) hF dX12_chainJams_0 kI_0 ?_
  refine s_istore_n (pls' := [(1, .int (0 : Int32)), (0, .ref l0)]) hF dX12_chainJams_1 rfl (by decide) rfl ?_
  refine s_sub [1, 0] rfl ?_
  exact sX12_chainJams_2 hF hD 100000 l0 (0 : Int32) _ f0
theorem sX12_throughOf_4 {F : Option Fx} (hF : FxO F RX12 cX12_throughOf 4 3) (hD : FxDO F (some .int)) : ∀ (fu : Nat) (l0 : Nat) (l2 : Int32) (l3 : Int32) (μ : Mem) (f0 : isK μ l0 12 = true), Sim F encI 4 [(0, .ref l0), (2, .int l2), (3, .int l3)] [] μ (mX12_throughOf_4 fu l0 l2 l3 μ) := by
  intro fu
  induction fu with
  | zero =>
    intro l0 l2 l3 μ f0
    exact sim_none
  | succ fu ih =>
    intro l0 l2 l3 μ f0
    rw [mX12_throughOf_4]
    refine s_iload_n hF dX12_throughOf_4 rfl 2 rfl ?_
    refine s_aload_n hF dX12_throughOf_5 rfl 0 rfl ?_
    refine s_getI (x := (g_I μ l0 34)) hF dX12_throughOf_6 flX12_190 f0 rfl ?_
    refine s_icmp_ge (tgt := 34) hF dX12_throughOf_9 rfl (fun c1 => ?_) (fun c1 => ?_)
    · refine s_iload_n hF dX12_throughOf_34 rfl 1 rfl ?_
      exact s_iretD hF hD dX12_throughOf_35 rfl
    · refine s_aload_n hF dX12_throughOf_12 rfl 0 rfl ?_
      refine s_aload_n hF dX12_throughOf_13 rfl 0 rfl ?_
      refine sim_gd (fun g2 => ?_)
      refine s_getR (x := (g_R μ l0 29)) hF dX12_throughOf_14 flX12_67 f0 g2 rfl ?_
      refine s_aload_n hF dX12_throughOf_17 rfl 0 rfl ?_
      refine sim_gd (fun g3 => ?_)
      refine s_getR (x := (g_R μ l0 25)) hF dX12_throughOf_18 flX12_58 f0 g3 rfl ?_
      refine s_iload_n hF dX12_throughOf_21 rfl 2 rfl ?_
      refine sim_gd (fun g4 => ?_)
      refine s_iaload (x := (g_I μ (g_R μ l0 25) l3.toNatClampNeg)) hF dX12_throughOf_22 g4 rfl ?_
      refine s_iload_n hF dX12_throughOf_23 rfl 1 rfl ?_
      refine s_cVi (st := []) (ci := 12) [.ref (g_R μ l0 29), .int (g_I μ (g_R μ l0 25) l3.toNatClampNeg), .int l2] hF hD.dr dX12_throughOf_24 cwX12_290 (Nat.le_of_ble_eq_true rfl) (Nat.le_of_ble_eq_true rfl) rfl rfl (Nat.le_of_ble_eq_true rfl) f0 rfl rfl (Nat.le_of_ble_eq_true rfl) (ctX12_outOf l0 (g_R μ l0 29) (g_I μ (g_R μ l0 25) l3.toNatClampNeg) l2 _) (fun r5 m6 hl7 hm8 => ?_)
      refine s_istore_n (pls' := [(2, .int r5), (0, .ref l0), (3, .int l3)]) hF dX12_throughOf_27 rfl (by decide) rfl ?_
      refine s_iinc (v := (l3 + (1 : Int32))) (pls' := [(3, .int (l3 + (1 : Int32))), (2, .int r5), (0, .ref l0)]) hF dX12_throughOf_28 2 rfl rfl (by decide) rfl ?_
      refine s_goto (tgt := 4) hF dX12_throughOf_31 rfl ?_
      refine s_sub [2, 1, 0] rfl ?_
      exact ih l0 r5 (l3 + (1 : Int32)) _ (isK.mo f0 hm8)
theorem ctX12_throughOf  (l0 : Nat) (l1 : Int32) (μ : Mem) : ∀ (r : Int32) (μ' : Mem), LX12_throughOf l0 l1 μ = some (r, μ') → CtD yX12_throughOf cX12_throughOf 4 (some .int) 3 [.ref l0, .int l1] μ (encI r) μ' := by
  refine ct_enterD plX12 (Nat.le_of_ble_eq_true rfl) (fun F hF hD hI => ?_)
  unfold LX12_throughOf
  refine sim_gd (fun f0 => ?_)
  refine s_iload_n hF dX12_throughOf_0 rfl 1 rfl ?_
  refine s_istore_n (pls' := [(2, .int l1), (0, .ref l0), (1, .int l1)]) hF dX12_throughOf_1 rfl (by decide) rfl ?_
  refine s_iconst (v := (0 : Int32)) hF dX12_throughOf_2 kI_0 ?_
  refine s_istore_n (pls' := [(3, .int (0 : Int32)), (2, .int l1), (0, .ref l0), (1, .int l1)]) hF dX12_throughOf_3 rfl (by decide) rfl ?_
  refine s_sub [2, 1, 0] rfl ?_
  exact sX12_throughOf_4 hF hD 100000 l0 l1 (0 : Int32) _ f0
theorem ctX12_through  (l0 : Nat) (l1 : Int32) (μ : Mem) : ∀ (r : Int32) (μ' : Mem), LX12_through l0 l1 μ = some (r, μ') → CtD yX12_through cX12_through 2 (some .int) 4 [.ref l0, .int l1] μ (encI r) μ' := by
  refine ct_enterD plX12 (Nat.le_of_ble_eq_true rfl) (fun F hF hD hI => ?_)
  unfold LX12_through
  refine sim_gd (fun f0 => ?_)
  refine s_aload_n hF dX12_through_0 rfl 0 rfl ?_
  refine s_iconst (v := (0 : Int32)) hF dX12_through_1 kI_0 ?_
  refine s_putI hF dX12_through_2 flX12_94 f0 ?_
  refine s_aload_n hF dX12_through_5 rfl 0 rfl ?_
  refine s_aload_n hF dX12_through_6 rfl 0 rfl ?_
  refine s_cVi (st := [.ref l0]) (ci := 12) [] hF hD.dr dX12_through_7 cwX12_381 (Nat.le_of_ble_eq_true rfl) (Nat.le_of_ble_eq_true rfl) rfl rfl (Nat.le_of_ble_eq_true rfl) f0 rfl rfl (Nat.le_of_ble_eq_true rfl) (ctX12_chainJams l0 _) (fun r1 m2 hl3 hm4 => ?_)
  refine s_iconst (v := (1 : Int32)) hF dX12_through_10 kI_1 ?_
  refine s_iconst (v := (4 : Int32)) hF dX12_through_11 kI_4 ?_
  refine s_cVi (st := []) (ci := 12) [.int r1, .int (1 : Int32), .int (4 : Int32)] hF hD.dr dX12_through_12 cwX12_167 (Nat.le_of_ble_eq_true rfl) (Nat.le_of_ble_eq_true rfl) rfl rfl (Nat.le_of_ble_eq_true rfl) (isK.mo f0 hm4) rfl rfl (Nat.le_of_ble_eq_true rfl) (ctX12_bad l0 r1 (1 : Int32) (4 : Int32) _) (fun r5 m6 hl7 hm8 => ?_)
  refine s_if_eq (tgt := 20) hF dX12_through_15 rfl (fun c9 => ?_) (fun c9 => ?_)
  · refine s_aload_n hF dX12_through_20 rfl 0 rfl ?_
    refine s_iload_n hF dX12_through_21 rfl 1 rfl ?_
    refine s_cVi (st := []) (ci := 12) [.int l1] hF hD.dr dX12_through_22 cwX12_384 (Nat.le_of_ble_eq_true rfl) (Nat.le_of_ble_eq_true rfl) rfl rfl (Nat.le_of_ble_eq_true rfl) (isK.mo (isK.mo f0 hm4) hm8) rfl rfl (Nat.le_of_ble_eq_true rfl) (ctX12_throughOf l0 l1 _) (fun r10 m11 hl12 hm13 => ?_)
    exact s_iretD hF hD dX12_through_25 rfl
  · refine s_iconst (v := (0 : Int32)) hF dX12_through_18 kI_0 ?_
    exact s_iretD hF hD dX12_through_19 rfl
theorem sX12_kept_37 {F : Option Fx} (hF : FxO F RX12 cX12_kept 5 4) (hD : FxDO F (some .int)) : ∀ (fu : Nat) (l0 : Nat) (l1 : Int32) (l2 : Int32) (l3 : Int32) (l4 : Int32) (μ : Mem) (f0 : isK μ l0 12 = true), Sim F encI 37 [(0, .ref l0), (1, .int l1), (2, .int l2), (3, .int l3), (4, .int l4)] [] μ (mX12_kept_37 fu l0 l1 l2 l3 l4 μ) := by
  intro fu
  induction fu with
  | zero =>
    intro l0 l1 l2 l3 l4 μ f0
    exact sim_none
  | succ fu ih =>
    intro l0 l1 l2 l3 l4 μ f0
    rw [mX12_kept_37]
    refine s_iload hF dX12_kept_37 4 rfl ?_
    refine s_iload_n hF dX12_kept_39 rfl 2 rfl ?_
    refine s_icmp_ge (tgt := 79) hF dX12_kept_40 rfl (fun c12 => ?_) (fun c12 => ?_)
    · refine s_iload_n hF dX12_kept_79 rfl 3 rfl ?_
      exact s_iretD hF hD dX12_kept_80 rfl
    · refine s_aload_n hF dX12_kept_43 rfl 0 rfl ?_
      refine s_cVi (st := []) (ci := 12) [] hF hD.dr dX12_kept_44 cwX12_381 (Nat.le_of_ble_eq_true rfl) (Nat.le_of_ble_eq_true rfl) rfl rfl (Nat.le_of_ble_eq_true rfl) f0 rfl rfl (Nat.le_of_ble_eq_true rfl) (ctX12_chainJams l0 _) (fun r13 m14 hl15 hm16 => ?_)
      refine s_if_ne (tgt := 79) hF dX12_kept_47 rfl (fun c17 => ?_) (fun c17 => ?_)
      · refine s_iload_n hF dX12_kept_50 rfl 3 rfl ?_
        refine s_aload_n hF dX12_kept_51 rfl 0 rfl ?_
        refine s_iload_n hF dX12_kept_52 rfl 1 rfl ?_
        refine s_iload hF dX12_kept_53 4 rfl ?_
        refine s_iadd hF dX12_kept_55 ?_
        refine s_cVi (st := [.int l3]) (ci := 12) [.int (l1 + l4)] hF hD.dr dX12_kept_56 cwX12_384 (Nat.le_of_ble_eq_true rfl) (Nat.le_of_ble_eq_true rfl) rfl rfl (Nat.le_of_ble_eq_true rfl) (isK.mo f0 hm16) rfl rfl (Nat.le_of_ble_eq_true rfl) (ctX12_throughOf l0 (l1 + l4) _) (fun r18 m19 hl20 hm21 => ?_)
        refine s_iload_n hF dX12_kept_59 rfl 1 rfl ?_
        refine s_iload hF dX12_kept_60 4 rfl ?_
        refine s_iadd hF dX12_kept_62 ?_
        refine s_icmp_ne (tgt := 70) hF dX12_kept_63 rfl (fun c22 => ?_) (fun c22 => ?_)
        · refine s_iconst (v := (1 : Int32)) hF dX12_kept_66 kI_1 ?_
          refine s_goto (tgt := 71) hF dX12_kept_67 rfl ?_
          refine s_iadd hF dX12_kept_71 ?_
          refine s_istore_n (pls' := [(3, .int (l3 + (1 : Int32))), (0, .ref l0), (1, .int l1), (2, .int l2), (4, .int l4)]) hF dX12_kept_72 rfl (by decide) rfl ?_
          refine s_iinc (v := (l4 + (1 : Int32))) (pls' := [(4, .int (l4 + (1 : Int32))), (3, .int (l3 + (1 : Int32))), (0, .ref l0), (1, .int l1), (2, .int l2)]) hF dX12_kept_73 4 rfl rfl (by decide) rfl ?_
          refine s_goto (tgt := 37) hF dX12_kept_76 rfl ?_
          refine s_sub [2, 3, 4, 1, 0] rfl ?_
          exact ih l0 l1 l2 (l3 + (1 : Int32)) (l4 + (1 : Int32)) _ (isK.mo (isK.mo f0 hm16) hm21)
        · refine s_iconst (v := (0 : Int32)) hF dX12_kept_70 kI_0 ?_
          refine s_iadd hF dX12_kept_71 ?_
          refine s_istore_n (pls' := [(3, .int (l3 + (0 : Int32))), (0, .ref l0), (1, .int l1), (2, .int l2), (4, .int l4)]) hF dX12_kept_72 rfl (by decide) rfl ?_
          refine s_iinc (v := (l4 + (1 : Int32))) (pls' := [(4, .int (l4 + (1 : Int32))), (3, .int (l3 + (0 : Int32))), (0, .ref l0), (1, .int l1), (2, .int l2)]) hF dX12_kept_73 4 rfl rfl (by decide) rfl ?_
          refine s_goto (tgt := 37) hF dX12_kept_76 rfl ?_
          refine s_sub [2, 3, 4, 1, 0] rfl ?_
          exact ih l0 l1 l2 (l3 + (0 : Int32)) (l4 + (1 : Int32)) _ (isK.mo (isK.mo f0 hm16) hm21)
      · refine s_iload_n hF dX12_kept_79 rfl 3 rfl ?_
        exact s_iretD hF hD dX12_kept_80 rfl
theorem sX12_kept_22 {F : Option Fx} (hF : FxO F RX12 cX12_kept 5 4) (hD : FxDO F (some .int)) (l0 : Nat) (l1 : Int32) (l2 : Int32) (k0 : Int32) (k1 : Nat) (μ : Mem) (f0 : isK μ l0 12 = true) : Sim F encI 22 [(0, .ref l0), (1, .int l1), (2, .int l2)] [.int k0, .ref k1] μ (mX12_kept_22 l0 l1 l2 k0 k1 μ) := by
  unfold mX12_kept_22
  refine s_iconst (v := (1 : Int32)) hF dX12_kept_22 kI_1 ?_
  refine s_iconst (v := (1 : Int32)) hF dX12_kept_23 kI_1 ?_
  refine sim_gd (fun g10 => ?_)
  refine s_cVi (st := []) (ci := 12) [.int k0, .int (1 : Int32), .int (1 : Int32)] hF hD.dr dX12_kept_24 cwX12_167 (Nat.le_of_ble_eq_true rfl) (Nat.le_of_ble_eq_true rfl) rfl rfl (Nat.le_of_ble_eq_true rfl) g10 rfl rfl (Nat.le_of_ble_eq_true rfl) (ctX12_bad k1 k0 (1 : Int32) (1 : Int32) _) (fun r6 m7 hl8 hm9 => ?_)
  refine s_if_eq (tgt := 32) hF dX12_kept_27 rfl (fun c11 => ?_) (fun c11 => ?_)
  · refine s_iconst (v := (0 : Int32)) hF dX12_kept_32 kI_0 ?_
    refine s_istore_n (pls' := [(3, .int (0 : Int32)), (0, .ref l0), (1, .int l1), (2, .int l2)]) hF dX12_kept_33 rfl (by decide) rfl ?_
    refine s_iconst (v := (0 : Int32)) hF dX12_kept_34 kI_0 ?_
    refine s_istore (pls' := [(4, .int (0 : Int32)), (3, .int (0 : Int32)), (0, .ref l0), (1, .int l1), (2, .int l2)]) hF dX12_kept_35 (by decide) rfl ?_
    refine s_sub [2, 3, 4, 1, 0] rfl ?_
    exact sX12_kept_37 hF hD 100000 l0 l1 l2 (0 : Int32) (0 : Int32) _ (isK.mo f0 hm9)
  · refine s_iconst (v := (0 : Int32)) hF dX12_kept_30 kI_0 ?_
    exact s_iretD hF hD dX12_kept_31 rfl
theorem ctX12_kept  (l0 : Nat) (l1 : Int32) (l2 : Int32) (μ : Mem) : ∀ (r : Int32) (μ' : Mem), LX12_kept l0 l1 l2 μ = some (r, μ') → CtD yX12_kept cX12_kept 5 (some .int) 4 [.ref l0, .int l1, .int l2] μ (encI r) μ' := by
  refine ct_enterD plX12 (Nat.le_of_ble_eq_true rfl) (fun F hF hD hI => ?_)
  unfold LX12_kept
  refine sim_gd (fun f0 => ?_)
  refine s_aload_n hF dX12_kept_0 rfl 0 rfl ?_
  refine s_iconst (v := (0 : Int32)) hF dX12_kept_1 kI_0 ?_
  refine s_putI hF dX12_kept_2 flX12_94 f0 ?_
  refine s_aload_n hF dX12_kept_5 rfl 0 rfl ?_
  refine s_iload_n hF dX12_kept_6 rfl 2 rfl ?_
  refine s_iconst (v := (0 : Int32)) hF dX12_kept_7 kI_0 ?_
  refine s_sipush (v := (1000 : Int32)) hF dX12_kept_8 kS_1000 ?_
  refine s_cSi (st := [.ref l0]) [.int l2, .int (0 : Int32), .int (1000 : Int32)] hF hD.dr dX12_kept_11 cwX12_128 (Nat.le_of_ble_eq_true rfl) (Nat.le_of_ble_eq_true rfl) rfl rfl (Nat.le_of_ble_eq_true rfl) (ctX12_in l2 (0 : Int32) (1000 : Int32) _) (fun r1 m2 hl3 hm4 => ?_)
  refine s_if_ne (tgt := 21) hF dX12_kept_14 rfl (fun c5 => ?_) (fun c5 => ?_)
  · refine s_iconst (v := (1 : Int32)) hF dX12_kept_17 kI_1 ?_
    refine s_goto (tgt := 22) hF dX12_kept_18 rfl ?_
    exact sX12_kept_22 hF hD l0 l1 l2 (1 : Int32) l0 _ (isK.mo f0 hm4)
  · refine s_iconst (v := (0 : Int32)) hF dX12_kept_21 kI_0 ?_
    exact sX12_kept_22 hF hD l0 l1 l2 (0 : Int32) l0 _ (isK.mo f0 hm4)
theorem sX12_gives_35 {F : Option Fx} (hF : FxO F RX12 cX12_gives 5 4) (hD : FxDO F (some .int)) : ∀ (fu : Nat) (l0 : Nat) (l1 : Int32) (l2 : Int32) (l3 : Int32) (l4 : Int32) (μ : Mem) (f0 : isK μ l0 12 = true), Sim F encI 35 [(0, .ref l0), (1, .int l1), (2, .int l2), (3, .int l3), (4, .int l4)] [] μ (mX12_gives_35 fu l0 l1 l2 l3 l4 μ) := by
  intro fu
  induction fu with
  | zero =>
    intro l0 l1 l2 l3 l4 μ f0
    exact sim_none
  | succ fu ih =>
    intro l0 l1 l2 l3 l4 μ f0
    rw [mX12_gives_35]
    refine s_iload hF dX12_gives_35 4 rfl ?_
    refine s_iload_n hF dX12_gives_37 rfl 3 rfl ?_
    refine s_icmp_ge (tgt := 69) hF dX12_gives_38 rfl (fun c12 => ?_) (fun c12 => ?_)
    · refine s_iconst (v := (-1 : Int32)) hF dX12_gives_69 kI_m1 ?_
      exact s_iretD hF hD dX12_gives_70 rfl
    · refine s_aload_n hF dX12_gives_41 rfl 0 rfl ?_
      refine s_cVi (st := []) (ci := 12) [] hF hD.dr dX12_gives_42 cwX12_381 (Nat.le_of_ble_eq_true rfl) (Nat.le_of_ble_eq_true rfl) rfl rfl (Nat.le_of_ble_eq_true rfl) f0 rfl rfl (Nat.le_of_ble_eq_true rfl) (ctX12_chainJams l0 _) (fun r13 m14 hl15 hm16 => ?_)
      refine s_if_ne (tgt := 69) hF dX12_gives_45 rfl (fun c17 => ?_) (fun c17 => ?_)
      · refine s_aload_n hF dX12_gives_48 rfl 0 rfl ?_
        refine s_iload_n hF dX12_gives_49 rfl 2 rfl ?_
        refine s_iload hF dX12_gives_50 4 rfl ?_
        refine s_iadd hF dX12_gives_52 ?_
        refine s_cVi (st := []) (ci := 12) [.int (l2 + l4)] hF hD.dr dX12_gives_53 cwX12_384 (Nat.le_of_ble_eq_true rfl) (Nat.le_of_ble_eq_true rfl) rfl rfl (Nat.le_of_ble_eq_true rfl) (isK.mo f0 hm16) rfl rfl (Nat.le_of_ble_eq_true rfl) (ctX12_throughOf l0 (l2 + l4) _) (fun r18 m19 hl20 hm21 => ?_)
        refine s_iload_n hF dX12_gives_56 rfl 1 rfl ?_
        refine s_icmp_ne (tgt := 63) hF dX12_gives_57 rfl (fun c22 => ?_) (fun c22 => ?_)
        · refine s_iload hF dX12_gives_60 4 rfl ?_
          exact s_iretD hF hD dX12_gives_62 rfl
        · refine s_iinc (v := (l4 + (1 : Int32))) (pls' := [(4, .int (l4 + (1 : Int32))), (0, .ref l0), (1, .int l1), (2, .int l2), (3, .int l3)]) hF dX12_gives_63 4 rfl rfl (by decide) rfl ?_
          refine s_goto (tgt := 35) hF dX12_gives_66 rfl ?_
          refine s_sub [1, 2, 3, 4, 0] rfl ?_
          exact ih l0 l1 l2 l3 (l4 + (1 : Int32)) _ (isK.mo (isK.mo f0 hm16) hm21)
      · refine s_iconst (v := (-1 : Int32)) hF dX12_gives_69 kI_m1 ?_
        exact s_iretD hF hD dX12_gives_70 rfl
theorem sX12_gives_22 {F : Option Fx} (hF : FxO F RX12 cX12_gives 5 4) (hD : FxDO F (some .int)) (l0 : Nat) (l1 : Int32) (l2 : Int32) (l3 : Int32) (k0 : Int32) (k1 : Nat) (μ : Mem) (f0 : isK μ l0 12 = true) : Sim F encI 22 [(0, .ref l0), (1, .int l1), (2, .int l2), (3, .int l3)] [.int k0, .ref k1] μ (mX12_gives_22 l0 l1 l2 l3 k0 k1 μ) := by
  unfold mX12_gives_22
  refine s_iconst (v := (1 : Int32)) hF dX12_gives_22 kI_1 ?_
  refine s_iconst (v := (1 : Int32)) hF dX12_gives_23 kI_1 ?_
  refine sim_gd (fun g10 => ?_)
  refine s_cVi (st := []) (ci := 12) [.int k0, .int (1 : Int32), .int (1 : Int32)] hF hD.dr dX12_gives_24 cwX12_167 (Nat.le_of_ble_eq_true rfl) (Nat.le_of_ble_eq_true rfl) rfl rfl (Nat.le_of_ble_eq_true rfl) g10 rfl rfl (Nat.le_of_ble_eq_true rfl) (ctX12_bad k1 k0 (1 : Int32) (1 : Int32) _) (fun r6 m7 hl8 hm9 => ?_)
  refine s_if_eq (tgt := 32) hF dX12_gives_27 rfl (fun c11 => ?_) (fun c11 => ?_)
  · refine s_iconst (v := (0 : Int32)) hF dX12_gives_32 kI_0 ?_
    refine s_istore (pls' := [(4, .int (0 : Int32)), (0, .ref l0), (1, .int l1), (2, .int l2), (3, .int l3)]) hF dX12_gives_33 (by decide) rfl ?_
    refine s_sub [1, 2, 3, 4, 0] rfl ?_
    exact sX12_gives_35 hF hD 100000 l0 l1 l2 l3 (0 : Int32) _ (isK.mo f0 hm9)
  · refine s_iconst (v := (0 : Int32)) hF dX12_gives_30 kI_0 ?_
    exact s_iretD hF hD dX12_gives_31 rfl
theorem ctX12_gives  (l0 : Nat) (l1 : Int32) (l2 : Int32) (l3 : Int32) (μ : Mem) : ∀ (r : Int32) (μ' : Mem), LX12_gives l0 l1 l2 l3 μ = some (r, μ') → CtD yX12_gives cX12_gives 5 (some .int) 4 [.ref l0, .int l1, .int l2, .int l3] μ (encI r) μ' := by
  refine ct_enterD plX12 (Nat.le_of_ble_eq_true rfl) (fun F hF hD hI => ?_)
  unfold LX12_gives
  refine sim_gd (fun f0 => ?_)
  refine s_aload_n hF dX12_gives_0 rfl 0 rfl ?_
  refine s_iconst (v := (0 : Int32)) hF dX12_gives_1 kI_0 ?_
  refine s_putI hF dX12_gives_2 flX12_94 f0 ?_
  refine s_aload_n hF dX12_gives_5 rfl 0 rfl ?_
  refine s_iload_n hF dX12_gives_6 rfl 3 rfl ?_
  refine s_iconst (v := (0 : Int32)) hF dX12_gives_7 kI_0 ?_
  refine s_sipush (v := (1000 : Int32)) hF dX12_gives_8 kS_1000 ?_
  refine s_cSi (st := [.ref l0]) [.int l3, .int (0 : Int32), .int (1000 : Int32)] hF hD.dr dX12_gives_11 cwX12_128 (Nat.le_of_ble_eq_true rfl) (Nat.le_of_ble_eq_true rfl) rfl rfl (Nat.le_of_ble_eq_true rfl) (ctX12_in l3 (0 : Int32) (1000 : Int32) _) (fun r1 m2 hl3 hm4 => ?_)
  refine s_if_ne (tgt := 21) hF dX12_gives_14 rfl (fun c5 => ?_) (fun c5 => ?_)
  · refine s_iconst (v := (1 : Int32)) hF dX12_gives_17 kI_1 ?_
    refine s_goto (tgt := 22) hF dX12_gives_18 rfl ?_
    exact sX12_gives_22 hF hD l0 l1 l2 l3 (1 : Int32) l0 _ (isK.mo f0 hm4)
  · refine s_iconst (v := (0 : Int32)) hF dX12_gives_21 kI_0 ?_
    exact sX12_gives_22 hF hD l0 l1 l2 l3 (0 : Int32) l0 _ (isK.mo f0 hm4)
theorem sX12_worst_94 {F : Option Fx} (q50 : Nat → Int32 → Int32 → Int32 → Int32 → Int32 → Int32 → Mem → Option (Int32 × Mem)) (hF : FxO F RX12 cX12_worst 8 4) (hD : FxDO F (some .int)) (hq50 : ∀ (l0 : Nat) (l1 : Int32) (l2 : Int32) (l3 : Int32) (l4 : Int32) (l5 : Int32) (l6 : Int32) (μ : Mem) (_ : isK μ l0 12 = true), Sim F encI 50 [(0, .ref l0), (1, .int l1), (2, .int l2), (3, .int l3), (4, .int l4), (5, .int l5), (6, .int l6)] [] μ (q50 l0 l1 l2 l3 l4 l5 l6 μ)) (l0 : Nat) (l1 : Int32) (l2 : Int32) (l3 : Int32) (l5 : Int32) (l6 : Int32) (l7 : Int32) (k0 : Int32) (μ : Mem) (f0 : isK μ l0 12 = true) : Sim F encI 94 [(0, .ref l0), (1, .int l1), (2, .int l2), (3, .int l3), (5, .int l5), (6, .int l6), (7, .int l7)] [.int k0] μ (mX12_worst_94 q50 l0 l1 l2 l3 l5 l6 l7 k0 μ) := by
  unfold mX12_worst_94
  refine s_istore (pls' := [(4, .int k0), (0, .ref l0), (1, .int l1), (2, .int l2), (3, .int l3), (5, .int l5), (6, .int l6), (7, .int l7)]) hF dX12_worst_94 (by decide) rfl ?_
  refine s_iload hF dX12_worst_96 5 rfl ?_
  refine s_iload hF dX12_worst_98 7 rfl ?_
  refine s_cSi (st := []) [.int l5, .int l7] hF hD.dr dX12_worst_100 cwX12_237 (Nat.le_of_ble_eq_true rfl) (Nat.le_of_ble_eq_true rfl) rfl rfl (Nat.le_of_ble_eq_true rfl) (ctX12_more l5 l7 _) (fun r32 m33 hl34 hm35 => ?_)
  refine s_istore (pls' := [(5, .int r32), (4, .int k0), (0, .ref l0), (1, .int l1), (2, .int l2), (3, .int l3), (6, .int l6), (7, .int l7)]) hF dX12_worst_103 (by decide) rfl ?_
  refine s_iinc (v := (l6 + (1 : Int32))) (pls' := [(6, .int (l6 + (1 : Int32))), (5, .int r32), (4, .int k0), (0, .ref l0), (1, .int l1), (2, .int l2), (3, .int l3), (7, .int l7)]) hF dX12_worst_105 6 rfl rfl (by decide) rfl ?_
  refine s_goto (tgt := 50) hF dX12_worst_108 rfl ?_
  refine s_sub [3, 4, 5, 6, 2, 1, 0] rfl ?_
  exact hq50 l0 l1 l2 l3 k0 r32 (l6 + (1 : Int32)) _ (isK.mo f0 hm35)
theorem sX12_worst_111 {F : Option Fx} (hF : FxO F RX12 cX12_worst 8 4) (hD : FxDO F (some .int)) (l3 : Int32) (l4 : Int32) (l5 : Int32) (μ : Mem) : Sim F encI 111 [(3, .int l3), (4, .int l4), (5, .int l5)] [] μ (mX12_worst_111 l3 l4 l5 μ) := by
  unfold mX12_worst_111
  refine s_iload_n hF dX12_worst_111 rfl 0 rfl ?_
  refine s_if_ne (tgt := 120) hF dX12_worst_112 rfl (fun c36 => ?_) (fun c36 => ?_)
  · refine s_iload hF dX12_worst_115 1 rfl ?_
    refine s_goto (tgt := 122) hF dX12_worst_117 rfl ?_
    exact s_iretD hF hD dX12_worst_122 rfl
  · refine s_iload hF dX12_worst_120 2 rfl ?_
    exact s_iretD hF hD dX12_worst_122 rfl
theorem sX12_worst_50 {F : Option Fx} (hF : FxO F RX12 cX12_worst 8 4) (hD : FxDO F (some .int)) : ∀ (fu : Nat) (l0 : Nat) (l1 : Int32) (l2 : Int32) (l3 : Int32) (l4 : Int32) (l5 : Int32) (l6 : Int32) (μ : Mem) (f0 : isK μ l0 12 = true), Sim F encI 50 [(0, .ref l0), (1, .int l1), (2, .int l2), (3, .int l3), (4, .int l4), (5, .int l5), (6, .int l6)] [] μ (mX12_worst_50 fu l0 l1 l2 l3 l4 l5 l6 μ) := by
  intro fu
  induction fu with
  | zero =>
    intro l0 l1 l2 l3 l4 l5 l6 μ f0
    exact sim_none
  | succ fu ih =>
    intro l0 l1 l2 l3 l4 l5 l6 μ f0
    rw [mX12_worst_50]
    refine s_iload hF dX12_worst_50 6 rfl ?_
    refine s_iload_n hF dX12_worst_52 rfl 2 rfl ?_
    refine s_icmp_ge (tgt := 111) hF dX12_worst_53 rfl (fun c17 => ?_) (fun c17 => ?_)
    · refine s_sub [3, 4, 5] rfl ?_
      exact sX12_worst_111 hF hD l3 l4 l5 _
    · refine s_aload_n hF dX12_worst_56 rfl 0 rfl ?_
      refine s_cVi (st := []) (ci := 12) [] hF hD.dr dX12_worst_57 cwX12_381 (Nat.le_of_ble_eq_true rfl) (Nat.le_of_ble_eq_true rfl) rfl rfl (Nat.le_of_ble_eq_true rfl) f0 rfl rfl (Nat.le_of_ble_eq_true rfl) (ctX12_chainJams l0 _) (fun r18 m19 hl20 hm21 => ?_)
      refine s_if_ne (tgt := 111) hF dX12_worst_60 rfl (fun c22 => ?_) (fun c22 => ?_)
      · refine s_iload_n hF dX12_worst_63 rfl 1 rfl ?_
        refine s_iload hF dX12_worst_64 6 rfl ?_
        refine s_iadd hF dX12_worst_66 ?_
        refine s_aload_n hF dX12_worst_67 rfl 0 rfl ?_
        refine s_iload_n hF dX12_worst_68 rfl 1 rfl ?_
        refine s_iload hF dX12_worst_69 6 rfl ?_
        refine s_iadd hF dX12_worst_71 ?_
        refine s_cVi (st := [.int (l1 + l6)]) (ci := 12) [.int (l1 + l6)] hF hD.dr dX12_worst_72 cwX12_384 (Nat.le_of_ble_eq_true rfl) (Nat.le_of_ble_eq_true rfl) rfl rfl (Nat.le_of_ble_eq_true rfl) (isK.mo f0 hm21) rfl rfl (Nat.le_of_ble_eq_true rfl) (ctX12_throughOf l0 (l1 + l6) _) (fun r23 m24 hl25 hm26 => ?_)
        refine s_cSi (st := []) [.int (l1 + l6), .int r23] hF hD.dr dX12_worst_75 cwX12_294 (Nat.le_of_ble_eq_true rfl) (Nat.le_of_ble_eq_true rfl) rfl rfl (Nat.le_of_ble_eq_true rfl) (ctX12_off (l1 + l6) r23 _) (fun r27 m28 hl29 hm30 => ?_)
        refine s_istore (pls' := [(7, .int r27), (0, .ref l0), (1, .int l1), (2, .int l2), (3, .int l3), (4, .int l4), (5, .int l5), (6, .int l6)]) hF dX12_worst_78 (by decide) rfl ?_
        refine s_iload hF dX12_worst_80 0 rfl ?_
        refine s_iload hF dX12_worst_82 6 rfl ?_
        refine s_icmp_le (tgt := 92) hF dX12_worst_84 rfl (fun c31 => ?_) (fun c31 => ?_)
        · refine s_iload hF dX12_worst_92 5 rfl ?_
          refine s_sub [1, 2, 3, 4, 6, 7, 0] rfl ?_
          exact sX12_worst_94 (fun l0 l1 l2 l3 l4 l5 l6 μ => mX12_worst_50 fu l0 l1 l2 l3 l4 l5 l6 μ) hF hD ih l0 l1 l2 l3 l5 l6 r27 l4 _ (isK.mo (isK.mo (isK.mo f0 hm21) hm26) hm30)
        · refine s_iload hF dX12_worst_87 7 rfl ?_
          refine s_goto (tgt := 94) hF dX12_worst_89 rfl ?_
          refine s_sub [1, 2, 3, 4, 6, 7, 0] rfl ?_
          exact sX12_worst_94 (fun l0 l1 l2 l3 l4 l5 l6 μ => mX12_worst_50 fu l0 l1 l2 l3 l4 l5 l6 μ) hF hD ih l0 l1 l2 l3 l5 l6 r27 l6 _ (isK.mo (isK.mo (isK.mo f0 hm21) hm26) hm30)
      · refine s_sub [3, 4, 5] rfl ?_
        exact sX12_worst_111 hF hD l3 l4 l5 _
theorem sX12_worst_31 {F : Option Fx} (hF : FxO F RX12 cX12_worst 8 4) (hD : FxDO F (some .int)) (l0 : Nat) (l1 : Int32) (l2 : Int32) (l3 : Int32) (k0 : Int32) (k1 : Nat) (μ : Mem) (f0 : isK μ l0 12 = true) : Sim F encI 31 [(0, .ref l0), (1, .int l1), (2, .int l2), (3, .int l3)] [.int k0, .ref k1] μ (mX12_worst_31 l0 l1 l2 l3 k0 k1 μ) := by
  unfold mX12_worst_31
  refine s_iconst (v := (1 : Int32)) hF dX12_worst_31 kI_1 ?_
  refine s_iconst (v := (1 : Int32)) hF dX12_worst_32 kI_1 ?_
  refine sim_gd (fun g15 => ?_)
  refine s_cVi (st := []) (ci := 12) [.int k0, .int (1 : Int32), .int (1 : Int32)] hF hD.dr dX12_worst_33 cwX12_167 (Nat.le_of_ble_eq_true rfl) (Nat.le_of_ble_eq_true rfl) rfl rfl (Nat.le_of_ble_eq_true rfl) g15 rfl rfl (Nat.le_of_ble_eq_true rfl) (ctX12_bad k1 k0 (1 : Int32) (1 : Int32) _) (fun r11 m12 hl13 hm14 => ?_)
  refine s_if_eq (tgt := 41) hF dX12_worst_36 rfl (fun c16 => ?_) (fun c16 => ?_)
  · refine s_iconst (v := (-1 : Int32)) hF dX12_worst_41 kI_m1 ?_
    refine s_istore (pls' := [(4, .int (-1 : Int32)), (0, .ref l0), (1, .int l1), (2, .int l2), (3, .int l3)]) hF dX12_worst_42 (by decide) rfl ?_
    refine s_iconst (v := (-1 : Int32)) hF dX12_worst_44 kI_m1 ?_
    refine s_istore (pls' := [(5, .int (-1 : Int32)), (4, .int (-1 : Int32)), (0, .ref l0), (1, .int l1), (2, .int l2), (3, .int l3)]) hF dX12_worst_45 (by decide) rfl ?_
    refine s_iconst (v := (0 : Int32)) hF dX12_worst_47 kI_0 ?_
    refine s_istore (pls' := [(6, .int (0 : Int32)), (5, .int (-1 : Int32)), (4, .int (-1 : Int32)), (0, .ref l0), (1, .int l1), (2, .int l2), (3, .int l3)]) hF dX12_worst_48 (by decide) rfl ?_
    refine s_sub [3, 4, 5, 6, 2, 1, 0] rfl ?_
    exact sX12_worst_50 hF hD 100000 l0 l1 l2 l3 (-1 : Int32) (-1 : Int32) (0 : Int32) _ (isK.mo f0 hm14)
  · refine s_iconst (v := (0 : Int32)) hF dX12_worst_39 kI_0 ?_
    exact s_iretD hF hD dX12_worst_40 rfl
theorem ctX12_worst  (l0 : Nat) (l1 : Int32) (l2 : Int32) (l3 : Int32) (μ : Mem) : ∀ (r : Int32) (μ' : Mem), LX12_worst l0 l1 l2 l3 μ = some (r, μ') → CtD yX12_worst cX12_worst 8 (some .int) 4 [.ref l0, .int l1, .int l2, .int l3] μ (encI r) μ' := by
  refine ct_enterD plX12 (Nat.le_of_ble_eq_true rfl) (fun F hF hD hI => ?_)
  unfold LX12_worst
  refine sim_gd (fun f0 => ?_)
  refine s_aload_n hF dX12_worst_0 rfl 0 rfl ?_
  refine s_iconst (v := (0 : Int32)) hF dX12_worst_1 kI_0 ?_
  refine s_putI hF dX12_worst_2 flX12_94 f0 ?_
  refine s_aload_n hF dX12_worst_5 rfl 0 rfl ?_
  refine s_iload_n hF dX12_worst_6 rfl 2 rfl ?_
  refine s_iconst (v := (0 : Int32)) hF dX12_worst_7 kI_0 ?_
  refine s_sipush (v := (1000 : Int32)) hF dX12_worst_8 kS_1000 ?_
  refine s_cSi (st := [.ref l0]) [.int l2, .int (0 : Int32), .int (1000 : Int32)] hF hD.dr dX12_worst_11 cwX12_128 (Nat.le_of_ble_eq_true rfl) (Nat.le_of_ble_eq_true rfl) rfl rfl (Nat.le_of_ble_eq_true rfl) (ctX12_in l2 (0 : Int32) (1000 : Int32) _) (fun r1 m2 hl3 hm4 => ?_)
  refine s_if_eq (tgt := 26) hF dX12_worst_14 rfl (fun c5 => ?_) (fun c5 => ?_)
  · refine s_iconst (v := (1 : Int32)) hF dX12_worst_26 kI_1 ?_
    refine s_goto (tgt := 31) hF dX12_worst_27 rfl ?_
    exact sX12_worst_31 hF hD l0 l1 l2 l3 (1 : Int32) l0 _ (isK.mo f0 hm4)
  · refine s_iload_n hF dX12_worst_17 rfl 3 rfl ?_
    refine s_iconst (v := (0 : Int32)) hF dX12_worst_18 kI_0 ?_
    refine s_iconst (v := (1 : Int32)) hF dX12_worst_19 kI_1 ?_
    refine s_cSi (st := [.ref l0]) [.int l3, .int (0 : Int32), .int (1 : Int32)] hF hD.dr dX12_worst_20 cwX12_128 (Nat.le_of_ble_eq_true rfl) (Nat.le_of_ble_eq_true rfl) rfl rfl (Nat.le_of_ble_eq_true rfl) (ctX12_in l3 (0 : Int32) (1 : Int32) _) (fun r6 m7 hl8 hm9 => ?_)
    refine s_if_ne (tgt := 30) hF dX12_worst_23 rfl (fun c10 => ?_) (fun c10 => ?_)
    · refine s_iconst (v := (1 : Int32)) hF dX12_worst_26 kI_1 ?_
      refine s_goto (tgt := 31) hF dX12_worst_27 rfl ?_
      exact sX12_worst_31 hF hD l0 l1 l2 l3 (1 : Int32) l0 _ (isK.mo (isK.mo f0 hm4) hm9)
    · refine s_iconst (v := (0 : Int32)) hF dX12_worst_30 kI_0 ?_
      exact sX12_worst_31 hF hD l0 l1 l2 l3 (0 : Int32) l0 _ (isK.mo (isK.mo f0 hm4) hm9)
theorem sX12_tries_75 {F : Option Fx} {rec : Nat → Int32 → Int32 → Int32 → Int32 → Int32 → Mem → Option (Unit × Mem)} {w : Nat} (hB : 3 ≤ w) (hrec : ∀ (l0 : Nat) (l1 : Int32) (l2 : Int32) (l3 : Int32) (l4 : Int32) (l5 : Int32) (μ : Mem) (r : Unit) (μ' : Mem), rec l0 l1 l2 l3 l4 l5 μ = some (r, μ') → CtD yX12_tries cX12_tries 9 none w [.ref l0, .int l1, .int l2, .int l3, .int l4, .int l5] μ (encV r) μ') (hF : FxO F RX12 cX12_tries 9 (w + 1)) (hD : FxDO F none) : ∀ (fu : Nat) (l0 : Nat) (l4 : Int32) (l8 : Int32) (μ : Mem) (f0 : isK μ l0 12 = true), Sim F encV 75 [(0, .ref l0), (4, .int l4), (8, .int l8)] [] μ (mX12_tries_75 rec fu l0 l4 l8 μ) := by
  intro fu
  induction fu with
  | zero =>
    intro l0 l4 l8 μ f0
    exact sim_none
  | succ fu ih =>
    intro l0 l4 l8 μ f0
    rw [mX12_tries_75]
    refine s_iload hF dX12_tries_75 2 rfl ?_
    refine s_iload hF dX12_tries_77 1 rfl ?_
    refine s_icmp_ge (tgt := 102) hF dX12_tries_79 rfl (fun c46 => ?_) (fun c46 => ?_)
    · exact s_vretD hF hD dX12_tries_102 rfl
    · refine s_aload_n hF dX12_tries_82 rfl 0 rfl ?_
      refine sim_gd (fun g47 => ?_)
      refine s_getR (x := (g_R μ l0 42)) hF dX12_tries_83 flX12_82 f0 g47 rfl ?_
      refine s_iload hF dX12_tries_86 2 rfl ?_
      refine s_aload_n hF dX12_tries_88 rfl 0 rfl ?_
      refine sim_gd (fun g48 => ?_)
      refine s_getR (x := (g_R μ l0 41)) hF dX12_tries_89 flX12_79 f0 g48 rfl ?_
      refine s_iload hF dX12_tries_92 2 rfl ?_
      refine sim_gd (fun g49 => ?_)
      refine s_iaload (x := (g_I μ (g_R μ l0 41) l8.toNatClampNeg)) hF dX12_tries_94 g49 rfl ?_
      refine sim_gd (fun g50 => ?_)
      refine s_iastore hF dX12_tries_95 g50 ?_
      refine s_iinc (v := (l8 + (1 : Int32))) (pls' := [(8, .int (l8 + (1 : Int32))), (0, .ref l0), (4, .int l4)]) hF dX12_tries_96 2 rfl rfl (by decide) rfl ?_
      refine s_goto (tgt := 75) hF dX12_tries_99 rfl ?_
      refine s_sub [1, 2, 0] rfl ?_
      exact ih l0 l4 (l8 + (1 : Int32)) _ f0
theorem sX12_tries_60 {F : Option Fx} {rec : Nat → Int32 → Int32 → Int32 → Int32 → Int32 → Mem → Option (Unit × Mem)} {w : Nat} (hB : 3 ≤ w) (hrec : ∀ (l0 : Nat) (l1 : Int32) (l2 : Int32) (l3 : Int32) (l4 : Int32) (l5 : Int32) (μ : Mem) (r : Unit) (μ' : Mem), rec l0 l1 l2 l3 l4 l5 μ = some (r, μ') → CtD yX12_tries cX12_tries 9 none w [.ref l0, .int l1, .int l2, .int l3, .int l4, .int l5] μ (encV r) μ') (hF : FxO F RX12 cX12_tries 9 (w + 1)) (hD : FxDO F none) (l0 : Nat) (l4 : Int32) (l7 : Int32) (μ : Mem) (f0 : isK μ l0 12 = true) : Sim F encV 60 [(0, .ref l0), (4, .int l4), (7, .int l7)] [] μ (mX12_tries_60 rec l0 l4 l7 μ) := by
  unfold mX12_tries_60
  refine s_aload_n hF dX12_tries_60 rfl 0 rfl ?_
  refine s_iload hF dX12_tries_61 2 rfl ?_
  refine s_putI hF dX12_tries_63 flX12_387 f0 ?_
  refine s_aload_n hF dX12_tries_66 rfl 0 rfl ?_
  refine s_iload hF dX12_tries_67 1 rfl ?_
  refine s_putI hF dX12_tries_69 flX12_390 f0 ?_
  refine s_iconst (v := (0 : Int32)) hF dX12_tries_72 kI_0 ?_
  refine s_istore (pls' := [(8, .int (0 : Int32)), (0, .ref l0), (4, .int l4), (7, .int l7)]) hF dX12_tries_73 (by decide) rfl ?_
  refine s_sub [1, 2, 0] rfl ?_
  exact sX12_tries_75 hB hrec hF hD 100000 l0 l4 (0 : Int32) _ f0
theorem sX12_tries_106 {F : Option Fx} {rec : Nat → Int32 → Int32 → Int32 → Int32 → Int32 → Mem → Option (Unit × Mem)} {w : Nat} (hB : 3 ≤ w) (hrec : ∀ (l0 : Nat) (l1 : Int32) (l2 : Int32) (l3 : Int32) (l4 : Int32) (l5 : Int32) (μ : Mem) (r : Unit) (μ' : Mem), rec l0 l1 l2 l3 l4 l5 μ = some (r, μ') → CtD yX12_tries cX12_tries 9 none w [.ref l0, .int l1, .int l2, .int l3, .int l4, .int l5] μ (encV r) μ') (hF : FxO F RX12 cX12_tries 9 (w + 1)) (hD : FxDO F none) : ∀ (fu : Nat) (l0 : Nat) (l1 : Int32) (l2 : Int32) (l3 : Int32) (l4 : Int32) (l5 : Int32) (l6 : Int32) (l8 : Int32) (μ : Mem) (f0 : isK μ l0 12 = true), Sim F encV 106 [(0, .ref l0), (1, .int l1), (2, .int l2), (3, .int l3), (4, .int l4), (5, .int l5), (6, .int l6), (8, .int l8)] [] μ (mX12_tries_106 rec fu l0 l1 l2 l3 l4 l5 l6 l8 μ) := by
  intro fu
  induction fu with
  | zero =>
    intro l0 l1 l2 l3 l4 l5 l6 l8 μ f0
    exact sim_none
  | succ fu ih =>
    intro l0 l1 l2 l3 l4 l5 l6 l8 μ f0
    rw [mX12_tries_106]
    refine s_iload hF dX12_tries_106 7 rfl ?_
    refine s_aload_n hF dX12_tries_108 rfl 0 rfl ?_
    refine sim_gd (fun g12 => ?_)
    refine s_getR (x := (g_R μ l0 12)) hF dX12_tries_109 flX12_23 f0 g12 rfl ?_
    refine s_iconst (v := (0 : Int32)) hF dX12_tries_112 kI_0 ?_
    refine sim_gd (fun g13 => ?_)
    refine s_iaload (x := (g_I μ (g_R μ l0 12) (0 : Int32).toNatClampNeg)) hF dX12_tries_113 g13 rfl ?_
    refine s_icmp_ge (tgt := 201) hF dX12_tries_114 rfl (fun c14 => ?_) (fun c14 => ?_)
    · exact s_vretD hF hD dX12_tries_201 rfl
    · refine s_iload hF dX12_tries_117 5 rfl ?_
      refine s_iload hF dX12_tries_119 7 rfl ?_
      refine s_cSi (st := []) [.int l5, .int l8] hF hD.dr dX12_tries_121 cwX12_393 (by omega) (Nat.le_of_ble_eq_true rfl) rfl rfl (Nat.le_of_ble_eq_true rfl) (ctX12_has l5 l8 _) (fun r15 m16 hl17 hm18 => ?_)
      refine s_if_ne (tgt := 195) hF dX12_tries_124 rfl (fun c19 => ?_) (fun c19 => ?_)
      · refine s_aload_n hF dX12_tries_127 rfl 0 rfl ?_
        refine s_iload hF dX12_tries_128 6 rfl ?_
        refine s_iconst (v := (0 : Int32)) hF dX12_tries_130 kI_0 ?_
        refine s_cVi (st := []) (ci := 12) [.int l6, .int (0 : Int32)] hF hD.dr dX12_tries_131 cwX12_358 (by omega) (Nat.le_of_ble_eq_true rfl) rfl rfl (Nat.le_of_ble_eq_true rfl) (isK.mo f0 hm18) rfl rfl (Nat.le_of_ble_eq_true rfl) (ctX12_wired l0 l6 (0 : Int32) _) (fun r20 m21 hl22 hm23 => ?_)
        refine s_iload hF dX12_tries_134 7 rfl ?_
        refine s_cSi (st := []) [.int r20, .int l8] hF hD.dr dX12_tries_136 cwX12_393 (by omega) (Nat.le_of_ble_eq_true rfl) rfl rfl (Nat.le_of_ble_eq_true rfl) (ctX12_has r20 l8 _) (fun r24 m25 hl26 hm27 => ?_)
        refine s_if_eq (tgt := 195) hF dX12_tries_139 rfl (fun c28 => ?_) (fun c28 => ?_)
        · refine s_iinc (v := (l8 + (1 : Int32))) (pls' := [(8, .int (l8 + (1 : Int32))), (0, .ref l0), (1, .int l1), (2, .int l2), (3, .int l3), (4, .int l4), (5, .int l5), (6, .int l6)]) hF dX12_tries_195 7 rfl rfl (by decide) rfl ?_
          refine s_goto (tgt := 106) hF dX12_tries_198 rfl ?_
          refine s_sub [1, 2, 3, 4, 5, 6, 7, 0] rfl ?_
          exact ih l0 l1 l2 l3 l4 l5 l6 (l8 + (1 : Int32)) _ (isK.mo (isK.mo (isK.mo f0 hm18) hm23) hm27)
        · refine s_aload_n hF dX12_tries_142 rfl 0 rfl ?_
          refine s_aload_n hF dX12_tries_143 rfl 0 rfl ?_
          refine sim_gd (fun g29 => ?_)
          refine s_getR (x := (g_R m25 l0 29)) hF dX12_tries_144 flX12_67 (isK.mo (isK.mo (isK.mo f0 hm18) hm23) hm27) g29 rfl ?_
          refine s_iload hF dX12_tries_147 7 rfl ?_
          refine s_cVi (st := []) (ci := 12) [.ref (g_R m25 l0 29), .int l8] hF hD.dr dX12_tries_149 cwX12_286 (by omega) (Nat.le_of_ble_eq_true rfl) rfl rfl (Nat.le_of_ble_eq_true rfl) (isK.mo (isK.mo (isK.mo f0 hm18) hm23) hm27) rfl rfl (Nat.le_of_ble_eq_true rfl) (ctX12_jams l0 (g_R m25 l0 29) l8 _) (fun r30 m31 hl32 hm33 => ?_)
          refine s_if_eq (tgt := 158) hF dX12_tries_152 rfl (fun c34 => ?_) (fun c34 => ?_)
          · refine s_aload_n hF dX12_tries_158 rfl 0 rfl ?_
            refine sim_gd (fun g35 => ?_)
            refine s_getR (x := (g_R m31 l0 41)) hF dX12_tries_159 flX12_79 (isK.mo (isK.mo (isK.mo (isK.mo f0 hm18) hm23) hm27) hm33) g35 rfl ?_
            refine s_iload hF dX12_tries_162 4 rfl ?_
            refine s_iload hF dX12_tries_164 7 rfl ?_
            refine sim_gd (fun g36 => ?_)
            refine s_iastore hF dX12_tries_166 g36 ?_
            refine s_aload_n hF dX12_tries_167 rfl 0 rfl ?_
            refine s_iload_n hF dX12_tries_168 rfl 1 rfl ?_
            refine s_iload_n hF dX12_tries_169 rfl 2 rfl ?_
            refine s_aload_n hF dX12_tries_170 rfl 0 rfl ?_
            refine s_aload_n hF dX12_tries_171 rfl 0 rfl ?_
            refine sim_gd (fun g37 => ?_)
            refine s_getR (x := (g_R m31 l0 29)) hF dX12_tries_172 flX12_67 (isK.mo (isK.mo (isK.mo (isK.mo f0 hm18) hm23) hm27) hm33) g37 rfl ?_
            refine s_iload hF dX12_tries_175 7 rfl ?_
            refine s_iload_n hF dX12_tries_177 rfl 3 rfl ?_
            refine s_cVi (st := [.int l2, .int l1, .ref l0]) (ci := 12) [.ref (g_R m31 l0 29), .int l8, .int l3] hF hD.dr dX12_tries_178 cwX12_290 (by omega) (Nat.le_of_ble_eq_true rfl) rfl rfl (Nat.le_of_ble_eq_true rfl) (isK.mo (isK.mo (isK.mo (isK.mo f0 hm18) hm23) hm27) hm33) rfl rfl (Nat.le_of_ble_eq_true rfl) (ctX12_outOf l0 (g_R m31 l0 29) l8 l3 _) (fun r38 m39 hl40 hm41 => ?_)
            refine s_iload hF dX12_tries_181 4 rfl ?_
            refine s_iconst (v := (1 : Int32)) hF dX12_tries_183 kI_1 ?_
            refine s_iadd hF dX12_tries_184 ?_
            refine s_iload hF dX12_tries_185 5 rfl ?_
            refine s_iconst (v := (1 : Int32)) hF dX12_tries_187 kI_1 ?_
            refine s_iload hF dX12_tries_188 7 rfl ?_
            refine s_ishl hF dX12_tries_190 ?_
            refine s_ior hF dX12_tries_191 ?_
            refine s_cVv (st := []) (ci := 12) [.int l1, .int l2, .int r38, .int (l4 + (1 : Int32)), .int (l5 ||| ((1 : Int32) <<< (l8 &&& 31)))] hF hD.dr dX12_tries_192 cwX12_396 (by omega) (Nat.le_of_ble_eq_true rfl) rfl rfl (Nat.le_of_ble_eq_true rfl) (isK.mo (isK.mo (isK.mo (isK.mo (isK.mo f0 hm18) hm23) hm27) hm33) hm41) rfl rfl (Nat.le_of_ble_eq_true rfl) (hrec l0 l1 l2 r38 (l4 + (1 : Int32)) (l5 ||| ((1 : Int32) <<< (l8 &&& 31))) _) (fun r42 m43 hl44 hm45 => ?_)
            refine s_iinc (v := (l8 + (1 : Int32))) (pls' := [(8, .int (l8 + (1 : Int32))), (0, .ref l0), (1, .int l1), (2, .int l2), (3, .int l3), (4, .int l4), (5, .int l5), (6, .int l6)]) hF dX12_tries_195 7 rfl rfl (by decide) rfl ?_
            refine s_goto (tgt := 106) hF dX12_tries_198 rfl ?_
            refine s_sub [1, 2, 3, 4, 5, 6, 7, 0] rfl ?_
            exact ih l0 l1 l2 l3 l4 l5 l6 (l8 + (1 : Int32)) _ (isK.mo (isK.mo (isK.mo (isK.mo (isK.mo (isK.mo f0 hm18) hm23) hm27) hm33) hm41) hm45)
          · refine s_goto (tgt := 195) hF dX12_tries_155 rfl ?_
            refine s_iinc (v := (l8 + (1 : Int32))) (pls' := [(8, .int (l8 + (1 : Int32))), (0, .ref l0), (1, .int l1), (2, .int l2), (3, .int l3), (4, .int l4), (5, .int l5), (6, .int l6)]) hF dX12_tries_195 7 rfl rfl (by decide) rfl ?_
            refine s_goto (tgt := 106) hF dX12_tries_198 rfl ?_
            refine s_sub [1, 2, 3, 4, 5, 6, 7, 0] rfl ?_
            exact ih l0 l1 l2 l3 l4 l5 l6 (l8 + (1 : Int32)) _ (isK.mo (isK.mo (isK.mo (isK.mo f0 hm18) hm23) hm27) hm33)
      · refine s_iinc (v := (l8 + (1 : Int32))) (pls' := [(8, .int (l8 + (1 : Int32))), (0, .ref l0), (1, .int l1), (2, .int l2), (3, .int l3), (4, .int l4), (5, .int l5), (6, .int l6)]) hF dX12_tries_195 7 rfl rfl (by decide) rfl ?_
        refine s_goto (tgt := 106) hF dX12_tries_198 rfl ?_
        refine s_sub [1, 2, 3, 4, 5, 6, 7, 0] rfl ?_
        exact ih l0 l1 l2 l3 l4 l5 l6 (l8 + (1 : Int32)) _ (isK.mo f0 hm18)
theorem ctX12_tries_b {rec : Nat → Int32 → Int32 → Int32 → Int32 → Int32 → Mem → Option (Unit × Mem)} {w : Nat} (hB : 3 ≤ w) (hrec : ∀ (l0 : Nat) (l1 : Int32) (l2 : Int32) (l3 : Int32) (l4 : Int32) (l5 : Int32) (μ : Mem) (r : Unit) (μ' : Mem), rec l0 l1 l2 l3 l4 l5 μ = some (r, μ') → CtD yX12_tries cX12_tries 9 none w [.ref l0, .int l1, .int l2, .int l3, .int l4, .int l5] μ (encV r) μ') (l0 : Nat) (l1 : Int32) (l2 : Int32) (l3 : Int32) (l4 : Int32) (l5 : Int32) (μ : Mem) : ∀ (r : Unit) (μ' : Mem), LX12_tries_b rec l0 l1 l2 l3 l4 l5 μ = some (r, μ') → CtD yX12_tries cX12_tries 9 none (w + 1) [.ref l0, .int l1, .int l2, .int l3, .int l4, .int l5] μ (encV r) μ' := by
  refine ct_enterD plX12 (Nat.le_of_ble_eq_true rfl) (fun F hF hD hI => ?_)
  unfold LX12_tries_b
  refine sim_gd (fun f0 => ?_)
  refine s_aload_n hF dX12_tries_0 rfl 0 rfl ?_
  refine sim_gd (fun g1 => ?_)
  refine s_getR (x := (g_R μ l0 41)) hF dX12_tries_1 flX12_79 f0 g1 rfl ?_
  refine s_iload hF dX12_tries_4 4 rfl ?_
  refine s_iconst (v := (1 : Int32)) hF dX12_tries_6 kI_1 ?_
  refine s_isub hF dX12_tries_7 ?_
  refine sim_gd (fun g2 => ?_)
  refine s_iaload (x := (g_I μ (g_R μ l0 41) (l4 - (1 : Int32)).toNatClampNeg)) hF dX12_tries_8 g2 rfl ?_
  refine s_istore (pls' := [(6, .int (g_I μ (g_R μ l0 41) (l4 - (1 : Int32)).toNatClampNeg)), (0, .ref l0), (1, .int l1), (2, .int l2), (3, .int l3), (4, .int l4), (5, .int l5)]) hF dX12_tries_9 (by decide) rfl ?_
  refine s_iload_n hF dX12_tries_11 rfl 3 rfl ?_
  refine s_iload_n hF dX12_tries_12 rfl 4 rfl ?_
  refine s_cSi (st := []) [.int l2, .int l3] hF hD.dr dX12_tries_13 cwX12_294 (by omega) (Nat.le_of_ble_eq_true rfl) rfl rfl (Nat.le_of_ble_eq_true rfl) (ctX12_off l2 l3 _) (fun r3 m4 hl5 hm6 => ?_)
  refine s_istore (pls' := [(7, .int r3), (6, .int (g_I μ (g_R μ l0 41) (l4 - (1 : Int32)).toNatClampNeg)), (0, .ref l0), (1, .int l1), (2, .int l2), (3, .int l3), (4, .int l4), (5, .int l5)]) hF dX12_tries_16 (by decide) rfl ?_
  refine s_iload hF dX12_tries_18 1 rfl ?_
  refine s_iload_n hF dX12_tries_20 rfl 3 rfl ?_
  refine s_icmp_ne (tgt := 103) hF dX12_tries_21 rfl (fun c7 => ?_) (fun c7 => ?_)
  · refine s_aload_n hF dX12_tries_24 rfl 2 rfl ?_
    refine s_getI (x := (g_I m4 l0 43)) hF dX12_tries_25 flX12_387 (isK.mo f0 hm6) rfl ?_
    refine s_iconst (v := (-1 : Int32)) hF dX12_tries_28 kI_m1 ?_
    refine s_icmp_eq (tgt := 60) hF dX12_tries_29 rfl (fun c8 => ?_) (fun c8 => ?_)
    · refine s_sub [2, 6, 0] rfl ?_
      exact sX12_tries_60 hB hrec hF hD l0 l4 r3 _ (isK.mo f0 hm6)
    · refine s_iload hF dX12_tries_32 0 rfl ?_
      refine s_aload_n hF dX12_tries_34 rfl 2 rfl ?_
      refine s_getI (x := (g_I m4 l0 43)) hF dX12_tries_35 flX12_387 (isK.mo f0 hm6) rfl ?_
      refine s_icmp_gt (tgt := 59) hF dX12_tries_38 rfl (fun c9 => ?_) (fun c9 => ?_)
      · exact s_vretD hF hD dX12_tries_59 rfl
      · refine s_iload hF dX12_tries_41 0 rfl ?_
        refine s_aload_n hF dX12_tries_43 rfl 2 rfl ?_
        refine s_getI (x := (g_I m4 l0 43)) hF dX12_tries_44 flX12_387 (isK.mo f0 hm6) rfl ?_
        refine s_icmp_ne (tgt := 60) hF dX12_tries_47 rfl (fun c10 => ?_) (fun c10 => ?_)
        · refine s_iload hF dX12_tries_50 6 rfl ?_
          refine s_aload_n hF dX12_tries_52 rfl 2 rfl ?_
          refine s_getI (x := (g_I m4 l0 44)) hF dX12_tries_53 flX12_390 (isK.mo f0 hm6) rfl ?_
          refine s_icmp_lt (tgt := 60) hF dX12_tries_56 rfl (fun c11 => ?_) (fun c11 => ?_)
          · refine s_sub [2, 6, 0] rfl ?_
            exact sX12_tries_60 hB hrec hF hD l0 l4 r3 _ (isK.mo f0 hm6)
          · exact s_vretD hF hD dX12_tries_59 rfl
        · refine s_sub [2, 6, 0] rfl ?_
          exact sX12_tries_60 hB hrec hF hD l0 l4 r3 _ (isK.mo f0 hm6)
  · refine s_iconst (v := (0 : Int32)) hF dX12_tries_103 kI_0 ?_
    refine s_istore (pls' := [(8, .int (0 : Int32)), (7, .int r3), (6, .int (g_I μ (g_R μ l0 41) (l4 - (1 : Int32)).toNatClampNeg)), (0, .ref l0), (1, .int l1), (2, .int l2), (3, .int l3), (4, .int l4), (5, .int l5)]) hF dX12_tries_104 (by decide) rfl ?_
    refine s_sub [3, 4, 5, 6, 7, 8, 2, 0] rfl ?_
    exact sX12_tries_106 hB hrec hF hD 100000 l0 l1 l2 l3 l4 l5 (g_I μ (g_R μ l0 41) (l4 - (1 : Int32)).toNatClampNeg) (0 : Int32) _ (isK.mo f0 hm6)
theorem ctX12_tries : ∀ (d : Nat) (l0 : Nat) (l1 : Int32) (l2 : Int32) (l3 : Int32) (l4 : Int32) (l5 : Int32) (μ : Mem) (r : Unit) (μ' : Mem), LX12_tries d l0 l1 l2 l3 l4 l5 μ = some (r, μ') → CtD yX12_tries cX12_tries 9 none (3 + 1 * d) [.ref l0, .int l1, .int l2, .int l3, .int l4, .int l5] μ (encV r) μ'
  | 0, _, _, _, _, _, _, _ => fun r μ' h => by cases h
  | d + 1, l0, l1, l2, l3, l4, l5, μ => fun r μ' h => ctX12_tries_b (Nat.le_add_right _ _) (fun l0 l1 l2 l3 l4 l5 μ r μ' h => ctX12_tries d l0 l1 l2 l3 l4 l5 μ r μ' h) l0 l1 l2 l3 l4 l5 μ r μ' h
theorem ctX12_laysBest  (l0 : Nat) (l1 : Int32) (l2 : Int32) (l3 : Int32) (μ : Mem) : ∀ (r : Unit) (μ' : Mem), LX12_laysBest l0 l1 l2 l3 μ = some (r, μ') → CtD yX12_laysBest cX12_laysBest 4 none 16 [.ref l0, .int l1, .int l2, .int l3] μ (encV r) μ' := by
  refine ct_enterD plX12 (Nat.le_of_ble_eq_true rfl) (fun F hF hD hI => ?_)
  unfold LX12_laysBest
  refine sim_gd (fun f0 => ?_)
  refine s_aload_n hF dX12_laysBest_0 rfl 0 rfl ?_
  refine s_iconst (v := (-1 : Int32)) hF dX12_laysBest_1 kI_m1 ?_
  refine s_putI hF dX12_laysBest_2 flX12_387 f0 ?_
  refine s_aload_n hF dX12_laysBest_5 rfl 0 rfl ?_
  refine s_iconst (v := (-1 : Int32)) hF dX12_laysBest_6 kI_m1 ?_
  refine s_putI hF dX12_laysBest_7 flX12_390 f0 ?_
  refine s_aload_n hF dX12_laysBest_10 rfl 0 rfl ?_
  refine sim_gd (fun g1 => ?_)
  refine s_getR (x := (g_R μ l0 41)) hF dX12_laysBest_11 flX12_79 f0 g1 rfl ?_
  refine s_iconst (v := (0 : Int32)) hF dX12_laysBest_14 kI_0 ?_
  refine s_iload_n hF dX12_laysBest_15 rfl 1 rfl ?_
  refine sim_gd (fun g2 => ?_)
  refine s_iastore hF dX12_laysBest_16 g2 ?_
  refine s_aload_n hF dX12_laysBest_17 rfl 0 rfl ?_
  refine s_aload_n hF dX12_laysBest_18 rfl 0 rfl ?_
  refine sim_gd (fun g3 => ?_)
  refine s_getR (x := (g_R μ l0 29)) hF dX12_laysBest_19 flX12_67 f0 g3 rfl ?_
  refine s_iload_n hF dX12_laysBest_22 rfl 1 rfl ?_
  refine s_cVi (st := []) (ci := 12) [.ref (g_R μ l0 29), .int l1] hF hD.dr dX12_laysBest_23 cwX12_286 (Nat.le_of_ble_eq_true rfl) (Nat.le_of_ble_eq_true rfl) rfl rfl (Nat.le_of_ble_eq_true rfl) f0 rfl rfl (Nat.le_of_ble_eq_true rfl) (ctX12_jams l0 (g_R μ l0 29) l1 _) (fun r4 m5 hl6 hm7 => ?_)
  refine s_if_ne (tgt := 49) hF dX12_laysBest_26 rfl (fun c8 => ?_) (fun c8 => ?_)
  · refine s_aload_n hF dX12_laysBest_29 rfl 0 rfl ?_
    refine s_iload_n hF dX12_laysBest_30 rfl 2 rfl ?_
    refine s_iload_n hF dX12_laysBest_31 rfl 3 rfl ?_
    refine s_aload_n hF dX12_laysBest_32 rfl 0 rfl ?_
    refine s_aload_n hF dX12_laysBest_33 rfl 0 rfl ?_
    refine sim_gd (fun g9 => ?_)
    refine s_getR (x := (g_R m5 l0 29)) hF dX12_laysBest_34 flX12_67 (isK.mo f0 hm7) g9 rfl ?_
    refine s_iload_n hF dX12_laysBest_37 rfl 1 rfl ?_
    refine s_iload_n hF dX12_laysBest_38 rfl 3 rfl ?_
    refine s_cVi (st := [.int l3, .int l2, .ref l0]) (ci := 12) [.ref (g_R m5 l0 29), .int l1, .int l3] hF hD.dr dX12_laysBest_39 cwX12_290 (Nat.le_of_ble_eq_true rfl) (Nat.le_of_ble_eq_true rfl) rfl rfl (Nat.le_of_ble_eq_true rfl) (isK.mo f0 hm7) rfl rfl (Nat.le_of_ble_eq_true rfl) (ctX12_outOf l0 (g_R m5 l0 29) l1 l3 _) (fun r10 m11 hl12 hm13 => ?_)
    refine s_iconst (v := (1 : Int32)) hF dX12_laysBest_42 kI_1 ?_
    refine s_iconst (v := (1 : Int32)) hF dX12_laysBest_43 kI_1 ?_
    refine s_iload_n hF dX12_laysBest_44 rfl 1 rfl ?_
    refine s_ishl hF dX12_laysBest_45 ?_
    refine s_cVv (st := []) (ci := 12) [.int l2, .int l3, .int r10, .int (1 : Int32), .int ((1 : Int32) <<< (l1 &&& 31))] hF hD.dr dX12_laysBest_46 cwX12_396 (Nat.le_of_ble_eq_true rfl) (Nat.le_of_ble_eq_true rfl) rfl rfl (Nat.le_of_ble_eq_true rfl) (isK.mo (isK.mo f0 hm7) hm13) rfl rfl (Nat.le_of_ble_eq_true rfl) (ctX12_tries 12 l0 l2 l3 r10 (1 : Int32) ((1 : Int32) <<< (l1 &&& 31)) _) (fun r14 m15 hl16 hm17 => ?_)
    exact s_vretD hF hD dX12_laysBest_49 rfl
  · exact s_vretD hF hD dX12_laysBest_49 rfl
theorem sX12_best_51 {F : Option Fx} (hF : FxO F RX12 cX12_best 5 17) (hD : FxDO F (some .int)) (l0 : Nat) (l1 : Int32) (l2 : Int32) (l3 : Int32) (l4 : Int32) (k0 : Int32) (k1 : Nat) (μ : Mem) (f0 : isK μ l0 12 = true) : Sim F encI 51 [(0, .ref l0), (1, .int l1), (2, .int l2), (3, .int l3), (4, .int l4)] [.int k0, .ref k1] μ (mX12_best_51 l0 l1 l2 l3 l4 k0 k1 μ) := by
  unfold mX12_best_51
  refine s_iconst (v := (2 : Int32)) hF dX12_best_51 kI_2 ?_
  refine s_iconst (v := (1 : Int32)) hF dX12_best_52 kI_1 ?_
  refine sim_gd (fun g26 => ?_)
  refine s_cVi (st := []) (ci := 12) [.int k0, .int (2 : Int32), .int (1 : Int32)] hF hD.dr dX12_best_53 cwX12_167 (Nat.le_of_ble_eq_true rfl) (Nat.le_of_ble_eq_true rfl) rfl rfl (Nat.le_of_ble_eq_true rfl) g26 rfl rfl (Nat.le_of_ble_eq_true rfl) (ctX12_bad k1 k0 (2 : Int32) (1 : Int32) _) (fun r22 m23 hl24 hm25 => ?_)
  refine s_if_eq (tgt := 61) hF dX12_best_56 rfl (fun c27 => ?_) (fun c27 => ?_)
  · refine s_aload_n hF dX12_best_61 rfl 0 rfl ?_
    refine s_iload_n hF dX12_best_62 rfl 1 rfl ?_
    refine s_iload_n hF dX12_best_63 rfl 2 rfl ?_
    refine s_iload_n hF dX12_best_64 rfl 3 rfl ?_
    refine s_cVv (st := []) (ci := 12) [.int l1, .int l2, .int l3] hF hD.dr dX12_best_65 cwX12_400 (Nat.le_of_ble_eq_true rfl) (Nat.le_of_ble_eq_true rfl) rfl rfl (Nat.le_of_ble_eq_true rfl) (isK.mo f0 hm25) rfl rfl (Nat.le_of_ble_eq_true rfl) (ctX12_laysBest l0 l1 l2 l3 _) (fun r28 m29 hl30 hm31 => ?_)
    refine s_iload hF dX12_best_68 4 rfl ?_
    refine s_if_ne (tgt := 80) hF dX12_best_70 rfl (fun c32 => ?_) (fun c32 => ?_)
    · refine s_aload_n hF dX12_best_73 rfl 0 rfl ?_
      refine s_getI (x := (g_I m29 l0 43)) hF dX12_best_74 flX12_387 (isK.mo (isK.mo f0 hm25) hm31) rfl ?_
      refine s_goto (tgt := 84) hF dX12_best_77 rfl ?_
      exact s_iretD hF hD dX12_best_84 rfl
    · refine s_aload_n hF dX12_best_80 rfl 0 rfl ?_
      refine s_getI (x := (g_I m29 l0 44)) hF dX12_best_81 flX12_390 (isK.mo (isK.mo f0 hm25) hm31) rfl ?_
      exact s_iretD hF hD dX12_best_84 rfl
  · refine s_iconst (v := (0 : Int32)) hF dX12_best_59 kI_0 ?_
    exact s_iretD hF hD dX12_best_60 rfl
theorem sX12_best_27 {F : Option Fx} (hF : FxO F RX12 cX12_best 5 17) (hD : FxDO F (some .int)) (l0 : Nat) (l1 : Int32) (l2 : Int32) (l3 : Int32) (l4 : Int32) (k0 : Int32) (k1 : Nat) (μ : Mem) (f0 : isK μ l0 12 = true) : Sim F encI 27 [(0, .ref l0), (1, .int l1), (2, .int l2), (3, .int l3), (4, .int l4)] [.int k0, .ref k1] μ (mX12_best_27 l0 l1 l2 l3 l4 k0 k1 μ) := by
  unfold mX12_best_27
  refine s_iconst (v := (1 : Int32)) hF dX12_best_27 kI_1 ?_
  refine s_iconst (v := (0 : Int32)) hF dX12_best_28 kI_0 ?_
  refine sim_gd (fun g15 => ?_)
  refine s_cVi (st := []) (ci := 12) [.int k0, .int (1 : Int32), .int (0 : Int32)] hF hD.dr dX12_best_29 cwX12_167 (Nat.le_of_ble_eq_true rfl) (Nat.le_of_ble_eq_true rfl) rfl rfl (Nat.le_of_ble_eq_true rfl) g15 rfl rfl (Nat.le_of_ble_eq_true rfl) (ctX12_bad k1 k0 (1 : Int32) (0 : Int32) _) (fun r11 m12 hl13 hm14 => ?_)
  refine s_if_ne (tgt := 59) hF dX12_best_32 rfl (fun c16 => ?_) (fun c16 => ?_)
  · refine s_aload_n hF dX12_best_35 rfl 0 rfl ?_
    refine s_iload hF dX12_best_36 4 rfl ?_
    refine s_iconst (v := (0 : Int32)) hF dX12_best_38 kI_0 ?_
    refine s_iconst (v := (1 : Int32)) hF dX12_best_39 kI_1 ?_
    refine s_cSi (st := [.ref l0]) [.int l4, .int (0 : Int32), .int (1 : Int32)] hF hD.dr dX12_best_40 cwX12_128 (Nat.le_of_ble_eq_true rfl) (Nat.le_of_ble_eq_true rfl) rfl rfl (Nat.le_of_ble_eq_true rfl) (ctX12_in l4 (0 : Int32) (1 : Int32) _) (fun r17 m18 hl19 hm20 => ?_)
    refine s_if_ne (tgt := 50) hF dX12_best_43 rfl (fun c21 => ?_) (fun c21 => ?_)
    · refine s_iconst (v := (1 : Int32)) hF dX12_best_46 kI_1 ?_
      refine s_goto (tgt := 51) hF dX12_best_47 rfl ?_
      exact sX12_best_51 hF hD l0 l1 l2 l3 l4 (1 : Int32) l0 _ (isK.mo (isK.mo f0 hm14) hm20)
    · refine s_iconst (v := (0 : Int32)) hF dX12_best_50 kI_0 ?_
      exact sX12_best_51 hF hD l0 l1 l2 l3 l4 (0 : Int32) l0 _ (isK.mo (isK.mo f0 hm14) hm20)
  · refine s_iconst (v := (0 : Int32)) hF dX12_best_59 kI_0 ?_
    exact s_iretD hF hD dX12_best_60 rfl
theorem ctX12_best  (l0 : Nat) (l1 : Int32) (l2 : Int32) (l3 : Int32) (l4 : Int32) (μ : Mem) : ∀ (r : Int32) (μ' : Mem), LX12_best l0 l1 l2 l3 l4 μ = some (r, μ') → CtD yX12_best cX12_best 5 (some .int) 17 [.ref l0, .int l1, .int l2, .int l3, .int l4] μ (encI r) μ' := by
  refine ct_enterD plX12 (Nat.le_of_ble_eq_true rfl) (fun F hF hD hI => ?_)
  unfold LX12_best
  refine sim_gd (fun f0 => ?_)
  refine s_aload_n hF dX12_best_0 rfl 0 rfl ?_
  refine s_iconst (v := (0 : Int32)) hF dX12_best_1 kI_0 ?_
  refine s_putI hF dX12_best_2 flX12_94 f0 ?_
  refine s_aload_n hF dX12_best_5 rfl 0 rfl ?_
  refine s_aload_n hF dX12_best_6 rfl 0 rfl ?_
  refine s_iload_n hF dX12_best_7 rfl 1 rfl ?_
  refine s_cVi (st := [.ref l0]) (ci := 12) [.int l1] hF hD.dr dX12_best_8 cwX12_355 (Nat.le_of_ble_eq_true rfl) (Nat.le_of_ble_eq_true rfl) rfl rfl (Nat.le_of_ble_eq_true rfl) f0 rfl rfl (Nat.le_of_ble_eq_true rfl) (ctX12_isPen l0 l1 _) (fun r1 m2 hl3 hm4 => ?_)
  refine s_if_eq (tgt := 22) hF dX12_best_11 rfl (fun c5 => ?_) (fun c5 => ?_)
  · refine s_iconst (v := (1 : Int32)) hF dX12_best_22 kI_1 ?_
    refine s_goto (tgt := 27) hF dX12_best_23 rfl ?_
    exact sX12_best_27 hF hD l0 l1 l2 l3 l4 (1 : Int32) l0 _ (isK.mo f0 hm4)
  · refine s_aload_n hF dX12_best_14 rfl 0 rfl ?_
    refine s_iload_n hF dX12_best_15 rfl 2 rfl ?_
    refine s_cVi (st := [.ref l0]) (ci := 12) [.int l2] hF hD.dr dX12_best_16 cwX12_355 (Nat.le_of_ble_eq_true rfl) (Nat.le_of_ble_eq_true rfl) rfl rfl (Nat.le_of_ble_eq_true rfl) (isK.mo f0 hm4) rfl rfl (Nat.le_of_ble_eq_true rfl) (ctX12_isPen l0 l2 _) (fun r6 m7 hl8 hm9 => ?_)
    refine s_if_ne (tgt := 26) hF dX12_best_19 rfl (fun c10 => ?_) (fun c10 => ?_)
    · refine s_iconst (v := (1 : Int32)) hF dX12_best_22 kI_1 ?_
      refine s_goto (tgt := 27) hF dX12_best_23 rfl ?_
      exact sX12_best_27 hF hD l0 l1 l2 l3 l4 (1 : Int32) l0 _ (isK.mo (isK.mo f0 hm4) hm9)
    · refine s_iconst (v := (0 : Int32)) hF dX12_best_26 kI_0 ?_
      exact sX12_best_27 hF hD l0 l1 l2 l3 l4 (0 : Int32) l0 _ (isK.mo (isK.mo f0 hm4) hm9)
theorem sX12_hop_46 {F : Option Fx} (hF : FxO F RX12 cX12_hop 5 17) (hD : FxDO F (some .int)) (l0 : Nat) (l1 : Int32) (l2 : Int32) (l3 : Int32) (l4 : Int32) (k0 : Int32) (k1 : Nat) (μ : Mem) (f0 : isK μ l0 12 = true) : Sim F encI 46 [(0, .ref l0), (1, .int l1), (2, .int l2), (3, .int l3), (4, .int l4)] [.int k0, .ref k1] μ (mX12_hop_46 l0 l1 l2 l3 l4 k0 k1 μ) := by
  unfold mX12_hop_46
  refine s_iconst (v := (2 : Int32)) hF dX12_hop_46 kI_2 ?_
  refine s_iconst (v := (1 : Int32)) hF dX12_hop_47 kI_1 ?_
  refine sim_gd (fun g22 => ?_)
  refine s_cVi (st := []) (ci := 12) [.int k0, .int (2 : Int32), .int (1 : Int32)] hF hD.dr dX12_hop_48 cwX12_167 (Nat.le_of_ble_eq_true rfl) (Nat.le_of_ble_eq_true rfl) rfl rfl (Nat.le_of_ble_eq_true rfl) g22 rfl rfl (Nat.le_of_ble_eq_true rfl) (ctX12_bad k1 k0 (2 : Int32) (1 : Int32) _) (fun r18 m19 hl20 hm21 => ?_)
  refine s_if_eq (tgt := 56) hF dX12_hop_51 rfl (fun c23 => ?_) (fun c23 => ?_)
  · refine s_aload_n hF dX12_hop_56 rfl 0 rfl ?_
    refine s_iload_n hF dX12_hop_57 rfl 1 rfl ?_
    refine s_iload_n hF dX12_hop_58 rfl 2 rfl ?_
    refine s_iload_n hF dX12_hop_59 rfl 3 rfl ?_
    refine s_cVv (st := []) (ci := 12) [.int l1, .int l2, .int l3] hF hD.dr dX12_hop_60 cwX12_400 (Nat.le_of_ble_eq_true rfl) (Nat.le_of_ble_eq_true rfl) rfl rfl (Nat.le_of_ble_eq_true rfl) (isK.mo f0 hm21) rfl rfl (Nat.le_of_ble_eq_true rfl) (ctX12_laysBest l0 l1 l2 l3 _) (fun r24 m25 hl26 hm27 => ?_)
    refine s_iload hF dX12_hop_63 4 rfl ?_
    refine s_aload_n hF dX12_hop_65 rfl 0 rfl ?_
    refine s_getI (x := (g_I m25 l0 44)) hF dX12_hop_66 flX12_390 (isK.mo (isK.mo f0 hm21) hm27) rfl ?_
    refine s_icmp_ge (tgt := 82) hF dX12_hop_69 rfl (fun c28 => ?_) (fun c28 => ?_)
    · refine s_iconst (v := (-1 : Int32)) hF dX12_hop_82 kI_m1 ?_
      exact s_iretD hF hD dX12_hop_83 rfl
    · refine s_aload_n hF dX12_hop_72 rfl 0 rfl ?_
      refine sim_gd (fun g29 => ?_)
      refine s_getR (x := (g_R m25 l0 42)) hF dX12_hop_73 flX12_82 (isK.mo (isK.mo f0 hm21) hm27) g29 rfl ?_
      refine s_iload hF dX12_hop_76 4 rfl ?_
      refine sim_gd (fun g30 => ?_)
      refine s_iaload (x := (g_I m25 (g_R m25 l0 42) l4.toNatClampNeg)) hF dX12_hop_78 g30 rfl ?_
      refine s_goto (tgt := 83) hF dX12_hop_79 rfl ?_
      exact s_iretD hF hD dX12_hop_83 rfl
  · refine s_iconst (v := (0 : Int32)) hF dX12_hop_54 kI_0 ?_
    exact s_iretD hF hD dX12_hop_55 rfl
theorem sX12_hop_27 {F : Option Fx} (hF : FxO F RX12 cX12_hop 5 17) (hD : FxDO F (some .int)) (l0 : Nat) (l1 : Int32) (l2 : Int32) (l3 : Int32) (l4 : Int32) (k0 : Int32) (k1 : Nat) (μ : Mem) (f0 : isK μ l0 12 = true) : Sim F encI 27 [(0, .ref l0), (1, .int l1), (2, .int l2), (3, .int l3), (4, .int l4)] [.int k0, .ref k1] μ (mX12_hop_27 l0 l1 l2 l3 l4 k0 k1 μ) := by
  unfold mX12_hop_27
  refine s_iconst (v := (1 : Int32)) hF dX12_hop_27 kI_1 ?_
  refine s_iconst (v := (0 : Int32)) hF dX12_hop_28 kI_0 ?_
  refine sim_gd (fun g15 => ?_)
  refine s_cVi (st := []) (ci := 12) [.int k0, .int (1 : Int32), .int (0 : Int32)] hF hD.dr dX12_hop_29 cwX12_167 (Nat.le_of_ble_eq_true rfl) (Nat.le_of_ble_eq_true rfl) rfl rfl (Nat.le_of_ble_eq_true rfl) g15 rfl rfl (Nat.le_of_ble_eq_true rfl) (ctX12_bad k1 k0 (1 : Int32) (0 : Int32) _) (fun r11 m12 hl13 hm14 => ?_)
  refine s_if_ne (tgt := 54) hF dX12_hop_32 rfl (fun c16 => ?_) (fun c16 => ?_)
  · refine s_aload_n hF dX12_hop_35 rfl 0 rfl ?_
    refine s_iload hF dX12_hop_36 4 rfl ?_
    refine s_if_ge (tgt := 45) hF dX12_hop_38 rfl (fun c17 => ?_) (fun c17 => ?_)
    · refine s_iconst (v := (0 : Int32)) hF dX12_hop_45 kI_0 ?_
      exact sX12_hop_46 hF hD l0 l1 l2 l3 l4 (0 : Int32) l0 _ (isK.mo f0 hm14)
    · refine s_iconst (v := (1 : Int32)) hF dX12_hop_41 kI_1 ?_
      refine s_goto (tgt := 46) hF dX12_hop_42 rfl ?_
      exact sX12_hop_46 hF hD l0 l1 l2 l3 l4 (1 : Int32) l0 _ (isK.mo f0 hm14)
  · refine s_iconst (v := (0 : Int32)) hF dX12_hop_54 kI_0 ?_
    exact s_iretD hF hD dX12_hop_55 rfl
theorem ctX12_hop  (l0 : Nat) (l1 : Int32) (l2 : Int32) (l3 : Int32) (l4 : Int32) (μ : Mem) : ∀ (r : Int32) (μ' : Mem), LX12_hop l0 l1 l2 l3 l4 μ = some (r, μ') → CtD yX12_hop cX12_hop 5 (some .int) 17 [.ref l0, .int l1, .int l2, .int l3, .int l4] μ (encI r) μ' := by
  refine ct_enterD plX12 (Nat.le_of_ble_eq_true rfl) (fun F hF hD hI => ?_)
  unfold LX12_hop
  refine sim_gd (fun f0 => ?_)
  refine s_aload_n hF dX12_hop_0 rfl 0 rfl ?_
  refine s_iconst (v := (0 : Int32)) hF dX12_hop_1 kI_0 ?_
  refine s_putI hF dX12_hop_2 flX12_94 f0 ?_
  refine s_aload_n hF dX12_hop_5 rfl 0 rfl ?_
  refine s_aload_n hF dX12_hop_6 rfl 0 rfl ?_
  refine s_iload_n hF dX12_hop_7 rfl 1 rfl ?_
  refine s_cVi (st := [.ref l0]) (ci := 12) [.int l1] hF hD.dr dX12_hop_8 cwX12_355 (Nat.le_of_ble_eq_true rfl) (Nat.le_of_ble_eq_true rfl) rfl rfl (Nat.le_of_ble_eq_true rfl) f0 rfl rfl (Nat.le_of_ble_eq_true rfl) (ctX12_isPen l0 l1 _) (fun r1 m2 hl3 hm4 => ?_)
  refine s_if_eq (tgt := 22) hF dX12_hop_11 rfl (fun c5 => ?_) (fun c5 => ?_)
  · refine s_iconst (v := (1 : Int32)) hF dX12_hop_22 kI_1 ?_
    refine s_goto (tgt := 27) hF dX12_hop_23 rfl ?_
    exact sX12_hop_27 hF hD l0 l1 l2 l3 l4 (1 : Int32) l0 _ (isK.mo f0 hm4)
  · refine s_aload_n hF dX12_hop_14 rfl 0 rfl ?_
    refine s_iload_n hF dX12_hop_15 rfl 2 rfl ?_
    refine s_cVi (st := [.ref l0]) (ci := 12) [.int l2] hF hD.dr dX12_hop_16 cwX12_355 (Nat.le_of_ble_eq_true rfl) (Nat.le_of_ble_eq_true rfl) rfl rfl (Nat.le_of_ble_eq_true rfl) (isK.mo f0 hm4) rfl rfl (Nat.le_of_ble_eq_true rfl) (ctX12_isPen l0 l2 _) (fun r6 m7 hl8 hm9 => ?_)
    refine s_if_ne (tgt := 26) hF dX12_hop_19 rfl (fun c10 => ?_) (fun c10 => ?_)
    · refine s_iconst (v := (1 : Int32)) hF dX12_hop_22 kI_1 ?_
      refine s_goto (tgt := 27) hF dX12_hop_23 rfl ?_
      exact sX12_hop_27 hF hD l0 l1 l2 l3 l4 (1 : Int32) l0 _ (isK.mo (isK.mo f0 hm4) hm9)
    · refine s_iconst (v := (0 : Int32)) hF dX12_hop_26 kI_0 ?_
      exact sX12_hop_27 hF hD l0 l1 l2 l3 l4 (0 : Int32) l0 _ (isK.mo (isK.mo f0 hm4) hm9)
theorem sX12_tuning_51 {F : Option Fx} (q32 : Nat → Int32 → Int32 → Int32 → Int32 → Mem → Option (Int32 × Mem)) (hF : FxO F RX12 cX12_tuning 6 2) (hD : FxDO F (some .int)) (hq32 : ∀ (l0 : Nat) (l1 : Int32) (l2 : Int32) (l3 : Int32) (l4 : Int32) (μ : Mem) (_ : isK μ l0 12 = true), Sim F encI 32 [(0, .ref l0), (1, .int l1), (2, .int l2), (3, .int l3), (4, .int l4)] [] μ (q32 l0 l1 l2 l3 l4 μ)) : ∀ (fu : Nat) (l0 : Nat) (l1 : Int32) (l2 : Int32) (l3 : Int32) (l4 : Int32) (l5 : Int32) (μ : Mem) (f0 : isK μ l0 12 = true), Sim F encI 51 [(0, .ref l0), (1, .int l1), (2, .int l2), (3, .int l3), (4, .int l4), (5, .int l5)] [] μ (mX12_tuning_51 q32 fu l0 l1 l2 l3 l4 l5 μ) := by
  intro fu
  induction fu with
  | zero =>
    intro l0 l1 l2 l3 l4 l5 μ f0
    exact sim_none
  | succ fu ih =>
    intro l0 l1 l2 l3 l4 l5 μ f0
    rw [mX12_tuning_51]
    refine s_iload hF dX12_tuning_51 5 rfl ?_
    refine s_bipush (v := (99 : Int32)) hF dX12_tuning_53 kB_99 ?_
    refine s_iload hF dX12_tuning_55 4 rfl ?_
    refine s_iconst (v := (1 : Int32)) hF dX12_tuning_57 kI_1 ?_
    refine s_isub hF dX12_tuning_58 ?_
    refine s_cSi (st := [.int l5]) [.int (99 : Int32), .int (l4 - (1 : Int32))] hF hD.dr dX12_tuning_59 cwX12_234 (Nat.le_of_ble_eq_true rfl) (Nat.le_of_ble_eq_true rfl) rfl rfl (Nat.le_of_ble_eq_true rfl) (ctX12_less (99 : Int32) (l4 - (1 : Int32)) _) (fun r17 m18 hl19 hm20 => ?_)
    refine s_icmp_gt (tgt := 106) hF dX12_tuning_62 rfl (fun c21 => ?_) (fun c21 => ?_)
    · refine s_iinc (v := (l4 + (1 : Int32))) (pls' := [(4, .int (l4 + (1 : Int32))), (0, .ref l0), (1, .int l1), (2, .int l2), (3, .int l3), (5, .int l5)]) hF dX12_tuning_106 4 rfl rfl (by decide) rfl ?_
      refine s_goto (tgt := 32) hF dX12_tuning_109 rfl ?_
      refine s_sub [1, 2, 3, 4, 0] rfl ?_
      exact hq32 l0 l1 l2 l3 (l4 + (1 : Int32)) _ (isK.mo f0 hm20)
    · refine s_aload_n hF dX12_tuning_65 rfl 0 rfl ?_
      refine sim_gd (fun g22 => ?_)
      refine s_getR (x := (g_R m18 l0 14)) hF dX12_tuning_66 flX12_31 (isK.mo f0 hm20) g22 rfl ?_
      refine s_iload_n hF dX12_tuning_69 rfl 1 rfl ?_
      refine sim_gd (fun g23 => ?_)
      refine sim_gd (fun g24 => ?_)
      refine s_aaload (x := (g_R m18 (g_R m18 l0 14) l1.toNatClampNeg)) hF dX12_tuning_70 (by decide) (by decide) g23 g24 rfl ?_
      refine s_iconst (v := (0 : Int32)) hF dX12_tuning_71 kI_0 ?_
      refine sim_gd (fun g25 => ?_)
      refine s_iaload (x := (g_I m18 (g_R m18 (g_R m18 l0 14) l1.toNatClampNeg) (0 : Int32).toNatClampNeg)) hF dX12_tuning_72 g25 rfl ?_
      refine s_iload_n hF dX12_tuning_73 rfl 2 rfl ?_
      refine s_iload hF dX12_tuning_74 5 rfl ?_
      refine s_iload hF dX12_tuning_76 4 rfl ?_
      refine s_iload hF dX12_tuning_78 5 rfl ?_
      refine s_isub hF dX12_tuning_80 ?_
      refine s_cSi (st := []) [.int (g_I m18 (g_R m18 (g_R m18 l0 14) l1.toNatClampNeg) (0 : Int32).toNatClampNeg), .int l2, .int l5, .int (l4 - l5)] hF hD.dr dX12_tuning_81 cwX12_276 (Nat.le_of_ble_eq_true rfl) (Nat.le_of_ble_eq_true rfl) rfl rfl (Nat.le_of_ble_eq_true rfl) (ctX12_outBy (g_I m18 (g_R m18 (g_R m18 l0 14) l1.toNatClampNeg) (0 : Int32).toNatClampNeg) l2 l5 (l4 - l5) _) (fun r26 m27 hl28 hm29 => ?_)
      refine s_iload_n hF dX12_tuning_84 rfl 3 rfl ?_
      refine s_icmp_ne (tgt := 100) hF dX12_tuning_85 rfl (fun c30 => ?_) (fun c30 => ?_)
      · refine s_bipush (v := (100 : Int32)) hF dX12_tuning_88 kB_100 ?_
        refine s_iload hF dX12_tuning_90 5 rfl ?_
        refine s_imul hF dX12_tuning_92 ?_
        refine s_iload hF dX12_tuning_93 4 rfl ?_
        refine s_iadd hF dX12_tuning_95 ?_
        refine s_iload hF dX12_tuning_96 5 rfl ?_
        refine s_isub hF dX12_tuning_98 ?_
        exact s_iretD hF hD dX12_tuning_99 rfl
      · refine s_iinc (v := (l5 + (1 : Int32))) (pls' := [(5, .int (l5 + (1 : Int32))), (0, .ref l0), (1, .int l1), (2, .int l2), (3, .int l3), (4, .int l4)]) hF dX12_tuning_100 5 rfl rfl (by decide) rfl ?_
        refine s_goto (tgt := 51) hF dX12_tuning_103 rfl ?_
        refine s_sub [1, 2, 3, 4, 5, 0] rfl ?_
        exact ih l0 l1 l2 l3 l4 (l5 + (1 : Int32)) _ (isK.mo (isK.mo f0 hm20) hm29)
theorem sX12_tuning_32 {F : Option Fx} (hF : FxO F RX12 cX12_tuning 6 2) (hD : FxDO F (some .int)) : ∀ (fu : Nat) (l0 : Nat) (l1 : Int32) (l2 : Int32) (l3 : Int32) (l4 : Int32) (μ : Mem) (f0 : isK μ l0 12 = true), Sim F encI 32 [(0, .ref l0), (1, .int l1), (2, .int l2), (3, .int l3), (4, .int l4)] [] μ (mX12_tuning_32 fu l0 l1 l2 l3 l4 μ) := by
  intro fu
  induction fu with
  | zero =>
    intro l0 l1 l2 l3 l4 μ f0
    exact sim_none
  | succ fu ih =>
    intro l0 l1 l2 l3 l4 μ f0
    rw [mX12_tuning_32]
    refine s_iload hF dX12_tuning_32 4 rfl ?_
    refine s_sipush (v := (198 : Int32)) hF dX12_tuning_34 kS_198 ?_
    refine s_icmp_gt (tgt := 112) hF dX12_tuning_37 rfl (fun c12 => ?_) (fun c12 => ?_)
    · refine s_iconst (v := (-1 : Int32)) hF dX12_tuning_112 kI_m1 ?_
      exact s_iretD hF hD dX12_tuning_113 rfl
    · refine s_iconst (v := (1 : Int32)) hF dX12_tuning_40 kI_1 ?_
      refine s_iload hF dX12_tuning_41 4 rfl ?_
      refine s_bipush (v := (99 : Int32)) hF dX12_tuning_43 kB_99 ?_
      refine s_isub hF dX12_tuning_45 ?_
      refine s_cSi (st := []) [.int (1 : Int32), .int (l4 - (99 : Int32))] hF hD.dr dX12_tuning_46 cwX12_237 (Nat.le_of_ble_eq_true rfl) (Nat.le_of_ble_eq_true rfl) rfl rfl (Nat.le_of_ble_eq_true rfl) (ctX12_more (1 : Int32) (l4 - (99 : Int32)) _) (fun r13 m14 hl15 hm16 => ?_)
      refine s_istore (pls' := [(5, .int r13), (0, .ref l0), (1, .int l1), (2, .int l2), (3, .int l3), (4, .int l4)]) hF dX12_tuning_49 (by decide) rfl ?_
      refine s_sub [1, 2, 3, 4, 5, 0] rfl ?_
      exact sX12_tuning_51 (fun l0 l1 l2 l3 l4 μ => mX12_tuning_32 fu l0 l1 l2 l3 l4 μ) hF hD ih 100000 l0 l1 l2 l3 l4 r13 _ (isK.mo f0 hm16)
