theorem sX12_lays_10 {F : Option Fx} (q2 : Nat → Nat → Int32 → Int32 → Mem → Option (Unit × Mem)) (hF : FxO F RX12 cX12_lays 5 0) (hD : FxDO F none) (hq2 : ∀ (l0 : Nat) (l1 : Nat) (l2 : Int32) (l3 : Int32) (μ : Mem) (_ : isK μ l0 19 = true) (_ : isK μ l1 19 = true), Sim F encV 2 [(0, .ref l0), (1, .ref l1), (2, .int l2), (3, .int l3)] [] μ (q2 l0 l1 l2 l3 μ)) : ∀ (fu : Nat) (l0 : Nat) (l1 : Nat) (l2 : Int32) (l3 : Int32) (l4 : Int32) (μ : Mem) (f0 : isK μ l0 19 = true) (f1 : isK μ l1 19 = true), Sim F encV 10 [(0, .ref l0), (1, .ref l1), (2, .int l2), (3, .int l3), (4, .int l4)] [] μ (mX12_lays_10 q2 fu l0 l1 l2 l3 l4 μ) := by
  intro fu
  induction fu with
  | zero =>
    intro l0 l1 l2 l3 l4 μ f0 f1
    exact sim_none
  | succ fu ih =>
    intro l0 l1 l2 l3 l4 μ f0 f1
    rw [mX12_lays_10]
    refine s_iload hF dX12_lays_10 4 rfl ?_
    refine s_aload_n hF dX12_lays_12 rfl 1 rfl ?_
    refine s_iload_n hF dX12_lays_13 rfl 3 rfl ?_
    refine sim_gd (fun g2 => ?_)
    refine sim_gd (fun g3 => ?_)
    refine s_aaload (x := (g_R μ l1 l3.toNatClampNeg)) hF dX12_lays_14 (by decide) (by decide) g2 g3 rfl ?_
    refine sim_gd (fun g4 => ?_)
    refine s_alenI hF dX12_lays_15 g4 ?_
    refine s_icmp_ge (tgt := 37) hF dX12_lays_16 rfl (fun c5 => ?_) (fun c5 => ?_)
    · refine s_iinc (v := (l3 + (1 : Int32))) (pls' := [(3, .int (l3 + (1 : Int32))), (0, .ref l0), (1, .ref l1), (2, .int l2), (4, .int l4)]) hF dX12_lays_37 3 rfl rfl (by decide) rfl ?_
      refine s_goto (tgt := 2) hF dX12_lays_40 rfl ?_
      refine s_sub [1, 2, 3, 0] rfl ?_
      exact hq2 l0 l1 l2 (l3 + (1 : Int32)) _ f0 f1
    · refine s_aload_n hF dX12_lays_19 rfl 1 rfl ?_
      refine s_iload_n hF dX12_lays_20 rfl 3 rfl ?_
      refine s_aaload (x := (g_R μ l1 l3.toNatClampNeg)) hF dX12_lays_21 (by decide) (by decide) g2 g3 rfl ?_
      refine s_iload hF dX12_lays_22 4 rfl ?_
      refine s_aload_n hF dX12_lays_24 rfl 0 rfl ?_
      refine s_iload_n hF dX12_lays_25 rfl 3 rfl ?_
      refine sim_gd (fun g6 => ?_)
      refine sim_gd (fun g7 => ?_)
      refine s_aaload (x := (g_R μ l0 l3.toNatClampNeg)) hF dX12_lays_26 (by decide) (by decide) g6 g7 rfl ?_
      refine s_iload hF dX12_lays_27 4 rfl ?_
      refine sim_gd (fun g8 => ?_)
      refine s_iaload (x := (g_I μ (g_R μ l0 l3.toNatClampNeg) l4.toNatClampNeg)) hF dX12_lays_29 g8 rfl ?_
      refine sim_gd (fun g9 => ?_)
      refine s_iastore hF dX12_lays_30 g9 ?_
      refine s_iinc (v := (l4 + (1 : Int32))) (pls' := [(4, .int (l4 + (1 : Int32))), (0, .ref l0), (1, .ref l1), (2, .int l2), (3, .int l3)]) hF dX12_lays_31 4 rfl rfl (by decide) rfl ?_
      refine s_goto (tgt := 10) hF dX12_lays_34 rfl ?_
      refine s_sub [1, 2, 3, 4, 0] rfl ?_
      exact ih l0 l1 l2 l3 (l4 + (1 : Int32)) _ f0 f1
theorem sX12_lays_2 {F : Option Fx} (hF : FxO F RX12 cX12_lays 5 0) (hD : FxDO F none) : ∀ (fu : Nat) (l0 : Nat) (l1 : Nat) (l2 : Int32) (l3 : Int32) (μ : Mem) (f0 : isK μ l0 19 = true) (f1 : isK μ l1 19 = true), Sim F encV 2 [(0, .ref l0), (1, .ref l1), (2, .int l2), (3, .int l3)] [] μ (mX12_lays_2 fu l0 l1 l2 l3 μ) := by
  intro fu
  induction fu with
  | zero =>
    intro l0 l1 l2 l3 μ f0 f1
    exact sim_none
  | succ fu ih =>
    intro l0 l1 l2 l3 μ f0 f1
    rw [mX12_lays_2]
    refine s_iload_n hF dX12_lays_2 rfl 3 rfl ?_
    refine s_iload_n hF dX12_lays_3 rfl 2 rfl ?_
    refine s_icmp_ge (tgt := 43) hF dX12_lays_4 rfl (fun c1 => ?_) (fun c1 => ?_)
    · exact s_vretD hF hD dX12_lays_43 rfl
    · refine s_iconst (v := (0 : Int32)) hF dX12_lays_7 kI_0 ?_
      refine s_istore (pls' := [(4, .int (0 : Int32)), (0, .ref l0), (1, .ref l1), (2, .int l2), (3, .int l3)]) hF dX12_lays_8 (by decide) rfl ?_
      refine s_sub [1, 2, 3, 4, 0] rfl ?_
      exact sX12_lays_10 (fun l0 l1 l2 l3 μ => mX12_lays_2 fu l0 l1 l2 l3 μ) hF hD ih 100000 l0 l1 l2 l3 (0 : Int32) _ f0 f1
theorem ctX12_lays  (l0 : Nat) (l1 : Nat) (l2 : Int32) (μ : Mem) : ∀ (r : Unit) (μ' : Mem), LX12_lays l0 l1 l2 μ = some (r, μ') → CtD yX12_lays cX12_lays 5 none 0 [.ref l0, .ref l1, .int l2] μ (encV r) μ' := by
  refine ct_enterD plX12 (Nat.le_of_ble_eq_true rfl) (fun F hF hD hI => ?_)
  unfold LX12_lays
  refine sim_gd (fun f0 => ?_)
  refine sim_gd (fun f1 => ?_)
  refine s_iconst (v := (0 : Int32)) hF dX12_lays_0 kI_0 ?_
  refine s_istore_n (pls' := [(3, .int (0 : Int32)), (0, .ref l0), (1, .ref l1), (2, .int l2)]) hF dX12_lays_1 rfl (by decide) rfl ?_
  refine s_sub [1, 2, 3, 0] rfl ?_
  exact sX12_lays_2 hF hD 100000 l0 l1 l2 (0 : Int32) _ f0 f1
theorem sX12_beginsAnew_159 {F : Option Fx} (q93 : Nat → Int32 → Mem → Option (Unit × Mem)) (hF : FxO F RX12 cX12_beginsAnew 2 1) (hD : FxDO F none) (hq93 : ∀ (l0 : Nat) (l1 : Int32) (μ : Mem) (_ : isK μ l0 12 = true), Sim F encV 93 [(0, .ref l0), (1, .int l1)] [] μ (q93 l0 l1 μ)) (l0 : Nat) (l1 : Int32) (k0 : Int32) (k1 : Int32) (k2 : Nat) (μ : Mem) (f0 : isK μ l0 12 = true) : Sim F encV 159 [(0, .ref l0), (1, .int l1)] [.int k0, .int k1, .ref k2] μ (mX12_beginsAnew_159 q93 l0 l1 k0 k1 k2 μ) := by
  unfold mX12_beginsAnew_159
  refine sim_gd (fun g45 => ?_)
  refine s_iastore hF dX12_beginsAnew_159 g45 ?_
  refine s_aload_n hF dX12_beginsAnew_160 rfl 0 rfl ?_
  refine sim_gd (fun g46 => ?_)
  refine s_getR (x := (g_R μ l0 29)) hF dX12_beginsAnew_161 flX12_67 f0 g46 rfl ?_
  refine s_bipush (v := (16 : Int32)) hF dX12_beginsAnew_164 kB_16 ?_
  refine s_iload_n hF dX12_beginsAnew_166 rfl 1 rfl ?_
  refine s_iadd hF dX12_beginsAnew_167 ?_
  refine s_iload_n hF dX12_beginsAnew_168 rfl 1 rfl ?_
  refine s_aload_n hF dX12_beginsAnew_169 rfl 0 rfl ?_
  refine sim_gd (fun g47 => ?_)
  refine s_getR (x := (g_R μ l0 12)) hF dX12_beginsAnew_170 flX12_23 f0 g47 rfl ?_
  refine s_iconst (v := (0 : Int32)) hF dX12_beginsAnew_173 kI_0 ?_
  refine sim_gd (fun g48 => ?_)
  refine s_iaload (x := (g_I (p_I μ k2 k1.toNatClampNeg k0) (g_R μ l0 12) (0 : Int32).toNatClampNeg)) hF dX12_beginsAnew_174 g48 rfl ?_
  refine s_icmp_ge (tgt := 187) hF dX12_beginsAnew_175 rfl (fun c49 => ?_) (fun c49 => ?_)
  · refine s_iconst (v := (-1 : Int32)) hF dX12_beginsAnew_187 kI_m1 ?_
    refine sim_gd (fun g50 => ?_)
    refine s_iastore hF dX12_beginsAnew_188 g50 ?_
    refine s_iinc (v := (l1 + (1 : Int32))) (pls' := [(1, .int (l1 + (1 : Int32))), (0, .ref l0)]) hF dX12_beginsAnew_189 1 rfl rfl (by decide) rfl ?_
    refine s_goto (tgt := 93) hF dX12_beginsAnew_192 rfl ?_
    refine s_sub [1, 0] rfl ?_
    exact hq93 l0 (l1 + (1 : Int32)) _ f0
  · refine s_aload_n hF dX12_beginsAnew_178 rfl 0 rfl ?_
    refine s_getR (x := (g_R μ l0 12)) hF dX12_beginsAnew_179 flX12_23 f0 g47 rfl ?_
    refine s_iconst (v := (2 : Int32)) hF dX12_beginsAnew_182 kI_2 ?_
    refine sim_gd (fun g51 => ?_)
    refine s_iaload (x := (g_I (p_I μ k2 k1.toNatClampNeg k0) (g_R μ l0 12) (2 : Int32).toNatClampNeg)) hF dX12_beginsAnew_183 g51 rfl ?_
    refine s_goto (tgt := 188) hF dX12_beginsAnew_184 rfl ?_
    refine sim_gd (fun g52 => ?_)
    refine s_iastore hF dX12_beginsAnew_188 g52 ?_
    refine s_iinc (v := (l1 + (1 : Int32))) (pls' := [(1, .int (l1 + (1 : Int32))), (0, .ref l0)]) hF dX12_beginsAnew_189 1 rfl rfl (by decide) rfl ?_
    refine s_goto (tgt := 93) hF dX12_beginsAnew_192 rfl ?_
    refine s_sub [1, 0] rfl ?_
    exact hq93 l0 (l1 + (1 : Int32)) _ f0
theorem sX12_beginsAnew_128 {F : Option Fx} (q93 : Nat → Int32 → Mem → Option (Unit × Mem)) (hF : FxO F RX12 cX12_beginsAnew 2 1) (hD : FxDO F none) (hq93 : ∀ (l0 : Nat) (l1 : Int32) (μ : Mem) (_ : isK μ l0 12 = true), Sim F encV 93 [(0, .ref l0), (1, .int l1)] [] μ (q93 l0 l1 μ)) (l0 : Nat) (l1 : Int32) (k0 : Int32) (k1 : Int32) (k2 : Nat) (μ : Mem) (f0 : isK μ l0 12 = true) : Sim F encV 128 [(0, .ref l0), (1, .int l1)] [.int k0, .int k1, .ref k2] μ (mX12_beginsAnew_128 q93 l0 l1 k0 k1 k2 μ) := by
  unfold mX12_beginsAnew_128
  refine sim_gd (fun g36 => ?_)
  refine s_iastore hF dX12_beginsAnew_128 g36 ?_
  refine s_aload_n hF dX12_beginsAnew_129 rfl 0 rfl ?_
  refine sim_gd (fun g37 => ?_)
  refine s_getR (x := (g_R μ l0 29)) hF dX12_beginsAnew_130 flX12_67 f0 g37 rfl ?_
  refine s_bipush (v := (8 : Int32)) hF dX12_beginsAnew_133 kB_8 ?_
  refine s_iload_n hF dX12_beginsAnew_135 rfl 1 rfl ?_
  refine s_iadd hF dX12_beginsAnew_136 ?_
  refine s_iload_n hF dX12_beginsAnew_137 rfl 1 rfl ?_
  refine s_aload_n hF dX12_beginsAnew_138 rfl 0 rfl ?_
  refine sim_gd (fun g38 => ?_)
  refine s_getR (x := (g_R μ l0 12)) hF dX12_beginsAnew_139 flX12_23 f0 g38 rfl ?_
  refine s_iconst (v := (0 : Int32)) hF dX12_beginsAnew_142 kI_0 ?_
  refine sim_gd (fun g39 => ?_)
  refine s_iaload (x := (g_I (p_I μ k2 k1.toNatClampNeg k0) (g_R μ l0 12) (0 : Int32).toNatClampNeg)) hF dX12_beginsAnew_143 g39 rfl ?_
  refine s_icmp_ge (tgt := 158) hF dX12_beginsAnew_144 rfl (fun c40 => ?_) (fun c40 => ?_)
  · refine s_iconst (v := (0 : Int32)) hF dX12_beginsAnew_158 kI_0 ?_
    exact sX12_beginsAnew_159 q93 hF hD hq93 l0 l1 (0 : Int32) ((8 : Int32) + l1) (g_R μ l0 29) _ f0
  · refine s_aload_n hF dX12_beginsAnew_147 rfl 0 rfl ?_
    refine sim_gd (fun g41 => ?_)
    refine s_getR (x := (g_R μ l0 14)) hF dX12_beginsAnew_148 flX12_31 f0 g41 rfl ?_
    refine s_iload_n hF dX12_beginsAnew_151 rfl 1 rfl ?_
    refine sim_gd (fun g42 => ?_)
    refine sim_gd (fun g43 => ?_)
    refine s_aaload (x := (g_R μ (g_R μ l0 14) l1.toNatClampNeg)) hF dX12_beginsAnew_152 (by decide) (by decide) g42 g43 rfl ?_
    refine s_iconst (v := (2 : Int32)) hF dX12_beginsAnew_153 kI_2 ?_
    refine sim_gd (fun g44 => ?_)
    refine s_iaload (x := (g_I (p_I μ k2 k1.toNatClampNeg k0) (g_R μ (g_R μ l0 14) l1.toNatClampNeg) (2 : Int32).toNatClampNeg)) hF dX12_beginsAnew_154 g44 rfl ?_
    refine s_goto (tgt := 159) hF dX12_beginsAnew_155 rfl ?_
    exact sX12_beginsAnew_159 q93 hF hD hq93 l0 l1 (g_I (p_I μ k2 k1.toNatClampNeg k0) (g_R μ (g_R μ l0 14) l1.toNatClampNeg) (2 : Int32).toNatClampNeg) ((8 : Int32) + l1) (g_R μ l0 29) _ f0
theorem sX12_beginsAnew_93 {F : Option Fx} (hF : FxO F RX12 cX12_beginsAnew 2 1) (hD : FxDO F none) : ∀ (fu : Nat) (l0 : Nat) (l1 : Int32) (μ : Mem) (f0 : isK μ l0 12 = true), Sim F encV 93 [(0, .ref l0), (1, .int l1)] [] μ (mX12_beginsAnew_93 fu l0 l1 μ) := by
  intro fu
  induction fu with
  | zero =>
    intro l0 l1 μ f0
    exact sim_none
  | succ fu ih =>
    intro l0 l1 μ f0
    rw [mX12_beginsAnew_93]
    refine s_iload_n hF dX12_beginsAnew_93 rfl 1 rfl ?_
    refine s_bipush (v := (8 : Int32)) hF dX12_beginsAnew_94 kB_8 ?_
    refine s_icmp_ge (tgt := 195) hF dX12_beginsAnew_96 rfl (fun c27 => ?_) (fun c27 => ?_)
    · refine s_aload_n hF dX12_beginsAnew_195 rfl 0 rfl ?_
      refine s_iconst (v := (0 : Int32)) hF dX12_beginsAnew_196 kI_0 ?_
      refine s_putI hF dX12_beginsAnew_197 flX12_184 f0 ?_
      refine s_aload_n hF dX12_beginsAnew_200 rfl 0 rfl ?_
      refine s_iconst (v := (0 : Int32)) hF dX12_beginsAnew_201 kI_0 ?_
      refine s_putI hF dX12_beginsAnew_202 flX12_187 f0 ?_
      refine s_aload_n hF dX12_beginsAnew_205 rfl 0 rfl ?_
      refine s_iconst (v := (0 : Int32)) hF dX12_beginsAnew_206 kI_0 ?_
      refine s_putI hF dX12_beginsAnew_207 flX12_190 f0 ?_
      refine s_aload_n hF dX12_beginsAnew_210 rfl 0 rfl ?_
      refine s_iconst (v := (0 : Int32)) hF dX12_beginsAnew_211 kI_0 ?_
      refine s_putI hF dX12_beginsAnew_212 flX12_193 f0 ?_
      refine s_aload_n hF dX12_beginsAnew_215 rfl 0 rfl ?_
      refine s_iconst (v := (0 : Int32)) hF dX12_beginsAnew_216 kI_0 ?_
      refine s_putI hF dX12_beginsAnew_217 flX12_196 f0 ?_
      refine s_aload_n hF dX12_beginsAnew_220 rfl 0 rfl ?_
      refine s_iconst (v := (0 : Int32)) hF dX12_beginsAnew_221 kI_0 ?_
      refine s_putI hF dX12_beginsAnew_222 flX12_199 f0 ?_
      exact s_vretD hF hD dX12_beginsAnew_225 rfl
    · refine s_aload_n hF dX12_beginsAnew_99 rfl 0 rfl ?_
      refine sim_gd (fun g28 => ?_)
      refine s_getR (x := (g_R μ l0 29)) hF dX12_beginsAnew_100 flX12_67 f0 g28 rfl ?_
      refine s_iconst (v := (0 : Int32)) hF dX12_beginsAnew_103 kI_0 ?_
      refine s_iload_n hF dX12_beginsAnew_104 rfl 1 rfl ?_
      refine s_iadd hF dX12_beginsAnew_105 ?_
      refine s_iload_n hF dX12_beginsAnew_106 rfl 1 rfl ?_
      refine s_aload_n hF dX12_beginsAnew_107 rfl 0 rfl ?_
      refine sim_gd (fun g29 => ?_)
      refine s_getR (x := (g_R μ l0 12)) hF dX12_beginsAnew_108 flX12_23 f0 g29 rfl ?_
      refine s_iconst (v := (0 : Int32)) hF dX12_beginsAnew_111 kI_0 ?_
      refine sim_gd (fun g30 => ?_)
      refine s_iaload (x := (g_I μ (g_R μ l0 12) (0 : Int32).toNatClampNeg)) hF dX12_beginsAnew_112 g30 rfl ?_
      refine s_icmp_ge (tgt := 127) hF dX12_beginsAnew_113 rfl (fun c31 => ?_) (fun c31 => ?_)
      · refine s_iconst (v := (0 : Int32)) hF dX12_beginsAnew_127 kI_0 ?_
        exact sX12_beginsAnew_128 (fun l0 l1 μ => mX12_beginsAnew_93 fu l0 l1 μ) hF hD ih l0 l1 (0 : Int32) ((0 : Int32) + l1) (g_R μ l0 29) _ f0
      · refine s_aload_n hF dX12_beginsAnew_116 rfl 0 rfl ?_
        refine sim_gd (fun g32 => ?_)
        refine s_getR (x := (g_R μ l0 14)) hF dX12_beginsAnew_117 flX12_31 f0 g32 rfl ?_
        refine s_iload_n hF dX12_beginsAnew_120 rfl 1 rfl ?_
        refine sim_gd (fun g33 => ?_)
        refine sim_gd (fun g34 => ?_)
        refine s_aaload (x := (g_R μ (g_R μ l0 14) l1.toNatClampNeg)) hF dX12_beginsAnew_121 (by decide) (by decide) g33 g34 rfl ?_
        refine s_iconst (v := (1 : Int32)) hF dX12_beginsAnew_122 kI_1 ?_
        refine sim_gd (fun g35 => ?_)
        refine s_iaload (x := (g_I μ (g_R μ (g_R μ l0 14) l1.toNatClampNeg) (1 : Int32).toNatClampNeg)) hF dX12_beginsAnew_123 g35 rfl ?_
        refine s_goto (tgt := 128) hF dX12_beginsAnew_124 rfl ?_
        exact sX12_beginsAnew_128 (fun l0 l1 μ => mX12_beginsAnew_93 fu l0 l1 μ) hF hD ih l0 l1 (g_I μ (g_R μ (g_R μ l0 14) l1.toNatClampNeg) (1 : Int32).toNatClampNeg) ((0 : Int32) + l1) (g_R μ l0 29) _ f0
theorem sX12_beginsAnew_61 {F : Option Fx} (hF : FxO F RX12 cX12_beginsAnew 2 1) (hD : FxDO F none) : ∀ (fu : Nat) (l0 : Nat) (l1 : Int32) (μ : Mem) (f0 : isK μ l0 12 = true), Sim F encV 61 [(0, .ref l0), (1, .int l1)] [] μ (mX12_beginsAnew_61 fu l0 l1 μ) := by
  intro fu
  induction fu with
  | zero =>
    intro l0 l1 μ f0
    exact sim_none
  | succ fu ih =>
    intro l0 l1 μ f0
    rw [mX12_beginsAnew_61]
    refine s_iload_n hF dX12_beginsAnew_61 rfl 1 rfl ?_
    refine s_sipush (v := (419 : Int32)) hF dX12_beginsAnew_62 kS_419 ?_
    refine s_icmp_ge (tgt := 91) hF dX12_beginsAnew_65 rfl (fun c22 => ?_) (fun c22 => ?_)
    · refine s_iconst (v := (0 : Int32)) hF dX12_beginsAnew_91 kI_0 ?_
      refine s_istore_n (pls' := [(1, .int (0 : Int32)), (0, .ref l0)]) hF dX12_beginsAnew_92 rfl (by decide) rfl ?_
      refine s_sub [1, 0] rfl ?_
      exact sX12_beginsAnew_93 hF hD 100000 l0 (0 : Int32) _ f0
    · refine s_aload_n hF dX12_beginsAnew_68 rfl 0 rfl ?_
      refine sim_gd (fun g23 => ?_)
      refine s_getR (x := (g_R μ l0 29)) hF dX12_beginsAnew_69 flX12_67 f0 g23 rfl ?_
      refine s_iload_n hF dX12_beginsAnew_72 rfl 1 rfl ?_
      refine s_iload_n hF dX12_beginsAnew_73 rfl 1 rfl ?_
      refine s_bipush (v := (35 : Int32)) hF dX12_beginsAnew_74 kB_35 ?_
      refine s_icmp_ge (tgt := 83) hF dX12_beginsAnew_76 rfl (fun c24 => ?_) (fun c24 => ?_)
      · refine s_iconst (v := (-1 : Int32)) hF dX12_beginsAnew_83 kI_m1 ?_
        refine sim_gd (fun g25 => ?_)
        refine s_iastore hF dX12_beginsAnew_84 g25 ?_
        refine s_iinc (v := (l1 + (1 : Int32))) (pls' := [(1, .int (l1 + (1 : Int32))), (0, .ref l0)]) hF dX12_beginsAnew_85 1 rfl rfl (by decide) rfl ?_
        refine s_goto (tgt := 61) hF dX12_beginsAnew_88 rfl ?_
        refine s_sub [1, 0] rfl ?_
        exact ih l0 (l1 + (1 : Int32)) _ f0
      · refine s_iconst (v := (0 : Int32)) hF dX12_beginsAnew_79 kI_0 ?_
        refine s_goto (tgt := 84) hF dX12_beginsAnew_80 rfl ?_
        refine sim_gd (fun g26 => ?_)
        refine s_iastore hF dX12_beginsAnew_84 g26 ?_
        refine s_iinc (v := (l1 + (1 : Int32))) (pls' := [(1, .int (l1 + (1 : Int32))), (0, .ref l0)]) hF dX12_beginsAnew_85 1 rfl rfl (by decide) rfl ?_
        refine s_goto (tgt := 61) hF dX12_beginsAnew_88 rfl ?_
        refine s_sub [1, 0] rfl ?_
        exact ih l0 (l1 + (1 : Int32)) _ f0
theorem sX12_beginsAnew_2 {F : Option Fx} (hF : FxO F RX12 cX12_beginsAnew 2 1) (hD : FxDO F none) : ∀ (fu : Nat) (l0 : Nat) (l1 : Int32) (μ : Mem) (f0 : isK μ l0 12 = true), Sim F encV 2 [(0, .ref l0), (1, .int l1)] [] μ (mX12_beginsAnew_2 fu l0 l1 μ) := by
  intro fu
  induction fu with
  | zero =>
    intro l0 l1 μ f0
    exact sim_none
  | succ fu ih =>
    intro l0 l1 μ f0
    rw [mX12_beginsAnew_2]
    refine s_iload_n hF dX12_beginsAnew_2 rfl 1 rfl ?_
    refine s_iconst (v := (3 : Int32)) hF dX12_beginsAnew_3 kI_3 ?_
    refine s_icmp_ge (tgt := 25) hF dX12_beginsAnew_4 rfl (fun c1 => ?_) (fun c1 => ?_)
    · refine s_aload_n hF dX12_beginsAnew_25 rfl 0 rfl ?_
      refine sim_gd (fun g2 => ?_)
      refine s_getR (x := (g_R μ l0 13)) hF dX12_beginsAnew_26 flX12_28 f0 g2 rfl ?_
      refine s_aload_n hF dX12_beginsAnew_29 rfl 0 rfl ?_
      refine sim_gd (fun g3 => ?_)
      refine s_getR (x := (g_R μ l0 14)) hF dX12_beginsAnew_30 flX12_31 f0 g3 rfl ?_
      refine s_aload_n hF dX12_beginsAnew_33 rfl 0 rfl ?_
      refine sim_gd (fun g4 => ?_)
      refine s_getR (x := (g_R μ l0 12)) hF dX12_beginsAnew_34 flX12_23 f0 g4 rfl ?_
      refine s_iconst (v := (0 : Int32)) hF dX12_beginsAnew_37 kI_0 ?_
      refine sim_gd (fun g5 => ?_)
      refine s_iaload (x := (g_I μ (g_R μ l0 12) (0 : Int32).toNatClampNeg)) hF dX12_beginsAnew_38 g5 rfl ?_
      refine s_cSv (st := []) [.ref (g_R μ l0 13), .ref (g_R μ l0 14), .int (g_I μ (g_R μ l0 12) (0 : Int32).toNatClampNeg)] hF hD.dr dX12_beginsAnew_39 cwX12_180 (Nat.le_of_ble_eq_true rfl) (Nat.le_of_ble_eq_true rfl) rfl rfl (Nat.le_of_ble_eq_true rfl) (ctX12_lays (g_R μ l0 13) (g_R μ l0 14) (g_I μ (g_R μ l0 12) (0 : Int32).toNatClampNeg) _) (fun r6 m7 hl8 hm9 => ?_)
      refine s_aload_n hF dX12_beginsAnew_42 rfl 0 rfl ?_
      refine sim_gd (fun g10 => ?_)
      refine s_getR (x := (g_R m7 l0 15)) hF dX12_beginsAnew_43 flX12_34 (isK.mo f0 hm9) g10 rfl ?_
      refine s_aload_n hF dX12_beginsAnew_46 rfl 0 rfl ?_
      refine sim_gd (fun g11 => ?_)
      refine s_getR (x := (g_R m7 l0 16)) hF dX12_beginsAnew_47 flX12_37 (isK.mo f0 hm9) g11 rfl ?_
      refine s_aload_n hF dX12_beginsAnew_50 rfl 0 rfl ?_
      refine sim_gd (fun g12 => ?_)
      refine s_getR (x := (g_R m7 l0 12)) hF dX12_beginsAnew_51 flX12_23 (isK.mo f0 hm9) g12 rfl ?_
      refine s_iconst (v := (1 : Int32)) hF dX12_beginsAnew_54 kI_1 ?_
      refine sim_gd (fun g13 => ?_)
      refine s_iaload (x := (g_I m7 (g_R m7 l0 12) (1 : Int32).toNatClampNeg)) hF dX12_beginsAnew_55 g13 rfl ?_
      refine s_cSv (st := []) [.ref (g_R m7 l0 15), .ref (g_R m7 l0 16), .int (g_I m7 (g_R m7 l0 12) (1 : Int32).toNatClampNeg)] hF hD.dr dX12_beginsAnew_56 cwX12_180 (Nat.le_of_ble_eq_true rfl) (Nat.le_of_ble_eq_true rfl) rfl rfl (Nat.le_of_ble_eq_true rfl) (ctX12_lays (g_R m7 l0 15) (g_R m7 l0 16) (g_I m7 (g_R m7 l0 12) (1 : Int32).toNatClampNeg) _) (fun r14 m15 hl16 hm17 => ?_)
      refine s_iconst (v := (0 : Int32)) hF dX12_beginsAnew_59 kI_0 ?_
      refine s_istore_n (pls' := [(1, .int (0 : Int32)), (0, .ref l0)]) hF dX12_beginsAnew_60 rfl (by decide) rfl ?_
      refine s_sub [1, 0] rfl ?_
      exact sX12_beginsAnew_61 hF hD 100000 l0 (0 : Int32) _ (isK.mo (isK.mo f0 hm9) hm17)
    · refine s_aload_n hF dX12_beginsAnew_7 rfl 0 rfl ?_
      refine sim_gd (fun g18 => ?_)
      refine s_getR (x := (g_R μ l0 12)) hF dX12_beginsAnew_8 flX12_23 f0 g18 rfl ?_
      refine s_iload_n hF dX12_beginsAnew_11 rfl 1 rfl ?_
      refine s_aload_n hF dX12_beginsAnew_12 rfl 0 rfl ?_
      refine sim_gd (fun g19 => ?_)
      refine s_getR (x := (g_R μ l0 11)) hF dX12_beginsAnew_13 flX12_20 f0 g19 rfl ?_
      refine s_iload_n hF dX12_beginsAnew_16 rfl 1 rfl ?_
      refine sim_gd (fun g20 => ?_)
      refine s_iaload (x := (g_I μ (g_R μ l0 11) l1.toNatClampNeg)) hF dX12_beginsAnew_17 g20 rfl ?_
      refine sim_gd (fun g21 => ?_)
      refine s_iastore hF dX12_beginsAnew_18 g21 ?_
      refine s_iinc (v := (l1 + (1 : Int32))) (pls' := [(1, .int (l1 + (1 : Int32))), (0, .ref l0)]) hF dX12_beginsAnew_19 1 rfl rfl (by decide) rfl ?_
      refine s_goto (tgt := 2) hF dX12_beginsAnew_22 rfl ?_
      refine s_sub [1, 0] rfl ?_
      exact ih l0 (l1 + (1 : Int32)) _ f0
theorem ctX12_beginsAnew  (l0 : Nat) (μ : Mem) : ∀ (r : Unit) (μ' : Mem), LX12_beginsAnew l0 μ = some (r, μ') → CtD yX12_beginsAnew cX12_beginsAnew 2 none 1 [.ref l0] μ (encV r) μ' := by
  refine ct_enterD plX12 (Nat.le_of_ble_eq_true rfl) (fun F hF hD hI => ?_)
  unfold LX12_beginsAnew
  refine sim_gd (fun f0 => ?_)
  refine s_iconst (v := (0 : Int32)) hF dX12_beginsAnew_0 kI_0 ?_
  refine s_istore_n (pls' := [(1, .int (0 : Int32)), (0, .ref l0)]) hF dX12_beginsAnew_1 rfl (by decide) rfl ?_
  refine s_sub [1, 0] rfl ?_
  exact sX12_beginsAnew_2 hF hD 100000 l0 (0 : Int32) _ f0
theorem ctX12_tellsNothing  (l0 : Nat) (μ : Mem) : ∀ (r : Unit) (μ' : Mem), LX12_tellsNothing l0 μ = some (r, μ') → CtD yX12_tellsNothing cX12_tellsNothing 1 none 0 [.ref l0] μ (encV r) μ' := by
  refine ct_enterD plX12 (Nat.le_of_ble_eq_true rfl) (fun F hF hD hI => ?_)
  unfold LX12_tellsNothing
  refine sim_gd (fun f0 => ?_)
  refine s_aload_n hF dX12_tellsNothing_0 rfl 0 rfl ?_
  refine sim_gd (fun g1 => ?_)
  refine s_getR (x := (g_R μ l0 11)) hF dX12_tellsNothing_1 flX12_20 f0 g1 rfl ?_
  refine s_iconst (v := (0 : Int32)) hF dX12_tellsNothing_4 kI_0 ?_
  refine s_iconst (v := (0 : Int32)) hF dX12_tellsNothing_5 kI_0 ?_
  refine sim_gd (fun g2 => ?_)
  refine s_iastore hF dX12_tellsNothing_6 g2 ?_
  refine s_aload_n hF dX12_tellsNothing_7 rfl 0 rfl ?_
  refine s_getR (x := (g_R μ l0 11)) hF dX12_tellsNothing_8 flX12_20 f0 g1 rfl ?_
  refine s_iconst (v := (1 : Int32)) hF dX12_tellsNothing_11 kI_1 ?_
  refine s_iconst (v := (0 : Int32)) hF dX12_tellsNothing_12 kI_0 ?_
  refine sim_gd (fun g3 => ?_)
  refine s_iastore hF dX12_tellsNothing_13 g3 ?_
  refine s_aload_n hF dX12_tellsNothing_14 rfl 0 rfl ?_
  refine s_getR (x := (g_R μ l0 11)) hF dX12_tellsNothing_15 flX12_20 f0 g1 rfl ?_
  refine s_iconst (v := (2 : Int32)) hF dX12_tellsNothing_18 kI_2 ?_
  refine s_bipush (v := (8 : Int32)) hF dX12_tellsNothing_19 kB_8 ?_
  refine sim_gd (fun g4 => ?_)
  refine s_iastore hF dX12_tellsNothing_21 g4 ?_
  exact s_vretD hF hD dX12_tellsNothing_22 rfl
theorem ctX12_thrown  (l0 : Nat) (μ : Mem) : ∀ (r : Int32) (μ' : Mem), LX12_thrown l0 μ = some (r, μ') → CtD yX12_thrown cX12_thrown 1 (some .int) 0 [.ref l0] μ (encI r) μ' := by
  refine ct_enterD plX12 (Nat.le_of_ble_eq_true rfl) (fun F hF hD hI => ?_)
  unfold LX12_thrown
  refine sim_gd (fun f0 => ?_)
  refine s_aload_n hF dX12_thrown_0 rfl 0 rfl ?_
  refine s_getI (x := (g_I μ l0 0)) hF dX12_thrown_1 flX12_94 f0 rfl ?_
  exact s_iretD hF hD dX12_thrown_4 rfl
theorem sX12_bad_26 {F : Option Fx} (hF : FxO F RX12 cX12_bad 4 0) (hD : FxDO F (some .boolean)) (l0 : Nat) (μ : Mem) (f0 : isK μ l0 12 = true) : Sim F encI 26 [(0, .ref l0)] [] μ (mX12_bad_26 l0 μ) := by
  unfold mX12_bad_26
  refine s_aload_n hF dX12_bad_26 rfl 0 rfl ?_
  refine s_getI (x := (g_I μ l0 0)) hF dX12_bad_27 flX12_94 f0 rfl ?_
  refine s_if_eq (tgt := 37) hF dX12_bad_30 rfl (fun c5 => ?_) (fun c5 => ?_)
  · refine s_iconst (v := (0 : Int32)) hF dX12_bad_37 kI_0 ?_
    exact s_zretD hF hD dX12_bad_38 rfl rfl
  · refine s_iconst (v := (1 : Int32)) hF dX12_bad_33 kI_1 ?_
    refine s_goto (tgt := 38) hF dX12_bad_34 rfl ?_
    exact s_zretD hF hD dX12_bad_38 rfl rfl
theorem ctX12_bad  (l0 : Nat) (l1 : Int32) (l2 : Int32) (l3 : Int32) (μ : Mem) : ∀ (r : Int32) (μ' : Mem), LX12_bad l0 l1 l2 l3 μ = some (r, μ') → CtD yX12_bad cX12_bad 4 (some .boolean) 0 [.ref l0, .int l1, .int l2, .int l3] μ (encI r) μ' := by
  refine ct_enterD plX12 (Nat.le_of_ble_eq_true rfl) (fun F hF hD hI => ?_)
  unfold LX12_bad
  refine sim_gd (fun f0 => ?_)
  refine s_iload_n hF dX12_bad_0 rfl 1 rfl ?_
  refine s_if_eq (tgt := 26) hF dX12_bad_1 rfl (fun c1 => ?_) (fun c1 => ?_)
  · refine s_sub [0] rfl ?_
    exact sX12_bad_26 hF hD l0 _ f0
  · refine s_aload_n hF dX12_bad_4 rfl 0 rfl ?_
    refine s_getI (x := (g_I μ l0 0)) hF dX12_bad_5 flX12_94 f0 rfl ?_
    refine s_if_ne (tgt := 26) hF dX12_bad_8 rfl (fun c2 => ?_) (fun c2 => ?_)
    · refine s_aload_n hF dX12_bad_11 rfl 0 rfl ?_
      refine s_iload_n hF dX12_bad_12 rfl 2 rfl ?_
      refine s_putI hF dX12_bad_13 flX12_94 f0 ?_
      refine s_aload_n hF dX12_bad_16 rfl 0 rfl ?_
      refine sim_gd (fun g3 => ?_)
      refine s_getR (x := (g_R μ l0 10)) hF dX12_bad_17 flX12_17 f0 g3 rfl ?_
      refine s_iload_n hF dX12_bad_20 rfl 3 rfl ?_
      refine s_dup2 hF dX12_bad_21 rfl rfl ?_
      refine sim_gd (fun g4 => ?_)
      refine s_iaload (x := (g_I (p_I μ l0 0 l2) (g_R μ l0 10) l3.toNatClampNeg)) hF dX12_bad_22 g4 rfl ?_
      refine s_iconst (v := (1 : Int32)) hF dX12_bad_23 kI_1 ?_
      refine s_iadd hF dX12_bad_24 ?_
      refine s_iastore hF dX12_bad_25 g4 ?_
      refine s_sub [0] rfl ?_
      exact sX12_bad_26 hF hD l0 _ f0
    · refine s_sub [0] rfl ?_
      exact sX12_bad_26 hF hD l0 _ f0
theorem ctX12_in  (l0 : Int32) (l1 : Int32) (l2 : Int32) (μ : Mem) : ∀ (r : Int32) (μ' : Mem), LX12_in l0 l1 l2 μ = some (r, μ') → CtD yX12_in cX12_in 3 (some .boolean) 0 [.int l0, .int l1, .int l2] μ (encI r) μ' := by
  refine ct_enterD plX12 (Nat.le_of_ble_eq_true rfl) (fun F hF hD hI => ?_)
  unfold LX12_in
  refine s_iload_n hF dX12_in_0 rfl 0 rfl ?_
  refine s_iload_n hF dX12_in_1 rfl 1 rfl ?_
  refine s_icmp_lt (tgt := 14) hF dX12_in_2 rfl (fun c1 => ?_) (fun c1 => ?_)
  · refine s_iconst (v := (0 : Int32)) hF dX12_in_14 kI_0 ?_
    exact s_zretD hF hD dX12_in_15 rfl rfl
  · refine s_iload_n hF dX12_in_5 rfl 0 rfl ?_
    refine s_iload_n hF dX12_in_6 rfl 2 rfl ?_
    refine s_icmp_gt (tgt := 14) hF dX12_in_7 rfl (fun c2 => ?_) (fun c2 => ?_)
    · refine s_iconst (v := (0 : Int32)) hF dX12_in_14 kI_0 ?_
      exact s_zretD hF hD dX12_in_15 rfl rfl
    · refine s_iconst (v := (1 : Int32)) hF dX12_in_10 kI_1 ?_
      refine s_goto (tgt := 15) hF dX12_in_11 rfl ?_
      exact s_zretD hF hD dX12_in_15 rfl rfl
theorem ctX12_less  (l0 : Int32) (l1 : Int32) (μ : Mem) : ∀ (r : Int32) (μ' : Mem), LX12_less l0 l1 μ = some (r, μ') → CtD yX12_less cX12_less 2 (some .int) 0 [.int l0, .int l1] μ (encI r) μ' := by
  refine ct_enterD plX12 (Nat.le_of_ble_eq_true rfl) (fun F hF hD hI => ?_)
  unfold LX12_less
  refine s_iload_n hF dX12_less_0 rfl 0 rfl ?_
  refine s_iload_n hF dX12_less_1 rfl 1 rfl ?_
  refine s_icmp_ge (tgt := 9) hF dX12_less_2 rfl (fun c1 => ?_) (fun c1 => ?_)
  · refine s_iload_n hF dX12_less_9 rfl 1 rfl ?_
    exact s_iretD hF hD dX12_less_10 rfl
  · refine s_iload_n hF dX12_less_5 rfl 0 rfl ?_
    refine s_goto (tgt := 10) hF dX12_less_6 rfl ?_
    exact s_iretD hF hD dX12_less_10 rfl
theorem ctX12_more  (l0 : Int32) (l1 : Int32) (μ : Mem) : ∀ (r : Int32) (μ' : Mem), LX12_more l0 l1 μ = some (r, μ') → CtD yX12_more cX12_more 2 (some .int) 0 [.int l0, .int l1] μ (encI r) μ' := by
  refine ct_enterD plX12 (Nat.le_of_ble_eq_true rfl) (fun F hF hD hI => ?_)
  unfold LX12_more
  refine s_iload_n hF dX12_more_0 rfl 0 rfl ?_
  refine s_iload_n hF dX12_more_1 rfl 1 rfl ?_
  refine s_icmp_le (tgt := 9) hF dX12_more_2 rfl (fun c1 => ?_) (fun c1 => ?_)
  · refine s_iload_n hF dX12_more_9 rfl 1 rfl ?_
    exact s_iretD hF hD dX12_more_10 rfl
  · refine s_iload_n hF dX12_more_5 rfl 0 rfl ?_
    refine s_goto (tgt := 10) hF dX12_more_6 rfl ?_
    exact s_iretD hF hD dX12_more_10 rfl
theorem ctX12_has  (l0 : Int32) (l1 : Int32) (μ : Mem) : ∀ (r : Int32) (μ' : Mem), LX12_has l0 l1 μ = some (r, μ') → CtD yX12_has cX12_has 2 (some .boolean) 0 [.int l0, .int l1] μ (encI r) μ' := by
  refine ct_enterD plX12 (Nat.le_of_ble_eq_true rfl) (fun F hF hD hI => ?_)
  unfold LX12_has
  refine s_iload_n hF dX12_has_0 rfl 0 rfl ?_
  refine s_iload_n hF dX12_has_1 rfl 1 rfl ?_
  refine s_ishr hF dX12_has_2 ?_
  refine s_iconst (v := (1 : Int32)) hF dX12_has_3 kI_1 ?_
  refine s_iand hF dX12_has_4 ?_
  refine s_iconst (v := (1 : Int32)) hF dX12_has_5 kI_1 ?_
  refine s_icmp_ne (tgt := 13) hF dX12_has_6 rfl (fun c1 => ?_) (fun c1 => ?_)
  · refine s_iconst (v := (1 : Int32)) hF dX12_has_9 kI_1 ?_
    refine s_goto (tgt := 14) hF dX12_has_10 rfl ?_
    exact s_zretD hF hD dX12_has_14 rfl rfl
  · refine s_iconst (v := (0 : Int32)) hF dX12_has_13 kI_0 ?_
    exact s_zretD hF hD dX12_has_14 rfl rfl
theorem sX12_feed_76 {F : Option Fx} (q23 : Nat → Int32 → Int32 → Int32 → Int32 → Int32 → Int32 → Mem → Option (Int32 × Mem)) (hF : FxO F RX12 cX12_feed 8 0) (hD : FxDO F (some .int)) (hq23 : ∀ (l0 : Nat) (l1 : Int32) (l2 : Int32) (l3 : Int32) (l4 : Int32) (l5 : Int32) (l6 : Int32) (μ : Mem) (_ : isK μ l0 12 = true), Sim F encI 23 [(0, .ref l0), (1, .int l1), (2, .int l2), (3, .int l3), (4, .int l4), (5, .int l5), (6, .int l6)] [] μ (q23 l0 l1 l2 l3 l4 l5 l6 μ)) (l0 : Nat) (l1 : Int32) (l2 : Int32) (l3 : Int32) (l4 : Int32) (l5 : Int32) (l6 : Int32) (k0 : Int32) (μ : Mem) (f0 : isK μ l0 12 = true) : Sim F encI 76 [(0, .ref l0), (1, .int l1), (2, .int l2), (3, .int l3), (4, .int l4), (5, .int l5), (6, .int l6)] [.int k0] μ (mX12_feed_76 q23 l0 l1 l2 l3 l4 l5 l6 k0 μ) := by
  unfold mX12_feed_76
  refine s_istore (pls' := [(7, .int k0), (0, .ref l0), (1, .int l1), (2, .int l2), (3, .int l3), (4, .int l4), (5, .int l5), (6, .int l6)]) hF dX12_feed_76 (by decide) rfl ?_
  refine s_aload_n hF dX12_feed_78 rfl 1 rfl ?_
  refine sim_gd (fun g7 => ?_)
  refine s_getR (x := (g_R μ l0 9)) hF dX12_feed_79 flX12_13 f0 g7 rfl ?_
  refine s_aload_n hF dX12_feed_82 rfl 1 rfl ?_
  refine s_getI (x := (g_I μ l0 1)) hF dX12_feed_83 flX12_97 f0 rfl ?_
  refine s_iload hF dX12_feed_86 0 rfl ?_
  refine s_bipush (v := (24 : Int32)) hF dX12_feed_88 kB_24 ?_
  refine s_bipush (v := (8 : Int32)) hF dX12_feed_90 kB_8 ?_
  refine s_iload hF dX12_feed_92 7 rfl ?_
  refine s_iconst (v := (4 : Int32)) hF dX12_feed_94 kI_4 ?_
  refine sim_gd (fun g8 => ?_)
  refine s_irem hF dX12_feed_95 g8 ?_
  refine s_imul hF dX12_feed_96 ?_
  refine s_isub hF dX12_feed_97 ?_
  refine s_ishr hF dX12_feed_98 ?_
  refine s_sipush (v := (255 : Int32)) hF dX12_feed_99 kS_255 ?_
  refine s_iand hF dX12_feed_102 ?_
  refine sim_gd (fun g9 => ?_)
  refine s_iastore hF dX12_feed_103 g9 ?_
  refine s_aload_n hF dX12_feed_104 rfl 1 rfl ?_
  refine s_dup hF dX12_feed_105 rfl ?_
  refine s_getI (x := (g_I (p_I μ (g_R μ l0 9) (g_I μ l0 1).toNatClampNeg ((k0 >>> (((24 : Int32) - ((8 : Int32) * (l6 - l6 / (4 : Int32) * (4 : Int32)))) &&& 31)) &&& (255 : Int32))) l0 1)) hF dX12_feed_106 flX12_97 f0 rfl ?_
  refine s_iconst (v := (1 : Int32)) hF dX12_feed_109 kI_1 ?_
  refine s_iadd hF dX12_feed_110 ?_
  refine s_putI hF dX12_feed_111 flX12_97 f0 ?_
  refine s_iinc (v := (l6 + (1 : Int32))) (pls' := [(6, .int (l6 + (1 : Int32))), (7, .int k0), (0, .ref l0), (1, .int l1), (2, .int l2), (3, .int l3), (4, .int l4), (5, .int l5)]) hF dX12_feed_114 7 rfl rfl (by decide) rfl ?_
  refine s_goto (tgt := 23) hF dX12_feed_117 rfl ?_
  refine s_sub [2, 3, 4, 5, 6, 7, 0] rfl ?_
  exact hq23 l0 l1 l2 l3 l4 l5 (l6 + (1 : Int32)) _ f0
theorem sX12_feed_23 {F : Option Fx} (hF : FxO F RX12 cX12_feed 8 0) (hD : FxDO F (some .int)) : ∀ (fu : Nat) (l0 : Nat) (l1 : Int32) (l2 : Int32) (l3 : Int32) (l4 : Int32) (l5 : Int32) (l6 : Int32) (μ : Mem) (f0 : isK μ l0 12 = true), Sim F encI 23 [(0, .ref l0), (1, .int l1), (2, .int l2), (3, .int l3), (4, .int l4), (5, .int l5), (6, .int l6)] [] μ (mX12_feed_23 fu l0 l1 l2 l3 l4 l5 l6 μ) := by
  intro fu
  induction fu with
  | zero =>
    intro l0 l1 l2 l3 l4 l5 l6 μ f0
    exact sim_none
  | succ fu ih =>
    intro l0 l1 l2 l3 l4 l5 l6 μ f0
    rw [mX12_feed_23]
    refine s_iload hF dX12_feed_23 6 rfl ?_
    refine s_bipush (v := (20 : Int32)) hF dX12_feed_25 kB_20 ?_
    refine s_icmp_ge (tgt := 120) hF dX12_feed_27 rfl (fun c2 => ?_) (fun c2 => ?_)
    · refine s_aload_n hF dX12_feed_120 rfl 0 rfl ?_
      refine s_getI (x := (g_I μ l0 1)) hF dX12_feed_121 flX12_97 f0 rfl ?_
      exact s_iretD hF hD dX12_feed_124 rfl
    · refine s_iload hF dX12_feed_30 6 rfl ?_
      refine s_iconst (v := (4 : Int32)) hF dX12_feed_32 kI_4 ?_
      refine s_icmp_ge (tgt := 40) hF dX12_feed_33 rfl (fun c3 => ?_) (fun c3 => ?_)
      · refine s_iload hF dX12_feed_40 6 rfl ?_
        refine s_bipush (v := (8 : Int32)) hF dX12_feed_42 kB_8 ?_
        refine s_icmp_ge (tgt := 51) hF dX12_feed_44 rfl (fun c4 => ?_) (fun c4 => ?_)
        · refine s_iload hF dX12_feed_51 6 rfl ?_
          refine s_bipush (v := (12 : Int32)) hF dX12_feed_53 kB_12 ?_
          refine s_icmp_ge (tgt := 62) hF dX12_feed_55 rfl (fun c5 => ?_) (fun c5 => ?_)
          · refine s_iload hF dX12_feed_62 6 rfl ?_
            refine s_bipush (v := (16 : Int32)) hF dX12_feed_64 kB_16 ?_
            refine s_icmp_ge (tgt := 74) hF dX12_feed_66 rfl (fun c6 => ?_) (fun c6 => ?_)
            · refine s_iload hF dX12_feed_74 5 rfl ?_
              exact sX12_feed_76 (fun l0 l1 l2 l3 l4 l5 l6 μ => mX12_feed_23 fu l0 l1 l2 l3 l4 l5 l6 μ) hF hD ih l0 l1 l2 l3 l4 l5 l6 l5 _ f0
            · refine s_iload hF dX12_feed_69 4 rfl ?_
              refine s_goto (tgt := 76) hF dX12_feed_71 rfl ?_
              exact sX12_feed_76 (fun l0 l1 l2 l3 l4 l5 l6 μ => mX12_feed_23 fu l0 l1 l2 l3 l4 l5 l6 μ) hF hD ih l0 l1 l2 l3 l4 l5 l6 l4 _ f0
          · refine s_iload_n hF dX12_feed_58 rfl 3 rfl ?_
            refine s_goto (tgt := 76) hF dX12_feed_59 rfl ?_
            exact sX12_feed_76 (fun l0 l1 l2 l3 l4 l5 l6 μ => mX12_feed_23 fu l0 l1 l2 l3 l4 l5 l6 μ) hF hD ih l0 l1 l2 l3 l4 l5 l6 l3 _ f0
        · refine s_iload_n hF dX12_feed_47 rfl 2 rfl ?_
          refine s_goto (tgt := 76) hF dX12_feed_48 rfl ?_
          exact sX12_feed_76 (fun l0 l1 l2 l3 l4 l5 l6 μ => mX12_feed_23 fu l0 l1 l2 l3 l4 l5 l6 μ) hF hD ih l0 l1 l2 l3 l4 l5 l6 l2 _ f0
      · refine s_iload_n hF dX12_feed_36 rfl 1 rfl ?_
        refine s_goto (tgt := 76) hF dX12_feed_37 rfl ?_
        exact sX12_feed_76 (fun l0 l1 l2 l3 l4 l5 l6 μ => mX12_feed_23 fu l0 l1 l2 l3 l4 l5 l6 μ) hF hD ih l0 l1 l2 l3 l4 l5 l6 l1 _ f0
theorem ctX12_feed  (l0 : Nat) (l1 : Int32) (l2 : Int32) (l3 : Int32) (l4 : Int32) (l5 : Int32) (μ : Mem) : ∀ (r : Int32) (μ' : Mem), LX12_feed l0 l1 l2 l3 l4 l5 μ = some (r, μ') → CtD yX12_feed cX12_feed 8 (some .int) 0 [.ref l0, .int l1, .int l2, .int l3, .int l4, .int l5] μ (encI r) μ' := by
  refine ct_enterD plX12 (Nat.le_of_ble_eq_true rfl) (fun F hF hD hI => ?_)
  unfold LX12_feed
  refine sim_gd (fun f0 => ?_)
  refine s_aload_n hF dX12_feed_0 rfl 0 rfl ?_
  refine s_iconst (v := (0 : Int32)) hF dX12_feed_1 kI_0 ?_
  refine s_putI hF dX12_feed_2 flX12_94 f0 ?_
  refine s_aload_n hF dX12_feed_5 rfl 0 rfl ?_
  refine s_getI (x := (g_I (p_I μ l0 0 (0 : Int32)) l0 1)) hF dX12_feed_6 flX12_97 f0 rfl ?_
  refine s_bipush (v := (20 : Int32)) hF dX12_feed_9 kB_20 ?_
  refine s_iadd hF dX12_feed_11 ?_
  refine s_sipush (v := (600 : Int32)) hF dX12_feed_12 kS_600 ?_
  refine s_icmp_le (tgt := 20) hF dX12_feed_15 rfl (fun c1 => ?_) (fun c1 => ?_)
  · refine s_iconst (v := (0 : Int32)) hF dX12_feed_20 kI_0 ?_
    refine s_istore (pls' := [(6, .int (0 : Int32)), (0, .ref l0), (1, .int l1), (2, .int l2), (3, .int l3), (4, .int l4), (5, .int l5)]) hF dX12_feed_21 (by decide) rfl ?_
    refine s_sub [1, 2, 3, 4, 5, 6, 0] rfl ?_
    exact sX12_feed_23 hF hD 100000 l0 l1 l2 l3 l4 l5 (0 : Int32) _ f0
  · refine s_iconst (v := (-1 : Int32)) hF dX12_feed_18 kI_m1 ?_
    exact s_iretD hF hD dX12_feed_19 rfl
theorem ctX12_byteAt  (l0 : Nat) (l1 : Int32) (μ : Mem) : ∀ (r : Int32) (μ' : Mem), LX12_byteAt l0 l1 μ = some (r, μ') → CtD yX12_byteAt cX12_byteAt 2 (some .int) 0 [.ref l0, .int l1] μ (encI r) μ' := by
  refine ct_enterD plX12 (Nat.le_of_ble_eq_true rfl) (fun F hF hD hI => ?_)
  unfold LX12_byteAt
  refine sim_gd (fun f0 => ?_)
  refine s_iload_n hF dX12_byteAt_0 rfl 1 rfl ?_
  refine s_aload_n hF dX12_byteAt_1 rfl 0 rfl ?_
  refine s_getI (x := (g_I μ l0 2)) hF dX12_byteAt_2 flX12_100 f0 rfl ?_
  refine s_icmp_lt (tgt := 12) hF dX12_byteAt_5 rfl (fun c1 => ?_) (fun c1 => ?_)
  · refine s_aload_n hF dX12_byteAt_12 rfl 0 rfl ?_
    refine sim_gd (fun g2 => ?_)
    refine s_getR (x := (g_R μ l0 9)) hF dX12_byteAt_13 flX12_13 f0 g2 rfl ?_
    refine s_iload_n hF dX12_byteAt_16 rfl 1 rfl ?_
    refine sim_gd (fun g3 => ?_)
    refine s_iaload (x := (g_I μ (g_R μ l0 9) l1.toNatClampNeg)) hF dX12_byteAt_17 g3 rfl ?_
    exact s_iretD hF hD dX12_byteAt_18 rfl
  · refine s_iconst (v := (-1 : Int32)) hF dX12_byteAt_8 kI_m1 ?_
    refine s_goto (tgt := 18) hF dX12_byteAt_9 rfl ?_
    exact s_iretD hF hD dX12_byteAt_18 rfl
theorem sX12_blanks_0 {F : Option Fx} (hF : FxO F RX12 cX12_blanks 1 1) (hD : FxDO F none) : ∀ (fu : Nat) (l0 : Nat) (μ : Mem) (f0 : isK μ l0 12 = true), Sim F encV 0 [(0, .ref l0)] [] μ (mX12_blanks_0 fu l0 μ) := by
  intro fu
  induction fu with
  | zero =>
    intro l0 μ f0
    exact sim_none
  | succ fu ih =>
    intro l0 μ f0
    rw [mX12_blanks_0]
    refine s_aload_n hF dX12_blanks_0 rfl 0 rfl ?_
    refine s_aload_n hF dX12_blanks_1 rfl 0 rfl ?_
    refine s_getI (x := (g_I μ l0 4)) hF dX12_blanks_2 flX12_103 f0 rfl ?_
    refine s_cVi (st := []) (ci := 12) [.int (g_I μ l0 4)] hF hD.dr dX12_blanks_5 cwX12_106 (Nat.le_of_ble_eq_true rfl) (Nat.le_of_ble_eq_true rfl) rfl rfl (Nat.le_of_ble_eq_true rfl) f0 rfl rfl (Nat.le_of_ble_eq_true rfl) (ctX12_byteAt l0 (g_I μ l0 4) _) (fun r1 m2 hl3 hm4 => ?_)
    refine s_bipush (v := (32 : Int32)) hF dX12_blanks_8 kB_32 ?_
    refine s_icmp_ne (tgt := 26) hF dX12_blanks_10 rfl (fun c5 => ?_) (fun c5 => ?_)
    · refine s_aload_n hF dX12_blanks_13 rfl 0 rfl ?_
      refine s_dup hF dX12_blanks_14 rfl ?_
      refine s_getI (x := (g_I m2 l0 4)) hF dX12_blanks_15 flX12_103 (isK.mo f0 hm4) rfl ?_
      refine s_iconst (v := (1 : Int32)) hF dX12_blanks_18 kI_1 ?_
      refine s_iadd hF dX12_blanks_19 ?_
      refine s_putI hF dX12_blanks_20 flX12_103 (isK.mo f0 hm4) ?_
      refine s_goto (tgt := 0) hF dX12_blanks_23 rfl ?_
      exact ih l0 _ (isK.mo f0 hm4)
    · exact s_vretD hF hD dX12_blanks_26 rfl
theorem ctX12_blanks  (l0 : Nat) (μ : Mem) : ∀ (r : Unit) (μ' : Mem), LX12_blanks l0 μ = some (r, μ') → CtD yX12_blanks cX12_blanks 1 none 1 [.ref l0] μ (encV r) μ' := by
  refine ct_enterD plX12 (Nat.le_of_ble_eq_true rfl) (fun F hF hD hI => ?_)
  unfold LX12_blanks
  refine sim_gd (fun f0 => ?_)
  exact sX12_blanks_0 hF hD 100000 l0 _ f0
theorem ctX12_wrong  (l0 : Nat) (l1 : Int32) (l2 : Int32) (μ : Mem) : ∀ (r : Unit) (μ' : Mem), LX12_wrong l0 l1 l2 μ = some (r, μ') → CtD yX12_wrong cX12_wrong 3 none 0 [.ref l0, .int l1, .int l2] μ (encV r) μ' := by
  refine ct_enterD plX12 (Nat.le_of_ble_eq_true rfl) (fun F hF hD hI => ?_)
  unfold LX12_wrong
  refine sim_gd (fun f0 => ?_)
  refine s_aload_n hF dX12_wrong_0 rfl 0 rfl ?_
  refine s_getI (x := (g_I μ l0 5)) hF dX12_wrong_1 flX12_110 f0 rfl ?_
  refine s_if_ne (tgt := 17) hF dX12_wrong_4 rfl (fun c1 => ?_) (fun c1 => ?_)
  · refine s_aload_n hF dX12_wrong_7 rfl 0 rfl ?_
    refine s_iload_n hF dX12_wrong_8 rfl 1 rfl ?_
    refine s_putI hF dX12_wrong_9 flX12_110 f0 ?_
    refine s_aload_n hF dX12_wrong_12 rfl 0 rfl ?_
    refine s_iload_n hF dX12_wrong_13 rfl 2 rfl ?_
    refine s_putI hF dX12_wrong_14 flX12_113 f0 ?_
    exact s_vretD hF hD dX12_wrong_17 rfl
  · exact s_vretD hF hD dX12_wrong_17 rfl
theorem ctX12_isDigit  (l0 : Int32) (μ : Mem) : ∀ (r : Int32) (μ' : Mem), LX12_isDigit l0 μ = some (r, μ') → CtD yX12_isDigit cX12_isDigit 1 (some .boolean) 0 [.int l0] μ (encI r) μ' := by
  refine ct_enterD plX12 (Nat.le_of_ble_eq_true rfl) (fun F hF hD hI => ?_)
  unfold LX12_isDigit
  refine s_iload_n hF dX12_isDigit_0 rfl 0 rfl ?_
  refine s_bipush (v := (48 : Int32)) hF dX12_isDigit_1 kB_48 ?_
  refine s_icmp_lt (tgt := 16) hF dX12_isDigit_3 rfl (fun c1 => ?_) (fun c1 => ?_)
  · refine s_iconst (v := (0 : Int32)) hF dX12_isDigit_16 kI_0 ?_
    exact s_zretD hF hD dX12_isDigit_17 rfl rfl
  · refine s_iload_n hF dX12_isDigit_6 rfl 0 rfl ?_
    refine s_bipush (v := (57 : Int32)) hF dX12_isDigit_7 kB_57 ?_
    refine s_icmp_gt (tgt := 16) hF dX12_isDigit_9 rfl (fun c2 => ?_) (fun c2 => ?_)
    · refine s_iconst (v := (0 : Int32)) hF dX12_isDigit_16 kI_0 ?_
      exact s_zretD hF hD dX12_isDigit_17 rfl rfl
    · refine s_iconst (v := (1 : Int32)) hF dX12_isDigit_12 kI_1 ?_
      refine s_goto (tgt := 17) hF dX12_isDigit_13 rfl ?_
      exact s_zretD hF hD dX12_isDigit_17 rfl rfl
theorem ctX12_isSmall  (l0 : Int32) (μ : Mem) : ∀ (r : Int32) (μ' : Mem), LX12_isSmall l0 μ = some (r, μ') → CtD yX12_isSmall cX12_isSmall 1 (some .boolean) 0 [.int l0] μ (encI r) μ' := by
  refine ct_enterD plX12 (Nat.le_of_ble_eq_true rfl) (fun F hF hD hI => ?_)
  unfold LX12_isSmall
  refine s_iload_n hF dX12_isSmall_0 rfl 0 rfl ?_
  refine s_bipush (v := (97 : Int32)) hF dX12_isSmall_1 kB_97 ?_
  refine s_icmp_lt (tgt := 16) hF dX12_isSmall_3 rfl (fun c1 => ?_) (fun c1 => ?_)
  · refine s_iconst (v := (0 : Int32)) hF dX12_isSmall_16 kI_0 ?_
    exact s_zretD hF hD dX12_isSmall_17 rfl rfl
  · refine s_iload_n hF dX12_isSmall_6 rfl 0 rfl ?_
    refine s_bipush (v := (122 : Int32)) hF dX12_isSmall_7 kB_122 ?_
    refine s_icmp_gt (tgt := 16) hF dX12_isSmall_9 rfl (fun c2 => ?_) (fun c2 => ?_)
    · refine s_iconst (v := (0 : Int32)) hF dX12_isSmall_16 kI_0 ?_
      exact s_zretD hF hD dX12_isSmall_17 rfl rfl
    · refine s_iconst (v := (1 : Int32)) hF dX12_isSmall_12 kI_1 ?_
      refine s_goto (tgt := 17) hF dX12_isSmall_13 rfl ?_
      exact s_zretD hF hD dX12_isSmall_17 rfl rfl
theorem sX12_number_91 {F : Option Fx} (q44 : Nat → Int32 → Int32 → Int32 → Int32 → Mem → Option (Int32 × Mem)) (hF : FxO F RX12 cX12_number 5 2) (hD : FxDO F (some .int)) (hq44 : ∀ (l0 : Nat) (l1 : Int32) (l2 : Int32) (l3 : Int32) (l4 : Int32) (μ : Mem) (_ : isK μ l0 12 = true), Sim F encI 44 [(0, .ref l0), (1, .int l1), (2, .int l2), (3, .int l3), (4, .int l4)] [] μ (q44 l0 l1 l2 l3 l4 μ)) (l0 : Nat) (l1 : Int32) (l2 : Int32) (l3 : Int32) (k0 : Int32) (μ : Mem) (f0 : isK μ l0 12 = true) : Sim F encI 91 [(0, .ref l0), (1, .int l1), (2, .int l2), (3, .int l3)] [.int k0] μ (mX12_number_91 q44 l0 l1 l2 l3 k0 μ) := by
  unfold mX12_number_91
  refine s_istore (pls' := [(4, .int k0), (0, .ref l0), (1, .int l1), (2, .int l2), (3, .int l3)]) hF dX12_number_91 (by decide) rfl ?_
  refine s_aload_n hF dX12_number_93 rfl 1 rfl ?_
  refine s_dup hF dX12_number_94 rfl ?_
  refine s_getI (x := (g_I μ l0 4)) hF dX12_number_95 flX12_103 f0 rfl ?_
  refine s_iconst (v := (1 : Int32)) hF dX12_number_98 kI_1 ?_
  refine s_iadd hF dX12_number_99 ?_
  refine s_putI hF dX12_number_100 flX12_103 f0 ?_
  refine s_goto (tgt := 44) hF dX12_number_103 rfl ?_
  refine s_sub [1, 2, 3, 4, 0] rfl ?_
  exact hq44 l0 l1 l2 l3 k0 _ f0
theorem sX12_number_122 {F : Option Fx} (hF : FxO F RX12 cX12_number 5 2) (hD : FxDO F (some .int)) (l0 : Nat) (l4 : Int32) (μ : Mem) (f0 : isK μ l0 12 = true) : Sim F encI 122 [(0, .ref l0), (4, .int l4)] [] μ (mX12_number_122 l0 l4 μ) := by
  unfold mX12_number_122
  refine s_aload_n hF dX12_number_122 rfl 0 rfl ?_
  refine s_getI (x := (g_I μ l0 5)) hF dX12_number_123 flX12_110 f0 rfl ?_
  refine s_if_ne (tgt := 134) hF dX12_number_126 rfl (fun c42 => ?_) (fun c42 => ?_)
  · refine s_iload hF dX12_number_129 1 rfl ?_
    refine s_goto (tgt := 135) hF dX12_number_131 rfl ?_
    exact s_iretD hF hD dX12_number_135 rfl
  · refine s_iconst (v := (0 : Int32)) hF dX12_number_134 kI_0 ?_
    exact s_iretD hF hD dX12_number_135 rfl
theorem sX12_number_44 {F : Option Fx} (hF : FxO F RX12 cX12_number 5 2) (hD : FxDO F (some .int)) : ∀ (fu : Nat) (l0 : Nat) (l1 : Int32) (l2 : Int32) (l3 : Int32) (l4 : Int32) (μ : Mem) (f0 : isK μ l0 12 = true), Sim F encI 44 [(0, .ref l0), (1, .int l1), (2, .int l2), (3, .int l3), (4, .int l4)] [] μ (mX12_number_44 fu l0 l1 l2 l3 l4 μ) := by
  intro fu
  induction fu with
  | zero =>
    intro l0 l1 l2 l3 l4 μ f0
    exact sim_none
  | succ fu ih =>
    intro l0 l1 l2 l3 l4 μ f0
    rw [mX12_number_44]
    refine s_aload_n hF dX12_number_44 rfl 0 rfl ?_
    refine s_aload_n hF dX12_number_45 rfl 0 rfl ?_
    refine s_getI (x := (g_I μ l0 4)) hF dX12_number_46 flX12_103 f0 rfl ?_
    refine s_cVi (st := []) (ci := 12) [.int (g_I μ l0 4)] hF hD.dr dX12_number_49 cwX12_106 (Nat.le_of_ble_eq_true rfl) (Nat.le_of_ble_eq_true rfl) rfl rfl (Nat.le_of_ble_eq_true rfl) f0 rfl rfl (Nat.le_of_ble_eq_true rfl) (ctX12_byteAt l0 (g_I μ l0 4) _) (fun r19 m20 hl21 hm22 => ?_)
    refine s_cSi (st := []) [.int r19] hF hD.dr dX12_number_52 cwX12_119 (Nat.le_of_ble_eq_true rfl) (Nat.le_of_ble_eq_true rfl) rfl rfl (Nat.le_of_ble_eq_true rfl) (ctX12_isDigit r19 _) (fun r23 m24 hl25 hm26 => ?_)
    refine s_if_eq (tgt := 106) hF dX12_number_55 rfl (fun c27 => ?_) (fun c27 => ?_)
    · refine s_iload hF dX12_number_106 4 rfl ?_
      refine s_iload_n hF dX12_number_108 rfl 1 rfl ?_
      refine s_iload_n hF dX12_number_109 rfl 2 rfl ?_
      refine s_cSi (st := []) [.int l4, .int l1, .int l2] hF hD.dr dX12_number_110 cwX12_128 (Nat.le_of_ble_eq_true rfl) (Nat.le_of_ble_eq_true rfl) rfl rfl (Nat.le_of_ble_eq_true rfl) (ctX12_in l4 l1 l2 _) (fun r28 m29 hl30 hm31 => ?_)
      refine s_if_ne (tgt := 122) hF dX12_number_113 rfl (fun c32 => ?_) (fun c32 => ?_)
      · refine s_aload_n hF dX12_number_116 rfl 0 rfl ?_
        refine s_iconst (v := (2 : Int32)) hF dX12_number_117 kI_2 ?_
        refine s_iload_n hF dX12_number_118 rfl 3 rfl ?_
        refine s_cVv (st := []) (ci := 12) [.int (2 : Int32), .int l3] hF hD.dr dX12_number_119 cwX12_123 (Nat.le_of_ble_eq_true rfl) (Nat.le_of_ble_eq_true rfl) rfl rfl (Nat.le_of_ble_eq_true rfl) (isK.mo (isK.mo (isK.mo f0 hm22) hm26) hm31) rfl rfl (Nat.le_of_ble_eq_true rfl) (ctX12_wrong l0 (2 : Int32) l3 _) (fun r33 m34 hl35 hm36 => ?_)
        refine s_sub [0, 4] rfl ?_
        exact sX12_number_122 hF hD l0 l4 _ (isK.mo (isK.mo (isK.mo (isK.mo f0 hm22) hm26) hm31) hm36)
      · refine s_sub [0, 4] rfl ?_
        exact sX12_number_122 hF hD l0 l4 _ (isK.mo (isK.mo (isK.mo f0 hm22) hm26) hm31)
    · refine s_bipush (v := (10 : Int32)) hF dX12_number_58 kB_10 ?_
      refine s_iload hF dX12_number_60 4 rfl ?_
      refine s_imul hF dX12_number_62 ?_
      refine s_aload_n hF dX12_number_63 rfl 0 rfl ?_
      refine s_aload_n hF dX12_number_64 rfl 0 rfl ?_
      refine s_getI (x := (g_I m24 l0 4)) hF dX12_number_65 flX12_103 (isK.mo (isK.mo f0 hm22) hm26) rfl ?_
      refine s_cVi (st := [.int ((10 : Int32) * l4)]) (ci := 12) [.int (g_I m24 l0 4)] hF hD.dr dX12_number_68 cwX12_106 (Nat.le_of_ble_eq_true rfl) (Nat.le_of_ble_eq_true rfl) rfl rfl (Nat.le_of_ble_eq_true rfl) (isK.mo (isK.mo f0 hm22) hm26) rfl rfl (Nat.le_of_ble_eq_true rfl) (ctX12_byteAt l0 (g_I m24 l0 4) _) (fun r37 m38 hl39 hm40 => ?_)
      refine s_iadd hF dX12_number_71 ?_
      refine s_bipush (v := (48 : Int32)) hF dX12_number_72 kB_48 ?_
      refine s_isub hF dX12_number_74 ?_
      refine s_istore (pls' := [(4, .int ((((10 : Int32) * l4) + r37) - (48 : Int32))), (0, .ref l0), (1, .int l1), (2, .int l2), (3, .int l3)]) hF dX12_number_75 (by decide) rfl ?_
      refine s_iload hF dX12_number_77 0 rfl ?_
      refine s_ldc (v := (100000000 : Int32)) hF dX12_number_79 cwX12_127 ?_
      refine s_icmp_le (tgt := 89) hF dX12_number_81 rfl (fun c41 => ?_) (fun c41 => ?_)
      · refine s_iload hF dX12_number_89 0 rfl ?_
        refine s_sub [1, 2, 3, 4] rfl ?_
        exact sX12_number_91 (fun l0 l1 l2 l3 l4 μ => mX12_number_44 fu l0 l1 l2 l3 l4 μ) hF hD ih l0 l1 l2 l3 ((((10 : Int32) * l4) + r37) - (48 : Int32)) _ (isK.mo (isK.mo (isK.mo f0 hm22) hm26) hm40)
      · refine s_ldc (v := (100000000 : Int32)) hF dX12_number_84 cwX12_127 ?_
        refine s_goto (tgt := 91) hF dX12_number_86 rfl ?_
        refine s_sub [1, 2, 3, 4] rfl ?_
        exact sX12_number_91 (fun l0 l1 l2 l3 l4 μ => mX12_number_44 fu l0 l1 l2 l3 l4 μ) hF hD ih l0 l1 l2 l3 (100000000 : Int32) _ (isK.mo (isK.mo (isK.mo f0 hm22) hm26) hm40)
theorem ctX12_number  (l0 : Nat) (l1 : Int32) (l2 : Int32) (μ : Mem) : ∀ (r : Int32) (μ' : Mem), LX12_number l0 l1 l2 μ = some (r, μ') → CtD yX12_number cX12_number 5 (some .int) 2 [.ref l0, .int l1, .int l2] μ (encI r) μ' := by
  refine ct_enterD plX12 (Nat.le_of_ble_eq_true rfl) (fun F hF hD hI => ?_)
  unfold LX12_number
  refine sim_gd (fun f0 => ?_)
  refine s_aload_n hF dX12_number_0 rfl 0 rfl ?_
  refine s_getI (x := (g_I μ l0 5)) hF dX12_number_1 flX12_110 f0 rfl ?_
  refine s_if_eq (tgt := 9) hF dX12_number_4 rfl (fun c1 => ?_) (fun c1 => ?_)
  · refine s_aload_n hF dX12_number_9 rfl 0 rfl ?_
    refine s_cVv (st := []) (ci := 12) [] hF hD.dr dX12_number_10 cwX12_116 (Nat.le_of_ble_eq_true rfl) (Nat.le_of_ble_eq_true rfl) rfl rfl (Nat.le_of_ble_eq_true rfl) f0 rfl rfl (Nat.le_of_ble_eq_true rfl) (ctX12_blanks l0 _) (fun r2 m3 hl4 hm5 => ?_)
    refine s_aload_n hF dX12_number_13 rfl 0 rfl ?_
    refine s_getI (x := (g_I m3 l0 4)) hF dX12_number_14 flX12_103 (isK.mo f0 hm5) rfl ?_
    refine s_istore_n (pls' := [(3, .int (g_I m3 l0 4)), (0, .ref l0), (1, .int l1), (2, .int l2)]) hF dX12_number_17 rfl (by decide) rfl ?_
    refine s_iconst (v := (0 : Int32)) hF dX12_number_18 kI_0 ?_
    refine s_istore (pls' := [(4, .int (0 : Int32)), (3, .int (g_I m3 l0 4)), (0, .ref l0), (1, .int l1), (2, .int l2)]) hF dX12_number_19 (by decide) rfl ?_
    refine s_aload_n hF dX12_number_21 rfl 2 rfl ?_
    refine s_aload_n hF dX12_number_22 rfl 2 rfl ?_
    refine s_getI (x := (g_I m3 l0 4)) hF dX12_number_23 flX12_103 (isK.mo f0 hm5) rfl ?_
    refine s_cVi (st := []) (ci := 12) [.int (g_I m3 l0 4)] hF hD.dr dX12_number_26 cwX12_106 (Nat.le_of_ble_eq_true rfl) (Nat.le_of_ble_eq_true rfl) rfl rfl (Nat.le_of_ble_eq_true rfl) (isK.mo f0 hm5) rfl rfl (Nat.le_of_ble_eq_true rfl) (ctX12_byteAt l0 (g_I m3 l0 4) _) (fun r6 m7 hl8 hm9 => ?_)
    refine s_cSi (st := []) [.int r6] hF hD.dr dX12_number_29 cwX12_119 (Nat.le_of_ble_eq_true rfl) (Nat.le_of_ble_eq_true rfl) rfl rfl (Nat.le_of_ble_eq_true rfl) (ctX12_isDigit r6 _) (fun r10 m11 hl12 hm13 => ?_)
    refine s_if_ne (tgt := 44) hF dX12_number_32 rfl (fun c14 => ?_) (fun c14 => ?_)
    · refine s_aload_n hF dX12_number_35 rfl 2 rfl ?_
      refine s_iconst (v := (1 : Int32)) hF dX12_number_36 kI_1 ?_
      refine s_aload_n hF dX12_number_37 rfl 2 rfl ?_
      refine s_getI (x := (g_I m11 l0 4)) hF dX12_number_38 flX12_103 (isK.mo (isK.mo (isK.mo f0 hm5) hm9) hm13) rfl ?_
      refine s_cVv (st := []) (ci := 12) [.int (1 : Int32), .int (g_I m11 l0 4)] hF hD.dr dX12_number_41 cwX12_123 (Nat.le_of_ble_eq_true rfl) (Nat.le_of_ble_eq_true rfl) rfl rfl (Nat.le_of_ble_eq_true rfl) (isK.mo (isK.mo (isK.mo f0 hm5) hm9) hm13) rfl rfl (Nat.le_of_ble_eq_true rfl) (ctX12_wrong l0 (1 : Int32) (g_I m11 l0 4) _) (fun r15 m16 hl17 hm18 => ?_)
      refine s_sub [2, 3, 4, 1, 0] rfl ?_
      exact sX12_number_44 hF hD 100000 l0 l1 l2 (g_I m3 l0 4) (0 : Int32) _ (isK.mo (isK.mo (isK.mo (isK.mo f0 hm5) hm9) hm13) hm18)
    · refine s_sub [2, 3, 4, 1, 0] rfl ?_
      exact sX12_number_44 hF hD 100000 l0 l1 l2 (g_I m3 l0 4) (0 : Int32) _ (isK.mo (isK.mo (isK.mo f0 hm5) hm9) hm13)
  · refine s_iconst (v := (0 : Int32)) hF dX12_number_7 kI_0 ?_
    exact s_iretD hF hD dX12_number_8 rfl
theorem sX12_wordHere_8 {F : Option Fx} (hF : FxO F RX12 cX12_wordHere 3 2) (hD : FxDO F (some .int)) : ∀ (fu : Nat) (l0 : Nat) (l1 : Int32) (l2 : Int32) (μ : Mem) (f0 : isK μ l0 12 = true), Sim F encI 8 [(0, .ref l0), (1, .int l1), (2, .int l2)] [] μ (mX12_wordHere_8 fu l0 l1 l2 μ) := by
  intro fu
  induction fu with
  | zero =>
    intro l0 l1 l2 μ f0
    exact sim_none
  | succ fu ih =>
    intro l0 l1 l2 μ f0
    rw [mX12_wordHere_8]
    refine s_aload_n hF dX12_wordHere_8 rfl 0 rfl ?_
    refine s_aload_n hF dX12_wordHere_9 rfl 0 rfl ?_
    refine s_getI (x := (g_I μ l0 4)) hF dX12_wordHere_10 flX12_103 f0 rfl ?_
    refine s_iload_n hF dX12_wordHere_13 rfl 2 rfl ?_
    refine s_iadd hF dX12_wordHere_14 ?_
    refine s_cVi (st := []) (ci := 12) [.int ((g_I μ l0 4) + l2)] hF hD.dr dX12_wordHere_15 cwX12_106 (Nat.le_of_ble_eq_true rfl) (Nat.le_of_ble_eq_true rfl) rfl rfl (Nat.le_of_ble_eq_true rfl) f0 rfl rfl (Nat.le_of_ble_eq_true rfl) (ctX12_byteAt l0 ((g_I μ l0 4) + l2) _) (fun r5 m6 hl7 hm8 => ?_)
    refine s_cSi (st := []) [.int r5] hF hD.dr dX12_wordHere_18 cwX12_132 (Nat.le_of_ble_eq_true rfl) (Nat.le_of_ble_eq_true rfl) rfl rfl (Nat.le_of_ble_eq_true rfl) (ctX12_isSmall r5 _) (fun r9 m10 hl11 hm12 => ?_)
    refine s_if_eq (tgt := 61) hF dX12_wordHere_21 rfl (fun c13 => ?_) (fun c13 => ?_)
    · refine s_iload_n hF dX12_wordHere_61 rfl 2 rfl ?_
      refine s_bipush (v := (6 : Int32)) hF dX12_wordHere_62 kB_6 ?_
      refine s_icmp_le (tgt := 71) hF dX12_wordHere_64 rfl (fun c14 => ?_) (fun c14 => ?_)
      · refine s_iload_n hF dX12_wordHere_71 rfl 1 rfl ?_
        exact s_iretD hF hD dX12_wordHere_72 rfl
      · refine s_iconst (v := (-1 : Int32)) hF dX12_wordHere_67 kI_m1 ?_
        refine s_goto (tgt := 72) hF dX12_wordHere_68 rfl ?_
        exact s_iretD hF hD dX12_wordHere_72 rfl
    · refine s_iload_n hF dX12_wordHere_24 rfl 2 rfl ?_
      refine s_bipush (v := (6 : Int32)) hF dX12_wordHere_25 kB_6 ?_
      refine s_icmp_ge (tgt := 53) hF dX12_wordHere_27 rfl (fun c15 => ?_) (fun c15 => ?_)
      · refine s_iload_n hF dX12_wordHere_53 rfl 1 rfl ?_
        refine s_istore_n (pls' := [(1, .int l1), (0, .ref l0), (2, .int l2)]) hF dX12_wordHere_54 rfl (by decide) rfl ?_
        refine s_iinc (v := (l2 + (1 : Int32))) (pls' := [(2, .int (l2 + (1 : Int32))), (1, .int l1), (0, .ref l0)]) hF dX12_wordHere_55 2 rfl rfl (by decide) rfl ?_
        refine s_goto (tgt := 8) hF dX12_wordHere_58 rfl ?_
        refine s_sub [2, 1, 0] rfl ?_
        exact ih l0 l1 (l2 + (1 : Int32)) _ (isK.mo (isK.mo f0 hm8) hm12)
      · refine s_bipush (v := (27 : Int32)) hF dX12_wordHere_30 kB_27 ?_
        refine s_iload_n hF dX12_wordHere_32 rfl 1 rfl ?_
        refine s_imul hF dX12_wordHere_33 ?_
        refine s_aload_n hF dX12_wordHere_34 rfl 0 rfl ?_
        refine s_aload_n hF dX12_wordHere_35 rfl 0 rfl ?_
        refine s_getI (x := (g_I m10 l0 4)) hF dX12_wordHere_36 flX12_103 (isK.mo (isK.mo f0 hm8) hm12) rfl ?_
        refine s_iload_n hF dX12_wordHere_39 rfl 2 rfl ?_
        refine s_iadd hF dX12_wordHere_40 ?_
        refine s_cVi (st := [.int ((27 : Int32) * l1)]) (ci := 12) [.int ((g_I m10 l0 4) + l2)] hF hD.dr dX12_wordHere_41 cwX12_106 (Nat.le_of_ble_eq_true rfl) (Nat.le_of_ble_eq_true rfl) rfl rfl (Nat.le_of_ble_eq_true rfl) (isK.mo (isK.mo f0 hm8) hm12) rfl rfl (Nat.le_of_ble_eq_true rfl) (ctX12_byteAt l0 ((g_I m10 l0 4) + l2) _) (fun r16 m17 hl18 hm19 => ?_)
        refine s_iadd hF dX12_wordHere_44 ?_
        refine s_bipush (v := (97 : Int32)) hF dX12_wordHere_45 kB_97 ?_
        refine s_isub hF dX12_wordHere_47 ?_
        refine s_iconst (v := (1 : Int32)) hF dX12_wordHere_48 kI_1 ?_
        refine s_iadd hF dX12_wordHere_49 ?_
        refine s_goto (tgt := 54) hF dX12_wordHere_50 rfl ?_
        refine s_istore_n (pls' := [(1, .int (((((27 : Int32) * l1) + r16) - (97 : Int32)) + (1 : Int32))), (0, .ref l0), (2, .int l2)]) hF dX12_wordHere_54 rfl (by decide) rfl ?_
        refine s_iinc (v := (l2 + (1 : Int32))) (pls' := [(2, .int (l2 + (1 : Int32))), (1, .int (((((27 : Int32) * l1) + r16) - (97 : Int32)) + (1 : Int32))), (0, .ref l0)]) hF dX12_wordHere_55 2 rfl rfl (by decide) rfl ?_
        refine s_goto (tgt := 8) hF dX12_wordHere_58 rfl ?_
        refine s_sub [2, 1, 0] rfl ?_
        exact ih l0 (((((27 : Int32) * l1) + r16) - (97 : Int32)) + (1 : Int32)) (l2 + (1 : Int32)) _ (isK.mo (isK.mo (isK.mo f0 hm8) hm12) hm19)
theorem ctX12_wordHere  (l0 : Nat) (μ : Mem) : ∀ (r : Int32) (μ' : Mem), LX12_wordHere l0 μ = some (r, μ') → CtD yX12_wordHere cX12_wordHere 3 (some .int) 2 [.ref l0] μ (encI r) μ' := by
  refine ct_enterD plX12 (Nat.le_of_ble_eq_true rfl) (fun F hF hD hI => ?_)
  unfold LX12_wordHere
  refine sim_gd (fun f0 => ?_)
  refine s_aload_n hF dX12_wordHere_0 rfl 0 rfl ?_
  refine s_cVv (st := []) (ci := 12) [] hF hD.dr dX12_wordHere_1 cwX12_116 (Nat.le_of_ble_eq_true rfl) (Nat.le_of_ble_eq_true rfl) rfl rfl (Nat.le_of_ble_eq_true rfl) f0 rfl rfl (Nat.le_of_ble_eq_true rfl) (ctX12_blanks l0 _) (fun r1 m2 hl3 hm4 => ?_)
  refine s_iconst (v := (0 : Int32)) hF dX12_wordHere_4 kI_0 ?_
  refine s_istore_n (pls' := [(1, .int (0 : Int32)), (0, .ref l0)]) hF dX12_wordHere_5 rfl (by decide) rfl ?_
  refine s_iconst (v := (0 : Int32)) hF dX12_wordHere_6 kI_0 ?_
  refine s_istore_n (pls' := [(2, .int (0 : Int32)), (1, .int (0 : Int32)), (0, .ref l0)]) hF dX12_wordHere_7 rfl (by decide) rfl ?_
  refine s_sub [2, 1, 0] rfl ?_
  exact sX12_wordHere_8 hF hD 100000 l0 (0 : Int32) (0 : Int32) _ (isK.mo f0 hm4)
theorem sX12_six_49 {F : Option Fx} (hF : FxO F RX12 cX12_six 7 0) (hD : FxDO F (some .int)) (l5 : Int32) (k0 : Int32) (μ : Mem) : Sim F encI 49 [(5, .int l5)] [.int k0] μ (mX12_six_49 l5 k0 μ) := by
  unfold mX12_six_49
  refine s_istore (pls' := [(6, .int k0), (5, .int l5)]) hF dX12_six_49 (by decide) rfl ?_
  refine s_iload hF dX12_six_51 1 rfl ?_
  refine s_if_ne (tgt := 61) hF dX12_six_53 rfl (fun c3 => ?_) (fun c3 => ?_)
  · refine s_iload hF dX12_six_56 0 rfl ?_
    refine s_goto (tgt := 69) hF dX12_six_58 rfl ?_
    exact s_iretD hF hD dX12_six_69 rfl
  · refine s_bipush (v := (27 : Int32)) hF dX12_six_61 kB_27 ?_
    refine s_iload hF dX12_six_63 0 rfl ?_
    refine s_imul hF dX12_six_65 ?_
    refine s_iload hF dX12_six_66 1 rfl ?_
    refine s_iadd hF dX12_six_68 ?_
    exact s_iretD hF hD dX12_six_69 rfl
theorem sX12_six_29 {F : Option Fx} (hF : FxO F RX12 cX12_six 7 0) (hD : FxDO F (some .int)) (l4 : Int32) (l5 : Int32) (k0 : Int32) (μ : Mem) : Sim F encI 29 [(4, .int l4), (5, .int l5)] [.int k0] μ (mX12_six_29 l4 l5 k0 μ) := by
  unfold mX12_six_29
  refine s_istore (pls' := [(6, .int k0), (4, .int l4), (5, .int l5)]) hF dX12_six_29 (by decide) rfl ?_
  refine s_iload hF dX12_six_31 1 rfl ?_
  refine s_if_ne (tgt := 41) hF dX12_six_33 rfl (fun c2 => ?_) (fun c2 => ?_)
  · refine s_iload hF dX12_six_36 0 rfl ?_
    refine s_goto (tgt := 49) hF dX12_six_38 rfl ?_
    refine s_sub [2] rfl ?_
    exact sX12_six_49 hF hD l5 k0 _
  · refine s_bipush (v := (27 : Int32)) hF dX12_six_41 kB_27 ?_
    refine s_iload hF dX12_six_43 0 rfl ?_
    refine s_imul hF dX12_six_45 ?_
    refine s_iload hF dX12_six_46 1 rfl ?_
    refine s_iadd hF dX12_six_48 ?_
    refine s_sub [2] rfl ?_
    exact sX12_six_49 hF hD l5 (((27 : Int32) * k0) + l4) _
theorem ctX12_six  (l0 : Int32) (l1 : Int32) (l2 : Int32) (l3 : Int32) (l4 : Int32) (l5 : Int32) (μ : Mem) : ∀ (r : Int32) (μ' : Mem), LX12_six l0 l1 l2 l3 l4 l5 μ = some (r, μ') → CtD yX12_six cX12_six 7 (some .int) 0 [.int l0, .int l1, .int l2, .int l3, .int l4, .int l5] μ (encI r) μ' := by
  refine ct_enterD plX12 (Nat.le_of_ble_eq_true rfl) (fun F hF hD hI => ?_)
  unfold LX12_six
  refine s_bipush (v := (27 : Int32)) hF dX12_six_0 kB_27 ?_
  refine s_bipush (v := (27 : Int32)) hF dX12_six_2 kB_27 ?_
  refine s_iload_n hF dX12_six_4 rfl 0 rfl ?_
  refine s_imul hF dX12_six_5 ?_
  refine s_iload_n hF dX12_six_6 rfl 1 rfl ?_
  refine s_iadd hF dX12_six_7 ?_
  refine s_imul hF dX12_six_8 ?_
  refine s_iload_n hF dX12_six_9 rfl 2 rfl ?_
  refine s_iadd hF dX12_six_10 ?_
  refine s_istore (pls' := [(6, .int (((27 : Int32) * (((27 : Int32) * l0) + l1)) + l2)), (0, .int l0), (1, .int l1), (2, .int l2), (3, .int l3), (4, .int l4), (5, .int l5)]) hF dX12_six_11 (by decide) rfl ?_
  refine s_iload_n hF dX12_six_13 rfl 4 rfl ?_
  refine s_if_ne (tgt := 22) hF dX12_six_14 rfl (fun c1 => ?_) (fun c1 => ?_)
  · refine s_iload hF dX12_six_17 0 rfl ?_
    refine s_goto (tgt := 29) hF dX12_six_19 rfl ?_
    refine s_sub [5, 6] rfl ?_
    exact sX12_six_29 hF hD l4 l5 (((27 : Int32) * (((27 : Int32) * l0) + l1)) + l2) _
  · refine s_bipush (v := (27 : Int32)) hF dX12_six_22 kB_27 ?_
    refine s_iload hF dX12_six_24 0 rfl ?_
    refine s_imul hF dX12_six_26 ?_
    refine s_iload_n hF dX12_six_27 rfl 4 rfl ?_
    refine s_iadd hF dX12_six_28 ?_
    refine s_sub [5, 6] rfl ?_
    exact sX12_six_29 hF hD l4 l5 (((27 : Int32) * (((27 : Int32) * (((27 : Int32) * l0) + l1)) + l2)) + l3) _
theorem ctX12_isWord  (l0 : Nat) (l1 : Int32) (l2 : Int32) (l3 : Int32) (l4 : Int32) (l5 : Int32) (l6 : Int32) (μ : Mem) : ∀ (r : Int32) (μ' : Mem), LX12_isWord l0 l1 l2 l3 l4 l5 l6 μ = some (r, μ') → CtD yX12_isWord cX12_isWord 7 (some .boolean) 3 [.ref l0, .int l1, .int l2, .int l3, .int l4, .int l5, .int l6] μ (encI r) μ' := by
  refine ct_enterD plX12 (Nat.le_of_ble_eq_true rfl) (fun F hF hD hI => ?_)
  unfold LX12_isWord
  refine sim_gd (fun f0 => ?_)
  refine s_aload_n hF dX12_isWord_0 rfl 0 rfl ?_
  refine s_getI (x := (g_I μ l0 5)) hF dX12_isWord_1 flX12_110 f0 rfl ?_
  refine s_if_ne (tgt := 30) hF dX12_isWord_4 rfl (fun c1 => ?_) (fun c1 => ?_)
  · refine s_aload_n hF dX12_isWord_7 rfl 0 rfl ?_
    refine s_cVi (st := []) (ci := 12) [] hF hD.dr dX12_isWord_8 cwX12_135 (Nat.le_of_ble_eq_true rfl) (Nat.le_of_ble_eq_true rfl) rfl rfl (Nat.le_of_ble_eq_true rfl) f0 rfl rfl (Nat.le_of_ble_eq_true rfl) (ctX12_wordHere l0 _) (fun r2 m3 hl4 hm5 => ?_)
    refine s_iload_n hF dX12_isWord_11 rfl 1 rfl ?_
    refine s_iload_n hF dX12_isWord_12 rfl 2 rfl ?_
    refine s_iload_n hF dX12_isWord_13 rfl 3 rfl ?_
    refine s_iload hF dX12_isWord_14 4 rfl ?_
    refine s_iload hF dX12_isWord_16 5 rfl ?_
    refine s_iload hF dX12_isWord_18 6 rfl ?_
    refine s_cSi (st := [.int r2]) [.int l1, .int l2, .int l3, .int l4, .int l5, .int l6] hF hD.dr dX12_isWord_20 cwX12_139 (Nat.le_of_ble_eq_true rfl) (Nat.le_of_ble_eq_true rfl) rfl rfl (Nat.le_of_ble_eq_true rfl) (ctX12_six l1 l2 l3 l4 l5 l6 _) (fun r6 m7 hl8 hm9 => ?_)
    refine s_icmp_ne (tgt := 30) hF dX12_isWord_23 rfl (fun c10 => ?_) (fun c10 => ?_)
    · refine s_iconst (v := (1 : Int32)) hF dX12_isWord_26 kI_1 ?_
      refine s_goto (tgt := 31) hF dX12_isWord_27 rfl ?_
      exact s_zretD hF hD dX12_isWord_31 rfl rfl
    · refine s_iconst (v := (0 : Int32)) hF dX12_isWord_30 kI_0 ?_
      exact s_zretD hF hD dX12_isWord_31 rfl rfl
  · refine s_iconst (v := (0 : Int32)) hF dX12_isWord_30 kI_0 ?_
    exact s_zretD hF hD dX12_isWord_31 rfl rfl
theorem sX12_skipWord_0 {F : Option Fx} (hF : FxO F RX12 cX12_skipWord 1 1) (hD : FxDO F none) : ∀ (fu : Nat) (l0 : Nat) (μ : Mem) (f0 : isK μ l0 12 = true), Sim F encV 0 [(0, .ref l0)] [] μ (mX12_skipWord_0 fu l0 μ) := by
  intro fu
  induction fu with
  | zero =>
    intro l0 μ f0
    exact sim_none
  | succ fu ih =>
    intro l0 μ f0
    rw [mX12_skipWord_0]
    refine s_aload_n hF dX12_skipWord_0 rfl 0 rfl ?_
    refine s_aload_n hF dX12_skipWord_1 rfl 0 rfl ?_
    refine s_getI (x := (g_I μ l0 4)) hF dX12_skipWord_2 flX12_103 f0 rfl ?_
    refine s_cVi (st := []) (ci := 12) [.int (g_I μ l0 4)] hF hD.dr dX12_skipWord_5 cwX12_106 (Nat.le_of_ble_eq_true rfl) (Nat.le_of_ble_eq_true rfl) rfl rfl (Nat.le_of_ble_eq_true rfl) f0 rfl rfl (Nat.le_of_ble_eq_true rfl) (ctX12_byteAt l0 (g_I μ l0 4) _) (fun r1 m2 hl3 hm4 => ?_)
    refine s_cSi (st := []) [.int r1] hF hD.dr dX12_skipWord_8 cwX12_132 (Nat.le_of_ble_eq_true rfl) (Nat.le_of_ble_eq_true rfl) rfl rfl (Nat.le_of_ble_eq_true rfl) (ctX12_isSmall r1 _) (fun r5 m6 hl7 hm8 => ?_)
    refine s_if_eq (tgt := 27) hF dX12_skipWord_11 rfl (fun c9 => ?_) (fun c9 => ?_)
    · exact s_vretD hF hD dX12_skipWord_27 rfl
    · refine s_aload_n hF dX12_skipWord_14 rfl 0 rfl ?_
      refine s_dup hF dX12_skipWord_15 rfl ?_
      refine s_getI (x := (g_I m6 l0 4)) hF dX12_skipWord_16 flX12_103 (isK.mo (isK.mo f0 hm4) hm8) rfl ?_
      refine s_iconst (v := (1 : Int32)) hF dX12_skipWord_19 kI_1 ?_
      refine s_iadd hF dX12_skipWord_20 ?_
      refine s_putI hF dX12_skipWord_21 flX12_103 (isK.mo (isK.mo f0 hm4) hm8) ?_
      refine s_goto (tgt := 0) hF dX12_skipWord_24 rfl ?_
      exact ih l0 _ (isK.mo (isK.mo f0 hm4) hm8)
theorem ctX12_skipWord  (l0 : Nat) (μ : Mem) : ∀ (r : Unit) (μ' : Mem), LX12_skipWord l0 μ = some (r, μ') → CtD yX12_skipWord cX12_skipWord 1 none 1 [.ref l0] μ (encV r) μ' := by
  refine ct_enterD plX12 (Nat.le_of_ble_eq_true rfl) (fun F hF hD hI => ?_)
  unfold LX12_skipWord
  refine sim_gd (fun f0 => ?_)
  exact sX12_skipWord_0 hF hD 100000 l0 _ f0
theorem ctX12_takes  (l0 : Nat) (l1 : Int32) (l2 : Int32) (l3 : Int32) (l4 : Int32) (l5 : Int32) (l6 : Int32) (μ : Mem) : ∀ (r : Int32) (μ' : Mem), LX12_takes l0 l1 l2 l3 l4 l5 l6 μ = some (r, μ') → CtD yX12_takes cX12_takes 8 (some .boolean) 4 [.ref l0, .int l1, .int l2, .int l3, .int l4, .int l5, .int l6] μ (encI r) μ' := by
  refine ct_enterD plX12 (Nat.le_of_ble_eq_true rfl) (fun F hF hD hI => ?_)
  unfold LX12_takes
  refine sim_gd (fun f0 => ?_)
  refine s_aload_n hF dX12_takes_0 rfl 0 rfl ?_
  refine s_iload_n hF dX12_takes_1 rfl 1 rfl ?_
  refine s_iload_n hF dX12_takes_2 rfl 2 rfl ?_
  refine s_iload_n hF dX12_takes_3 rfl 3 rfl ?_
  refine s_iload hF dX12_takes_4 4 rfl ?_
  refine s_iload hF dX12_takes_6 5 rfl ?_
  refine s_iload hF dX12_takes_8 6 rfl ?_
  refine s_cVi (st := []) (ci := 12) [.int l1, .int l2, .int l3, .int l4, .int l5, .int l6] hF hD.dr dX12_takes_10 cwX12_143 (Nat.le_of_ble_eq_true rfl) (Nat.le_of_ble_eq_true rfl) rfl rfl (Nat.le_of_ble_eq_true rfl) f0 rfl rfl (Nat.le_of_ble_eq_true rfl) (ctX12_isWord l0 l1 l2 l3 l4 l5 l6 _) (fun r1 m2 hl3 hm4 => ?_)
  refine s_istore (pls' := [(7, .int r1), (0, .ref l0), (1, .int l1), (2, .int l2), (3, .int l3), (4, .int l4), (5, .int l5), (6, .int l6)]) hF dX12_takes_13 (by decide) rfl ?_
  refine s_iload hF dX12_takes_15 0 rfl ?_
  refine s_if_eq (tgt := 24) hF dX12_takes_17 rfl (fun c5 => ?_) (fun c5 => ?_)
  · refine s_iload hF dX12_takes_24 0 rfl ?_
    refine sim_gd (fun g6 => ?_)
    exact s_zretD hF hD dX12_takes_26 rfl (nar_z g6)
  · refine s_aload_n hF dX12_takes_20 rfl 1 rfl ?_
    refine s_cVv (st := []) (ci := 12) [] hF hD.dr dX12_takes_21 cwX12_147 (Nat.le_of_ble_eq_true rfl) (Nat.le_of_ble_eq_true rfl) rfl rfl (Nat.le_of_ble_eq_true rfl) (isK.mo f0 hm4) rfl rfl (Nat.le_of_ble_eq_true rfl) (ctX12_skipWord l0 _) (fun r7 m8 hl9 hm10 => ?_)
    refine s_iload hF dX12_takes_24 0 rfl ?_
    refine sim_gd (fun g11 => ?_)
    exact s_zretD hF hD dX12_takes_26 rfl (nar_z g11)
theorem ctX12_sign  (l0 : Nat) (l1 : Int32) (μ : Mem) : ∀ (r : Unit) (μ' : Mem), LX12_sign l0 l1 μ = some (r, μ') → CtD yX12_sign cX12_sign 2 none 2 [.ref l0, .int l1] μ (encV r) μ' := by
  refine ct_enterD plX12 (Nat.le_of_ble_eq_true rfl) (fun F hF hD hI => ?_)
  unfold LX12_sign
  refine sim_gd (fun f0 => ?_)
  refine s_aload_n hF dX12_sign_0 rfl 0 rfl ?_
  refine s_getI (x := (g_I μ l0 5)) hF dX12_sign_1 flX12_110 f0 rfl ?_
  refine s_if_eq (tgt := 8) hF dX12_sign_4 rfl (fun c1 => ?_) (fun c1 => ?_)
  · refine s_aload_n hF dX12_sign_8 rfl 0 rfl ?_
    refine s_cVv (st := []) (ci := 12) [] hF hD.dr dX12_sign_9 cwX12_116 (Nat.le_of_ble_eq_true rfl) (Nat.le_of_ble_eq_true rfl) rfl rfl (Nat.le_of_ble_eq_true rfl) f0 rfl rfl (Nat.le_of_ble_eq_true rfl) (ctX12_blanks l0 _) (fun r2 m3 hl4 hm5 => ?_)
    refine s_aload_n hF dX12_sign_12 rfl 0 rfl ?_
    refine s_aload_n hF dX12_sign_13 rfl 0 rfl ?_
    refine s_getI (x := (g_I m3 l0 4)) hF dX12_sign_14 flX12_103 (isK.mo f0 hm5) rfl ?_
    refine s_cVi (st := []) (ci := 12) [.int (g_I m3 l0 4)] hF hD.dr dX12_sign_17 cwX12_106 (Nat.le_of_ble_eq_true rfl) (Nat.le_of_ble_eq_true rfl) rfl rfl (Nat.le_of_ble_eq_true rfl) (isK.mo f0 hm5) rfl rfl (Nat.le_of_ble_eq_true rfl) (ctX12_byteAt l0 (g_I m3 l0 4) _) (fun r6 m7 hl8 hm9 => ?_)
    refine s_iload_n hF dX12_sign_20 rfl 1 rfl ?_
    refine s_icmp_ne (tgt := 37) hF dX12_sign_21 rfl (fun c10 => ?_) (fun c10 => ?_)
    · refine s_aload_n hF dX12_sign_24 rfl 0 rfl ?_
      refine s_dup hF dX12_sign_25 rfl ?_
      refine s_getI (x := (g_I m7 l0 4)) hF dX12_sign_26 flX12_103 (isK.mo (isK.mo f0 hm5) hm9) rfl ?_
      refine s_iconst (v := (1 : Int32)) hF dX12_sign_29 kI_1 ?_
      refine s_iadd hF dX12_sign_30 ?_
      refine s_putI hF dX12_sign_31 flX12_103 (isK.mo (isK.mo f0 hm5) hm9) ?_
      refine s_goto (tgt := 46) hF dX12_sign_34 rfl ?_
      exact s_vretD hF hD dX12_sign_46 rfl
    · refine s_aload_n hF dX12_sign_37 rfl 0 rfl ?_
      refine s_iconst (v := (1 : Int32)) hF dX12_sign_38 kI_1 ?_
      refine s_aload_n hF dX12_sign_39 rfl 0 rfl ?_
      refine s_getI (x := (g_I m7 l0 4)) hF dX12_sign_40 flX12_103 (isK.mo (isK.mo f0 hm5) hm9) rfl ?_
      refine s_cVv (st := []) (ci := 12) [.int (1 : Int32), .int (g_I m7 l0 4)] hF hD.dr dX12_sign_43 cwX12_123 (Nat.le_of_ble_eq_true rfl) (Nat.le_of_ble_eq_true rfl) rfl rfl (Nat.le_of_ble_eq_true rfl) (isK.mo (isK.mo f0 hm5) hm9) rfl rfl (Nat.le_of_ble_eq_true rfl) (ctX12_wrong l0 (1 : Int32) (g_I m7 l0 4) _) (fun r11 m12 hl13 hm14 => ?_)
      exact s_vretD hF hD dX12_sign_46 rfl
  · exact s_vretD hF hD dX12_sign_7 rfl
theorem sX12_takesSign_30 {F : Option Fx} (hF : FxO F RX12 cX12_takesSign 3 2) (hD : FxDO F (some .boolean)) (l0 : Nat) (k0 : Int32) (μ : Mem) (f0 : isK μ l0 12 = true) : Sim F encI 30 [(0, .ref l0)] [.int k0] μ (mX12_takesSign_30 l0 k0 μ) := by
  unfold mX12_takesSign_30
  refine s_istore_n (pls' := [(2, .int k0), (0, .ref l0)]) hF dX12_takesSign_30 rfl (by decide) rfl ?_
  refine s_iload_n hF dX12_takesSign_31 rfl 0 rfl ?_
  refine s_if_eq (tgt := 45) hF dX12_takesSign_32 rfl (fun c11 => ?_) (fun c11 => ?_)
  · refine s_iload_n hF dX12_takesSign_45 rfl 0 rfl ?_
    refine sim_gd (fun g12 => ?_)
    exact s_zretD hF hD dX12_takesSign_46 rfl (nar_z g12)
  · refine s_aload_n hF dX12_takesSign_35 rfl 1 rfl ?_
    refine s_dup hF dX12_takesSign_36 rfl ?_
    refine s_getI (x := (g_I μ l0 4)) hF dX12_takesSign_37 flX12_103 f0 rfl ?_
    refine s_iconst (v := (1 : Int32)) hF dX12_takesSign_40 kI_1 ?_
    refine s_iadd hF dX12_takesSign_41 ?_
    refine s_putI hF dX12_takesSign_42 flX12_103 f0 ?_
    refine s_iload_n hF dX12_takesSign_45 rfl 0 rfl ?_
    refine sim_gd (fun g13 => ?_)
    exact s_zretD hF hD dX12_takesSign_46 rfl (nar_z g13)
theorem ctX12_takesSign  (l0 : Nat) (l1 : Int32) (μ : Mem) : ∀ (r : Int32) (μ' : Mem), LX12_takesSign l0 l1 μ = some (r, μ') → CtD yX12_takesSign cX12_takesSign 3 (some .boolean) 2 [.ref l0, .int l1] μ (encI r) μ' := by
  refine ct_enterD plX12 (Nat.le_of_ble_eq_true rfl) (fun F hF hD hI => ?_)
  unfold LX12_takesSign
  refine sim_gd (fun f0 => ?_)
  refine s_aload_n hF dX12_takesSign_0 rfl 0 rfl ?_
  refine s_getI (x := (g_I μ l0 5)) hF dX12_takesSign_1 flX12_110 f0 rfl ?_
  refine s_if_eq (tgt := 9) hF dX12_takesSign_4 rfl (fun c1 => ?_) (fun c1 => ?_)
  · refine s_aload_n hF dX12_takesSign_9 rfl 0 rfl ?_
    refine s_cVv (st := []) (ci := 12) [] hF hD.dr dX12_takesSign_10 cwX12_116 (Nat.le_of_ble_eq_true rfl) (Nat.le_of_ble_eq_true rfl) rfl rfl (Nat.le_of_ble_eq_true rfl) f0 rfl rfl (Nat.le_of_ble_eq_true rfl) (ctX12_blanks l0 _) (fun r2 m3 hl4 hm5 => ?_)
    refine s_aload_n hF dX12_takesSign_13 rfl 0 rfl ?_
    refine s_aload_n hF dX12_takesSign_14 rfl 0 rfl ?_
    refine s_getI (x := (g_I m3 l0 4)) hF dX12_takesSign_15 flX12_103 (isK.mo f0 hm5) rfl ?_
    refine s_cVi (st := []) (ci := 12) [.int (g_I m3 l0 4)] hF hD.dr dX12_takesSign_18 cwX12_106 (Nat.le_of_ble_eq_true rfl) (Nat.le_of_ble_eq_true rfl) rfl rfl (Nat.le_of_ble_eq_true rfl) (isK.mo f0 hm5) rfl rfl (Nat.le_of_ble_eq_true rfl) (ctX12_byteAt l0 (g_I m3 l0 4) _) (fun r6 m7 hl8 hm9 => ?_)
    refine s_iload_n hF dX12_takesSign_21 rfl 1 rfl ?_
    refine s_icmp_ne (tgt := 29) hF dX12_takesSign_22 rfl (fun c10 => ?_) (fun c10 => ?_)
    · refine s_iconst (v := (1 : Int32)) hF dX12_takesSign_25 kI_1 ?_
      refine s_goto (tgt := 30) hF dX12_takesSign_26 rfl ?_
      refine s_sub [0] rfl ?_
      exact sX12_takesSign_30 hF hD l0 (1 : Int32) _ (isK.mo (isK.mo f0 hm5) hm9)
    · refine s_iconst (v := (0 : Int32)) hF dX12_takesSign_29 kI_0 ?_
      refine s_sub [0] rfl ?_
      exact sX12_takesSign_30 hF hD l0 (0 : Int32) _ (isK.mo (isK.mo f0 hm5) hm9)
  · refine s_iconst (v := (0 : Int32)) hF dX12_takesSign_7 kI_0 ?_
    exact s_zretD hF hD dX12_takesSign_8 rfl rfl
theorem ctX12_starts  (l0 : Nat) (l1 : Int32) (μ : Mem) : ∀ (r : Unit) (μ' : Mem), LX12_starts l0 l1 μ = some (r, μ') → CtD yX12_starts cX12_starts 2 none 2 [.ref l0, .int l1] μ (encV r) μ' := by
  refine ct_enterD plX12 (Nat.le_of_ble_eq_true rfl) (fun F hF hD hI => ?_)
  unfold LX12_starts
  refine sim_gd (fun f0 => ?_)
  refine s_aload_n hF dX12_starts_0 rfl 0 rfl ?_
  refine s_iconst (v := (0 : Int32)) hF dX12_starts_1 kI_0 ?_
  refine s_putI hF dX12_starts_2 flX12_97 f0 ?_
  refine s_aload_n hF dX12_starts_5 rfl 0 rfl ?_
  refine s_iload_n hF dX12_starts_6 rfl 1 rfl ?_
  refine s_putI hF dX12_starts_7 flX12_100 f0 ?_
  refine s_aload_n hF dX12_starts_10 rfl 0 rfl ?_
  refine s_iconst (v := (0 : Int32)) hF dX12_starts_11 kI_0 ?_
  refine s_putI hF dX12_starts_12 flX12_103 f0 ?_
  refine s_aload_n hF dX12_starts_15 rfl 0 rfl ?_
  refine s_iconst (v := (0 : Int32)) hF dX12_starts_16 kI_0 ?_
  refine s_putI hF dX12_starts_17 flX12_110 f0 ?_
  refine s_aload_n hF dX12_starts_20 rfl 0 rfl ?_
  refine s_iconst (v := (-1 : Int32)) hF dX12_starts_21 kI_m1 ?_
  refine s_putI hF dX12_starts_22 flX12_113 f0 ?_
  refine s_aload_n hF dX12_starts_25 rfl 0 rfl ?_
  refine s_iconst (v := (0 : Int32)) hF dX12_starts_26 kI_0 ?_
  refine s_putI hF dX12_starts_27 flX12_150 f0 ?_
  refine s_aload_n hF dX12_starts_30 rfl 0 rfl ?_
  refine s_iconst (v := (0 : Int32)) hF dX12_starts_31 kI_0 ?_
  refine s_putI hF dX12_starts_32 flX12_153 f0 ?_
  refine s_aload_n hF dX12_starts_35 rfl 0 rfl ?_
  refine s_cVv (st := []) (ci := 12) [] hF hD.dr dX12_starts_36 cwX12_116 (Nat.le_of_ble_eq_true rfl) (Nat.le_of_ble_eq_true rfl) rfl rfl (Nat.le_of_ble_eq_true rfl) f0 rfl rfl (Nat.le_of_ble_eq_true rfl) (ctX12_blanks l0 _) (fun r1 m2 hl3 hm4 => ?_)
  exact s_vretD hF hD dX12_starts_39 rfl
theorem ctX12_ends  (l0 : Nat) (μ : Mem) : ∀ (r : Int32) (μ' : Mem), LX12_ends l0 μ = some (r, μ') → CtD yX12_ends cX12_ends 1 (some .int) 0 [.ref l0] μ (encI r) μ' := by
  refine ct_enterD plX12 (Nat.le_of_ble_eq_true rfl) (fun F hF hD hI => ?_)
  unfold LX12_ends
  refine sim_gd (fun f0 => ?_)
  refine s_aload_n hF dX12_ends_0 rfl 0 rfl ?_
  refine s_aload_n hF dX12_ends_1 rfl 0 rfl ?_
  refine s_getI (x := (g_I μ l0 6)) hF dX12_ends_2 flX12_113 f0 rfl ?_
  refine s_putI hF dX12_ends_5 flX12_9 f0 ?_
  refine s_aload_n hF dX12_ends_8 rfl 0 rfl ?_
  refine s_getI (x := (g_I (p_I μ l0 3 (g_I μ l0 6)) l0 5)) hF dX12_ends_9 flX12_110 f0 rfl ?_
  refine s_bipush (v := (10 : Int32)) hF dX12_ends_12 kB_10 ?_
  refine s_isub hF dX12_ends_14 ?_
  exact s_iretD hF hD dX12_ends_15 rfl
theorem ctX12_kindHere  (l0 : Nat) (μ : Mem) : ∀ (r : Int32) (μ' : Mem), LX12_kindHere l0 μ = some (r, μ') → CtD yX12_kindHere cX12_kindHere 1 (some .int) 4 [.ref l0] μ (encI r) μ' := by
  refine ct_enterD plX12 (Nat.le_of_ble_eq_true rfl) (fun F hF hD hI => ?_)
  unfold LX12_kindHere
  refine sim_gd (fun f0 => ?_)
  refine s_aload_n hF dX12_kindHere_0 rfl 0 rfl ?_
  refine s_bipush (v := (16 : Int32)) hF dX12_kindHere_1 kB_16 ?_
  refine s_iconst (v := (5 : Int32)) hF dX12_kindHere_3 kI_5 ?_
  refine s_bipush (v := (14 : Int32)) hF dX12_kindHere_4 kB_14 ?_
  refine s_iconst (v := (0 : Int32)) hF dX12_kindHere_6 kI_0 ?_
  refine s_iconst (v := (0 : Int32)) hF dX12_kindHere_7 kI_0 ?_
  refine s_iconst (v := (0 : Int32)) hF dX12_kindHere_8 kI_0 ?_
  refine s_cVi (st := []) (ci := 12) [.int (16 : Int32), .int (5 : Int32), .int (14 : Int32), .int (0 : Int32), .int (0 : Int32), .int (0 : Int32)] hF hD.dr dX12_kindHere_9 cwX12_143 (Nat.le_of_ble_eq_true rfl) (Nat.le_of_ble_eq_true rfl) rfl rfl (Nat.le_of_ble_eq_true rfl) f0 rfl rfl (Nat.le_of_ble_eq_true rfl) (ctX12_isWord l0 (16 : Int32) (5 : Int32) (14 : Int32) (0 : Int32) (0 : Int32) (0 : Int32) _) (fun r1 m2 hl3 hm4 => ?_)
  refine s_if_eq (tgt := 17) hF dX12_kindHere_12 rfl (fun c5 => ?_) (fun c5 => ?_)
  · refine s_aload_n hF dX12_kindHere_17 rfl 0 rfl ?_
    refine s_bipush (v := (23 : Int32)) hF dX12_kindHere_18 kB_23 ?_
    refine s_bipush (v := (9 : Int32)) hF dX12_kindHere_20 kB_9 ?_
    refine s_bipush (v := (18 : Int32)) hF dX12_kindHere_22 kB_18 ?_
    refine s_iconst (v := (5 : Int32)) hF dX12_kindHere_24 kI_5 ?_
    refine s_iconst (v := (0 : Int32)) hF dX12_kindHere_25 kI_0 ?_
    refine s_iconst (v := (0 : Int32)) hF dX12_kindHere_26 kI_0 ?_
    refine s_cVi (st := []) (ci := 12) [.int (23 : Int32), .int (9 : Int32), .int (18 : Int32), .int (5 : Int32), .int (0 : Int32), .int (0 : Int32)] hF hD.dr dX12_kindHere_27 cwX12_143 (Nat.le_of_ble_eq_true rfl) (Nat.le_of_ble_eq_true rfl) rfl rfl (Nat.le_of_ble_eq_true rfl) (isK.mo f0 hm4) rfl rfl (Nat.le_of_ble_eq_true rfl) (ctX12_isWord l0 (23 : Int32) (9 : Int32) (18 : Int32) (5 : Int32) (0 : Int32) (0 : Int32) _) (fun r6 m7 hl8 hm9 => ?_)
    refine s_if_eq (tgt := 35) hF dX12_kindHere_30 rfl (fun c10 => ?_) (fun c10 => ?_)
    · refine s_aload_n hF dX12_kindHere_35 rfl 0 rfl ?_
      refine s_bipush (v := (19 : Int32)) hF dX12_kindHere_36 kB_19 ?_
      refine s_bipush (v := (8 : Int32)) hF dX12_kindHere_38 kB_8 ?_
      refine s_iconst (v := (5 : Int32)) hF dX12_kindHere_40 kI_5 ?_
      refine s_iconst (v := (5 : Int32)) hF dX12_kindHere_41 kI_5 ?_
      refine s_bipush (v := (20 : Int32)) hF dX12_kindHere_42 kB_20 ?_
      refine s_iconst (v := (0 : Int32)) hF dX12_kindHere_44 kI_0 ?_
      refine s_cVi (st := []) (ci := 12) [.int (19 : Int32), .int (8 : Int32), .int (5 : Int32), .int (5 : Int32), .int (20 : Int32), .int (0 : Int32)] hF hD.dr dX12_kindHere_45 cwX12_143 (Nat.le_of_ble_eq_true rfl) (Nat.le_of_ble_eq_true rfl) rfl rfl (Nat.le_of_ble_eq_true rfl) (isK.mo (isK.mo f0 hm4) hm9) rfl rfl (Nat.le_of_ble_eq_true rfl) (ctX12_isWord l0 (19 : Int32) (8 : Int32) (5 : Int32) (5 : Int32) (20 : Int32) (0 : Int32) _) (fun r11 m12 hl13 hm14 => ?_)
      refine s_if_eq (tgt := 55) hF dX12_kindHere_48 rfl (fun c15 => ?_) (fun c15 => ?_)
      · refine s_iconst (v := (-1 : Int32)) hF dX12_kindHere_55 kI_m1 ?_
        exact s_iretD hF hD dX12_kindHere_56 rfl
      · refine s_iconst (v := (2 : Int32)) hF dX12_kindHere_51 kI_2 ?_
        refine s_goto (tgt := 56) hF dX12_kindHere_52 rfl ?_
        exact s_iretD hF hD dX12_kindHere_56 rfl
    · refine s_iconst (v := (1 : Int32)) hF dX12_kindHere_33 kI_1 ?_
      exact s_iretD hF hD dX12_kindHere_34 rfl
  · refine s_iconst (v := (0 : Int32)) hF dX12_kindHere_15 kI_0 ?_
    exact s_iretD hF hD dX12_kindHere_16 rfl
theorem sX12_clause_266 {F : Option Fx} (hF : FxO F RX12 cX12_clause 5 5) (hD : FxDO F none) (l0 : Nat) (l1 : Int32) (μ : Mem) (f0 : isK μ l0 12 = true) : Sim F encV 266 [(0, .ref l0), (1, .int l1)] [] μ (mX12_clause_266 l0 l1 μ) := by
  unfold mX12_clause_266
  refine s_aload_n hF dX12_clause_266 rfl 0 rfl ?_
  refine s_bipush (v := (59 : Int32)) hF dX12_clause_267 kB_59 ?_
  refine s_cVv (st := []) (ci := 12) [.int (59 : Int32)] hF hD.dr dX12_clause_269 cwX12_163 (Nat.le_of_ble_eq_true rfl) (Nat.le_of_ble_eq_true rfl) rfl rfl (Nat.le_of_ble_eq_true rfl) f0 rfl rfl (Nat.le_of_ble_eq_true rfl) (ctX12_sign l0 (59 : Int32) _) (fun r89 m90 hl91 hm92 => ?_)
  refine s_aload_n hF dX12_clause_272 rfl 0 rfl ?_
  refine sim_gd (fun g93 => ?_)
  refine s_getR (x := (g_R m90 l0 11)) hF dX12_clause_273 flX12_20 (isK.mo f0 hm92) g93 rfl ?_
  refine s_iload_n hF dX12_clause_276 rfl 1 rfl ?_
  refine s_dup2 hF dX12_clause_277 rfl rfl ?_
  refine sim_gd (fun g94 => ?_)
  refine s_iaload (x := (g_I m90 (g_R m90 l0 11) l1.toNatClampNeg)) hF dX12_clause_278 g94 rfl ?_
  refine s_aload_n hF dX12_clause_279 rfl 0 rfl ?_
  refine s_getI (x := (g_I m90 l0 5)) hF dX12_clause_280 flX12_110 (isK.mo f0 hm92) rfl ?_
  refine s_if_ne (tgt := 295) hF dX12_clause_283 rfl (fun c95 => ?_) (fun c95 => ?_)
  · refine s_iload_n hF dX12_clause_286 rfl 1 rfl ?_
    refine s_iconst (v := (2 : Int32)) hF dX12_clause_287 kI_2 ?_
    refine s_icmp_ge (tgt := 295) hF dX12_clause_288 rfl (fun c96 => ?_) (fun c96 => ?_)
    · refine s_iconst (v := (0 : Int32)) hF dX12_clause_295 kI_0 ?_
      refine s_iadd hF dX12_clause_296 ?_
      refine s_iastore hF dX12_clause_297 g94 ?_
      exact s_vretD hF hD dX12_clause_298 rfl
    · refine s_iconst (v := (1 : Int32)) hF dX12_clause_291 kI_1 ?_
      refine s_goto (tgt := 296) hF dX12_clause_292 rfl ?_
      refine s_iadd hF dX12_clause_296 ?_
      refine s_iastore hF dX12_clause_297 g94 ?_
      exact s_vretD hF hD dX12_clause_298 rfl
  · refine s_iconst (v := (0 : Int32)) hF dX12_clause_295 kI_0 ?_
    refine s_iadd hF dX12_clause_296 ?_
    refine s_iastore hF dX12_clause_297 g94 ?_
    exact s_vretD hF hD dX12_clause_298 rfl
theorem sX12_clause_248 {F : Option Fx} (hF : FxO F RX12 cX12_clause 5 5) (hD : FxDO F none) (l0 : Nat) (l1 : Int32) (μ : Mem) (f0 : isK μ l0 12 = true) : Sim F encV 248 [(0, .ref l0), (1, .int l1)] [] μ (mX12_clause_248 l0 l1 μ) := by
  unfold mX12_clause_248
  refine s_iload_n hF dX12_clause_248 rfl 1 rfl ?_
  refine s_iconst (v := (2 : Int32)) hF dX12_clause_249 kI_2 ?_
  refine s_icmp_ne (tgt := 266) hF dX12_clause_250 rfl (fun c82 => ?_) (fun c82 => ?_)
  · refine s_aload_n hF dX12_clause_253 rfl 0 rfl ?_
    refine sim_gd (fun g83 => ?_)
    refine s_getR (x := (g_R μ l0 11)) hF dX12_clause_254 flX12_20 f0 g83 rfl ?_
    refine s_iconst (v := (2 : Int32)) hF dX12_clause_257 kI_2 ?_
    refine s_aload_n hF dX12_clause_258 rfl 0 rfl ?_
    refine s_iconst (v := (0 : Int32)) hF dX12_clause_259 kI_0 ?_
    refine s_bipush (v := (24 : Int32)) hF dX12_clause_260 kB_24 ?_
    refine s_cVi (st := [.int (2 : Int32), .ref (g_R μ l0 11)]) (ci := 12) [.int (0 : Int32), .int (24 : Int32)] hF hD.dr dX12_clause_262 cwX12_159 (Nat.le_of_ble_eq_true rfl) (Nat.le_of_ble_eq_true rfl) rfl rfl (Nat.le_of_ble_eq_true rfl) f0 rfl rfl (Nat.le_of_ble_eq_true rfl) (ctX12_number l0 (0 : Int32) (24 : Int32) _) (fun r84 m85 hl86 hm87 => ?_)
    refine sim_gd (fun g88 => ?_)
    refine s_iastore hF dX12_clause_265 g88 ?_
    exact sX12_clause_266 hF hD l0 l1 _ (isK.mo f0 hm87)
  · exact sX12_clause_266 hF hD l0 l1 _ f0
theorem sX12_clause_219 {F : Option Fx} (hF : FxO F RX12 cX12_clause 5 5) (hD : FxDO F none) (l0 : Nat) (l1 : Int32) (l2 : Int32) (l4 : Int32) (μ : Mem) (f0 : isK μ l0 12 = true) : Sim F encV 219 [(0, .ref l0), (1, .int l1), (2, .int l2), (4, .int l4)] [] μ (mX12_clause_219 l0 l1 l2 l4 μ) := by
  unfold mX12_clause_219
  refine s_aload_n hF dX12_clause_219 rfl 0 rfl ?_
  refine sim_gd (fun g97 => ?_)
  refine s_getR (x := (g_R μ l0 15)) hF dX12_clause_220 flX12_34 f0 g97 rfl ?_
  refine s_aload_n hF dX12_clause_223 rfl 0 rfl ?_
  refine sim_gd (fun g98 => ?_)
  refine s_getR (x := (g_R μ l0 11)) hF dX12_clause_224 flX12_20 f0 g98 rfl ?_
  refine s_iconst (v := (1 : Int32)) hF dX12_clause_227 kI_1 ?_
  refine sim_gd (fun g99 => ?_)
  refine s_iaload (x := (g_I μ (g_R μ l0 11) (1 : Int32).toNatClampNeg)) hF dX12_clause_228 g99 rfl ?_
  refine sim_gd (fun g100 => ?_)
  refine sim_gd (fun g101 => ?_)
  refine s_aaload (x := (g_R μ (g_R μ l0 15) (g_I μ (g_R μ l0 11) (1 : Int32).toNatClampNeg).toNatClampNeg)) hF dX12_clause_229 (by decide) (by decide) g100 g101 rfl ?_
  refine s_iconst (v := (0 : Int32)) hF dX12_clause_230 kI_0 ?_
  refine s_iload_n hF dX12_clause_231 rfl 2 rfl ?_
  refine sim_gd (fun g102 => ?_)
  refine s_iastore hF dX12_clause_232 g102 ?_
  refine s_aload_n hF dX12_clause_233 rfl 0 rfl ?_
  refine s_getR (x := (g_R μ l0 15)) hF dX12_clause_234 flX12_34 f0 g97 rfl ?_
  refine s_aload_n hF dX12_clause_237 rfl 0 rfl ?_
  refine s_getR (x := (g_R μ l0 11)) hF dX12_clause_238 flX12_20 f0 g98 rfl ?_
  refine s_iconst (v := (1 : Int32)) hF dX12_clause_241 kI_1 ?_
  refine s_iaload (x := (g_I (p_I μ (g_R μ (g_R μ l0 15) (g_I μ (g_R μ l0 11) (1 : Int32).toNatClampNeg).toNatClampNeg) (0 : Int32).toNatClampNeg l2) (g_R μ l0 11) (1 : Int32).toNatClampNeg)) hF dX12_clause_242 g99 rfl ?_
  refine sim_gd (fun g103 => ?_)
  refine sim_gd (fun g104 => ?_)
  refine s_aaload (x := (g_R μ (g_R μ l0 15) (g_I (p_I μ (g_R μ (g_R μ l0 15) (g_I μ (g_R μ l0 11) (1 : Int32).toNatClampNeg).toNatClampNeg) (0 : Int32).toNatClampNeg l2) (g_R μ l0 11) (1 : Int32).toNatClampNeg).toNatClampNeg)) hF dX12_clause_243 (by decide) (by decide) g103 g104 rfl ?_
  refine s_iconst (v := (1 : Int32)) hF dX12_clause_244 kI_1 ?_
  refine s_iload hF dX12_clause_245 3 rfl ?_
  refine sim_gd (fun g105 => ?_)
  refine s_iastore hF dX12_clause_247 g105 ?_
  refine s_sub [0, 1] rfl ?_
  exact sX12_clause_248 hF hD l0 l1 _ f0
theorem sX12_clause_157 {F : Option Fx} (hF : FxO F RX12 cX12_clause 5 5) (hD : FxDO F none) (l0 : Nat) (l1 : Int32) (μ : Mem) (f0 : isK μ l0 12 = true) : Sim F encV 157 [(0, .ref l0), (1, .int l1)] [] μ (mX12_clause_157 l0 l1 μ) := by
  unfold mX12_clause_157
  refine s_iload_n hF dX12_clause_157 rfl 1 rfl ?_
  refine s_iconst (v := (1 : Int32)) hF dX12_clause_158 kI_1 ?_
  refine s_icmp_ne (tgt := 248) hF dX12_clause_159 rfl (fun c59 => ?_) (fun c59 => ?_)
  · refine s_aload_n hF dX12_clause_162 rfl 0 rfl ?_
    refine s_iconst (v := (0 : Int32)) hF dX12_clause_163 kI_0 ?_
    refine s_aload_n hF dX12_clause_164 rfl 0 rfl ?_
    refine sim_gd (fun g60 => ?_)
    refine s_getR (x := (g_R μ l0 11)) hF dX12_clause_165 flX12_20 f0 g60 rfl ?_
    refine s_iconst (v := (0 : Int32)) hF dX12_clause_168 kI_0 ?_
    refine sim_gd (fun g61 => ?_)
    refine s_iaload (x := (g_I μ (g_R μ l0 11) (0 : Int32).toNatClampNeg)) hF dX12_clause_169 g61 rfl ?_
    refine s_iconst (v := (1 : Int32)) hF dX12_clause_170 kI_1 ?_
    refine s_isub hF dX12_clause_171 ?_
    refine s_cVi (st := []) (ci := 12) [.int (0 : Int32), .int ((g_I μ (g_R μ l0 11) (0 : Int32).toNatClampNeg) - (1 : Int32))] hF hD.dr dX12_clause_172 cwX12_159 (Nat.le_of_ble_eq_true rfl) (Nat.le_of_ble_eq_true rfl) rfl rfl (Nat.le_of_ble_eq_true rfl) f0 rfl rfl (Nat.le_of_ble_eq_true rfl) (ctX12_number l0 (0 : Int32) ((g_I μ (g_R μ l0 11) (0 : Int32).toNatClampNeg) - (1 : Int32)) _) (fun r62 m63 hl64 hm65 => ?_)
    refine s_istore_n (pls' := [(2, .int r62), (0, .ref l0), (1, .int l1)]) hF dX12_clause_175 rfl (by decide) rfl ?_
    refine s_aload_n hF dX12_clause_176 rfl 1 rfl ?_
    refine s_cVv (st := []) (ci := 12) [] hF hD.dr dX12_clause_177 cwX12_116 (Nat.le_of_ble_eq_true rfl) (Nat.le_of_ble_eq_true rfl) rfl rfl (Nat.le_of_ble_eq_true rfl) (isK.mo f0 hm65) rfl rfl (Nat.le_of_ble_eq_true rfl) (ctX12_blanks l0 _) (fun r66 m67 hl68 hm69 => ?_)
    refine s_aload_n hF dX12_clause_180 rfl 1 rfl ?_
    refine s_getI (x := (g_I m67 l0 4)) hF dX12_clause_181 flX12_103 (isK.mo (isK.mo f0 hm65) hm69) rfl ?_
    refine s_istore_n (pls' := [(3, .int (g_I m67 l0 4)), (2, .int r62), (0, .ref l0), (1, .int l1)]) hF dX12_clause_184 rfl (by decide) rfl ?_
    refine s_aload_n hF dX12_clause_185 rfl 2 rfl ?_
    refine s_iconst (v := (0 : Int32)) hF dX12_clause_186 kI_0 ?_
    refine s_aload_n hF dX12_clause_187 rfl 2 rfl ?_
    refine sim_gd (fun g70 => ?_)
    refine s_getR (x := (g_R m67 l0 11)) hF dX12_clause_188 flX12_20 (isK.mo (isK.mo f0 hm65) hm69) g70 rfl ?_
    refine s_iconst (v := (0 : Int32)) hF dX12_clause_191 kI_0 ?_
    refine sim_gd (fun g71 => ?_)
    refine s_iaload (x := (g_I m67 (g_R m67 l0 11) (0 : Int32).toNatClampNeg)) hF dX12_clause_192 g71 rfl ?_
    refine s_iconst (v := (1 : Int32)) hF dX12_clause_193 kI_1 ?_
    refine s_isub hF dX12_clause_194 ?_
    refine s_cVi (st := []) (ci := 12) [.int (0 : Int32), .int ((g_I m67 (g_R m67 l0 11) (0 : Int32).toNatClampNeg) - (1 : Int32))] hF hD.dr dX12_clause_195 cwX12_159 (Nat.le_of_ble_eq_true rfl) (Nat.le_of_ble_eq_true rfl) rfl rfl (Nat.le_of_ble_eq_true rfl) (isK.mo (isK.mo f0 hm65) hm69) rfl rfl (Nat.le_of_ble_eq_true rfl) (ctX12_number l0 (0 : Int32) ((g_I m67 (g_R m67 l0 11) (0 : Int32).toNatClampNeg) - (1 : Int32)) _) (fun r72 m73 hl74 hm75 => ?_)
    refine s_istore (pls' := [(4, .int r72), (3, .int (g_I m67 l0 4)), (2, .int r62), (0, .ref l0), (1, .int l1)]) hF dX12_clause_198 (by decide) rfl ?_
    refine s_aload_n hF dX12_clause_200 rfl 3 rfl ?_
    refine s_getI (x := (g_I m73 l0 5)) hF dX12_clause_201 flX12_110 (isK.mo (isK.mo (isK.mo f0 hm65) hm69) hm75) rfl ?_
    refine s_if_ne (tgt := 219) hF dX12_clause_204 rfl (fun c76 => ?_) (fun c76 => ?_)
    · refine s_iload_n hF dX12_clause_207 rfl 2 rfl ?_
      refine s_iload hF dX12_clause_208 0 rfl ?_
      refine s_icmp_ne (tgt := 219) hF dX12_clause_210 rfl (fun c77 => ?_) (fun c77 => ?_)
      · refine s_aload_n hF dX12_clause_213 rfl 3 rfl ?_
        refine s_iconst (v := (2 : Int32)) hF dX12_clause_214 kI_2 ?_
        refine s_iload_n hF dX12_clause_215 rfl 1 rfl ?_
        refine s_cVv (st := []) (ci := 12) [.int (2 : Int32), .int (g_I m67 l0 4)] hF hD.dr dX12_clause_216 cwX12_123 (Nat.le_of_ble_eq_true rfl) (Nat.le_of_ble_eq_true rfl) rfl rfl (Nat.le_of_ble_eq_true rfl) (isK.mo (isK.mo (isK.mo f0 hm65) hm69) hm75) rfl rfl (Nat.le_of_ble_eq_true rfl) (ctX12_wrong l0 (2 : Int32) (g_I m67 l0 4) _) (fun r78 m79 hl80 hm81 => ?_)
        refine s_sub [3, 4, 2, 0] rfl ?_
        exact sX12_clause_219 hF hD l0 l1 r62 r72 _ (isK.mo (isK.mo (isK.mo (isK.mo f0 hm65) hm69) hm75) hm81)
      · refine s_sub [3, 4, 2, 0] rfl ?_
        exact sX12_clause_219 hF hD l0 l1 r62 r72 _ (isK.mo (isK.mo (isK.mo f0 hm65) hm69) hm75)
    · refine s_sub [3, 4, 2, 0] rfl ?_
      exact sX12_clause_219 hF hD l0 l1 r62 r72 _ (isK.mo (isK.mo (isK.mo f0 hm65) hm69) hm75)
  · exact sX12_clause_248 hF hD l0 l1 _ f0
theorem sX12_clause_71 {F : Option Fx} (hF : FxO F RX12 cX12_clause 5 5) (hD : FxDO F none) (l0 : Nat) (l1 : Int32) (μ : Mem) (f0 : isK μ l0 12 = true) : Sim F encV 71 [(0, .ref l0), (1, .int l1)] [] μ (mX12_clause_71 l0 l1 μ) := by
  unfold mX12_clause_71
  refine s_aload_n hF dX12_clause_71 rfl 0 rfl ?_
  refine s_getI (x := (g_I μ l0 5)) hF dX12_clause_72 flX12_110 f0 rfl ?_
  refine s_if_eq (tgt := 79) hF dX12_clause_75 rfl (fun c23 => ?_) (fun c23 => ?_)
  · refine s_aload_n hF dX12_clause_79 rfl 0 rfl ?_
    refine s_cVv (st := []) (ci := 12) [] hF hD.dr dX12_clause_80 cwX12_147 (Nat.le_of_ble_eq_true rfl) (Nat.le_of_ble_eq_true rfl) rfl rfl (Nat.le_of_ble_eq_true rfl) f0 rfl rfl (Nat.le_of_ble_eq_true rfl) (ctX12_skipWord l0 _) (fun r24 m25 hl26 hm27 => ?_)
    refine s_aload_n hF dX12_clause_83 rfl 0 rfl ?_
    refine s_dup hF dX12_clause_84 rfl ?_
    refine s_getI (x := (g_I m25 l0 7)) hF dX12_clause_85 flX12_150 (isK.mo f0 hm27) rfl ?_
    refine s_iconst (v := (1 : Int32)) hF dX12_clause_88 kI_1 ?_
    refine s_iadd hF dX12_clause_89 ?_
    refine s_putI hF dX12_clause_90 flX12_150 (isK.mo f0 hm27) ?_
    refine s_iload_n hF dX12_clause_93 rfl 1 rfl ?_
    refine s_if_ne (tgt := 157) hF dX12_clause_94 rfl (fun c28 => ?_) (fun c28 => ?_)
    · refine s_aload_n hF dX12_clause_97 rfl 0 rfl ?_
      refine sim_gd (fun g29 => ?_)
      refine s_getR (x := (g_R m25 l0 13)) hF dX12_clause_98 flX12_28 (isK.mo f0 hm27) g29 rfl ?_
      refine s_aload_n hF dX12_clause_101 rfl 0 rfl ?_
      refine sim_gd (fun g30 => ?_)
      refine s_getR (x := (g_R m25 l0 11)) hF dX12_clause_102 flX12_20 (isK.mo f0 hm27) g30 rfl ?_
      refine s_iconst (v := (0 : Int32)) hF dX12_clause_105 kI_0 ?_
      refine sim_gd (fun g31 => ?_)
      refine s_iaload (x := (g_I (p_I m25 l0 7 ((g_I m25 l0 7) + (1 : Int32))) (g_R m25 l0 11) (0 : Int32).toNatClampNeg)) hF dX12_clause_106 g31 rfl ?_
      refine sim_gd (fun g32 => ?_)
      refine sim_gd (fun g33 => ?_)
      refine s_aaload (x := (g_R m25 (g_R m25 l0 13) (g_I (p_I m25 l0 7 ((g_I m25 l0 7) + (1 : Int32))) (g_R m25 l0 11) (0 : Int32).toNatClampNeg).toNatClampNeg)) hF dX12_clause_107 (by decide) (by decide) g32 g33 rfl ?_
      refine s_iconst (v := (0 : Int32)) hF dX12_clause_108 kI_0 ?_
      refine s_aload_n hF dX12_clause_109 rfl 0 rfl ?_
      refine s_iconst (v := (0 : Int32)) hF dX12_clause_110 kI_0 ?_
      refine s_bipush (v := (7 : Int32)) hF dX12_clause_111 kB_7 ?_
      refine s_cVi (st := [.int (0 : Int32), .ref (g_R m25 (g_R m25 l0 13) (g_I (p_I m25 l0 7 ((g_I m25 l0 7) + (1 : Int32))) (g_R m25 l0 11) (0 : Int32).toNatClampNeg).toNatClampNeg)]) (ci := 12) [.int (0 : Int32), .int (7 : Int32)] hF hD.dr dX12_clause_113 cwX12_159 (Nat.le_of_ble_eq_true rfl) (Nat.le_of_ble_eq_true rfl) rfl rfl (Nat.le_of_ble_eq_true rfl) (isK.mo f0 hm27) rfl rfl (Nat.le_of_ble_eq_true rfl) (ctX12_number l0 (0 : Int32) (7 : Int32) _) (fun r34 m35 hl36 hm37 => ?_)
      refine sim_gd (fun g38 => ?_)
      refine s_iastore hF dX12_clause_116 g38 ?_
      refine s_aload_n hF dX12_clause_117 rfl 0 rfl ?_
      refine sim_gd (fun g39 => ?_)
      refine s_getR (x := (g_R m35 l0 13)) hF dX12_clause_118 flX12_28 (isK.mo (isK.mo f0 hm27) hm37) g39 rfl ?_
      refine s_aload_n hF dX12_clause_121 rfl 0 rfl ?_
      refine sim_gd (fun g40 => ?_)
      refine s_getR (x := (g_R m35 l0 11)) hF dX12_clause_122 flX12_20 (isK.mo (isK.mo f0 hm27) hm37) g40 rfl ?_
      refine s_iconst (v := (0 : Int32)) hF dX12_clause_125 kI_0 ?_
      refine sim_gd (fun g41 => ?_)
      refine s_iaload (x := (g_I (p_I m35 (g_R m25 (g_R m25 l0 13) (g_I (p_I m25 l0 7 ((g_I m25 l0 7) + (1 : Int32))) (g_R m25 l0 11) (0 : Int32).toNatClampNeg).toNatClampNeg) (0 : Int32).toNatClampNeg r34) (g_R m35 l0 11) (0 : Int32).toNatClampNeg)) hF dX12_clause_126 g41 rfl ?_
      refine sim_gd (fun g42 => ?_)
      refine sim_gd (fun g43 => ?_)
      refine s_aaload (x := (g_R m35 (g_R m35 l0 13) (g_I (p_I m35 (g_R m25 (g_R m25 l0 13) (g_I (p_I m25 l0 7 ((g_I m25 l0 7) + (1 : Int32))) (g_R m25 l0 11) (0 : Int32).toNatClampNeg).toNatClampNeg) (0 : Int32).toNatClampNeg r34) (g_R m35 l0 11) (0 : Int32).toNatClampNeg).toNatClampNeg)) hF dX12_clause_127 (by decide) (by decide) g42 g43 rfl ?_
      refine s_iconst (v := (1 : Int32)) hF dX12_clause_128 kI_1 ?_
      refine s_aload_n hF dX12_clause_129 rfl 0 rfl ?_
      refine s_iconst (v := (0 : Int32)) hF dX12_clause_130 kI_0 ?_
      refine s_bipush (v := (99 : Int32)) hF dX12_clause_131 kB_99 ?_
      refine s_cVi (st := [.int (1 : Int32), .ref (g_R m35 (g_R m35 l0 13) (g_I (p_I m35 (g_R m25 (g_R m25 l0 13) (g_I (p_I m25 l0 7 ((g_I m25 l0 7) + (1 : Int32))) (g_R m25 l0 11) (0 : Int32).toNatClampNeg).toNatClampNeg) (0 : Int32).toNatClampNeg r34) (g_R m35 l0 11) (0 : Int32).toNatClampNeg).toNatClampNeg)]) (ci := 12) [.int (0 : Int32), .int (99 : Int32)] hF hD.dr dX12_clause_133 cwX12_159 (Nat.le_of_ble_eq_true rfl) (Nat.le_of_ble_eq_true rfl) rfl rfl (Nat.le_of_ble_eq_true rfl) (isK.mo (isK.mo f0 hm27) hm37) rfl rfl (Nat.le_of_ble_eq_true rfl) (ctX12_number l0 (0 : Int32) (99 : Int32) _) (fun r44 m45 hl46 hm47 => ?_)
      refine sim_gd (fun g48 => ?_)
      refine s_iastore hF dX12_clause_136 g48 ?_
      refine s_aload_n hF dX12_clause_137 rfl 0 rfl ?_
      refine sim_gd (fun g49 => ?_)
      refine s_getR (x := (g_R m45 l0 13)) hF dX12_clause_138 flX12_28 (isK.mo (isK.mo (isK.mo f0 hm27) hm37) hm47) g49 rfl ?_
      refine s_aload_n hF dX12_clause_141 rfl 0 rfl ?_
      refine sim_gd (fun g50 => ?_)
      refine s_getR (x := (g_R m45 l0 11)) hF dX12_clause_142 flX12_20 (isK.mo (isK.mo (isK.mo f0 hm27) hm37) hm47) g50 rfl ?_
      refine s_iconst (v := (0 : Int32)) hF dX12_clause_145 kI_0 ?_
      refine sim_gd (fun g51 => ?_)
      refine s_iaload (x := (g_I (p_I m45 (g_R m35 (g_R m35 l0 13) (g_I (p_I m35 (g_R m25 (g_R m25 l0 13) (g_I (p_I m25 l0 7 ((g_I m25 l0 7) + (1 : Int32))) (g_R m25 l0 11) (0 : Int32).toNatClampNeg).toNatClampNeg) (0 : Int32).toNatClampNeg r34) (g_R m35 l0 11) (0 : Int32).toNatClampNeg).toNatClampNeg) (1 : Int32).toNatClampNeg r44) (g_R m45 l0 11) (0 : Int32).toNatClampNeg)) hF dX12_clause_146 g51 rfl ?_
      refine sim_gd (fun g52 => ?_)
      refine sim_gd (fun g53 => ?_)
      refine s_aaload (x := (g_R m45 (g_R m45 l0 13) (g_I (p_I m45 (g_R m35 (g_R m35 l0 13) (g_I (p_I m35 (g_R m25 (g_R m25 l0 13) (g_I (p_I m25 l0 7 ((g_I m25 l0 7) + (1 : Int32))) (g_R m25 l0 11) (0 : Int32).toNatClampNeg).toNatClampNeg) (0 : Int32).toNatClampNeg r34) (g_R m35 l0 11) (0 : Int32).toNatClampNeg).toNatClampNeg) (1 : Int32).toNatClampNeg r44) (g_R m45 l0 11) (0 : Int32).toNatClampNeg).toNatClampNeg)) hF dX12_clause_147 (by decide) (by decide) g52 g53 rfl ?_
      refine s_iconst (v := (2 : Int32)) hF dX12_clause_148 kI_2 ?_
      refine s_aload_n hF dX12_clause_149 rfl 0 rfl ?_
      refine s_iconst (v := (0 : Int32)) hF dX12_clause_150 kI_0 ?_
      refine s_bipush (v := (99 : Int32)) hF dX12_clause_151 kB_99 ?_
      refine s_cVi (st := [.int (2 : Int32), .ref (g_R m45 (g_R m45 l0 13) (g_I (p_I m45 (g_R m35 (g_R m35 l0 13) (g_I (p_I m35 (g_R m25 (g_R m25 l0 13) (g_I (p_I m25 l0 7 ((g_I m25 l0 7) + (1 : Int32))) (g_R m25 l0 11) (0 : Int32).toNatClampNeg).toNatClampNeg) (0 : Int32).toNatClampNeg r34) (g_R m35 l0 11) (0 : Int32).toNatClampNeg).toNatClampNeg) (1 : Int32).toNatClampNeg r44) (g_R m45 l0 11) (0 : Int32).toNatClampNeg).toNatClampNeg)]) (ci := 12) [.int (0 : Int32), .int (99 : Int32)] hF hD.dr dX12_clause_153 cwX12_159 (Nat.le_of_ble_eq_true rfl) (Nat.le_of_ble_eq_true rfl) rfl rfl (Nat.le_of_ble_eq_true rfl) (isK.mo (isK.mo (isK.mo f0 hm27) hm37) hm47) rfl rfl (Nat.le_of_ble_eq_true rfl) (ctX12_number l0 (0 : Int32) (99 : Int32) _) (fun r54 m55 hl56 hm57 => ?_)
      refine sim_gd (fun g58 => ?_)
      refine s_iastore hF dX12_clause_156 g58 ?_
      exact sX12_clause_157 hF hD l0 l1 _ (isK.mo (isK.mo (isK.mo (isK.mo f0 hm27) hm37) hm47) hm57)
    · exact sX12_clause_157 hF hD l0 l1 _ (isK.mo f0 hm27)
  · exact s_vretD hF hD dX12_clause_78 rfl
theorem sX12_clause_62 {F : Option Fx} (hF : FxO F RX12 cX12_clause 5 5) (hD : FxDO F none) (l0 : Nat) (l1 : Int32) (μ : Mem) (f0 : isK μ l0 12 = true) : Sim F encV 62 [(0, .ref l0), (1, .int l1)] [] μ (mX12_clause_62 l0 l1 μ) := by
  unfold mX12_clause_62
  refine s_aload_n hF dX12_clause_62 rfl 0 rfl ?_
  refine s_iconst (v := (3 : Int32)) hF dX12_clause_63 kI_3 ?_
  refine s_aload_n hF dX12_clause_64 rfl 0 rfl ?_
  refine s_getI (x := (g_I μ l0 4)) hF dX12_clause_65 flX12_103 f0 rfl ?_
  refine s_cVv (st := []) (ci := 12) [.int (3 : Int32), .int (g_I μ l0 4)] hF hD.dr dX12_clause_68 cwX12_123 (Nat.le_of_ble_eq_true rfl) (Nat.le_of_ble_eq_true rfl) rfl rfl (Nat.le_of_ble_eq_true rfl) f0 rfl rfl (Nat.le_of_ble_eq_true rfl) (ctX12_wrong l0 (3 : Int32) (g_I μ l0 4) _) (fun r19 m20 hl21 hm22 => ?_)
  exact sX12_clause_71 hF hD l0 l1 _ (isK.mo f0 hm22)
theorem sX12_clause_46 {F : Option Fx} (hF : FxO F RX12 cX12_clause 5 5) (hD : FxDO F none) (l0 : Nat) (l1 : Int32) (μ : Mem) (f0 : isK μ l0 12 = true) : Sim F encV 46 [(0, .ref l0), (1, .int l1)] [] μ (mX12_clause_46 l0 l1 μ) := by
  unfold mX12_clause_46
  refine s_iload_n hF dX12_clause_46 rfl 1 rfl ?_
  refine s_iconst (v := (1 : Int32)) hF dX12_clause_47 kI_1 ?_
  refine s_icmp_ne (tgt := 71) hF dX12_clause_48 rfl (fun c15 => ?_) (fun c15 => ?_)
  · refine s_aload_n hF dX12_clause_51 rfl 0 rfl ?_
    refine sim_gd (fun g16 => ?_)
    refine s_getR (x := (g_R μ l0 11)) hF dX12_clause_52 flX12_20 f0 g16 rfl ?_
    refine s_iconst (v := (1 : Int32)) hF dX12_clause_55 kI_1 ?_
    refine sim_gd (fun g17 => ?_)
    refine s_iaload (x := (g_I μ (g_R μ l0 11) (1 : Int32).toNatClampNeg)) hF dX12_clause_56 g17 rfl ?_
    refine s_bipush (v := (16 : Int32)) hF dX12_clause_57 kB_16 ?_
    refine s_icmp_ne (tgt := 71) hF dX12_clause_59 rfl (fun c18 => ?_) (fun c18 => ?_)
    · exact sX12_clause_62 hF hD l0 l1 _ f0
    · exact sX12_clause_71 hF hD l0 l1 _ f0
  · exact sX12_clause_71 hF hD l0 l1 _ f0
theorem ctX12_clause  (l0 : Nat) (μ : Mem) : ∀ (r : Unit) (μ' : Mem), LX12_clause l0 μ = some (r, μ') → CtD yX12_clause cX12_clause 5 none 5 [.ref l0] μ (encV r) μ' := by
  refine ct_enterD plX12 (Nat.le_of_ble_eq_true rfl) (fun F hF hD hI => ?_)
  unfold LX12_clause
  refine sim_gd (fun f0 => ?_)
  refine s_aload_n hF dX12_clause_0 rfl 0 rfl ?_
  refine s_cVi (st := []) (ci := 12) [] hF hD.dr dX12_clause_1 cwX12_156 (Nat.le_of_ble_eq_true rfl) (Nat.le_of_ble_eq_true rfl) rfl rfl (Nat.le_of_ble_eq_true rfl) f0 rfl rfl (Nat.le_of_ble_eq_true rfl) (ctX12_kindHere l0 _) (fun r1 m2 hl3 hm4 => ?_)
  refine s_istore_n (pls' := [(1, .int r1), (0, .ref l0)]) hF dX12_clause_4 rfl (by decide) rfl ?_
  refine s_iload_n hF dX12_clause_5 rfl 0 rfl ?_
  refine s_iconst (v := (-1 : Int32)) hF dX12_clause_6 kI_m1 ?_
  refine s_icmp_ne (tgt := 22) hF dX12_clause_7 rfl (fun c5 => ?_) (fun c5 => ?_)
  · refine s_aload_n hF dX12_clause_10 rfl 1 rfl ?_
    refine s_iconst (v := (1 : Int32)) hF dX12_clause_11 kI_1 ?_
    refine s_aload_n hF dX12_clause_12 rfl 1 rfl ?_
    refine s_getI (x := (g_I m2 l0 4)) hF dX12_clause_13 flX12_103 (isK.mo f0 hm4) rfl ?_
    refine s_cVv (st := []) (ci := 12) [.int (1 : Int32), .int (g_I m2 l0 4)] hF hD.dr dX12_clause_16 cwX12_123 (Nat.le_of_ble_eq_true rfl) (Nat.le_of_ble_eq_true rfl) rfl rfl (Nat.le_of_ble_eq_true rfl) (isK.mo f0 hm4) rfl rfl (Nat.le_of_ble_eq_true rfl) (ctX12_wrong l0 (1 : Int32) (g_I m2 l0 4) _) (fun r6 m7 hl8 hm9 => ?_)
    refine s_goto (tgt := 71) hF dX12_clause_19 rfl ?_
    refine s_sub [1, 0] rfl ?_
    exact sX12_clause_71 hF hD l0 r1 _ (isK.mo (isK.mo f0 hm4) hm9)
  · refine s_aload_n hF dX12_clause_22 rfl 1 rfl ?_
    refine s_getI (x := (g_I m2 l0 7)) hF dX12_clause_23 flX12_150 (isK.mo f0 hm4) rfl ?_
    refine s_bipush (v := (60 : Int32)) hF dX12_clause_26 kB_60 ?_
    refine s_icmp_eq (tgt := 62) hF dX12_clause_28 rfl (fun c10 => ?_) (fun c10 => ?_)
    · refine s_sub [1, 0] rfl ?_
      exact sX12_clause_62 hF hD l0 r1 _ (isK.mo f0 hm4)
    · refine s_iload_n hF dX12_clause_31 rfl 0 rfl ?_
      refine s_if_ne (tgt := 46) hF dX12_clause_32 rfl (fun c11 => ?_) (fun c11 => ?_)
      · refine s_aload_n hF dX12_clause_35 rfl 1 rfl ?_
        refine sim_gd (fun g12 => ?_)
        refine s_getR (x := (g_R m2 l0 11)) hF dX12_clause_36 flX12_20 (isK.mo f0 hm4) g12 rfl ?_
        refine s_iconst (v := (0 : Int32)) hF dX12_clause_39 kI_0 ?_
        refine sim_gd (fun g13 => ?_)
        refine s_iaload (x := (g_I m2 (g_R m2 l0 11) (0 : Int32).toNatClampNeg)) hF dX12_clause_40 g13 rfl ?_
        refine s_bipush (v := (8 : Int32)) hF dX12_clause_41 kB_8 ?_
        refine s_icmp_eq (tgt := 62) hF dX12_clause_43 rfl (fun c14 => ?_) (fun c14 => ?_)
        · refine s_sub [1, 0] rfl ?_
          exact sX12_clause_62 hF hD l0 r1 _ (isK.mo f0 hm4)
        · refine s_sub [1, 0] rfl ?_
          exact sX12_clause_46 hF hD l0 r1 _ (isK.mo f0 hm4)
      · refine s_sub [1, 0] rfl ?_
        exact sX12_clause_46 hF hD l0 r1 _ (isK.mo f0 hm4)
theorem sX12_hut_71 {F : Option Fx} (hF : FxO F RX12 cX12_hut 2 6) (hD : FxDO F (some .int)) (l0 : Nat) (μ : Mem) (f0 : isK μ l0 12 = true) : Sim F encI 71 [(0, .ref l0)] [] μ (mX12_hut_71 l0 μ) := by
  unfold mX12_hut_71
  refine s_aload_n hF dX12_hut_71 rfl 0 rfl ?_
  refine s_getI (x := (g_I μ l0 5)) hF dX12_hut_72 flX12_110 f0 rfl ?_
  refine s_if_eq (tgt := 83) hF dX12_hut_75 rfl (fun c30 => ?_) (fun c30 => ?_)
  · refine s_aload_n hF dX12_hut_83 rfl 0 rfl ?_
    refine s_iconst (v := (-1 : Int32)) hF dX12_hut_84 kI_m1 ?_
    refine s_putI hF dX12_hut_85 flX12_9 f0 ?_
    refine s_aload_n hF dX12_hut_88 rfl 0 rfl ?_
    refine s_cVv (st := []) (ci := 12) [] hF hD.dr dX12_hut_89 cwX12_91 (Nat.le_of_ble_eq_true rfl) (Nat.le_of_ble_eq_true rfl) rfl rfl (Nat.le_of_ble_eq_true rfl) f0 rfl rfl (Nat.le_of_ble_eq_true rfl) (ctX12_beginsAnew l0 _) (fun r31 m32 hl33 hm34 => ?_)
    refine s_aload_n hF dX12_hut_92 rfl 0 rfl ?_
    refine sim_gd (fun g35 => ?_)
    refine s_getR (x := (g_R m32 l0 12)) hF dX12_hut_93 flX12_23 (isK.mo f0 hm34) g35 rfl ?_
    refine s_iconst (v := (0 : Int32)) hF dX12_hut_96 kI_0 ?_
    refine sim_gd (fun g36 => ?_)
    refine s_iaload (x := (g_I m32 (g_R m32 l0 12) (0 : Int32).toNatClampNeg)) hF dX12_hut_97 g36 rfl ?_
    exact s_iretD hF hD dX12_hut_98 rfl
  · refine s_aload_n hF dX12_hut_78 rfl 0 rfl ?_
    refine s_cVi (st := []) (ci := 12) [] hF hD.dr dX12_hut_79 cwX12_177 (Nat.le_of_ble_eq_true rfl) (Nat.le_of_ble_eq_true rfl) rfl rfl (Nat.le_of_ble_eq_true rfl) f0 rfl rfl (Nat.le_of_ble_eq_true rfl) (ctX12_ends l0 _) (fun r37 m38 hl39 hm40 => ?_)
    exact s_iretD hF hD dX12_hut_82 rfl
theorem sX12_hut_42 {F : Option Fx} (hF : FxO F RX12 cX12_hut 2 6) (hD : FxDO F (some .int)) : ∀ (fu : Nat) (l0 : Nat) (μ : Mem) (f0 : isK μ l0 12 = true), Sim F encI 42 [(0, .ref l0)] [] μ (mX12_hut_42 fu l0 μ) := by
  intro fu
  induction fu with
  | zero =>
    intro l0 μ f0
    exact sim_none
  | succ fu ih =>
    intro l0 μ f0
    rw [mX12_hut_42]
    refine s_aload_n hF dX12_hut_42 rfl 0 rfl ?_
    refine s_getI (x := (g_I μ l0 5)) hF dX12_hut_43 flX12_110 f0 rfl ?_
    refine s_if_ne (tgt := 71) hF dX12_hut_46 rfl (fun c20 => ?_) (fun c20 => ?_)
    · refine s_aload_n hF dX12_hut_49 rfl 0 rfl ?_
      refine s_getI (x := (g_I μ l0 4)) hF dX12_hut_50 flX12_103 f0 rfl ?_
      refine s_aload_n hF dX12_hut_53 rfl 0 rfl ?_
      refine s_getI (x := (g_I μ l0 2)) hF dX12_hut_54 flX12_100 f0 rfl ?_
      refine s_icmp_ge (tgt := 71) hF dX12_hut_57 rfl (fun c21 => ?_) (fun c21 => ?_)
      · exact sX12_hut_71 hF hD l0 _ f0
      · refine s_aload_n hF dX12_hut_60 rfl 0 rfl ?_
        refine s_cVv (st := []) (ci := 12) [] hF hD.dr dX12_hut_61 cwX12_174 (Nat.le_of_ble_eq_true rfl) (Nat.le_of_ble_eq_true rfl) rfl rfl (Nat.le_of_ble_eq_true rfl) f0 rfl rfl (Nat.le_of_ble_eq_true rfl) (ctX12_clause l0 _) (fun r22 m23 hl24 hm25 => ?_)
        refine s_aload_n hF dX12_hut_64 rfl 0 rfl ?_
        refine s_cVv (st := []) (ci := 12) [] hF hD.dr dX12_hut_65 cwX12_116 (Nat.le_of_ble_eq_true rfl) (Nat.le_of_ble_eq_true rfl) rfl rfl (Nat.le_of_ble_eq_true rfl) (isK.mo f0 hm25) rfl rfl (Nat.le_of_ble_eq_true rfl) (ctX12_blanks l0 _) (fun r26 m27 hl28 hm29 => ?_)
        refine s_goto (tgt := 42) hF dX12_hut_68 rfl ?_
        exact ih l0 _ (isK.mo (isK.mo f0 hm25) hm29)
    · exact sX12_hut_71 hF hD l0 _ f0
theorem sX12_hut_23 {F : Option Fx} (hF : FxO F RX12 cX12_hut 2 6) (hD : FxDO F (some .int)) (l0 : Nat) (l1 : Int32) (k0 : Int32) (k1 : Nat) (μ : Mem) (f0 : isK μ l0 12 = true) : Sim F encI 23 [(0, .ref l0), (1, .int l1)] [.int k0, .ref k1] μ (mX12_hut_23 l0 l1 k0 k1 μ) := by
  unfold mX12_hut_23
  refine s_iconst (v := (1 : Int32)) hF dX12_hut_23 kI_1 ?_
  refine s_iconst (v := (1 : Int32)) hF dX12_hut_24 kI_1 ?_
  refine sim_gd (fun g10 => ?_)
  refine s_cVi (st := []) (ci := 12) [.int k0, .int (1 : Int32), .int (1 : Int32)] hF hD.dr dX12_hut_25 cwX12_167 (Nat.le_of_ble_eq_true rfl) (Nat.le_of_ble_eq_true rfl) rfl rfl (Nat.le_of_ble_eq_true rfl) g10 rfl rfl (Nat.le_of_ble_eq_true rfl) (ctX12_bad k1 k0 (1 : Int32) (1 : Int32) _) (fun r6 m7 hl8 hm9 => ?_)
  refine s_if_eq (tgt := 33) hF dX12_hut_28 rfl (fun c11 => ?_) (fun c11 => ?_)
  · refine s_aload_n hF dX12_hut_33 rfl 0 rfl ?_
    refine s_iload_n hF dX12_hut_34 rfl 1 rfl ?_
    refine s_cVv (st := []) (ci := 12) [.int l1] hF hD.dr dX12_hut_35 cwX12_171 (Nat.le_of_ble_eq_true rfl) (Nat.le_of_ble_eq_true rfl) rfl rfl (Nat.le_of_ble_eq_true rfl) (isK.mo f0 hm9) rfl rfl (Nat.le_of_ble_eq_true rfl) (ctX12_starts l0 l1 _) (fun r12 m13 hl14 hm15 => ?_)
    refine s_aload_n hF dX12_hut_38 rfl 0 rfl ?_
    refine s_cVv (st := []) (ci := 12) [] hF hD.dr dX12_hut_39 cwX12_88 (Nat.le_of_ble_eq_true rfl) (Nat.le_of_ble_eq_true rfl) rfl rfl (Nat.le_of_ble_eq_true rfl) (isK.mo (isK.mo f0 hm9) hm15) rfl rfl (Nat.le_of_ble_eq_true rfl) (ctX12_tellsNothing l0 _) (fun r16 m17 hl18 hm19 => ?_)
    refine s_sub [0] rfl ?_
    exact sX12_hut_42 hF hD 100000 l0 _ (isK.mo (isK.mo (isK.mo f0 hm9) hm15) hm19)
  · refine s_iconst (v := (0 : Int32)) hF dX12_hut_31 kI_0 ?_
    exact s_iretD hF hD dX12_hut_32 rfl
theorem ctX12_hut  (l0 : Nat) (l1 : Int32) (μ : Mem) : ∀ (r : Int32) (μ' : Mem), LX12_hut l0 l1 μ = some (r, μ') → CtD yX12_hut cX12_hut 2 (some .int) 6 [.ref l0, .int l1] μ (encI r) μ' := by
  refine ct_enterD plX12 (Nat.le_of_ble_eq_true rfl) (fun F hF hD hI => ?_)
  unfold LX12_hut
  refine sim_gd (fun f0 => ?_)
  refine s_aload_n hF dX12_hut_0 rfl 0 rfl ?_
  refine s_iconst (v := (0 : Int32)) hF dX12_hut_1 kI_0 ?_
  refine s_putI hF dX12_hut_2 flX12_94 f0 ?_
  refine s_aload_n hF dX12_hut_5 rfl 0 rfl ?_
  refine s_iload_n hF dX12_hut_6 rfl 1 rfl ?_
  refine s_iconst (v := (0 : Int32)) hF dX12_hut_7 kI_0 ?_
  refine s_aload_n hF dX12_hut_8 rfl 0 rfl ?_
  refine s_getI (x := (g_I (p_I μ l0 0 (0 : Int32)) l0 1)) hF dX12_hut_9 flX12_97 f0 rfl ?_
  refine s_cSi (st := [.ref l0]) [.int l1, .int (0 : Int32), .int (g_I (p_I μ l0 0 (0 : Int32)) l0 1)] hF hD.dr dX12_hut_12 cwX12_128 (Nat.le_of_ble_eq_true rfl) (Nat.le_of_ble_eq_true rfl) rfl rfl (Nat.le_of_ble_eq_true rfl) (ctX12_in l1 (0 : Int32) (g_I (p_I μ l0 0 (0 : Int32)) l0 1) _) (fun r1 m2 hl3 hm4 => ?_)
  refine s_if_ne (tgt := 22) hF dX12_hut_15 rfl (fun c5 => ?_) (fun c5 => ?_)
  · refine s_iconst (v := (1 : Int32)) hF dX12_hut_18 kI_1 ?_
    refine s_goto (tgt := 23) hF dX12_hut_19 rfl ?_
    exact sX12_hut_23 hF hD l0 l1 (1 : Int32) l0 _ (isK.mo f0 hm4)
  · refine s_iconst (v := (0 : Int32)) hF dX12_hut_22 kI_0 ?_
    exact sX12_hut_23 hF hD l0 l1 (0 : Int32) l0 _ (isK.mo f0 hm4)
theorem sX12_copies_2 {F : Option Fx} (hF : FxO F RX12 cX12_copies 3 0) (hD : FxDO F none) : ∀ (fu : Nat) (l0 : Nat) (l1 : Nat) (l2 : Int32) (μ : Mem) (f0 : isK μ l0 15 = true) (f1 : isK μ l1 15 = true), Sim F encV 2 [(0, .ref l0), (1, .ref l1), (2, .int l2)] [] μ (mX12_copies_2 fu l0 l1 l2 μ) := by
  intro fu
  induction fu with
  | zero =>
    intro l0 l1 l2 μ f0 f1
    exact sim_none
  | succ fu ih =>
    intro l0 l1 l2 μ f0 f1
    rw [mX12_copies_2]
    refine s_iload_n hF dX12_copies_2 rfl 2 rfl ?_
    refine s_sipush (v := (419 : Int32)) hF dX12_copies_3 kS_419 ?_
    refine s_icmp_ge (tgt := 21) hF dX12_copies_6 rfl (fun c1 => ?_) (fun c1 => ?_)
    · exact s_vretD hF hD dX12_copies_21 rfl
    · refine s_aload_n hF dX12_copies_9 rfl 1 rfl ?_
      refine s_iload_n hF dX12_copies_10 rfl 2 rfl ?_
      refine s_aload_n hF dX12_copies_11 rfl 0 rfl ?_
      refine s_iload_n hF dX12_copies_12 rfl 2 rfl ?_
      refine sim_gd (fun g2 => ?_)
      refine s_iaload (x := (g_I μ l0 l2.toNatClampNeg)) hF dX12_copies_13 g2 rfl ?_
      refine sim_gd (fun g3 => ?_)
      refine s_iastore hF dX12_copies_14 g3 ?_
      refine s_iinc (v := (l2 + (1 : Int32))) (pls' := [(2, .int (l2 + (1 : Int32))), (0, .ref l0), (1, .ref l1)]) hF dX12_copies_15 2 rfl rfl (by decide) rfl ?_
      refine s_goto (tgt := 2) hF dX12_copies_18 rfl ?_
      refine s_sub [1, 2, 0] rfl ?_
      exact ih l0 l1 (l2 + (1 : Int32)) _ f0 f1
theorem ctX12_copies  (l0 : Nat) (l1 : Nat) (μ : Mem) : ∀ (r : Unit) (μ' : Mem), LX12_copies l0 l1 μ = some (r, μ') → CtD yX12_copies cX12_copies 3 none 0 [.ref l0, .ref l1] μ (encV r) μ' := by
  refine ct_enterD plX12 (Nat.le_of_ble_eq_true rfl) (fun F hF hD hI => ?_)
  unfold LX12_copies
  refine sim_gd (fun f0 => ?_)
  refine sim_gd (fun f1 => ?_)
  refine s_iconst (v := (0 : Int32)) hF dX12_copies_0 kI_0 ?_
  refine s_istore_n (pls' := [(2, .int (0 : Int32)), (0, .ref l0), (1, .ref l1)]) hF dX12_copies_1 rfl (by decide) rfl ?_
  refine s_sub [1, 2, 0] rfl ?_
  exact sX12_copies_2 hF hD 100000 l0 l1 (0 : Int32) _ f0 f1
theorem ctX12_notes  (l0 : Nat) (l1 : Int32) (l2 : Int32) (μ : Mem) : ∀ (r : Unit) (μ' : Mem), LX12_notes l0 l1 l2 μ = some (r, μ') → CtD yX12_notes cX12_notes 3 none 0 [.ref l0, .int l1, .int l2] μ (encV r) μ' := by
  refine ct_enterD plX12 (Nat.le_of_ble_eq_true rfl) (fun F hF hD hI => ?_)
  unfold LX12_notes
  refine sim_gd (fun f0 => ?_)
  refine s_aload_n hF dX12_notes_0 rfl 0 rfl ?_
  refine s_getI (x := (g_I μ l0 5)) hF dX12_notes_1 flX12_110 f0 rfl ?_
  refine s_if_eq (tgt := 8) hF dX12_notes_4 rfl (fun c1 => ?_) (fun c1 => ?_)
  · refine s_aload_n hF dX12_notes_8 rfl 0 rfl ?_
    refine sim_gd (fun g2 => ?_)
    refine s_getR (x := (g_R μ l0 20)) hF dX12_notes_9 flX12_43 f0 g2 rfl ?_
    refine s_aload_n hF dX12_notes_12 rfl 0 rfl ?_
    refine s_getI (x := (g_I μ l0 18)) hF dX12_notes_13 flX12_202 f0 rfl ?_
    refine sim_gd (fun g3 => ?_)
    refine sim_gd (fun g4 => ?_)
    refine s_aaload (x := (g_R μ (g_R μ l0 20) (g_I μ l0 18).toNatClampNeg)) hF dX12_notes_16 (by decide) (by decide) g3 g4 rfl ?_
    refine s_iconst (v := (0 : Int32)) hF dX12_notes_17 kI_0 ?_
    refine s_iload_n hF dX12_notes_18 rfl 1 rfl ?_
    refine sim_gd (fun g5 => ?_)
    refine s_iastore hF dX12_notes_19 g5 ?_
    refine s_aload_n hF dX12_notes_20 rfl 0 rfl ?_
    refine s_getR (x := (g_R μ l0 20)) hF dX12_notes_21 flX12_43 f0 g2 rfl ?_
    refine s_aload_n hF dX12_notes_24 rfl 0 rfl ?_
    refine s_getI (x := (g_I (p_I μ (g_R μ (g_R μ l0 20) (g_I μ l0 18).toNatClampNeg) (0 : Int32).toNatClampNeg l1) l0 18)) hF dX12_notes_25 flX12_202 f0 rfl ?_
    refine sim_gd (fun g6 => ?_)
    refine sim_gd (fun g7 => ?_)
    refine s_aaload (x := (g_R μ (g_R μ l0 20) (g_I (p_I μ (g_R μ (g_R μ l0 20) (g_I μ l0 18).toNatClampNeg) (0 : Int32).toNatClampNeg l1) l0 18).toNatClampNeg)) hF dX12_notes_28 (by decide) (by decide) g6 g7 rfl ?_
    refine s_iconst (v := (1 : Int32)) hF dX12_notes_29 kI_1 ?_
    refine s_iload_n hF dX12_notes_30 rfl 2 rfl ?_
    refine sim_gd (fun g8 => ?_)
    refine s_iastore hF dX12_notes_31 g8 ?_
    refine s_aload_n hF dX12_notes_32 rfl 0 rfl ?_
    refine s_dup hF dX12_notes_33 rfl ?_
    refine s_getI (x := (g_I (p_I (p_I μ (g_R μ (g_R μ l0 20) (g_I μ l0 18).toNatClampNeg) (0 : Int32).toNatClampNeg l1) (g_R μ (g_R μ l0 20) (g_I (p_I μ (g_R μ (g_R μ l0 20) (g_I μ l0 18).toNatClampNeg) (0 : Int32).toNatClampNeg l1) l0 18).toNatClampNeg) (1 : Int32).toNatClampNeg l2) l0 18)) hF dX12_notes_34 flX12_202 f0 rfl ?_
    refine s_iconst (v := (1 : Int32)) hF dX12_notes_37 kI_1 ?_
    refine s_iadd hF dX12_notes_38 ?_
    refine s_putI hF dX12_notes_39 flX12_202 f0 ?_
    exact s_vretD hF hD dX12_notes_42 rfl
  · exact s_vretD hF hD dX12_notes_7 rfl
theorem sX12_opensOne_45 {F : Option Fx} (hF : FxO F RX12 cX12_opensOne 1 1) (hD : FxDO F (some .boolean)) (l0 : Nat) (μ : Mem) (f0 : isK μ l0 12 = true) : Sim F encI 45 [(0, .ref l0)] [] μ (mX12_opensOne_45 l0 μ) := by
  unfold mX12_opensOne_45
  refine s_aload_n hF dX12_opensOne_45 rfl 0 rfl ?_
  refine s_getI (x := (g_I μ l0 5)) hF dX12_opensOne_46 flX12_110 f0 rfl ?_
  refine s_if_ne (tgt := 56) hF dX12_opensOne_49 rfl (fun c8 => ?_) (fun c8 => ?_)
  · refine s_iconst (v := (1 : Int32)) hF dX12_opensOne_52 kI_1 ?_
    refine s_goto (tgt := 57) hF dX12_opensOne_53 rfl ?_
    exact s_zretD hF hD dX12_opensOne_57 rfl rfl
  · refine s_iconst (v := (0 : Int32)) hF dX12_opensOne_56 kI_0 ?_
    exact s_zretD hF hD dX12_opensOne_57 rfl rfl
theorem sX12_opensOne_28 {F : Option Fx} (hF : FxO F RX12 cX12_opensOne 1 1) (hD : FxDO F (some .boolean)) (l0 : Nat) (μ : Mem) (f0 : isK μ l0 12 = true) : Sim F encI 28 [(0, .ref l0)] [] μ (mX12_opensOne_28 l0 μ) := by
  unfold mX12_opensOne_28
  refine s_aload_n hF dX12_opensOne_28 rfl 0 rfl ?_
  refine s_getI (x := (g_I μ l0 5)) hF dX12_opensOne_29 flX12_110 f0 rfl ?_
  refine s_if_ne (tgt := 45) hF dX12_opensOne_32 rfl (fun c7 => ?_) (fun c7 => ?_)
  · refine s_aload_n hF dX12_opensOne_35 rfl 0 rfl ?_
    refine s_dup hF dX12_opensOne_36 rfl ?_
    refine s_getI (x := (g_I μ l0 8)) hF dX12_opensOne_37 flX12_153 f0 rfl ?_
    refine s_iconst (v := (1 : Int32)) hF dX12_opensOne_40 kI_1 ?_
    refine s_iadd hF dX12_opensOne_41 ?_
    refine s_putI hF dX12_opensOne_42 flX12_153 f0 ?_
    exact sX12_opensOne_45 hF hD l0 _ f0
  · exact sX12_opensOne_45 hF hD l0 _ f0
theorem ctX12_opensOne  (l0 : Nat) (μ : Mem) : ∀ (r : Int32) (μ' : Mem), LX12_opensOne l0 μ = some (r, μ') → CtD yX12_opensOne cX12_opensOne 1 (some .boolean) 1 [.ref l0] μ (encI r) μ' := by
  refine ct_enterD plX12 (Nat.le_of_ble_eq_true rfl) (fun F hF hD hI => ?_)
  unfold LX12_opensOne
  refine sim_gd (fun f0 => ?_)
  refine s_aload_n hF dX12_opensOne_0 rfl 0 rfl ?_
  refine s_getI (x := (g_I μ l0 5)) hF dX12_opensOne_1 flX12_110 f0 rfl ?_
  refine s_if_ne (tgt := 28) hF dX12_opensOne_4 rfl (fun c1 => ?_) (fun c1 => ?_)
  · refine s_aload_n hF dX12_opensOne_7 rfl 0 rfl ?_
    refine s_getI (x := (g_I μ l0 8)) hF dX12_opensOne_8 flX12_153 f0 rfl ?_
    refine s_bipush (v := (6 : Int32)) hF dX12_opensOne_11 kB_6 ?_
    refine s_icmp_ne (tgt := 28) hF dX12_opensOne_13 rfl (fun c2 => ?_) (fun c2 => ?_)
    · refine s_aload_n hF dX12_opensOne_16 rfl 0 rfl ?_
      refine s_iconst (v := (3 : Int32)) hF dX12_opensOne_17 kI_3 ?_
      refine s_aload_n hF dX12_opensOne_18 rfl 0 rfl ?_
      refine s_getI (x := (g_I μ l0 4)) hF dX12_opensOne_19 flX12_103 f0 rfl ?_
      refine s_cVv (st := []) (ci := 12) [.int (3 : Int32), .int (g_I μ l0 4)] hF hD.dr dX12_opensOne_22 cwX12_123 (Nat.le_of_ble_eq_true rfl) (Nat.le_of_ble_eq_true rfl) rfl rfl (Nat.le_of_ble_eq_true rfl) f0 rfl rfl (Nat.le_of_ble_eq_true rfl) (ctX12_wrong l0 (3 : Int32) (g_I μ l0 4) _) (fun r3 m4 hl5 hm6 => ?_)
      refine s_goto (tgt := 45) hF dX12_opensOne_25 rfl ?_
      exact sX12_opensOne_45 hF hD l0 _ (isK.mo f0 hm6)
    · exact sX12_opensOne_28 hF hD l0 _ f0
  · exact sX12_opensOne_28 hF hD l0 _ f0
theorem sX12_takesTwo_25 {F : Option Fx} (hF : FxO F RX12 cX12_takesTwo 4 3) (hD : FxDO F (some .boolean)) (l0 : Nat) (k0 : Int32) (μ : Mem) (f0 : isK μ l0 12 = true) : Sim F encI 25 [(0, .ref l0)] [.int k0] μ (mX12_takesTwo_25 l0 k0 μ) := by
  unfold mX12_takesTwo_25
  refine s_istore_n (pls' := [(3, .int k0), (0, .ref l0)]) hF dX12_takesTwo_25 rfl (by decide) rfl ?_
  refine s_iload_n hF dX12_takesTwo_26 rfl 0 rfl ?_
  refine s_if_eq (tgt := 34) hF dX12_takesTwo_27 rfl (fun c7 => ?_) (fun c7 => ?_)
  · refine s_iload_n hF dX12_takesTwo_34 rfl 0 rfl ?_
    refine sim_gd (fun g8 => ?_)
    exact s_zretD hF hD dX12_takesTwo_35 rfl (nar_z g8)
  · refine s_aload_n hF dX12_takesTwo_30 rfl 1 rfl ?_
    refine s_cVv (st := []) (ci := 12) [] hF hD.dr dX12_takesTwo_31 cwX12_147 (Nat.le_of_ble_eq_true rfl) (Nat.le_of_ble_eq_true rfl) rfl rfl (Nat.le_of_ble_eq_true rfl) f0 rfl rfl (Nat.le_of_ble_eq_true rfl) (ctX12_skipWord l0 _) (fun r9 m10 hl11 hm12 => ?_)
    refine s_iload_n hF dX12_takesTwo_34 rfl 0 rfl ?_
    refine sim_gd (fun g13 => ?_)
    exact s_zretD hF hD dX12_takesTwo_35 rfl (nar_z g13)
theorem ctX12_takesTwo  (l0 : Nat) (l1 : Int32) (l2 : Int32) (μ : Mem) : ∀ (r : Int32) (μ' : Mem), LX12_takesTwo l0 l1 l2 μ = some (r, μ') → CtD yX12_takesTwo cX12_takesTwo 4 (some .boolean) 3 [.ref l0, .int l1, .int l2] μ (encI r) μ' := by
  refine ct_enterD plX12 (Nat.le_of_ble_eq_true rfl) (fun F hF hD hI => ?_)
  unfold LX12_takesTwo
  refine sim_gd (fun f0 => ?_)
  refine s_aload_n hF dX12_takesTwo_0 rfl 0 rfl ?_
  refine s_getI (x := (g_I μ l0 5)) hF dX12_takesTwo_1 flX12_110 f0 rfl ?_
  refine s_if_ne (tgt := 24) hF dX12_takesTwo_4 rfl (fun c1 => ?_) (fun c1 => ?_)
  · refine s_aload_n hF dX12_takesTwo_7 rfl 0 rfl ?_
    refine s_cVi (st := []) (ci := 12) [] hF hD.dr dX12_takesTwo_8 cwX12_135 (Nat.le_of_ble_eq_true rfl) (Nat.le_of_ble_eq_true rfl) rfl rfl (Nat.le_of_ble_eq_true rfl) f0 rfl rfl (Nat.le_of_ble_eq_true rfl) (ctX12_wordHere l0 _) (fun r2 m3 hl4 hm5 => ?_)
    refine s_bipush (v := (27 : Int32)) hF dX12_takesTwo_11 kB_27 ?_
    refine s_iload_n hF dX12_takesTwo_13 rfl 1 rfl ?_
    refine s_imul hF dX12_takesTwo_14 ?_
    refine s_iload_n hF dX12_takesTwo_15 rfl 2 rfl ?_
    refine s_iadd hF dX12_takesTwo_16 ?_
    refine s_icmp_ne (tgt := 24) hF dX12_takesTwo_17 rfl (fun c6 => ?_) (fun c6 => ?_)
    · refine s_iconst (v := (1 : Int32)) hF dX12_takesTwo_20 kI_1 ?_
      refine s_goto (tgt := 25) hF dX12_takesTwo_21 rfl ?_
      refine s_sub [0] rfl ?_
      exact sX12_takesTwo_25 hF hD l0 (1 : Int32) _ (isK.mo f0 hm5)
    · refine s_iconst (v := (0 : Int32)) hF dX12_takesTwo_24 kI_0 ?_
      refine s_sub [0] rfl ?_
      exact sX12_takesTwo_25 hF hD l0 (0 : Int32) _ (isK.mo f0 hm5)
  · refine s_iconst (v := (0 : Int32)) hF dX12_takesTwo_24 kI_0 ?_
    refine s_sub [0] rfl ?_
    exact sX12_takesTwo_25 hF hD l0 (0 : Int32) _ f0
theorem ctX12_knownHere  (l0 : Nat) (μ : Mem) : ∀ (r : Int32) (μ' : Mem), LX12_knownHere l0 μ = some (r, μ') → CtD yX12_knownHere cX12_knownHere 1 (some .int) 5 [.ref l0] μ (encI r) μ' := by
  refine ct_enterD plX12 (Nat.le_of_ble_eq_true rfl) (fun F hF hD hI => ?_)
  unfold LX12_knownHere
  refine sim_gd (fun f0 => ?_)
  refine s_aload_n hF dX12_knownHere_0 rfl 0 rfl ?_
  refine s_bipush (v := (9 : Int32)) hF dX12_knownHere_1 kB_9 ?_
  refine s_bipush (v := (14 : Int32)) hF dX12_knownHere_3 kB_14 ?_
  refine s_cVi (st := []) (ci := 12) [.int (9 : Int32), .int (14 : Int32)] hF hD.dr dX12_knownHere_5 cwX12_217 (Nat.le_of_ble_eq_true rfl) (Nat.le_of_ble_eq_true rfl) rfl rfl (Nat.le_of_ble_eq_true rfl) f0 rfl rfl (Nat.le_of_ble_eq_true rfl) (ctX12_takesTwo l0 (9 : Int32) (14 : Int32) _) (fun r1 m2 hl3 hm4 => ?_)
  refine s_if_eq (tgt := 13) hF dX12_knownHere_8 rfl (fun c5 => ?_) (fun c5 => ?_)
  · refine s_aload_n hF dX12_knownHere_13 rfl 0 rfl ?_
    refine s_bipush (v := (15 : Int32)) hF dX12_knownHere_14 kB_15 ?_
    refine s_bipush (v := (21 : Int32)) hF dX12_knownHere_16 kB_21 ?_
    refine s_bipush (v := (20 : Int32)) hF dX12_knownHere_18 kB_20 ?_
    refine s_iconst (v := (0 : Int32)) hF dX12_knownHere_20 kI_0 ?_
    refine s_iconst (v := (0 : Int32)) hF dX12_knownHere_21 kI_0 ?_
    refine s_iconst (v := (0 : Int32)) hF dX12_knownHere_22 kI_0 ?_
    refine s_cVi (st := []) (ci := 12) [.int (15 : Int32), .int (21 : Int32), .int (20 : Int32), .int (0 : Int32), .int (0 : Int32), .int (0 : Int32)] hF hD.dr dX12_knownHere_23 cwX12_221 (Nat.le_of_ble_eq_true rfl) (Nat.le_of_ble_eq_true rfl) rfl rfl (Nat.le_of_ble_eq_true rfl) (isK.mo f0 hm4) rfl rfl (Nat.le_of_ble_eq_true rfl) (ctX12_takes l0 (15 : Int32) (21 : Int32) (20 : Int32) (0 : Int32) (0 : Int32) (0 : Int32) _) (fun r6 m7 hl8 hm9 => ?_)
    refine s_if_eq (tgt := 31) hF dX12_knownHere_26 rfl (fun c10 => ?_) (fun c10 => ?_)
    · refine s_aload_n hF dX12_knownHere_31 rfl 0 rfl ?_
      refine s_bipush (v := (12 : Int32)) hF dX12_knownHere_32 kB_12 ?_
      refine s_bipush (v := (15 : Int32)) hF dX12_knownHere_34 kB_15 ?_
      refine s_bipush (v := (19 : Int32)) hF dX12_knownHere_36 kB_19 ?_
      refine s_bipush (v := (19 : Int32)) hF dX12_knownHere_38 kB_19 ?_
      refine s_iconst (v := (0 : Int32)) hF dX12_knownHere_40 kI_0 ?_
      refine s_iconst (v := (0 : Int32)) hF dX12_knownHere_41 kI_0 ?_
      refine s_cVi (st := []) (ci := 12) [.int (12 : Int32), .int (15 : Int32), .int (19 : Int32), .int (19 : Int32), .int (0 : Int32), .int (0 : Int32)] hF hD.dr dX12_knownHere_42 cwX12_221 (Nat.le_of_ble_eq_true rfl) (Nat.le_of_ble_eq_true rfl) rfl rfl (Nat.le_of_ble_eq_true rfl) (isK.mo (isK.mo f0 hm4) hm9) rfl rfl (Nat.le_of_ble_eq_true rfl) (ctX12_takes l0 (12 : Int32) (15 : Int32) (19 : Int32) (19 : Int32) (0 : Int32) (0 : Int32) _) (fun r11 m12 hl13 hm14 => ?_)
      refine s_if_eq (tgt := 50) hF dX12_knownHere_45 rfl (fun c15 => ?_) (fun c15 => ?_)
      · refine s_aload_n hF dX12_knownHere_50 rfl 0 rfl ?_
        refine s_bipush (v := (13 : Int32)) hF dX12_knownHere_51 kB_13 ?_
        refine s_iconst (v := (1 : Int32)) hF dX12_knownHere_53 kI_1 ?_
        refine s_bipush (v := (14 : Int32)) hF dX12_knownHere_54 kB_14 ?_
        refine s_bipush (v := (25 : Int32)) hF dX12_knownHere_56 kB_25 ?_
        refine s_iconst (v := (0 : Int32)) hF dX12_knownHere_58 kI_0 ?_
        refine s_iconst (v := (0 : Int32)) hF dX12_knownHere_59 kI_0 ?_
        refine s_cVi (st := []) (ci := 12) [.int (13 : Int32), .int (1 : Int32), .int (14 : Int32), .int (25 : Int32), .int (0 : Int32), .int (0 : Int32)] hF hD.dr dX12_knownHere_60 cwX12_221 (Nat.le_of_ble_eq_true rfl) (Nat.le_of_ble_eq_true rfl) rfl rfl (Nat.le_of_ble_eq_true rfl) (isK.mo (isK.mo (isK.mo f0 hm4) hm9) hm14) rfl rfl (Nat.le_of_ble_eq_true rfl) (ctX12_takes l0 (13 : Int32) (1 : Int32) (14 : Int32) (25 : Int32) (0 : Int32) (0 : Int32) _) (fun r16 m17 hl18 hm19 => ?_)
        refine s_if_eq (tgt := 68) hF dX12_knownHere_63 rfl (fun c20 => ?_) (fun c20 => ?_)
        · refine s_aload_n hF dX12_knownHere_68 rfl 0 rfl ?_
          refine s_iconst (v := (4 : Int32)) hF dX12_knownHere_69 kI_4 ?_
          refine s_iconst (v := (1 : Int32)) hF dX12_knownHere_70 kI_1 ?_
          refine s_bipush (v := (25 : Int32)) hF dX12_knownHere_71 kB_25 ?_
          refine s_iconst (v := (0 : Int32)) hF dX12_knownHere_73 kI_0 ?_
          refine s_iconst (v := (0 : Int32)) hF dX12_knownHere_74 kI_0 ?_
          refine s_iconst (v := (0 : Int32)) hF dX12_knownHere_75 kI_0 ?_
          refine s_cVi (st := []) (ci := 12) [.int (4 : Int32), .int (1 : Int32), .int (25 : Int32), .int (0 : Int32), .int (0 : Int32), .int (0 : Int32)] hF hD.dr dX12_knownHere_76 cwX12_221 (Nat.le_of_ble_eq_true rfl) (Nat.le_of_ble_eq_true rfl) rfl rfl (Nat.le_of_ble_eq_true rfl) (isK.mo (isK.mo (isK.mo (isK.mo f0 hm4) hm9) hm14) hm19) rfl rfl (Nat.le_of_ble_eq_true rfl) (ctX12_takes l0 (4 : Int32) (1 : Int32) (25 : Int32) (0 : Int32) (0 : Int32) (0 : Int32) _) (fun r21 m22 hl23 hm24 => ?_)
          refine s_if_eq (tgt := 84) hF dX12_knownHere_79 rfl (fun c25 => ?_) (fun c25 => ?_)
          · refine s_aload_n hF dX12_knownHere_84 rfl 0 rfl ?_
            refine s_bipush (v := (16 : Int32)) hF dX12_knownHere_85 kB_16 ?_
            refine s_iconst (v := (5 : Int32)) hF dX12_knownHere_87 kI_5 ?_
            refine s_bipush (v := (14 : Int32)) hF dX12_knownHere_88 kB_14 ?_
            refine s_iconst (v := (0 : Int32)) hF dX12_knownHere_90 kI_0 ?_
            refine s_iconst (v := (0 : Int32)) hF dX12_knownHere_91 kI_0 ?_
            refine s_iconst (v := (0 : Int32)) hF dX12_knownHere_92 kI_0 ?_
            refine s_cVi (st := []) (ci := 12) [.int (16 : Int32), .int (5 : Int32), .int (14 : Int32), .int (0 : Int32), .int (0 : Int32), .int (0 : Int32)] hF hD.dr dX12_knownHere_93 cwX12_221 (Nat.le_of_ble_eq_true rfl) (Nat.le_of_ble_eq_true rfl) rfl rfl (Nat.le_of_ble_eq_true rfl) (isK.mo (isK.mo (isK.mo (isK.mo (isK.mo f0 hm4) hm9) hm14) hm19) hm24) rfl rfl (Nat.le_of_ble_eq_true rfl) (ctX12_takes l0 (16 : Int32) (5 : Int32) (14 : Int32) (0 : Int32) (0 : Int32) (0 : Int32) _) (fun r26 m27 hl28 hm29 => ?_)
            refine s_if_eq (tgt := 101) hF dX12_knownHere_96 rfl (fun c30 => ?_) (fun c30 => ?_)
            · refine s_aload_n hF dX12_knownHere_101 rfl 0 rfl ?_
              refine s_bipush (v := (13 : Int32)) hF dX12_knownHere_102 kB_13 ?_
              refine s_bipush (v := (21 : Int32)) hF dX12_knownHere_104 kB_21 ?_
              refine s_bipush (v := (12 : Int32)) hF dX12_knownHere_106 kB_12 ?_
              refine s_iconst (v := (0 : Int32)) hF dX12_knownHere_108 kI_0 ?_
              refine s_iconst (v := (0 : Int32)) hF dX12_knownHere_109 kI_0 ?_
              refine s_iconst (v := (0 : Int32)) hF dX12_knownHere_110 kI_0 ?_
              refine s_cVi (st := []) (ci := 12) [.int (13 : Int32), .int (21 : Int32), .int (12 : Int32), .int (0 : Int32), .int (0 : Int32), .int (0 : Int32)] hF hD.dr dX12_knownHere_111 cwX12_221 (Nat.le_of_ble_eq_true rfl) (Nat.le_of_ble_eq_true rfl) rfl rfl (Nat.le_of_ble_eq_true rfl) (isK.mo (isK.mo (isK.mo (isK.mo (isK.mo (isK.mo f0 hm4) hm9) hm14) hm19) hm24) hm29) rfl rfl (Nat.le_of_ble_eq_true rfl) (ctX12_takes l0 (13 : Int32) (21 : Int32) (12 : Int32) (0 : Int32) (0 : Int32) (0 : Int32) _) (fun r31 m32 hl33 hm34 => ?_)
              refine s_if_eq (tgt := 120) hF dX12_knownHere_114 rfl (fun c35 => ?_) (fun c35 => ?_)
              · refine s_aload_n hF dX12_knownHere_120 rfl 0 rfl ?_
                refine s_iconst (v := (4 : Int32)) hF dX12_knownHere_121 kI_4 ?_
                refine s_bipush (v := (9 : Int32)) hF dX12_knownHere_122 kB_9 ?_
                refine s_bipush (v := (22 : Int32)) hF dX12_knownHere_124 kB_22 ?_
                refine s_iconst (v := (0 : Int32)) hF dX12_knownHere_126 kI_0 ?_
                refine s_iconst (v := (0 : Int32)) hF dX12_knownHere_127 kI_0 ?_
                refine s_iconst (v := (0 : Int32)) hF dX12_knownHere_128 kI_0 ?_
                refine s_cVi (st := []) (ci := 12) [.int (4 : Int32), .int (9 : Int32), .int (22 : Int32), .int (0 : Int32), .int (0 : Int32), .int (0 : Int32)] hF hD.dr dX12_knownHere_129 cwX12_221 (Nat.le_of_ble_eq_true rfl) (Nat.le_of_ble_eq_true rfl) rfl rfl (Nat.le_of_ble_eq_true rfl) (isK.mo (isK.mo (isK.mo (isK.mo (isK.mo (isK.mo (isK.mo f0 hm4) hm9) hm14) hm19) hm24) hm29) hm34) rfl rfl (Nat.le_of_ble_eq_true rfl) (ctX12_takes l0 (4 : Int32) (9 : Int32) (22 : Int32) (0 : Int32) (0 : Int32) (0 : Int32) _) (fun r36 m37 hl38 hm39 => ?_)
                refine s_if_eq (tgt := 140) hF dX12_knownHere_132 rfl (fun c40 => ?_) (fun c40 => ?_)
                · refine s_iconst (v := (-1 : Int32)) hF dX12_knownHere_140 kI_m1 ?_
                  exact s_iretD hF hD dX12_knownHere_141 rfl
                · refine s_bipush (v := (7 : Int32)) hF dX12_knownHere_135 kB_7 ?_
                  refine s_goto (tgt := 141) hF dX12_knownHere_137 rfl ?_
                  exact s_iretD hF hD dX12_knownHere_141 rfl
              · refine s_bipush (v := (6 : Int32)) hF dX12_knownHere_117 kB_6 ?_
                exact s_iretD hF hD dX12_knownHere_119 rfl
            · refine s_iconst (v := (5 : Int32)) hF dX12_knownHere_99 kI_5 ?_
              exact s_iretD hF hD dX12_knownHere_100 rfl
          · refine s_iconst (v := (4 : Int32)) hF dX12_knownHere_82 kI_4 ?_
            exact s_iretD hF hD dX12_knownHere_83 rfl
        · refine s_iconst (v := (3 : Int32)) hF dX12_knownHere_66 kI_3 ?_
          exact s_iretD hF hD dX12_knownHere_67 rfl
      · refine s_iconst (v := (2 : Int32)) hF dX12_knownHere_48 kI_2 ?_
        exact s_iretD hF hD dX12_knownHere_49 rfl
    · refine s_iconst (v := (1 : Int32)) hF dX12_knownHere_29 kI_1 ?_
      exact s_iretD hF hD dX12_knownHere_30 rfl
  · refine s_iconst (v := (0 : Int32)) hF dX12_knownHere_11 kI_0 ?_
    exact s_iretD hF hD dX12_knownHere_12 rfl
theorem sX12_one_56 {F : Option Fx} {rec : Nat → Mem → Option (Unit × Mem)} {w : Nat} (hB : 6 ≤ w) (hrec : ∀ (l0 : Nat) (μ : Mem) (r : Unit) (μ' : Mem), rec l0 μ = some (r, μ') → CtD yX12_sum cX12_sum 2 none w [.ref l0] μ (encV r) μ') (hF : FxO F RX12 cX12_one 3 (w + 1)) (hD : FxDO F none) (l0 : Nat) (k0 : Int32) (μ : Mem) (f0 : isK μ l0 12 = true) : Sim F encV 56 [(0, .ref l0)] [.int k0] μ (mX12_one_56 rec l0 k0 μ) := by
  unfold mX12_one_56
  refine s_istore_n (pls' := [(1, .int k0), (0, .ref l0)]) hF dX12_one_56 rfl (by decide) rfl ?_
  refine s_iload_n hF dX12_one_57 rfl 0 rfl ?_
  refine s_iconst (v := (-1 : Int32)) hF dX12_one_58 kI_m1 ?_
  refine s_icmp_eq (tgt := 117) hF dX12_one_59 rfl (fun c16 => ?_) (fun c16 => ?_)
  · refine s_aload_n hF dX12_one_117 rfl 1 rfl ?_
    refine s_aload_n hF dX12_one_118 rfl 1 rfl ?_
    refine s_getI (x := (g_I μ l0 4)) hF dX12_one_119 flX12_103 f0 rfl ?_
    refine s_cVi (st := []) (ci := 12) [.int (g_I μ l0 4)] hF hD.dr dX12_one_122 cwX12_106 (by omega) (Nat.le_of_ble_eq_true rfl) rfl rfl (Nat.le_of_ble_eq_true rfl) f0 rfl rfl (Nat.le_of_ble_eq_true rfl) (ctX12_byteAt l0 (g_I μ l0 4) _) (fun r17 m18 hl19 hm20 => ?_)
    refine s_bipush (v := (40 : Int32)) hF dX12_one_125 kB_40 ?_
    refine s_icmp_ne (tgt := 169) hF dX12_one_127 rfl (fun c21 => ?_) (fun c21 => ?_)
    · refine s_aload_n hF dX12_one_130 rfl 1 rfl ?_
      refine s_cVi (st := []) (ci := 12) [] hF hD.dr dX12_one_131 cwX12_224 (by omega) (Nat.le_of_ble_eq_true rfl) rfl rfl (Nat.le_of_ble_eq_true rfl) (isK.mo f0 hm20) rfl rfl (Nat.le_of_ble_eq_true rfl) (ctX12_opensOne l0 _) (fun r22 m23 hl24 hm25 => ?_)
      refine s_if_ne (tgt := 138) hF dX12_one_134 rfl (fun c26 => ?_) (fun c26 => ?_)
      · exact s_vretD hF hD dX12_one_137 rfl
      · refine s_aload_n hF dX12_one_138 rfl 1 rfl ?_
        refine s_dup hF dX12_one_139 rfl ?_
        refine s_getI (x := (g_I m23 l0 4)) hF dX12_one_140 flX12_103 (isK.mo (isK.mo f0 hm20) hm25) rfl ?_
        refine s_iconst (v := (1 : Int32)) hF dX12_one_143 kI_1 ?_
        refine s_iadd hF dX12_one_144 ?_
        refine s_putI hF dX12_one_145 flX12_103 (isK.mo (isK.mo f0 hm20) hm25) ?_
        refine s_aload_n hF dX12_one_148 rfl 1 rfl ?_
        refine s_cVv (st := []) (ci := 12) [] hF hD.dr dX12_one_149 cwX12_228 (by omega) (Nat.le_of_ble_eq_true rfl) rfl rfl (Nat.le_of_ble_eq_true rfl) (isK.mo (isK.mo f0 hm20) hm25) rfl rfl (Nat.le_of_ble_eq_true rfl) (hrec l0 _) (fun r27 m28 hl29 hm30 => ?_)
        refine s_aload_n hF dX12_one_152 rfl 1 rfl ?_
        refine s_bipush (v := (41 : Int32)) hF dX12_one_153 kB_41 ?_
        refine s_cVv (st := []) (ci := 12) [.int (41 : Int32)] hF hD.dr dX12_one_155 cwX12_163 (by omega) (Nat.le_of_ble_eq_true rfl) rfl rfl (Nat.le_of_ble_eq_true rfl) (isK.mo (isK.mo (isK.mo f0 hm20) hm25) hm30) rfl rfl (Nat.le_of_ble_eq_true rfl) (ctX12_sign l0 (41 : Int32) _) (fun r31 m32 hl33 hm34 => ?_)
        refine s_aload_n hF dX12_one_158 rfl 1 rfl ?_
        refine s_dup hF dX12_one_159 rfl ?_
        refine s_getI (x := (g_I m32 l0 8)) hF dX12_one_160 flX12_153 (isK.mo (isK.mo (isK.mo (isK.mo f0 hm20) hm25) hm30) hm34) rfl ?_
        refine s_iconst (v := (1 : Int32)) hF dX12_one_163 kI_1 ?_
        refine s_isub hF dX12_one_164 ?_
        refine s_putI hF dX12_one_165 flX12_153 (isK.mo (isK.mo (isK.mo (isK.mo f0 hm20) hm25) hm30) hm34) ?_
        exact s_vretD hF hD dX12_one_168 rfl
    · refine s_aload_n hF dX12_one_169 rfl 1 rfl ?_
      refine s_cVi (st := []) (ci := 12) [] hF hD.dr dX12_one_170 cwX12_231 (by omega) (Nat.le_of_ble_eq_true rfl) rfl rfl (Nat.le_of_ble_eq_true rfl) (isK.mo f0 hm20) rfl rfl (Nat.le_of_ble_eq_true rfl) (ctX12_knownHere l0 _) (fun r35 m36 hl37 hm38 => ?_)
      refine s_istore_n (pls' := [(2, .int r35), (1, .int k0), (0, .ref l0)]) hF dX12_one_173 rfl (by decide) rfl ?_
      refine s_iload_n hF dX12_one_174 rfl 0 rfl ?_
      refine s_iconst (v := (-1 : Int32)) hF dX12_one_175 kI_m1 ?_
      refine s_icmp_eq (tgt := 188) hF dX12_one_176 rfl (fun c39 => ?_) (fun c39 => ?_)
      · refine s_aload_n hF dX12_one_188 rfl 2 rfl ?_
        refine s_iconst (v := (0 : Int32)) hF dX12_one_189 kI_0 ?_
        refine s_aload_n hF dX12_one_190 rfl 2 rfl ?_
        refine s_iconst (v := (0 : Int32)) hF dX12_one_191 kI_0 ?_
        refine s_sipush (v := (999 : Int32)) hF dX12_one_192 kS_999 ?_
        refine s_cVi (st := [.int (0 : Int32), .ref l0]) (ci := 12) [.int (0 : Int32), .int (999 : Int32)] hF hD.dr dX12_one_195 cwX12_159 (by omega) (Nat.le_of_ble_eq_true rfl) rfl rfl (Nat.le_of_ble_eq_true rfl) (isK.mo (isK.mo f0 hm20) hm38) rfl rfl (Nat.le_of_ble_eq_true rfl) (ctX12_number l0 (0 : Int32) (999 : Int32) _) (fun r40 m41 hl42 hm43 => ?_)
        refine s_cVv (st := []) (ci := 12) [.int (0 : Int32), .int r40] hF hD.dr dX12_one_198 cwX12_211 (by omega) (Nat.le_of_ble_eq_true rfl) rfl rfl (Nat.le_of_ble_eq_true rfl) (isK.mo (isK.mo (isK.mo f0 hm20) hm38) hm43) rfl rfl (Nat.le_of_ble_eq_true rfl) (ctX12_notes l0 (0 : Int32) r40 _) (fun r44 m45 hl46 hm47 => ?_)
        exact s_vretD hF hD dX12_one_201 rfl
      · refine s_aload_n hF dX12_one_179 rfl 2 rfl ?_
        refine s_iconst (v := (1 : Int32)) hF dX12_one_180 kI_1 ?_
        refine s_iload_n hF dX12_one_181 rfl 0 rfl ?_
        refine s_cVv (st := []) (ci := 12) [.int (1 : Int32), .int r35] hF hD.dr dX12_one_182 cwX12_211 (by omega) (Nat.le_of_ble_eq_true rfl) rfl rfl (Nat.le_of_ble_eq_true rfl) (isK.mo (isK.mo f0 hm20) hm38) rfl rfl (Nat.le_of_ble_eq_true rfl) (ctX12_notes l0 (1 : Int32) r35 _) (fun r48 m49 hl50 hm51 => ?_)
        refine s_goto (tgt := 201) hF dX12_one_185 rfl ?_
        exact s_vretD hF hD dX12_one_201 rfl
  · refine s_aload_n hF dX12_one_62 rfl 1 rfl ?_
    refine s_cVi (st := []) (ci := 12) [] hF hD.dr dX12_one_63 cwX12_224 (by omega) (Nat.le_of_ble_eq_true rfl) rfl rfl (Nat.le_of_ble_eq_true rfl) f0 rfl rfl (Nat.le_of_ble_eq_true rfl) (ctX12_opensOne l0 _) (fun r52 m53 hl54 hm55 => ?_)
    refine s_if_ne (tgt := 70) hF dX12_one_66 rfl (fun c56 => ?_) (fun c56 => ?_)
    · exact s_vretD hF hD dX12_one_69 rfl
    · refine s_aload_n hF dX12_one_70 rfl 1 rfl ?_
      refine s_cVv (st := []) (ci := 12) [] hF hD.dr dX12_one_71 cwX12_147 (by omega) (Nat.le_of_ble_eq_true rfl) rfl rfl (Nat.le_of_ble_eq_true rfl) (isK.mo f0 hm55) rfl rfl (Nat.le_of_ble_eq_true rfl) (ctX12_skipWord l0 _) (fun r57 m58 hl59 hm60 => ?_)
      refine s_aload_n hF dX12_one_74 rfl 1 rfl ?_
      refine s_bipush (v := (91 : Int32)) hF dX12_one_75 kB_91 ?_
      refine s_cVv (st := []) (ci := 12) [.int (91 : Int32)] hF hD.dr dX12_one_77 cwX12_163 (by omega) (Nat.le_of_ble_eq_true rfl) rfl rfl (Nat.le_of_ble_eq_true rfl) (isK.mo (isK.mo f0 hm55) hm60) rfl rfl (Nat.le_of_ble_eq_true rfl) (ctX12_sign l0 (91 : Int32) _) (fun r61 m62 hl63 hm64 => ?_)
      refine s_aload_n hF dX12_one_80 rfl 1 rfl ?_
      refine s_cVv (st := []) (ci := 12) [] hF hD.dr dX12_one_81 cwX12_228 (by omega) (Nat.le_of_ble_eq_true rfl) rfl rfl (Nat.le_of_ble_eq_true rfl) (isK.mo (isK.mo (isK.mo f0 hm55) hm60) hm64) rfl rfl (Nat.le_of_ble_eq_true rfl) (hrec l0 _) (fun r65 m66 hl67 hm68 => ?_)
      refine s_aload_n hF dX12_one_84 rfl 1 rfl ?_
      refine s_bipush (v := (44 : Int32)) hF dX12_one_85 kB_44 ?_
      refine s_cVv (st := []) (ci := 12) [.int (44 : Int32)] hF hD.dr dX12_one_87 cwX12_163 (by omega) (Nat.le_of_ble_eq_true rfl) rfl rfl (Nat.le_of_ble_eq_true rfl) (isK.mo (isK.mo (isK.mo (isK.mo f0 hm55) hm60) hm64) hm68) rfl rfl (Nat.le_of_ble_eq_true rfl) (ctX12_sign l0 (44 : Int32) _) (fun r69 m70 hl71 hm72 => ?_)
      refine s_aload_n hF dX12_one_90 rfl 1 rfl ?_
      refine s_cVv (st := []) (ci := 12) [] hF hD.dr dX12_one_91 cwX12_228 (by omega) (Nat.le_of_ble_eq_true rfl) rfl rfl (Nat.le_of_ble_eq_true rfl) (isK.mo (isK.mo (isK.mo (isK.mo (isK.mo f0 hm55) hm60) hm64) hm68) hm72) rfl rfl (Nat.le_of_ble_eq_true rfl) (hrec l0 _) (fun r73 m74 hl75 hm76 => ?_)
      refine s_aload_n hF dX12_one_94 rfl 1 rfl ?_
      refine s_bipush (v := (93 : Int32)) hF dX12_one_95 kB_93 ?_
      refine s_cVv (st := []) (ci := 12) [.int (93 : Int32)] hF hD.dr dX12_one_97 cwX12_163 (by omega) (Nat.le_of_ble_eq_true rfl) rfl rfl (Nat.le_of_ble_eq_true rfl) (isK.mo (isK.mo (isK.mo (isK.mo (isK.mo (isK.mo f0 hm55) hm60) hm64) hm68) hm72) hm76) rfl rfl (Nat.le_of_ble_eq_true rfl) (ctX12_sign l0 (93 : Int32) _) (fun r77 m78 hl79 hm80 => ?_)
      refine s_aload_n hF dX12_one_100 rfl 1 rfl ?_
      refine s_iload_n hF dX12_one_101 rfl 0 rfl ?_
      refine s_iconst (v := (0 : Int32)) hF dX12_one_102 kI_0 ?_
      refine s_cVv (st := []) (ci := 12) [.int k0, .int (0 : Int32)] hF hD.dr dX12_one_103 cwX12_211 (by omega) (Nat.le_of_ble_eq_true rfl) rfl rfl (Nat.le_of_ble_eq_true rfl) (isK.mo (isK.mo (isK.mo (isK.mo (isK.mo (isK.mo (isK.mo f0 hm55) hm60) hm64) hm68) hm72) hm76) hm80) rfl rfl (Nat.le_of_ble_eq_true rfl) (ctX12_notes l0 k0 (0 : Int32) _) (fun r81 m82 hl83 hm84 => ?_)
      refine s_aload_n hF dX12_one_106 rfl 1 rfl ?_
      refine s_dup hF dX12_one_107 rfl ?_
      refine s_getI (x := (g_I m82 l0 8)) hF dX12_one_108 flX12_153 (isK.mo (isK.mo (isK.mo (isK.mo (isK.mo (isK.mo (isK.mo (isK.mo f0 hm55) hm60) hm64) hm68) hm72) hm76) hm80) hm84) rfl ?_
      refine s_iconst (v := (1 : Int32)) hF dX12_one_111 kI_1 ?_
      refine s_isub hF dX12_one_112 ?_
      refine s_putI hF dX12_one_113 flX12_153 (isK.mo (isK.mo (isK.mo (isK.mo (isK.mo (isK.mo (isK.mo (isK.mo f0 hm55) hm60) hm64) hm68) hm72) hm76) hm80) hm84) ?_
      exact s_vretD hF hD dX12_one_116 rfl
theorem ctX12_one {rec : Nat → Mem → Option (Unit × Mem)} {w : Nat} (hB : 6 ≤ w) (hrec : ∀ (l0 : Nat) (μ : Mem) (r : Unit) (μ' : Mem), rec l0 μ = some (r, μ') → CtD yX12_sum cX12_sum 2 none w [.ref l0] μ (encV r) μ') (l0 : Nat) (μ : Mem) : ∀ (r : Unit) (μ' : Mem), LX12_one rec l0 μ = some (r, μ') → CtD yX12_one cX12_one 3 none (w + 1) [.ref l0] μ (encV r) μ' := by
  refine ct_enterD plX12 (Nat.le_of_ble_eq_true rfl) (fun F hF hD hI => ?_)
  unfold LX12_one
  refine sim_gd (fun f0 => ?_)
  refine s_aload_n hF dX12_one_0 rfl 0 rfl ?_
  refine s_getI (x := (g_I μ l0 5)) hF dX12_one_1 flX12_110 f0 rfl ?_
  refine s_if_eq (tgt := 8) hF dX12_one_4 rfl (fun c1 => ?_) (fun c1 => ?_)
  · refine s_aload_n hF dX12_one_8 rfl 0 rfl ?_
    refine s_cVv (st := []) (ci := 12) [] hF hD.dr dX12_one_9 cwX12_116 (by omega) (Nat.le_of_ble_eq_true rfl) rfl rfl (Nat.le_of_ble_eq_true rfl) f0 rfl rfl (Nat.le_of_ble_eq_true rfl) (ctX12_blanks l0 _) (fun r2 m3 hl4 hm5 => ?_)
    refine s_aload_n hF dX12_one_12 rfl 0 rfl ?_
    refine s_bipush (v := (12 : Int32)) hF dX12_one_13 kB_12 ?_
    refine s_iconst (v := (5 : Int32)) hF dX12_one_15 kI_5 ?_
    refine s_iconst (v := (1 : Int32)) hF dX12_one_16 kI_1 ?_
    refine s_bipush (v := (19 : Int32)) hF dX12_one_17 kB_19 ?_
    refine s_bipush (v := (20 : Int32)) hF dX12_one_19 kB_20 ?_
    refine s_iconst (v := (0 : Int32)) hF dX12_one_21 kI_0 ?_
    refine s_cVi (st := []) (ci := 12) [.int (12 : Int32), .int (5 : Int32), .int (1 : Int32), .int (19 : Int32), .int (20 : Int32), .int (0 : Int32)] hF hD.dr dX12_one_22 cwX12_143 (by omega) (Nat.le_of_ble_eq_true rfl) rfl rfl (Nat.le_of_ble_eq_true rfl) (isK.mo f0 hm5) rfl rfl (Nat.le_of_ble_eq_true rfl) (ctX12_isWord l0 (12 : Int32) (5 : Int32) (1 : Int32) (19 : Int32) (20 : Int32) (0 : Int32) _) (fun r6 m7 hl8 hm9 => ?_)
    refine s_if_eq (tgt := 33) hF dX12_one_25 rfl (fun c10 => ?_) (fun c10 => ?_)
    · refine s_aload_n hF dX12_one_33 rfl 0 rfl ?_
      refine s_bipush (v := (13 : Int32)) hF dX12_one_34 kB_13 ?_
      refine s_bipush (v := (15 : Int32)) hF dX12_one_36 kB_15 ?_
      refine s_bipush (v := (19 : Int32)) hF dX12_one_38 kB_19 ?_
      refine s_bipush (v := (20 : Int32)) hF dX12_one_40 kB_20 ?_
      refine s_iconst (v := (0 : Int32)) hF dX12_one_42 kI_0 ?_
      refine s_iconst (v := (0 : Int32)) hF dX12_one_43 kI_0 ?_
      refine s_cVi (st := []) (ci := 12) [.int (13 : Int32), .int (15 : Int32), .int (19 : Int32), .int (20 : Int32), .int (0 : Int32), .int (0 : Int32)] hF hD.dr dX12_one_44 cwX12_143 (by omega) (Nat.le_of_ble_eq_true rfl) rfl rfl (Nat.le_of_ble_eq_true rfl) (isK.mo (isK.mo f0 hm5) hm9) rfl rfl (Nat.le_of_ble_eq_true rfl) (ctX12_isWord l0 (13 : Int32) (15 : Int32) (19 : Int32) (20 : Int32) (0 : Int32) (0 : Int32) _) (fun r11 m12 hl13 hm14 => ?_)
      refine s_if_eq (tgt := 55) hF dX12_one_47 rfl (fun c15 => ?_) (fun c15 => ?_)
      · refine s_iconst (v := (-1 : Int32)) hF dX12_one_55 kI_m1 ?_
        exact sX12_one_56 hB hrec hF hD l0 (-1 : Int32) _ (isK.mo (isK.mo (isK.mo f0 hm5) hm9) hm14)
      · refine s_bipush (v := (8 : Int32)) hF dX12_one_50 kB_8 ?_
        refine s_goto (tgt := 56) hF dX12_one_52 rfl ?_
        exact sX12_one_56 hB hrec hF hD l0 (8 : Int32) _ (isK.mo (isK.mo (isK.mo f0 hm5) hm9) hm14)
    · refine s_bipush (v := (7 : Int32)) hF dX12_one_28 kB_7 ?_
      refine s_goto (tgt := 56) hF dX12_one_30 rfl ?_
      exact sX12_one_56 hB hrec hF hD l0 (7 : Int32) _ (isK.mo (isK.mo f0 hm5) hm9)
  · exact s_vretD hF hD dX12_one_7 rfl
theorem sX12_product_52 {F : Option Fx} {rec : Nat → Mem → Option (Unit × Mem)} (q4 : Nat → Mem → Option (Unit × Mem)) {w : Nat} (hB : 6 ≤ w) (hrec : ∀ (l0 : Nat) (μ : Mem) (r : Unit) (μ' : Mem), rec l0 μ = some (r, μ') → CtD yX12_sum cX12_sum 2 none w [.ref l0] μ (encV r) μ') (hF : FxO F RX12 cX12_product 2 (w + 2)) (hD : FxDO F none) (hq4 : ∀ (l0 : Nat) (μ : Mem) (_ : isK μ l0 12 = true), Sim F encV 4 [(0, .ref l0)] [] μ (q4 l0 μ)) (l0 : Nat) (k0 : Int32) (μ : Mem) (f0 : isK μ l0 12 = true) : Sim F encV 52 [(0, .ref l0)] [.int k0] μ (mX12_product_52 rec q4 l0 k0 μ) := by
  unfold mX12_product_52
  refine s_istore_n (pls' := [(1, .int k0), (0, .ref l0)]) hF dX12_product_52 rfl (by decide) rfl ?_
  refine s_iload_n hF dX12_product_53 rfl 0 rfl ?_
  refine s_iconst (v := (-1 : Int32)) hF dX12_product_54 kI_m1 ?_
  refine s_icmp_ne (tgt := 59) hF dX12_product_55 rfl (fun c21 => ?_) (fun c21 => ?_)
  · exact s_vretD hF hD dX12_product_58 rfl
  · refine s_aload_n hF dX12_product_59 rfl 1 rfl ?_
    refine s_cVv (st := []) (ci := 12) [] hF hD.dr dX12_product_60 cwX12_214 (by omega) (Nat.le_of_ble_eq_true rfl) rfl rfl (Nat.le_of_ble_eq_true rfl) f0 rfl rfl (Nat.le_of_ble_eq_true rfl) (ctX12_one hB hrec l0 _) (fun r22 m23 hl24 hm25 => ?_)
    refine s_aload_n hF dX12_product_63 rfl 1 rfl ?_
    refine s_iload_n hF dX12_product_64 rfl 0 rfl ?_
    refine s_iconst (v := (0 : Int32)) hF dX12_product_65 kI_0 ?_
    refine s_cVv (st := []) (ci := 12) [.int k0, .int (0 : Int32)] hF hD.dr dX12_product_66 cwX12_211 (by omega) (Nat.le_of_ble_eq_true rfl) rfl rfl (Nat.le_of_ble_eq_true rfl) (isK.mo f0 hm25) rfl rfl (Nat.le_of_ble_eq_true rfl) (ctX12_notes l0 k0 (0 : Int32) _) (fun r26 m27 hl28 hm29 => ?_)
    refine s_goto (tgt := 4) hF dX12_product_69 rfl ?_
    refine s_sub [1] rfl ?_
    exact hq4 l0 _ (isK.mo (isK.mo f0 hm25) hm29)
theorem sX12_product_4 {F : Option Fx} {rec : Nat → Mem → Option (Unit × Mem)} {w : Nat} (hB : 6 ≤ w) (hrec : ∀ (l0 : Nat) (μ : Mem) (r : Unit) (μ' : Mem), rec l0 μ = some (r, μ') → CtD yX12_sum cX12_sum 2 none w [.ref l0] μ (encV r) μ') (hF : FxO F RX12 cX12_product 2 (w + 2)) (hD : FxDO F none) : ∀ (fu : Nat) (l0 : Nat) (μ : Mem) (f0 : isK μ l0 12 = true), Sim F encV 4 [(0, .ref l0)] [] μ (mX12_product_4 rec fu l0 μ) := by
  intro fu
  induction fu with
  | zero =>
    intro l0 μ f0
    exact sim_none
  | succ fu ih =>
    intro l0 μ f0
    rw [mX12_product_4]
    refine s_aload_n hF dX12_product_4 rfl 0 rfl ?_
    refine s_getI (x := (g_I μ l0 5)) hF dX12_product_5 flX12_110 f0 rfl ?_
    refine s_if_ne (tgt := 72) hF dX12_product_8 rfl (fun c5 => ?_) (fun c5 => ?_)
    · refine s_aload_n hF dX12_product_11 rfl 0 rfl ?_
      refine s_bipush (v := (42 : Int32)) hF dX12_product_12 kB_42 ?_
      refine s_cVi (st := []) (ci := 12) [.int (42 : Int32)] hF hD.dr dX12_product_14 cwX12_208 (by omega) (Nat.le_of_ble_eq_true rfl) rfl rfl (Nat.le_of_ble_eq_true rfl) f0 rfl rfl (Nat.le_of_ble_eq_true rfl) (ctX12_takesSign l0 (42 : Int32) _) (fun r6 m7 hl8 hm9 => ?_)
      refine s_if_eq (tgt := 24) hF dX12_product_17 rfl (fun c10 => ?_) (fun c10 => ?_)
      · refine s_aload_n hF dX12_product_24 rfl 0 rfl ?_
        refine s_bipush (v := (47 : Int32)) hF dX12_product_25 kB_47 ?_
        refine s_cVi (st := []) (ci := 12) [.int (47 : Int32)] hF hD.dr dX12_product_27 cwX12_208 (by omega) (Nat.le_of_ble_eq_true rfl) rfl rfl (Nat.le_of_ble_eq_true rfl) (isK.mo f0 hm9) rfl rfl (Nat.le_of_ble_eq_true rfl) (ctX12_takesSign l0 (47 : Int32) _) (fun r11 m12 hl13 hm14 => ?_)
        refine s_if_eq (tgt := 37) hF dX12_product_30 rfl (fun c15 => ?_) (fun c15 => ?_)
        · refine s_aload_n hF dX12_product_37 rfl 0 rfl ?_
          refine s_bipush (v := (37 : Int32)) hF dX12_product_38 kB_37 ?_
          refine s_cVi (st := []) (ci := 12) [.int (37 : Int32)] hF hD.dr dX12_product_40 cwX12_208 (by omega) (Nat.le_of_ble_eq_true rfl) rfl rfl (Nat.le_of_ble_eq_true rfl) (isK.mo (isK.mo f0 hm9) hm14) rfl rfl (Nat.le_of_ble_eq_true rfl) (ctX12_takesSign l0 (37 : Int32) _) (fun r16 m17 hl18 hm19 => ?_)
          refine s_if_eq (tgt := 51) hF dX12_product_43 rfl (fun c20 => ?_) (fun c20 => ?_)
          · refine s_iconst (v := (-1 : Int32)) hF dX12_product_51 kI_m1 ?_
            exact sX12_product_52 (fun l0 μ => mX12_product_4 rec fu l0 μ) hB hrec hF hD ih l0 (-1 : Int32) _ (isK.mo (isK.mo (isK.mo f0 hm9) hm14) hm19)
          · refine s_bipush (v := (6 : Int32)) hF dX12_product_46 kB_6 ?_
            refine s_goto (tgt := 52) hF dX12_product_48 rfl ?_
            exact sX12_product_52 (fun l0 μ => mX12_product_4 rec fu l0 μ) hB hrec hF hD ih l0 (6 : Int32) _ (isK.mo (isK.mo (isK.mo f0 hm9) hm14) hm19)
        · refine s_iconst (v := (5 : Int32)) hF dX12_product_33 kI_5 ?_
          refine s_goto (tgt := 52) hF dX12_product_34 rfl ?_
          exact sX12_product_52 (fun l0 μ => mX12_product_4 rec fu l0 μ) hB hrec hF hD ih l0 (5 : Int32) _ (isK.mo (isK.mo f0 hm9) hm14)
      · refine s_iconst (v := (4 : Int32)) hF dX12_product_20 kI_4 ?_
        refine s_goto (tgt := 52) hF dX12_product_21 rfl ?_
        exact sX12_product_52 (fun l0 μ => mX12_product_4 rec fu l0 μ) hB hrec hF hD ih l0 (4 : Int32) _ (isK.mo f0 hm9)
    · exact s_vretD hF hD dX12_product_72 rfl
theorem ctX12_product {rec : Nat → Mem → Option (Unit × Mem)} {w : Nat} (hB : 6 ≤ w) (hrec : ∀ (l0 : Nat) (μ : Mem) (r : Unit) (μ' : Mem), rec l0 μ = some (r, μ') → CtD yX12_sum cX12_sum 2 none w [.ref l0] μ (encV r) μ') (l0 : Nat) (μ : Mem) : ∀ (r : Unit) (μ' : Mem), LX12_product rec l0 μ = some (r, μ') → CtD yX12_product cX12_product 2 none (w + 2) [.ref l0] μ (encV r) μ' := by
  refine ct_enterD plX12 (Nat.le_of_ble_eq_true rfl) (fun F hF hD hI => ?_)
  unfold LX12_product
  refine sim_gd (fun f0 => ?_)
  refine s_aload_n hF dX12_product_0 rfl 0 rfl ?_
  refine s_cVv (st := []) (ci := 12) [] hF hD.dr dX12_product_1 cwX12_214 (by omega) (Nat.le_of_ble_eq_true rfl) rfl rfl (Nat.le_of_ble_eq_true rfl) f0 rfl rfl (Nat.le_of_ble_eq_true rfl) (ctX12_one hB hrec l0 _) (fun r1 m2 hl3 hm4 => ?_)
  exact sX12_product_4 hB hrec hF hD 100000 l0 _ (isK.mo f0 hm4)
theorem sX12_sum_38 {F : Option Fx} {rec : Nat → Mem → Option (Unit × Mem)} (q4 : Nat → Mem → Option (Unit × Mem)) {w : Nat} (hB : 6 ≤ w) (hrec : ∀ (l0 : Nat) (μ : Mem) (r : Unit) (μ' : Mem), rec l0 μ = some (r, μ') → CtD yX12_sum cX12_sum 2 none w [.ref l0] μ (encV r) μ') (hF : FxO F RX12 cX12_sum 2 (w + 3)) (hD : FxDO F none) (hq4 : ∀ (l0 : Nat) (μ : Mem) (_ : isK μ l0 12 = true), Sim F encV 4 [(0, .ref l0)] [] μ (q4 l0 μ)) (l0 : Nat) (k0 : Int32) (μ : Mem) (f0 : isK μ l0 12 = true) : Sim F encV 38 [(0, .ref l0)] [.int k0] μ (mX12_sum_38 rec q4 l0 k0 μ) := by
  unfold mX12_sum_38
  refine s_istore_n (pls' := [(1, .int k0), (0, .ref l0)]) hF dX12_sum_38 rfl (by decide) rfl ?_
  refine s_iload_n hF dX12_sum_39 rfl 0 rfl ?_
  refine s_iconst (v := (-1 : Int32)) hF dX12_sum_40 kI_m1 ?_
  refine s_icmp_ne (tgt := 45) hF dX12_sum_41 rfl (fun c16 => ?_) (fun c16 => ?_)
  · exact s_vretD hF hD dX12_sum_44 rfl
  · refine s_aload_n hF dX12_sum_45 rfl 1 rfl ?_
    refine s_cVv (st := []) (ci := 12) [] hF hD.dr dX12_sum_46 cwX12_205 (by omega) (Nat.le_of_ble_eq_true rfl) rfl rfl (Nat.le_of_ble_eq_true rfl) f0 rfl rfl (Nat.le_of_ble_eq_true rfl) (ctX12_product hB hrec l0 _) (fun r17 m18 hl19 hm20 => ?_)
    refine s_aload_n hF dX12_sum_49 rfl 1 rfl ?_
    refine s_iload_n hF dX12_sum_50 rfl 0 rfl ?_
    refine s_iconst (v := (0 : Int32)) hF dX12_sum_51 kI_0 ?_
    refine s_cVv (st := []) (ci := 12) [.int k0, .int (0 : Int32)] hF hD.dr dX12_sum_52 cwX12_211 (by omega) (Nat.le_of_ble_eq_true rfl) rfl rfl (Nat.le_of_ble_eq_true rfl) (isK.mo f0 hm20) rfl rfl (Nat.le_of_ble_eq_true rfl) (ctX12_notes l0 k0 (0 : Int32) _) (fun r21 m22 hl23 hm24 => ?_)
    refine s_goto (tgt := 4) hF dX12_sum_55 rfl ?_
    refine s_sub [1] rfl ?_
    exact hq4 l0 _ (isK.mo (isK.mo f0 hm20) hm24)
theorem sX12_sum_4 {F : Option Fx} {rec : Nat → Mem → Option (Unit × Mem)} {w : Nat} (hB : 6 ≤ w) (hrec : ∀ (l0 : Nat) (μ : Mem) (r : Unit) (μ' : Mem), rec l0 μ = some (r, μ') → CtD yX12_sum cX12_sum 2 none w [.ref l0] μ (encV r) μ') (hF : FxO F RX12 cX12_sum 2 (w + 3)) (hD : FxDO F none) : ∀ (fu : Nat) (l0 : Nat) (μ : Mem) (f0 : isK μ l0 12 = true), Sim F encV 4 [(0, .ref l0)] [] μ (mX12_sum_4 rec fu l0 μ) := by
  intro fu
  induction fu with
  | zero =>
    intro l0 μ f0
    exact sim_none
  | succ fu ih =>
    intro l0 μ f0
    rw [mX12_sum_4]
    refine s_aload_n hF dX12_sum_4 rfl 0 rfl ?_
    refine s_getI (x := (g_I μ l0 5)) hF dX12_sum_5 flX12_110 f0 rfl ?_
    refine s_if_ne (tgt := 58) hF dX12_sum_8 rfl (fun c5 => ?_) (fun c5 => ?_)
    · refine s_aload_n hF dX12_sum_11 rfl 0 rfl ?_
      refine s_bipush (v := (43 : Int32)) hF dX12_sum_12 kB_43 ?_
      refine s_cVi (st := []) (ci := 12) [.int (43 : Int32)] hF hD.dr dX12_sum_14 cwX12_208 (by omega) (Nat.le_of_ble_eq_true rfl) rfl rfl (Nat.le_of_ble_eq_true rfl) f0 rfl rfl (Nat.le_of_ble_eq_true rfl) (ctX12_takesSign l0 (43 : Int32) _) (fun r6 m7 hl8 hm9 => ?_)
      refine s_if_eq (tgt := 24) hF dX12_sum_17 rfl (fun c10 => ?_) (fun c10 => ?_)
      · refine s_aload_n hF dX12_sum_24 rfl 0 rfl ?_
        refine s_bipush (v := (45 : Int32)) hF dX12_sum_25 kB_45 ?_
        refine s_cVi (st := []) (ci := 12) [.int (45 : Int32)] hF hD.dr dX12_sum_27 cwX12_208 (by omega) (Nat.le_of_ble_eq_true rfl) rfl rfl (Nat.le_of_ble_eq_true rfl) (isK.mo f0 hm9) rfl rfl (Nat.le_of_ble_eq_true rfl) (ctX12_takesSign l0 (45 : Int32) _) (fun r11 m12 hl13 hm14 => ?_)
        refine s_if_eq (tgt := 37) hF dX12_sum_30 rfl (fun c15 => ?_) (fun c15 => ?_)
        · refine s_iconst (v := (-1 : Int32)) hF dX12_sum_37 kI_m1 ?_
          exact sX12_sum_38 (fun l0 μ => mX12_sum_4 rec fu l0 μ) hB hrec hF hD ih l0 (-1 : Int32) _ (isK.mo (isK.mo f0 hm9) hm14)
        · refine s_iconst (v := (3 : Int32)) hF dX12_sum_33 kI_3 ?_
          refine s_goto (tgt := 38) hF dX12_sum_34 rfl ?_
          exact sX12_sum_38 (fun l0 μ => mX12_sum_4 rec fu l0 μ) hB hrec hF hD ih l0 (3 : Int32) _ (isK.mo (isK.mo f0 hm9) hm14)
      · refine s_iconst (v := (2 : Int32)) hF dX12_sum_20 kI_2 ?_
        refine s_goto (tgt := 38) hF dX12_sum_21 rfl ?_
        exact sX12_sum_38 (fun l0 μ => mX12_sum_4 rec fu l0 μ) hB hrec hF hD ih l0 (2 : Int32) _ (isK.mo f0 hm9)
    · exact s_vretD hF hD dX12_sum_58 rfl
theorem ctX12_sum_b {rec : Nat → Mem → Option (Unit × Mem)} {w : Nat} (hB : 6 ≤ w) (hrec : ∀ (l0 : Nat) (μ : Mem) (r : Unit) (μ' : Mem), rec l0 μ = some (r, μ') → CtD yX12_sum cX12_sum 2 none w [.ref l0] μ (encV r) μ') (l0 : Nat) (μ : Mem) : ∀ (r : Unit) (μ' : Mem), LX12_sum_b rec l0 μ = some (r, μ') → CtD yX12_sum cX12_sum 2 none (w + 3) [.ref l0] μ (encV r) μ' := by
  refine ct_enterD plX12 (Nat.le_of_ble_eq_true rfl) (fun F hF hD hI => ?_)
  unfold LX12_sum_b
  refine sim_gd (fun f0 => ?_)
  refine s_aload_n hF dX12_sum_0 rfl 0 rfl ?_
  refine s_cVv (st := []) (ci := 12) [] hF hD.dr dX12_sum_1 cwX12_205 (by omega) (Nat.le_of_ble_eq_true rfl) rfl rfl (Nat.le_of_ble_eq_true rfl) f0 rfl rfl (Nat.le_of_ble_eq_true rfl) (ctX12_product hB hrec l0 _) (fun r1 m2 hl3 hm4 => ?_)
  exact sX12_sum_4 hB hrec hF hD 100000 l0 _ (isK.mo f0 hm4)
theorem ctX12_sum : ∀ (d : Nat) (l0 : Nat) (μ : Mem) (r : Unit) (μ' : Mem), LX12_sum d l0 μ = some (r, μ') → CtD yX12_sum cX12_sum 2 none (6 + 3 * d) [.ref l0] μ (encV r) μ'
  | 0, _, _ => fun r μ' h => by cases h
  | d + 1, l0, μ => fun r μ' h => ctX12_sum_b (Nat.le_add_right _ _) (fun l0 μ r μ' h => ctX12_sum d l0 μ r μ' h) l0 μ r μ' h
theorem sX12_law_85 {F : Option Fx} (hF : FxO F RX12 cX12_law 2 43) (hD : FxDO F (some .int)) (l0 : Nat) (μ : Mem) (f0 : isK μ l0 12 = true) : Sim F encI 85 [(0, .ref l0)] [] μ (mX12_law_85 l0 μ) := by
  unfold mX12_law_85
  refine s_aload_n hF dX12_law_85 rfl 0 rfl ?_
  refine s_getI (x := (g_I μ l0 5)) hF dX12_law_86 flX12_110 f0 rfl ?_
  refine s_if_eq (tgt := 97) hF dX12_law_89 rfl (fun c31 => ?_) (fun c31 => ?_)
  · refine s_aload_n hF dX12_law_97 rfl 0 rfl ?_
    refine s_iconst (v := (-1 : Int32)) hF dX12_law_98 kI_m1 ?_
    refine s_putI hF dX12_law_99 flX12_9 f0 ?_
    refine s_aload_n hF dX12_law_102 rfl 0 rfl ?_
    refine s_aload_n hF dX12_law_103 rfl 0 rfl ?_
    refine s_getI (x := (g_I (p_I μ l0 3 (-1 : Int32)) l0 18)) hF dX12_law_104 flX12_202 f0 rfl ?_
    refine s_putI hF dX12_law_107 flX12_184 f0 ?_
    refine s_aload_n hF dX12_law_110 rfl 0 rfl ?_
    refine sim_gd (fun g32 => ?_)
    refine s_getR (x := (g_R μ l0 20)) hF dX12_law_111 flX12_43 f0 g32 rfl ?_
    refine s_aload_n hF dX12_law_114 rfl 0 rfl ?_
    refine sim_gd (fun g33 => ?_)
    refine s_getR (x := (g_R μ l0 19)) hF dX12_law_115 flX12_40 f0 g33 rfl ?_
    refine s_aload_n hF dX12_law_118 rfl 0 rfl ?_
    refine s_getI (x := (g_I (p_I (p_I μ l0 3 (-1 : Int32)) l0 17 (g_I (p_I μ l0 3 (-1 : Int32)) l0 18)) l0 17)) hF dX12_law_119 flX12_184 f0 rfl ?_
    refine s_cSv (st := []) [.ref (g_R μ l0 20), .ref (g_R μ l0 19), .int (g_I (p_I (p_I μ l0 3 (-1 : Int32)) l0 17 (g_I (p_I μ l0 3 (-1 : Int32)) l0 18)) l0 17)] hF hD.dr dX12_law_122 cwX12_180 (Nat.le_of_ble_eq_true rfl) (Nat.le_of_ble_eq_true rfl) rfl rfl (Nat.le_of_ble_eq_true rfl) (ctX12_lays (g_R μ l0 20) (g_R μ l0 19) (g_I (p_I (p_I μ l0 3 (-1 : Int32)) l0 17 (g_I (p_I μ l0 3 (-1 : Int32)) l0 18)) l0 17) _) (fun r34 m35 hl36 hm37 => ?_)
    refine s_iconst (v := (1 : Int32)) hF dX12_law_125 kI_1 ?_
    exact s_iretD hF hD dX12_law_126 rfl
  · refine s_aload_n hF dX12_law_92 rfl 0 rfl ?_
    refine s_cVi (st := []) (ci := 12) [] hF hD.dr dX12_law_93 cwX12_177 (Nat.le_of_ble_eq_true rfl) (Nat.le_of_ble_eq_true rfl) rfl rfl (Nat.le_of_ble_eq_true rfl) f0 rfl rfl (Nat.le_of_ble_eq_true rfl) (ctX12_ends l0 _) (fun r38 m39 hl40 hm41 => ?_)
    exact s_iretD hF hD dX12_law_96 rfl
theorem sX12_law_30 {F : Option Fx} (hF : FxO F RX12 cX12_law 2 43) (hD : FxDO F (some .int)) (l0 : Nat) (l1 : Int32) (k0 : Int32) (k1 : Nat) (μ : Mem) (f0 : isK μ l0 12 = true) : Sim F encI 30 [(0, .ref l0), (1, .int l1)] [.int k0, .ref k1] μ (mX12_law_30 l0 l1 k0 k1 μ) := by
  unfold mX12_law_30
  refine s_iconst (v := (1 : Int32)) hF dX12_law_30 kI_1 ?_
  refine s_iconst (v := (1 : Int32)) hF dX12_law_31 kI_1 ?_
  refine sim_gd (fun g11 => ?_)
  refine s_cVi (st := []) (ci := 12) [.int k0, .int (1 : Int32), .int (1 : Int32)] hF hD.dr dX12_law_32 cwX12_167 (Nat.le_of_ble_eq_true rfl) (Nat.le_of_ble_eq_true rfl) rfl rfl (Nat.le_of_ble_eq_true rfl) g11 rfl rfl (Nat.le_of_ble_eq_true rfl) (ctX12_bad k1 k0 (1 : Int32) (1 : Int32) _) (fun r7 m8 hl9 hm10 => ?_)
  refine s_if_eq (tgt := 40) hF dX12_law_35 rfl (fun c12 => ?_) (fun c12 => ?_)
  · refine s_aload_n hF dX12_law_40 rfl 0 rfl ?_
    refine s_iload_n hF dX12_law_41 rfl 1 rfl ?_
    refine s_cVv (st := []) (ci := 12) [.int l1] hF hD.dr dX12_law_42 cwX12_171 (Nat.le_of_ble_eq_true rfl) (Nat.le_of_ble_eq_true rfl) rfl rfl (Nat.le_of_ble_eq_true rfl) (isK.mo f0 hm10) rfl rfl (Nat.le_of_ble_eq_true rfl) (ctX12_starts l0 l1 _) (fun r13 m14 hl15 hm16 => ?_)
    refine s_aload_n hF dX12_law_45 rfl 0 rfl ?_
    refine s_iconst (v := (0 : Int32)) hF dX12_law_46 kI_0 ?_
    refine s_putI hF dX12_law_47 flX12_202 (isK.mo (isK.mo f0 hm10) hm16) ?_
    refine s_aload_n hF dX12_law_50 rfl 0 rfl ?_
    refine s_cVv (st := []) (ci := 12) [] hF hD.dr dX12_law_51 cwX12_228 (Nat.le_of_ble_eq_true rfl) (Nat.le_of_ble_eq_true rfl) rfl rfl (Nat.le_of_ble_eq_true rfl) (isK.mo (isK.mo f0 hm10) hm16) rfl rfl (Nat.le_of_ble_eq_true rfl) (ctX12_sum 12 l0 _) (fun r17 m18 hl19 hm20 => ?_)
    refine s_aload_n hF dX12_law_54 rfl 0 rfl ?_
    refine s_cVv (st := []) (ci := 12) [] hF hD.dr dX12_law_55 cwX12_116 (Nat.le_of_ble_eq_true rfl) (Nat.le_of_ble_eq_true rfl) rfl rfl (Nat.le_of_ble_eq_true rfl) (isK.mo (isK.mo (isK.mo f0 hm10) hm16) hm20) rfl rfl (Nat.le_of_ble_eq_true rfl) (ctX12_blanks l0 _) (fun r21 m22 hl23 hm24 => ?_)
    refine s_aload_n hF dX12_law_58 rfl 0 rfl ?_
    refine s_getI (x := (g_I m22 l0 5)) hF dX12_law_59 flX12_110 (isK.mo (isK.mo (isK.mo (isK.mo f0 hm10) hm16) hm20) hm24) rfl ?_
    refine s_if_ne (tgt := 85) hF dX12_law_62 rfl (fun c25 => ?_) (fun c25 => ?_)
    · refine s_aload_n hF dX12_law_65 rfl 0 rfl ?_
      refine s_getI (x := (g_I m22 l0 4)) hF dX12_law_66 flX12_103 (isK.mo (isK.mo (isK.mo (isK.mo f0 hm10) hm16) hm20) hm24) rfl ?_
      refine s_aload_n hF dX12_law_69 rfl 0 rfl ?_
      refine s_getI (x := (g_I m22 l0 2)) hF dX12_law_70 flX12_100 (isK.mo (isK.mo (isK.mo (isK.mo f0 hm10) hm16) hm20) hm24) rfl ?_
      refine s_icmp_ge (tgt := 85) hF dX12_law_73 rfl (fun c26 => ?_) (fun c26 => ?_)
      · refine s_sub [0] rfl ?_
        exact sX12_law_85 hF hD l0 _ (isK.mo (isK.mo (isK.mo (isK.mo f0 hm10) hm16) hm20) hm24)
      · refine s_aload_n hF dX12_law_76 rfl 0 rfl ?_
        refine s_iconst (v := (1 : Int32)) hF dX12_law_77 kI_1 ?_
        refine s_aload_n hF dX12_law_78 rfl 0 rfl ?_
        refine s_getI (x := (g_I m22 l0 4)) hF dX12_law_79 flX12_103 (isK.mo (isK.mo (isK.mo (isK.mo f0 hm10) hm16) hm20) hm24) rfl ?_
        refine s_cVv (st := []) (ci := 12) [.int (1 : Int32), .int (g_I m22 l0 4)] hF hD.dr dX12_law_82 cwX12_123 (Nat.le_of_ble_eq_true rfl) (Nat.le_of_ble_eq_true rfl) rfl rfl (Nat.le_of_ble_eq_true rfl) (isK.mo (isK.mo (isK.mo (isK.mo f0 hm10) hm16) hm20) hm24) rfl rfl (Nat.le_of_ble_eq_true rfl) (ctX12_wrong l0 (1 : Int32) (g_I m22 l0 4) _) (fun r27 m28 hl29 hm30 => ?_)
        refine s_sub [0] rfl ?_
        exact sX12_law_85 hF hD l0 _ (isK.mo (isK.mo (isK.mo (isK.mo (isK.mo f0 hm10) hm16) hm20) hm24) hm30)
    · refine s_sub [0] rfl ?_
      exact sX12_law_85 hF hD l0 _ (isK.mo (isK.mo (isK.mo (isK.mo f0 hm10) hm16) hm20) hm24)
  · refine s_iconst (v := (0 : Int32)) hF dX12_law_38 kI_0 ?_
    exact s_iretD hF hD dX12_law_39 rfl
theorem ctX12_law  (l0 : Nat) (l1 : Int32) (μ : Mem) : ∀ (r : Int32) (μ' : Mem), LX12_law l0 l1 μ = some (r, μ') → CtD yX12_law cX12_law 2 (some .int) 43 [.ref l0, .int l1] μ (encI r) μ' := by
  refine ct_enterD plX12 (Nat.le_of_ble_eq_true rfl) (fun F hF hD hI => ?_)
  unfold LX12_law
  refine sim_gd (fun f0 => ?_)
  refine s_aload_n hF dX12_law_0 rfl 0 rfl ?_
  refine s_iconst (v := (0 : Int32)) hF dX12_law_1 kI_0 ?_
  refine s_putI hF dX12_law_2 flX12_94 f0 ?_
  refine s_aload_n hF dX12_law_5 rfl 0 rfl ?_
  refine s_iload_n hF dX12_law_6 rfl 1 rfl ?_
  refine s_iconst (v := (0 : Int32)) hF dX12_law_7 kI_0 ?_
  refine s_aload_n hF dX12_law_8 rfl 0 rfl ?_
  refine s_getI (x := (g_I (p_I μ l0 0 (0 : Int32)) l0 1)) hF dX12_law_9 flX12_97 f0 rfl ?_
  refine s_cSi (st := [.ref l0]) [.int l1, .int (0 : Int32), .int (g_I (p_I μ l0 0 (0 : Int32)) l0 1)] hF hD.dr dX12_law_12 cwX12_128 (Nat.le_of_ble_eq_true rfl) (Nat.le_of_ble_eq_true rfl) rfl rfl (Nat.le_of_ble_eq_true rfl) (ctX12_in l1 (0 : Int32) (g_I (p_I μ l0 0 (0 : Int32)) l0 1) _) (fun r1 m2 hl3 hm4 => ?_)
  refine s_if_eq (tgt := 25) hF dX12_law_15 rfl (fun c5 => ?_) (fun c5 => ?_)
  · refine s_iconst (v := (1 : Int32)) hF dX12_law_25 kI_1 ?_
    refine s_goto (tgt := 30) hF dX12_law_26 rfl ?_
    exact sX12_law_30 hF hD l0 l1 (1 : Int32) l0 _ (isK.mo f0 hm4)
  · refine s_iload_n hF dX12_law_18 rfl 1 rfl ?_
    refine s_sipush (v := (150 : Int32)) hF dX12_law_19 kS_150 ?_
    refine s_icmp_le (tgt := 29) hF dX12_law_22 rfl (fun c6 => ?_) (fun c6 => ?_)
    · refine s_iconst (v := (0 : Int32)) hF dX12_law_29 kI_0 ?_
      exact sX12_law_30 hF hD l0 l1 (0 : Int32) l0 _ (isK.mo f0 hm4)
    · refine s_iconst (v := (1 : Int32)) hF dX12_law_25 kI_1 ?_
      refine s_goto (tgt := 30) hF dX12_law_26 rfl ?_
      exact sX12_law_30 hF hD l0 l1 (1 : Int32) l0 _ (isK.mo f0 hm4)
theorem ctX12_by  (l0 : Int32) (l1 : Int32) (l2 : Int32) (μ : Mem) : ∀ (r : Int32) (μ' : Mem), LX12_by l0 l1 l2 μ = some (r, μ') → CtD yX12_by cX12_by 3 (some .int) 1 [.int l0, .int l1, .int l2] μ (encI r) μ' := by
  refine ct_enterD plX12 (Nat.le_of_ble_eq_true rfl) (fun F hF hD hI => ?_)
  unfold LX12_by
  refine s_iload_n hF dX12_by_0 rfl 0 rfl ?_
  refine sim_if (fun c1 => ?_) (fun c1 => ?_)
  · refine s_tin (v := (2 : Int32)) (tgt := 40) hF dX12_by_1 c1 (by decide) (by decide) rfl rfl ?_
    refine s_iload_n hF dX12_by_40 rfl 1 rfl ?_
    refine s_iload_n hF dX12_by_41 rfl 2 rfl ?_
    refine s_iadd hF dX12_by_42 ?_
    exact s_iretD hF hD dX12_by_43 rfl
  · refine sim_if (fun c2 => ?_) (fun c2 => ?_)
    · refine s_tin (v := (3 : Int32)) (tgt := 44) hF dX12_by_1 c2 (by decide) (by decide) rfl rfl ?_
      refine s_iload_n hF dX12_by_44 rfl 1 rfl ?_
      refine s_iload_n hF dX12_by_45 rfl 2 rfl ?_
      refine s_isub hF dX12_by_46 ?_
      exact s_iretD hF hD dX12_by_47 rfl
    · refine sim_if (fun c3 => ?_) (fun c3 => ?_)
      · refine s_tin (v := (4 : Int32)) (tgt := 48) hF dX12_by_1 c3 (by decide) (by decide) rfl rfl ?_
        refine s_iload_n hF dX12_by_48 rfl 1 rfl ?_
        refine s_iload_n hF dX12_by_49 rfl 2 rfl ?_
        refine s_imul hF dX12_by_50 ?_
        exact s_iretD hF hD dX12_by_51 rfl
      · refine sim_if (fun c4 => ?_) (fun c4 => ?_)
        · refine s_tin (v := (5 : Int32)) (tgt := 52) hF dX12_by_1 c4 (by decide) (by decide) rfl rfl ?_
          refine s_iload_n hF dX12_by_52 rfl 2 rfl ?_
          refine s_if_ne (tgt := 60) hF dX12_by_53 rfl (fun c5 => ?_) (fun c5 => ?_)
          · refine s_iconst (v := (0 : Int32)) hF dX12_by_56 kI_0 ?_
            refine s_goto (tgt := 73) hF dX12_by_57 rfl ?_
            exact s_iretD hF hD dX12_by_73 rfl
          · refine s_iload_n hF dX12_by_60 rfl 2 rfl ?_
            refine s_iconst (v := (-1 : Int32)) hF dX12_by_61 kI_m1 ?_
            refine s_icmp_ne (tgt := 70) hF dX12_by_62 rfl (fun c6 => ?_) (fun c6 => ?_)
            · refine s_iload_n hF dX12_by_65 rfl 1 rfl ?_
              refine s_ineg hF dX12_by_66 ?_
              refine s_goto (tgt := 73) hF dX12_by_67 rfl ?_
              exact s_iretD hF hD dX12_by_73 rfl
            · refine s_iload_n hF dX12_by_70 rfl 1 rfl ?_
              refine s_iload_n hF dX12_by_71 rfl 2 rfl ?_
              refine sim_gd (fun g7 => ?_)
              refine s_idiv hF dX12_by_72 g7 ?_
              exact s_iretD hF hD dX12_by_73 rfl
        · refine sim_if (fun c8 => ?_) (fun c8 => ?_)
          · refine s_tin (v := (6 : Int32)) (tgt := 74) hF dX12_by_1 c8 (by decide) (by decide) rfl rfl ?_
            refine s_iload_n hF dX12_by_74 rfl 2 rfl ?_
            refine s_if_eq (tgt := 83) hF dX12_by_75 rfl (fun c9 => ?_) (fun c9 => ?_)
            · refine s_iconst (v := (0 : Int32)) hF dX12_by_83 kI_0 ?_
              refine s_goto (tgt := 90) hF dX12_by_84 rfl ?_
              exact s_iretD hF hD dX12_by_90 rfl
            · refine s_iload_n hF dX12_by_78 rfl 2 rfl ?_
              refine s_iconst (v := (-1 : Int32)) hF dX12_by_79 kI_m1 ?_
              refine s_icmp_ne (tgt := 87) hF dX12_by_80 rfl (fun c10 => ?_) (fun c10 => ?_)
              · refine s_iconst (v := (0 : Int32)) hF dX12_by_83 kI_0 ?_
                refine s_goto (tgt := 90) hF dX12_by_84 rfl ?_
                exact s_iretD hF hD dX12_by_90 rfl
              · refine s_iload_n hF dX12_by_87 rfl 1 rfl ?_
                refine s_iload_n hF dX12_by_88 rfl 2 rfl ?_
                refine sim_gd (fun g11 => ?_)
                refine s_irem hF dX12_by_89 g11 ?_
                exact s_iretD hF hD dX12_by_90 rfl
          · refine sim_if (fun c12 => ?_) (fun c12 => ?_)
            · refine s_tin (v := (7 : Int32)) (tgt := 91) hF dX12_by_1 c12 (by decide) (by decide) rfl rfl ?_
              refine s_iload_n hF dX12_by_91 rfl 1 rfl ?_
              refine s_iload_n hF dX12_by_92 rfl 2 rfl ?_
              refine s_cSi (st := []) [.int l1, .int l2] hF hD.dr dX12_by_93 cwX12_234 (Nat.le_of_ble_eq_true rfl) (Nat.le_of_ble_eq_true rfl) rfl rfl (Nat.le_of_ble_eq_true rfl) (ctX12_less l1 l2 _) (fun r13 m14 hl15 hm16 => ?_)
              exact s_iretD hF hD dX12_by_96 rfl
            · refine s_tout (tgt := 97) hF dX12_by_1 (by have e0 := i32_ne c1 (k := (2 : Int32)) (n := 2) rfl; have e1 := i32_ne c2 (k := (3 : Int32)) (n := 3) rfl; have e2 := i32_ne c3 (k := (4 : Int32)) (n := 4) rfl; have e3 := i32_ne c4 (k := (5 : Int32)) (n := 5) rfl; have e4 := i32_ne c8 (k := (6 : Int32)) (n := 6) rfl; have e5 := i32_ne c12 (k := (7 : Int32)) (n := 7) rfl; omega) rfl ?_
              refine s_iload_n hF dX12_by_97 rfl 1 rfl ?_
              refine s_iload_n hF dX12_by_98 rfl 2 rfl ?_
              refine s_cSi (st := []) [.int l1, .int l2] hF hD.dr dX12_by_99 cwX12_237 (Nat.le_of_ble_eq_true rfl) (Nat.le_of_ble_eq_true rfl) rfl rfl (Nat.le_of_ble_eq_true rfl) (ctX12_more l1 l2 _) (fun r17 m18 hl19 hm20 => ?_)
              exact s_iretD hF hD dX12_by_102 rfl
theorem sX12_byLaw_16 {F : Option Fx} (hF : FxO F RX12 cX12_byLaw 3 2) (hD : FxDO F (some .int)) : ∀ (fu : Nat) (l0 : Nat) (l1 : Int32) (l2 : Int32) (μ : Mem) (f0 : isK μ l0 12 = true), Sim F encI 16 [(0, .ref l0), (1, .int l1), (2, .int l2)] [] μ (mX12_byLaw_16 fu l0 l1 l2 μ) := by
  intro fu
  induction fu with
  | zero =>
    intro l0 l1 l2 μ f0
    exact sim_none
  | succ fu ih =>
    intro l0 l1 l2 μ f0
    rw [mX12_byLaw_16]
    refine s_iload_n hF dX12_byLaw_16 rfl 2 rfl ?_
    refine s_aload_n hF dX12_byLaw_17 rfl 0 rfl ?_
    refine s_getI (x := (g_I μ l0 17)) hF dX12_byLaw_18 flX12_184 f0 rfl ?_
    refine s_icmp_ge (tgt := 125) hF dX12_byLaw_21 rfl (fun c5 => ?_) (fun c5 => ?_)
    · refine s_bipush (v := (99 : Int32)) hF dX12_byLaw_125 kB_99 ?_
      refine s_iconst (v := (0 : Int32)) hF dX12_byLaw_127 kI_0 ?_
      refine s_aload_n hF dX12_byLaw_128 rfl 0 rfl ?_
      refine sim_gd (fun g6 => ?_)
      refine s_getR (x := (g_R μ l0 23)) hF dX12_byLaw_129 flX12_52 f0 g6 rfl ?_
      refine s_iconst (v := (0 : Int32)) hF dX12_byLaw_132 kI_0 ?_
      refine sim_gd (fun g7 => ?_)
      refine s_iaload (x := (g_I μ (g_R μ l0 23) (0 : Int32).toNatClampNeg)) hF dX12_byLaw_133 g7 rfl ?_
      refine s_cSi (st := [.int (99 : Int32)]) [.int (0 : Int32), .int (g_I μ (g_R μ l0 23) (0 : Int32).toNatClampNeg)] hF hD.dr dX12_byLaw_134 cwX12_237 (Nat.le_of_ble_eq_true rfl) (Nat.le_of_ble_eq_true rfl) rfl rfl (Nat.le_of_ble_eq_true rfl) (ctX12_more (0 : Int32) (g_I μ (g_R μ l0 23) (0 : Int32).toNatClampNeg) _) (fun r8 m9 hl10 hm11 => ?_)
      refine s_cSi (st := []) [.int (99 : Int32), .int r8] hF hD.dr dX12_byLaw_137 cwX12_234 (Nat.le_of_ble_eq_true rfl) (Nat.le_of_ble_eq_true rfl) rfl rfl (Nat.le_of_ble_eq_true rfl) (ctX12_less (99 : Int32) r8 _) (fun r12 m13 hl14 hm15 => ?_)
      exact s_iretD hF hD dX12_byLaw_140 rfl
    · refine s_aload_n hF dX12_byLaw_24 rfl 0 rfl ?_
      refine sim_gd (fun g16 => ?_)
      refine s_getR (x := (g_R μ l0 19)) hF dX12_byLaw_25 flX12_40 f0 g16 rfl ?_
      refine s_iload_n hF dX12_byLaw_28 rfl 2 rfl ?_
      refine sim_gd (fun g17 => ?_)
      refine sim_gd (fun g18 => ?_)
      refine s_aaload (x := (g_R μ (g_R μ l0 19) l2.toNatClampNeg)) hF dX12_byLaw_29 (by decide) (by decide) g17 g18 rfl ?_
      refine s_iconst (v := (0 : Int32)) hF dX12_byLaw_30 kI_0 ?_
      refine sim_gd (fun g19 => ?_)
      refine s_iaload (x := (g_I μ (g_R μ (g_R μ l0 19) l2.toNatClampNeg) (0 : Int32).toNatClampNeg)) hF dX12_byLaw_31 g19 rfl ?_
      refine s_iconst (v := (2 : Int32)) hF dX12_byLaw_32 kI_2 ?_
      refine s_icmp_ge (tgt := 83) hF dX12_byLaw_33 rfl (fun c20 => ?_) (fun c20 => ?_)
      · refine s_iinc (v := (l1 + (-1 : Int32))) (pls' := [(1, .int (l1 + (-1 : Int32))), (0, .ref l0), (2, .int l2)]) hF dX12_byLaw_83 1 rfl rfl (by decide) rfl ?_
        refine s_aload_n hF dX12_byLaw_86 rfl 1 rfl ?_
        refine sim_gd (fun g21 => ?_)
        refine s_getR (x := (g_R μ l0 23)) hF dX12_byLaw_87 flX12_52 f0 g21 rfl ?_
        refine s_iload_n hF dX12_byLaw_90 rfl 0 rfl ?_
        refine s_iconst (v := (1 : Int32)) hF dX12_byLaw_91 kI_1 ?_
        refine s_isub hF dX12_byLaw_92 ?_
        refine s_aload_n hF dX12_byLaw_93 rfl 1 rfl ?_
        refine s_getR (x := (g_R μ l0 19)) hF dX12_byLaw_94 flX12_40 f0 g16 rfl ?_
        refine s_iload_n hF dX12_byLaw_97 rfl 2 rfl ?_
        refine s_aaload (x := (g_R μ (g_R μ l0 19) l2.toNatClampNeg)) hF dX12_byLaw_98 (by decide) (by decide) g17 g18 rfl ?_
        refine s_iconst (v := (0 : Int32)) hF dX12_byLaw_99 kI_0 ?_
        refine s_iaload (x := (g_I μ (g_R μ (g_R μ l0 19) l2.toNatClampNeg) (0 : Int32).toNatClampNeg)) hF dX12_byLaw_100 g19 rfl ?_
        refine s_aload_n hF dX12_byLaw_101 rfl 1 rfl ?_
        refine s_getR (x := (g_R μ l0 23)) hF dX12_byLaw_102 flX12_52 f0 g21 rfl ?_
        refine s_iload_n hF dX12_byLaw_105 rfl 0 rfl ?_
        refine s_iconst (v := (1 : Int32)) hF dX12_byLaw_106 kI_1 ?_
        refine s_isub hF dX12_byLaw_107 ?_
        refine sim_gd (fun g22 => ?_)
        refine s_iaload (x := (g_I μ (g_R μ l0 23) ((l1 + (-1 : Int32)) - (1 : Int32)).toNatClampNeg)) hF dX12_byLaw_108 g22 rfl ?_
        refine s_aload_n hF dX12_byLaw_109 rfl 1 rfl ?_
        refine s_getR (x := (g_R μ l0 23)) hF dX12_byLaw_110 flX12_52 f0 g21 rfl ?_
        refine s_iload_n hF dX12_byLaw_113 rfl 0 rfl ?_
        refine sim_gd (fun g23 => ?_)
        refine s_iaload (x := (g_I μ (g_R μ l0 23) (l1 + (-1 : Int32)).toNatClampNeg)) hF dX12_byLaw_114 g23 rfl ?_
        refine s_cSi (st := [.int ((l1 + (-1 : Int32)) - (1 : Int32)), .ref (g_R μ l0 23)]) [.int (g_I μ (g_R μ (g_R μ l0 19) l2.toNatClampNeg) (0 : Int32).toNatClampNeg), .int (g_I μ (g_R μ l0 23) ((l1 + (-1 : Int32)) - (1 : Int32)).toNatClampNeg), .int (g_I μ (g_R μ l0 23) (l1 + (-1 : Int32)).toNatClampNeg)] hF hD.dr dX12_byLaw_115 cwX12_240 (Nat.le_of_ble_eq_true rfl) (Nat.le_of_ble_eq_true rfl) rfl rfl (Nat.le_of_ble_eq_true rfl) (ctX12_by (g_I μ (g_R μ (g_R μ l0 19) l2.toNatClampNeg) (0 : Int32).toNatClampNeg) (g_I μ (g_R μ l0 23) ((l1 + (-1 : Int32)) - (1 : Int32)).toNatClampNeg) (g_I μ (g_R μ l0 23) (l1 + (-1 : Int32)).toNatClampNeg) _) (fun r24 m25 hl26 hm27 => ?_)
        refine sim_gd (fun g28 => ?_)
        refine s_iastore hF dX12_byLaw_118 g28 ?_
        refine s_iinc (v := (l2 + (1 : Int32))) (pls' := [(2, .int (l2 + (1 : Int32))), (1, .int (l1 + (-1 : Int32))), (0, .ref l0)]) hF dX12_byLaw_119 2 rfl rfl (by decide) rfl ?_
        refine s_goto (tgt := 16) hF dX12_byLaw_122 rfl ?_
        refine s_sub [2, 1, 0] rfl ?_
        exact ih l0 (l1 + (-1 : Int32)) (l2 + (1 : Int32)) _ (isK.mo f0 hm27)
      · refine s_aload_n hF dX12_byLaw_36 rfl 0 rfl ?_
        refine sim_gd (fun g29 => ?_)
        refine s_getR (x := (g_R μ l0 23)) hF dX12_byLaw_37 flX12_52 f0 g29 rfl ?_
        refine s_iload_n hF dX12_byLaw_40 rfl 1 rfl ?_
        refine s_aload_n hF dX12_byLaw_41 rfl 0 rfl ?_
        refine s_getR (x := (g_R μ l0 19)) hF dX12_byLaw_42 flX12_40 f0 g16 rfl ?_
        refine s_iload_n hF dX12_byLaw_45 rfl 2 rfl ?_
        refine s_aaload (x := (g_R μ (g_R μ l0 19) l2.toNatClampNeg)) hF dX12_byLaw_46 (by decide) (by decide) g17 g18 rfl ?_
        refine s_iconst (v := (0 : Int32)) hF dX12_byLaw_47 kI_0 ?_
        refine s_iaload (x := (g_I μ (g_R μ (g_R μ l0 19) l2.toNatClampNeg) (0 : Int32).toNatClampNeg)) hF dX12_byLaw_48 g19 rfl ?_
        refine s_if_ne (tgt := 63) hF dX12_byLaw_49 rfl (fun c30 => ?_) (fun c30 => ?_)
        · refine s_aload_n hF dX12_byLaw_52 rfl 0 rfl ?_
          refine s_getR (x := (g_R μ l0 19)) hF dX12_byLaw_53 flX12_40 f0 g16 rfl ?_
          refine s_iload_n hF dX12_byLaw_56 rfl 2 rfl ?_
          refine s_aaload (x := (g_R μ (g_R μ l0 19) l2.toNatClampNeg)) hF dX12_byLaw_57 (by decide) (by decide) g17 g18 rfl ?_
          refine s_iconst (v := (1 : Int32)) hF dX12_byLaw_58 kI_1 ?_
          refine sim_gd (fun g31 => ?_)
          refine s_iaload (x := (g_I μ (g_R μ (g_R μ l0 19) l2.toNatClampNeg) (1 : Int32).toNatClampNeg)) hF dX12_byLaw_59 g31 rfl ?_
          refine s_goto (tgt := 76) hF dX12_byLaw_60 rfl ?_
          refine sim_gd (fun g32 => ?_)
          refine s_iastore hF dX12_byLaw_76 g32 ?_
          refine s_iinc (v := (l1 + (1 : Int32))) (pls' := [(1, .int (l1 + (1 : Int32))), (0, .ref l0), (2, .int l2)]) hF dX12_byLaw_77 1 rfl rfl (by decide) rfl ?_
          refine s_goto (tgt := 119) hF dX12_byLaw_80 rfl ?_
          refine s_iinc (v := (l2 + (1 : Int32))) (pls' := [(2, .int (l2 + (1 : Int32))), (1, .int (l1 + (1 : Int32))), (0, .ref l0)]) hF dX12_byLaw_119 2 rfl rfl (by decide) rfl ?_
          refine s_goto (tgt := 16) hF dX12_byLaw_122 rfl ?_
          refine s_sub [2, 1, 0] rfl ?_
          exact ih l0 (l1 + (1 : Int32)) (l2 + (1 : Int32)) _ f0
        · refine s_aload_n hF dX12_byLaw_63 rfl 0 rfl ?_
          refine sim_gd (fun g33 => ?_)
          refine s_getR (x := (g_R μ l0 24)) hF dX12_byLaw_64 flX12_55 f0 g33 rfl ?_
          refine s_aload_n hF dX12_byLaw_67 rfl 0 rfl ?_
          refine s_getR (x := (g_R μ l0 19)) hF dX12_byLaw_68 flX12_40 f0 g16 rfl ?_
          refine s_iload_n hF dX12_byLaw_71 rfl 2 rfl ?_
          refine s_aaload (x := (g_R μ (g_R μ l0 19) l2.toNatClampNeg)) hF dX12_byLaw_72 (by decide) (by decide) g17 g18 rfl ?_
          refine s_iconst (v := (1 : Int32)) hF dX12_byLaw_73 kI_1 ?_
          refine sim_gd (fun g34 => ?_)
          refine s_iaload (x := (g_I μ (g_R μ (g_R μ l0 19) l2.toNatClampNeg) (1 : Int32).toNatClampNeg)) hF dX12_byLaw_74 g34 rfl ?_
          refine sim_gd (fun g35 => ?_)
          refine s_iaload (x := (g_I μ (g_R μ l0 24) (g_I μ (g_R μ (g_R μ l0 19) l2.toNatClampNeg) (1 : Int32).toNatClampNeg).toNatClampNeg)) hF dX12_byLaw_75 g35 rfl ?_
          refine sim_gd (fun g36 => ?_)
          refine s_iastore hF dX12_byLaw_76 g36 ?_
          refine s_iinc (v := (l1 + (1 : Int32))) (pls' := [(1, .int (l1 + (1 : Int32))), (0, .ref l0), (2, .int l2)]) hF dX12_byLaw_77 1 rfl rfl (by decide) rfl ?_
          refine s_goto (tgt := 119) hF dX12_byLaw_80 rfl ?_
          refine s_iinc (v := (l2 + (1 : Int32))) (pls' := [(2, .int (l2 + (1 : Int32))), (1, .int (l1 + (1 : Int32))), (0, .ref l0)]) hF dX12_byLaw_119 2 rfl rfl (by decide) rfl ?_
          refine s_goto (tgt := 16) hF dX12_byLaw_122 rfl ?_
          refine s_sub [2, 1, 0] rfl ?_
          exact ih l0 (l1 + (1 : Int32)) (l2 + (1 : Int32)) _ f0
theorem ctX12_byLaw  (l0 : Nat) (μ : Mem) : ∀ (r : Int32) (μ' : Mem), LX12_byLaw l0 μ = some (r, μ') → CtD yX12_byLaw cX12_byLaw 3 (some .int) 2 [.ref l0] μ (encI r) μ' := by
  refine ct_enterD plX12 (Nat.le_of_ble_eq_true rfl) (fun F hF hD hI => ?_)
  unfold LX12_byLaw
  refine sim_gd (fun f0 => ?_)
  refine s_iconst (v := (0 : Int32)) hF dX12_byLaw_0 kI_0 ?_
  refine s_istore_n (pls' := [(1, .int (0 : Int32)), (0, .ref l0)]) hF dX12_byLaw_1 rfl (by decide) rfl ?_
  refine s_aload_n hF dX12_byLaw_2 rfl 1 rfl ?_
  refine sim_gd (fun g1 => ?_)
  refine s_getR (x := (g_R μ l0 23)) hF dX12_byLaw_3 flX12_52 f0 g1 rfl ?_
  refine s_iconst (v := (0 : Int32)) hF dX12_byLaw_6 kI_0 ?_
  refine s_aload_n hF dX12_byLaw_7 rfl 1 rfl ?_
  refine sim_gd (fun g2 => ?_)
  refine s_getR (x := (g_R μ l0 24)) hF dX12_byLaw_8 flX12_55 f0 g2 rfl ?_
  refine s_iconst (v := (2 : Int32)) hF dX12_byLaw_11 kI_2 ?_
  refine sim_gd (fun g3 => ?_)
  refine s_iaload (x := (g_I μ (g_R μ l0 24) (2 : Int32).toNatClampNeg)) hF dX12_byLaw_12 g3 rfl ?_
  refine sim_gd (fun g4 => ?_)
  refine s_iastore hF dX12_byLaw_13 g4 ?_
  refine s_iconst (v := (0 : Int32)) hF dX12_byLaw_14 kI_0 ?_
  refine s_istore_n (pls' := [(2, .int (0 : Int32)), (1, .int (0 : Int32)), (0, .ref l0)]) hF dX12_byLaw_15 rfl (by decide) rfl ?_
  refine s_sub [2, 1, 0] rfl ?_
  exact sX12_byLaw_16 hF hD 100000 l0 (0 : Int32) (0 : Int32) _ f0
