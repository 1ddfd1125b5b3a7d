theorem ctX11_init  (l0 : Nat) (μ : Mem) : ∀ (r : Unit) (μ' : Mem), LX11_init l0 μ = some (r, μ') → CtX yX11_init cX11_init 1 none 4 [.ref l0] μ (encV r) μ' := by
  refine ct_enterX plX11 (Nat.le_of_ble_eq_true rfl) (fun F hF hD hI => ?_)
  unfold LX11_init
  refine sim_gd (fun f0 => ?_)
  refine s_aload_n hF dX11_init_0 rfl 0 rfl ?_
  refine s_objInit hF dX11_init_1 mlX11_1 obi obc (Nat.le_of_ble_eq_true rfl) (Nat.le_of_ble_eq_true rfl) ?_
  refine s_aload_n hF dX11_init_4 rfl 0 rfl ?_
  refine s_newN hF dX11_init_5 clX11_7 insX9 wnX9 ckX9 (fun r1 m2 hk3 hm4 => ?_)
  refine s_dup hF dX11_init_8 rfl ?_
  refine s_xINv (st := [.ref r1, .ref l0]) [] hF hD dX11_init_9 cwX11_9 (Nat.le_of_ble_eq_true rfl) (Nat.le_of_ble_eq_true rfl) rfl rfl (Nat.le_of_ble_eq_true rfl) (ctX9_init r1 _) (fun r5 m6 hl7 hm8 => ?_)
  refine s_putRF hF (hI rfl) dX11_init_12 flX11_10 (isK.mo (isK.mo f0 hm4) hm8) ((isK_iff.mp (isK.mo hk3 hm8)).1) ?_
  refine s_aload_n hF dX11_init_15 rfl 0 rfl ?_
  refine s_newN hF dX11_init_16 clX11_16 insX10 wnX10 ckX10 (fun r11 m12 hk13 hm14 => ?_)
  refine s_dup hF dX11_init_19 rfl ?_
  refine s_xINv (st := [.ref r11, .ref l0]) [] hF hD dX11_init_20 cwX11_18 (Nat.le_of_ble_eq_true rfl) (Nat.le_of_ble_eq_true rfl) rfl rfl (Nat.le_of_ble_eq_true rfl) (ctX10_init r11 _) (fun r15 m16 hl17 hm18 => ?_)
  refine s_putRF hF (hI rfl) dX11_init_23 flX11_19 (isK.mo (isK.mo (isK.mo (isK.mo f0 hm4) hm8) hm14) hm18) ((isK_iff.mp (isK.mo hk13 hm18)).1) ?_
  refine s_aload_n hF dX11_init_26 rfl 0 rfl ?_
  refine s_newN hF dX11_init_27 clX11_23 insX2 wnX2 ckX2 (fun r21 m22 hk23 hm24 => ?_)
  refine s_dup hF dX11_init_30 rfl ?_
  refine s_xINv (st := [.ref r21, .ref l0]) [] hF hD dX11_init_31 cwX11_25 (Nat.le_of_ble_eq_true rfl) (Nat.le_of_ble_eq_true rfl) rfl rfl (Nat.le_of_ble_eq_true rfl) (ctX2_init r21 _) (fun r25 m26 hl27 hm28 => ?_)
  refine s_putRF hF (hI rfl) dX11_init_34 flX11_26 (isK.mo (isK.mo (isK.mo (isK.mo (isK.mo (isK.mo f0 hm4) hm8) hm14) hm18) hm24) hm28) ((isK_iff.mp (isK.mo hk23 hm28)).1) ?_
  refine s_aload_n hF dX11_init_37 rfl 0 rfl ?_
  refine s_newN hF dX11_init_38 clX11_30 insX8 wnX8 ckX8 (fun r31 m32 hk33 hm34 => ?_)
  refine s_dup hF dX11_init_41 rfl ?_
  refine s_xIv (st := [.ref r31, .ref l0]) [] hF hD dX11_init_42 cwX11_32 (Nat.le_of_ble_eq_true rfl) (Nat.le_of_ble_eq_true rfl) rfl rfl (Nat.le_of_ble_eq_true rfl) (ctX8_init r31 _) (fun r35 m36 hl37 hm38 => ?_)
  refine s_putRF hF (hI rfl) dX11_init_45 flX11_33 (isK.mo (isK.mo (isK.mo (isK.mo (isK.mo (isK.mo (isK.mo (isK.mo f0 hm4) hm8) hm14) hm18) hm24) hm28) hm34) hm38) ((isK_iff.mp (isK.mo hk33 hm38)).1) ?_
  refine s_aload_n hF dX11_init_48 rfl 0 rfl ?_
  refine s_newN hF dX11_init_49 clX11_37 insX7 wnX7 ckX7 (fun r41 m42 hk43 hm44 => ?_)
  refine s_dup hF dX11_init_52 rfl ?_
  refine s_xINv (st := [.ref r41, .ref l0]) [] hF hD dX11_init_53 cwX11_39 (Nat.le_of_ble_eq_true rfl) (Nat.le_of_ble_eq_true rfl) rfl rfl (Nat.le_of_ble_eq_true rfl) (ctX7_init r41 _) (fun r45 m46 hl47 hm48 => ?_)
  refine s_putRF hF (hI rfl) dX11_init_56 flX11_40 (isK.mo (isK.mo (isK.mo (isK.mo (isK.mo (isK.mo (isK.mo (isK.mo (isK.mo (isK.mo f0 hm4) hm8) hm14) hm18) hm24) hm28) hm34) hm38) hm44) hm48) ((isK_iff.mp (isK.mo hk43 hm48)).1) ?_
  refine s_aload_n hF dX11_init_59 rfl 0 rfl ?_
  refine s_newN hF dX11_init_60 clX11_44 insX6 wnX6 ckX6 (fun r51 m52 hk53 hm54 => ?_)
  refine s_dup hF dX11_init_63 rfl ?_
  refine s_xINv (st := [.ref r51, .ref l0]) [] hF hD dX11_init_64 cwX11_46 (Nat.le_of_ble_eq_true rfl) (Nat.le_of_ble_eq_true rfl) rfl rfl (Nat.le_of_ble_eq_true rfl) (ctX6_init r51 _) (fun r55 m56 hl57 hm58 => ?_)
  refine s_putRF hF (hI rfl) dX11_init_67 flX11_47 (isK.mo (isK.mo (isK.mo (isK.mo (isK.mo (isK.mo (isK.mo (isK.mo (isK.mo (isK.mo (isK.mo (isK.mo f0 hm4) hm8) hm14) hm18) hm24) hm28) hm34) hm38) hm44) hm48) hm54) hm58) ((isK_iff.mp (isK.mo hk53 hm58)).1) ?_
  refine s_aload_n hF dX11_init_70 rfl 0 rfl ?_
  refine s_newN hF dX11_init_71 clX11_51 insX5 wnX5 ckX5 (fun r61 m62 hk63 hm64 => ?_)
  refine s_dup hF dX11_init_74 rfl ?_
  refine s_xINv (st := [.ref r61, .ref l0]) [] hF hD dX11_init_75 cwX11_53 (Nat.le_of_ble_eq_true rfl) (Nat.le_of_ble_eq_true rfl) rfl rfl (Nat.le_of_ble_eq_true rfl) (ctX5_init r61 _) (fun r65 m66 hl67 hm68 => ?_)
  refine s_putRF hF (hI rfl) dX11_init_78 flX11_54 (isK.mo (isK.mo (isK.mo (isK.mo (isK.mo (isK.mo (isK.mo (isK.mo (isK.mo (isK.mo (isK.mo (isK.mo (isK.mo (isK.mo f0 hm4) hm8) hm14) hm18) hm24) hm28) hm34) hm38) hm44) hm48) hm54) hm58) hm64) hm68) ((isK_iff.mp (isK.mo hk63 hm68)).1) ?_
  refine s_aload_n hF dX11_init_81 rfl 0 rfl ?_
  refine s_sipush (v := (1001 : Int32)) hF dX11_init_82 kS_1001 ?_
  refine s_newIN (1001) hF dX11_init_85 ac_int (by decide) rfl (Nat.le_of_ble_eq_true rfl) (fun r71 m72 hk73 hm74 => ?_)
  refine s_putRF hF (hI rfl) dX11_init_87 flX11_58 (isK.mo (isK.mo (isK.mo (isK.mo (isK.mo (isK.mo (isK.mo (isK.mo (isK.mo (isK.mo (isK.mo (isK.mo (isK.mo (isK.mo (isK.mo f0 hm4) hm8) hm14) hm18) hm24) hm28) hm34) hm38) hm44) hm48) hm54) hm58) hm64) hm68) hm74) ((isK_iff.mp hk73).1) ?_
  refine s_aload_n hF dX11_init_90 rfl 0 rfl ?_
  refine s_iconst (v := (5 : Int32)) hF dX11_init_91 kI_5 ?_
  refine s_newIN (5) hF dX11_init_92 ac_int (by decide) rfl (Nat.le_of_ble_eq_true rfl) (fun r75 m76 hk77 hm78 => ?_)
  refine s_putRF hF (hI rfl) dX11_init_94 flX11_62 (isK.mo (isK.mo (isK.mo (isK.mo (isK.mo (isK.mo (isK.mo (isK.mo (isK.mo (isK.mo (isK.mo (isK.mo (isK.mo (isK.mo (isK.mo (isK.mo f0 hm4) hm8) hm14) hm18) hm24) hm28) hm34) hm38) hm44) hm48) hm54) hm58) hm64) hm68) hm74) hm78) ((isK_iff.mp hk77).1) ?_
  refine s_aload_n hF dX11_init_97 rfl 0 rfl ?_
  refine s_newN hF dX11_init_98 clX11_65 insX3 wnX3 ckX3 (fun r79 m80 hk81 hm82 => ?_)
  refine s_dup hF dX11_init_101 rfl ?_
  refine s_xINv (st := [.ref r79, .ref l0]) [] hF hD dX11_init_102 cwX11_67 (Nat.le_of_ble_eq_true rfl) (Nat.le_of_ble_eq_true rfl) rfl rfl (Nat.le_of_ble_eq_true rfl) (ctX3_init r79 _) (fun r83 m84 hl85 hm86 => ?_)
  refine s_putR hF dX11_init_105 flX11_68 (isK.mo (isK.mo (isK.mo (isK.mo (isK.mo (isK.mo (isK.mo (isK.mo (isK.mo (isK.mo (isK.mo (isK.mo (isK.mo (isK.mo (isK.mo (isK.mo (isK.mo (isK.mo f0 hm4) hm8) hm14) hm18) hm24) hm28) hm34) hm38) hm44) hm48) hm54) hm58) hm64) hm68) hm74) hm78) hm82) hm86) ((isK_iff.mp (isK.mo hk81 hm86)).1) ?_
  refine s_aload_n hF dX11_init_108 rfl 0 rfl ?_
  refine s_newN hF dX11_init_109 clX11_65 insX3 wnX3 ckX3 (fun r89 m90 hk91 hm92 => ?_)
  refine s_dup hF dX11_init_112 rfl ?_
  refine s_xINv (st := [.ref r89, .ref l0]) [] hF hD dX11_init_113 cwX11_67 (Nat.le_of_ble_eq_true rfl) (Nat.le_of_ble_eq_true rfl) rfl rfl (Nat.le_of_ble_eq_true rfl) (ctX3_init r89 _) (fun r93 m94 hl95 hm96 => ?_)
  refine s_putR hF dX11_init_116 flX11_72 (isK.mo (isK.mo (isK.mo (isK.mo (isK.mo (isK.mo (isK.mo (isK.mo (isK.mo (isK.mo (isK.mo (isK.mo (isK.mo (isK.mo (isK.mo (isK.mo (isK.mo (isK.mo (isK.mo (isK.mo f0 hm4) hm8) hm14) hm18) hm24) hm28) hm34) hm38) hm44) hm48) hm54) hm58) hm64) hm68) hm74) hm78) hm82) hm86) hm92) hm96) ((isK_iff.mp (isK.mo hk91 hm96)).1) ?_
  refine s_aload_n hF dX11_init_119 rfl 0 rfl ?_
  refine s_newN hF dX11_init_120 clX11_75 insX4 wnX4 ckX4 (fun r99 m100 hk101 hm102 => ?_)
  refine s_dup hF dX11_init_123 rfl ?_
  refine s_xIv (st := [.ref r99, .ref l0]) [] hF hD dX11_init_124 cwX11_77 (Nat.le_of_ble_eq_true rfl) (Nat.le_of_ble_eq_true rfl) rfl rfl (Nat.le_of_ble_eq_true rfl) (ctX4_init r99 _) (fun r103 m104 hl105 hm106 => ?_)
  refine s_putR hF dX11_init_127 flX11_78 (isK.mo (isK.mo (isK.mo (isK.mo (isK.mo (isK.mo (isK.mo (isK.mo (isK.mo (isK.mo (isK.mo (isK.mo (isK.mo (isK.mo (isK.mo (isK.mo (isK.mo (isK.mo (isK.mo (isK.mo (isK.mo (isK.mo f0 hm4) hm8) hm14) hm18) hm24) hm28) hm34) hm38) hm44) hm48) hm54) hm58) hm64) hm68) hm74) hm78) hm82) hm86) hm92) hm96) hm102) hm106) ((isK_iff.mp (isK.mo hk101 hm106)).1) ?_
  refine s_aload_n hF dX11_init_130 rfl 0 rfl ?_
  refine s_newN hF dX11_init_131 clX11_75 insX4 wnX4 ckX4 (fun r109 m110 hk111 hm112 => ?_)
  refine s_dup hF dX11_init_134 rfl ?_
  refine s_xIv (st := [.ref r109, .ref l0]) [] hF hD dX11_init_135 cwX11_77 (Nat.le_of_ble_eq_true rfl) (Nat.le_of_ble_eq_true rfl) rfl rfl (Nat.le_of_ble_eq_true rfl) (ctX4_init r109 _) (fun r113 m114 hl115 hm116 => ?_)
  refine s_putR hF dX11_init_138 flX11_82 (isK.mo (isK.mo (isK.mo (isK.mo (isK.mo (isK.mo (isK.mo (isK.mo (isK.mo (isK.mo (isK.mo (isK.mo (isK.mo (isK.mo (isK.mo (isK.mo (isK.mo (isK.mo (isK.mo (isK.mo (isK.mo (isK.mo (isK.mo (isK.mo f0 hm4) hm8) hm14) hm18) hm24) hm28) hm34) hm38) hm44) hm48) hm54) hm58) hm64) hm68) hm74) hm78) hm82) hm86) hm92) hm96) hm102) hm106) hm112) hm116) ((isK_iff.mp (isK.mo hk111 hm116)).1) ?_
  refine s_aload_n hF dX11_init_141 rfl 0 rfl ?_
  refine s_newN hF dX11_init_142 clX11_85 insX1 wnX1 ckX1 (fun r119 m120 hk121 hm122 => ?_)
  refine s_dup hF dX11_init_145 rfl ?_
  refine s_xINv (st := [.ref r119, .ref l0]) [] hF hD dX11_init_146 cwX11_87 (Nat.le_of_ble_eq_true rfl) (Nat.le_of_ble_eq_true rfl) rfl rfl (Nat.le_of_ble_eq_true rfl) (ctX1_init r119 _) (fun r123 m124 hl125 hm126 => ?_)
  refine s_putR hF dX11_init_149 flX11_88 (isK.mo (isK.mo (isK.mo (isK.mo (isK.mo (isK.mo (isK.mo (isK.mo (isK.mo (isK.mo (isK.mo (isK.mo (isK.mo (isK.mo (isK.mo (isK.mo (isK.mo (isK.mo (isK.mo (isK.mo (isK.mo (isK.mo (isK.mo (isK.mo (isK.mo (isK.mo f0 hm4) hm8) hm14) hm18) hm24) hm28) hm34) hm38) hm44) hm48) hm54) hm58) hm64) hm68) hm74) hm78) hm82) hm86) hm92) hm96) hm102) hm106) hm112) hm116) hm122) hm126) ((isK_iff.mp (isK.mo hk121 hm126)).1) ?_
  refine s_aload_n hF dX11_init_152 rfl 0 rfl ?_
  refine s_newN hF dX11_init_153 clX11_85 insX1 wnX1 ckX1 (fun r129 m130 hk131 hm132 => ?_)
  refine s_dup hF dX11_init_156 rfl ?_
  refine s_xINv (st := [.ref r129, .ref l0]) [] hF hD dX11_init_157 cwX11_87 (Nat.le_of_ble_eq_true rfl) (Nat.le_of_ble_eq_true rfl) rfl rfl (Nat.le_of_ble_eq_true rfl) (ctX1_init r129 _) (fun r133 m134 hl135 hm136 => ?_)
  refine s_putR hF dX11_init_160 flX11_92 (isK.mo (isK.mo (isK.mo (isK.mo (isK.mo (isK.mo (isK.mo (isK.mo (isK.mo (isK.mo (isK.mo (isK.mo (isK.mo (isK.mo (isK.mo (isK.mo (isK.mo (isK.mo (isK.mo (isK.mo (isK.mo (isK.mo (isK.mo (isK.mo (isK.mo (isK.mo (isK.mo (isK.mo f0 hm4) hm8) hm14) hm18) hm24) hm28) hm34) hm38) hm44) hm48) hm54) hm58) hm64) hm68) hm74) hm78) hm82) hm86) hm92) hm96) hm102) hm106) hm112) hm116) hm122) hm126) hm132) hm136) ((isK_iff.mp (isK.mo hk131 hm136)).1) ?_
  refine s_aload_n hF dX11_init_163 rfl 0 rfl ?_
  refine s_newN hF dX11_init_164 clX11_95 insX0 wnX0 ckX0 (fun r139 m140 hk141 hm142 => ?_)
  refine s_dup hF dX11_init_167 rfl ?_
  refine s_xINv (st := [.ref r139, .ref l0]) [] hF hD dX11_init_168 cwX11_97 (Nat.le_of_ble_eq_true rfl) (Nat.le_of_ble_eq_true rfl) rfl rfl (Nat.le_of_ble_eq_true rfl) (ctX0_init r139 _) (fun r143 m144 hl145 hm146 => ?_)
  refine s_putR hF dX11_init_171 flX11_98 (isK.mo (isK.mo (isK.mo (isK.mo (isK.mo (isK.mo (isK.mo (isK.mo (isK.mo (isK.mo (isK.mo (isK.mo (isK.mo (isK.mo (isK.mo (isK.mo (isK.mo (isK.mo (isK.mo (isK.mo (isK.mo (isK.mo (isK.mo (isK.mo (isK.mo (isK.mo (isK.mo (isK.mo (isK.mo (isK.mo f0 hm4) hm8) hm14) hm18) hm24) hm28) hm34) hm38) hm44) hm48) hm54) hm58) hm64) hm68) hm74) hm78) hm82) hm86) hm92) hm96) hm102) hm106) hm112) hm116) hm122) hm126) hm132) hm136) hm142) hm146) ((isK_iff.mp (isK.mo hk141 hm146)).1) ?_
  refine s_aload_n hF dX11_init_174 rfl 0 rfl ?_
  refine s_newN hF dX11_init_175 clX11_95 insX0 wnX0 ckX0 (fun r149 m150 hk151 hm152 => ?_)
  refine s_dup hF dX11_init_178 rfl ?_
  refine s_xINv (st := [.ref r149, .ref l0]) [] hF hD dX11_init_179 cwX11_97 (Nat.le_of_ble_eq_true rfl) (Nat.le_of_ble_eq_true rfl) rfl rfl (Nat.le_of_ble_eq_true rfl) (ctX0_init r149 _) (fun r153 m154 hl155 hm156 => ?_)
  refine s_putR hF dX11_init_182 flX11_102 (isK.mo (isK.mo (isK.mo (isK.mo (isK.mo (isK.mo (isK.mo (isK.mo (isK.mo (isK.mo (isK.mo (isK.mo (isK.mo (isK.mo (isK.mo (isK.mo (isK.mo (isK.mo (isK.mo (isK.mo (isK.mo (isK.mo (isK.mo (isK.mo (isK.mo (isK.mo (isK.mo (isK.mo (isK.mo (isK.mo (isK.mo (isK.mo f0 hm4) hm8) hm14) hm18) hm24) hm28) hm34) hm38) hm44) hm48) hm54) hm58) hm64) hm68) hm74) hm78) hm82) hm86) hm92) hm96) hm102) hm106) hm112) hm116) hm122) hm126) hm132) hm136) hm142) hm146) hm152) hm156) ((isK_iff.mp (isK.mo hk151 hm156)).1) ?_
  exact s_vretX hF hD dX11_init_185 rfl
theorem ctX11_feed  (l0 : Nat) (l1 : Int32) (l2 : Int32) (l3 : Int32) (l4 : Int32) (l5 : Int32) (μ : Mem) : ∀ (r : Int32) (μ' : Mem), LX11_feed l0 l1 l2 l3 l4 l5 μ = some (r, μ') → CtX yX11_feed cX11_feed 6 (some .int) 1 [.ref l0, .int l1, .int l2, .int l3, .int l4, .int l5] μ (encI r) μ' := by
  refine ct_enterX plX11 (Nat.le_of_ble_eq_true rfl) (fun F hF hD hI => ?_)
  unfold LX11_feed
  refine sim_gd (fun f0 => ?_)
  refine s_aload_n hF dX11_feed_0 rfl 0 rfl ?_
  refine sim_gd (fun g1 => ?_)
  refine s_getR (x := (g_R μ l0 0)) hF dX11_feed_1 flX11_10 f0 g1 rfl ?_
  refine sim_gd (fun g2 => ?_)
  refine s_getIq (x := (g_I μ (g_R μ l0 0) 1)) hF dX11_feed_4 fqX11_105 g2 rfl ?_
  refine s_sipush (v := (580 : Int32)) hF dX11_feed_7 kS_580 ?_
  refine s_icmp_le (tgt := 15) hF dX11_feed_10 rfl (fun c3 => ?_) (fun c3 => ?_)
  · refine s_aload_n hF dX11_feed_15 rfl 0 rfl ?_
    refine s_getR (x := (g_R μ l0 0)) hF dX11_feed_16 flX11_10 f0 g1 rfl ?_
    refine s_iload_n hF dX11_feed_19 rfl 1 rfl ?_
    refine s_xVv (st := []) (ci := 9) [.int l1] hF hD dX11_feed_20 cwX11_109 (Nat.le_of_ble_eq_true rfl) (Nat.le_of_ble_eq_true rfl) rfl rfl (Nat.le_of_ble_eq_true rfl) g2 rfl rfl (Nat.le_of_ble_eq_true rfl) (ctX9_put (g_R μ l0 0) l1 _) (fun r4 m5 hl6 hm7 => ?_)
    refine s_aload_n hF dX11_feed_23 rfl 0 rfl ?_
    refine sim_gd (fun g10 => ?_)
    refine s_getR (x := (g_R m5 l0 0)) hF dX11_feed_24 flX11_10 (isK.mo f0 hm7) g10 rfl ?_
    refine s_iload_n hF dX11_feed_27 rfl 2 rfl ?_
    refine sim_gd (fun g17 => ?_)
    refine s_xVv (st := []) (ci := 9) [.int l2] hF hD dX11_feed_28 cwX11_109 (Nat.le_of_ble_eq_true rfl) (Nat.le_of_ble_eq_true rfl) rfl rfl (Nat.le_of_ble_eq_true rfl) g17 rfl rfl (Nat.le_of_ble_eq_true rfl) (ctX9_put (g_R m5 l0 0) l2 _) (fun r11 m12 hl13 hm14 => ?_)
    refine s_aload_n hF dX11_feed_31 rfl 0 rfl ?_
    refine sim_gd (fun g18 => ?_)
    refine s_getR (x := (g_R m12 l0 0)) hF dX11_feed_32 flX11_10 (isK.mo (isK.mo f0 hm7) hm14) g18 rfl ?_
    refine s_iload_n hF dX11_feed_35 rfl 3 rfl ?_
    refine sim_gd (fun g25 => ?_)
    refine s_xVv (st := []) (ci := 9) [.int l3] hF hD dX11_feed_36 cwX11_109 (Nat.le_of_ble_eq_true rfl) (Nat.le_of_ble_eq_true rfl) rfl rfl (Nat.le_of_ble_eq_true rfl) g25 rfl rfl (Nat.le_of_ble_eq_true rfl) (ctX9_put (g_R m12 l0 0) l3 _) (fun r19 m20 hl21 hm22 => ?_)
    refine s_aload_n hF dX11_feed_39 rfl 0 rfl ?_
    refine sim_gd (fun g26 => ?_)
    refine s_getR (x := (g_R m20 l0 0)) hF dX11_feed_40 flX11_10 (isK.mo (isK.mo (isK.mo f0 hm7) hm14) hm22) g26 rfl ?_
    refine s_iload hF dX11_feed_43 4 rfl ?_
    refine sim_gd (fun g33 => ?_)
    refine s_xVv (st := []) (ci := 9) [.int l4] hF hD dX11_feed_45 cwX11_109 (Nat.le_of_ble_eq_true rfl) (Nat.le_of_ble_eq_true rfl) rfl rfl (Nat.le_of_ble_eq_true rfl) g33 rfl rfl (Nat.le_of_ble_eq_true rfl) (ctX9_put (g_R m20 l0 0) l4 _) (fun r27 m28 hl29 hm30 => ?_)
    refine s_aload_n hF dX11_feed_48 rfl 0 rfl ?_
    refine sim_gd (fun g34 => ?_)
    refine s_getR (x := (g_R m28 l0 0)) hF dX11_feed_49 flX11_10 (isK.mo (isK.mo (isK.mo (isK.mo f0 hm7) hm14) hm22) hm30) g34 rfl ?_
    refine s_iload hF dX11_feed_52 5 rfl ?_
    refine sim_gd (fun g41 => ?_)
    refine s_xVv (st := []) (ci := 9) [.int l5] hF hD dX11_feed_54 cwX11_109 (Nat.le_of_ble_eq_true rfl) (Nat.le_of_ble_eq_true rfl) rfl rfl (Nat.le_of_ble_eq_true rfl) g41 rfl rfl (Nat.le_of_ble_eq_true rfl) (ctX9_put (g_R m28 l0 0) l5 _) (fun r35 m36 hl37 hm38 => ?_)
    refine s_aload_n hF dX11_feed_57 rfl 0 rfl ?_
    refine sim_gd (fun g42 => ?_)
    refine s_getR (x := (g_R m36 l0 0)) hF dX11_feed_58 flX11_10 (isK.mo (isK.mo (isK.mo (isK.mo (isK.mo f0 hm7) hm14) hm22) hm30) hm38) g42 rfl ?_
    refine sim_gd (fun g43 => ?_)
    refine s_getIq (x := (g_I m36 (g_R m36 l0 0) 1)) hF dX11_feed_61 fqX11_105 g43 rfl ?_
    exact s_iretX hF hD dX11_feed_64 rfl
  · refine s_iconst (v := (-1 : Int32)) hF dX11_feed_13 kI_m1 ?_
    exact s_iretX hF hD dX11_feed_14 rfl
theorem ctX11_refuseArgument  (l0 : Nat) (μ : Mem) : ∀ (r : (Nat ⊕ Unit)) (μ' : Mem), LX11_refuseArgument l0 μ = some (r, μ') → CtX yX11_refuseArgument cX11_refuseArgument 1 none 8 [.ref l0] μ ((encX encV) r) μ' := by
  refine ct_enterX plX11 (Nat.le_of_ble_eq_true rfl) (fun F hF hD hI => ?_)
  unfold LX11_refuseArgument
  refine sim_gd (fun f0 => ?_)
  refine s_aload_n hF dX11_refuseArgument_0 rfl 0 rfl ?_
  refine sim_gd (fun g1 => ?_)
  refine s_getR (x := (g_R μ l0 8)) hF dX11_refuseArgument_1 flX11_62 f0 g1 rfl ?_
  refine s_iconst (v := (1 : Int32)) hF dX11_refuseArgument_4 kI_1 ?_
  refine s_dup2 hF dX11_refuseArgument_5 rfl rfl ?_
  refine sim_gd (fun g2 => ?_)
  refine s_iaload (x := (g_I μ (g_R μ l0 8) (1 : Int32).toNatClampNeg)) hF dX11_refuseArgument_6 g2 rfl ?_
  refine s_iconst (v := (1 : Int32)) hF dX11_refuseArgument_7 kI_1 ?_
  refine s_iadd hF dX11_refuseArgument_8 ?_
  refine s_iastore hF dX11_refuseArgument_9 g2 ?_
  exact thX11_374 hF hD (Nat.le_of_ble_eq_true rfl) rfl dX11_refuseArgument_10 dX11_refuseArgument_13 dX11_refuseArgument_14 dX11_refuseArgument_17 dX11_refuseArgument_20 (Nat.le_of_ble_eq_true rfl)
theorem sX11_needWithin_10 {F : Option Fx} (hF : FxO F RX11 cX11_needWithin 4 9) (hD : FxXO F none) (l0 : Nat) (μ : Mem) (f0 : isK μ l0 11 = true) : Sim F (encX encV) 10 [(0, .ref l0)] [] μ (mX11_needWithin_10 l0 μ) := by
  unfold mX11_needWithin_10
  refine s_aload_n hF dX11_needWithin_10 rfl 0 rfl ?_
  refine s_tVv (st := []) (ci := 11) [] hF hD dX11_needWithin_11 cwX11_301 (Nat.le_of_ble_eq_true rfl) (Nat.le_of_ble_eq_true rfl) rfl rfl (Nat.le_of_ble_eq_true rfl) f0 rfl rfl (Nat.le_of_ble_eq_true rfl) (ctX11_refuseArgument l0 _) (fun r3 m4 hl5 hm6 => ?_)
  exact s_vretX hF hD dX11_needWithin_14 rfl
theorem ctX11_needWithin  (l0 : Nat) (l1 : Int32) (l2 : Int32) (l3 : Int32) (μ : Mem) : ∀ (r : (Nat ⊕ Unit)) (μ' : Mem), LX11_needWithin l0 l1 l2 l3 μ = some (r, μ') → CtX yX11_needWithin cX11_needWithin 4 none 9 [.ref l0, .int l1, .int l2, .int l3] μ ((encX encV) r) μ' := by
  refine ct_enterX plX11 (Nat.le_of_ble_eq_true rfl) (fun F hF hD hI => ?_)
  unfold LX11_needWithin
  refine sim_gd (fun f0 => ?_)
  refine s_iload_n hF dX11_needWithin_0 rfl 1 rfl ?_
  refine s_iload_n hF dX11_needWithin_1 rfl 2 rfl ?_
  refine s_icmp_lt (tgt := 10) hF dX11_needWithin_2 rfl (fun c1 => ?_) (fun c1 => ?_)
  · refine s_sub [0] rfl ?_
    exact sX11_needWithin_10 hF hD l0 _ f0
  · refine s_iload_n hF dX11_needWithin_5 rfl 1 rfl ?_
    refine s_iload_n hF dX11_needWithin_6 rfl 3 rfl ?_
    refine s_icmp_le (tgt := 14) hF dX11_needWithin_7 rfl (fun c2 => ?_) (fun c2 => ?_)
    · exact s_vretX hF hD dX11_needWithin_14 rfl
    · refine s_sub [0] rfl ?_
      exact sX11_needWithin_10 hF hD l0 _ f0
theorem ctX11_needText  (l0 : Nat) (l1 : Int32) (l2 : Int32) (μ : Mem) : ∀ (r : (Nat ⊕ Unit)) (μ' : Mem), LX11_needText l0 l1 l2 μ = some (r, μ') → CtX yX11_needText cX11_needText 3 none 10 [.ref l0, .int l1, .int l2] μ ((encX encV) r) μ' := by
  refine ct_enterX plX11 (Nat.le_of_ble_eq_true rfl) (fun F hF hD hI => ?_)
  unfold LX11_needText
  refine sim_gd (fun f0 => ?_)
  refine s_aload_n hF dX11_needText_0 rfl 0 rfl ?_
  refine s_iload_n hF dX11_needText_1 rfl 1 rfl ?_
  refine s_iconst (v := (0 : Int32)) hF dX11_needText_2 kI_0 ?_
  refine s_iload_n hF dX11_needText_3 rfl 2 rfl ?_
  refine s_aload_n hF dX11_needText_4 rfl 0 rfl ?_
  refine sim_gd (fun g1 => ?_)
  refine s_getR (x := (g_R μ l0 0)) hF dX11_needText_5 flX11_10 f0 g1 rfl ?_
  refine sim_gd (fun g2 => ?_)
  refine s_getIq (x := (g_I μ (g_R μ l0 0) 1)) hF dX11_needText_8 fqX11_105 g2 rfl ?_
  refine s_min hF dX11_needText_11 mlX11_307 mt_smin mt_i mt_cmin (Nat.le_of_ble_eq_true rfl) (Nat.le_of_ble_eq_true rfl) ?_
  refine s_tVv (st := []) (ci := 11) [.int l1, .int (0 : Int32), .int (if (g_I μ (g_R μ l0 0) 1) < l2 then (g_I μ (g_R μ l0 0) 1) else l2)] hF hD dX11_needText_14 cwX11_189 (Nat.le_of_ble_eq_true rfl) (Nat.le_of_ble_eq_true rfl) rfl rfl (Nat.le_of_ble_eq_true rfl) f0 rfl rfl (Nat.le_of_ble_eq_true rfl) (ctX11_needWithin l0 l1 (0 : Int32) (if (g_I μ (g_R μ l0 0) 1) < l2 then (g_I μ (g_R μ l0 0) 1) else l2) _) (fun r3 m4 hl5 hm6 => ?_)
  exact s_vretX hF hD dX11_needText_17 rfl
theorem ctX11_hut  (l0 : Nat) (l1 : Int32) (μ : Mem) : ∀ (r : (Nat ⊕ Int32)) (μ' : Mem), LX11_hut l0 l1 μ = some (r, μ') → CtX yX11_hut cX11_hut 3 (some .int) 11 [.ref l0, .int l1] μ ((encX encI) r) μ' := by
  refine ct_enterX plX11 (Nat.le_of_ble_eq_true rfl) (fun F hF hD hI => ?_)
  unfold LX11_hut
  refine sim_gd (fun f0 => ?_)
  refine s_aload_n hF dX11_hut_0 rfl 0 rfl ?_
  refine s_iload_n hF dX11_hut_1 rfl 1 rfl ?_
  refine s_sipush (v := (600 : Int32)) hF dX11_hut_2 kS_600 ?_
  refine s_tVv (st := []) (ci := 11) [.int l1, .int (600 : Int32)] hF hD dX11_hut_5 cwX11_113 (Nat.le_of_ble_eq_true rfl) (Nat.le_of_ble_eq_true rfl) rfl rfl (Nat.le_of_ble_eq_true rfl) f0 rfl rfl (Nat.le_of_ble_eq_true rfl) (ctX11_needText l0 l1 (600 : Int32) _) (fun r1 m2 hl3 hm4 => ?_)
  refine s_aload_n hF dX11_hut_8 rfl 0 rfl ?_
  refine sim_gd (fun g7 => ?_)
  refine s_getR (x := (g_R m2 l0 0)) hF dX11_hut_9 flX11_10 (isK.mo f0 hm4) g7 rfl ?_
  refine s_iload_n hF dX11_hut_12 rfl 1 rfl ?_
  refine sim_gd (fun g14 => ?_)
  refine s_xVv (st := []) (ci := 9) [.int l1] hF hD dX11_hut_13 cwX11_117 (Nat.le_of_ble_eq_true rfl) (Nat.le_of_ble_eq_true rfl) rfl rfl (Nat.le_of_ble_eq_true rfl) g14 rfl rfl (Nat.le_of_ble_eq_true rfl) (ctX9_open (g_R m2 l0 0) l1 _) (fun r8 m9 hl10 hm11 => ?_)
  refine s_aload_n hF dX11_hut_16 rfl 0 rfl ?_
  refine sim_gd (fun g15 => ?_)
  refine s_getR (x := (g_R m9 l0 10)) hF dX11_hut_17 flX11_72 (isK.mo (isK.mo f0 hm4) hm11) g15 rfl ?_
  refine s_aload_n hF dX11_hut_20 rfl 0 rfl ?_
  refine sim_gd (fun g16 => ?_)
  refine s_getR (x := (g_R m9 l0 0)) hF dX11_hut_21 flX11_10 (isK.mo (isK.mo f0 hm4) hm11) g16 rfl ?_
  refine sim_gd (fun g23 => ?_)
  refine s_xVv (st := []) (ci := 3) [.ref (g_R m9 l0 0)] hF hD dX11_hut_24 cwX11_120 (Nat.le_of_ble_eq_true rfl) (Nat.le_of_ble_eq_true rfl) rfl rfl (Nat.le_of_ble_eq_true rfl) g23 rfl rfl (Nat.le_of_ble_eq_true rfl) (ctX3_parse (g_R m9 l0 10) (g_R m9 l0 0) _) (fun r17 m18 hl19 hm20 => ?_)
  refine s_aload_n hF dX11_hut_27 rfl 0 rfl ?_
  refine sim_gd (fun g24 => ?_)
  refine s_getR (x := (g_R m18 l0 0)) hF dX11_hut_28 flX11_10 (isK.mo (isK.mo (isK.mo f0 hm4) hm11) hm20) g24 rfl ?_
  refine sim_gd (fun g31 => ?_)
  refine s_xVi (st := []) (ci := 9) [] hF hD dX11_hut_31 cwX11_124 (Nat.le_of_ble_eq_true rfl) (Nat.le_of_ble_eq_true rfl) rfl rfl (Nat.le_of_ble_eq_true rfl) g31 rfl rfl (Nat.le_of_ble_eq_true rfl) (ctX9_failed (g_R m18 l0 0) _) (fun r25 m26 hl27 hm28 => ?_)
  refine s_if_eq (tgt := 48) hF dX11_hut_34 rfl (fun c32 => ?_) (fun c32 => ?_)
  · refine s_aload_n hF dX11_hut_48 rfl 0 rfl ?_
    refine sim_gd (fun g33 => ?_)
    refine s_getR (x := (g_R m26 l0 9)) hF dX11_hut_49 flX11_68 (isK.mo (isK.mo (isK.mo (isK.mo f0 hm4) hm11) hm20) hm28) g33 rfl ?_
    refine sim_gd (fun g34 => ?_)
    refine s_astore_n (pls' := [(2, .ref (g_R m26 l0 9)), (0, .ref l0), (1, .int l1)]) hF dX11_hut_52 rfl (by decide) rfl ?_
    refine s_aload_n hF dX11_hut_53 rfl 1 rfl ?_
    refine s_aload_n hF dX11_hut_54 rfl 1 rfl ?_
    refine sim_gd (fun g35 => ?_)
    refine s_getR (x := (g_R m26 l0 10)) hF dX11_hut_55 flX11_72 (isK.mo (isK.mo (isK.mo (isK.mo f0 hm4) hm11) hm20) hm28) g35 rfl ?_
    refine s_putR hF dX11_hut_58 flX11_68 (isK.mo (isK.mo (isK.mo (isK.mo f0 hm4) hm11) hm20) hm28) g35 ?_
    refine s_aload_n hF dX11_hut_61 rfl 1 rfl ?_
    refine s_aload_n hF dX11_hut_62 rfl 0 rfl ?_
    refine s_putR hF dX11_hut_63 flX11_72 (isK.mo (isK.mo (isK.mo (isK.mo f0 hm4) hm11) hm20) hm28) ((isK_iff.mp g34).1) ?_
    refine s_aload_n hF dX11_hut_66 rfl 1 rfl ?_
    refine sim_gd (fun g36 => ?_)
    refine s_getR (x := (g_R (p_R (p_R m26 l0 9 (g_R m26 l0 10)) l0 10 (g_R m26 l0 9)) l0 3)) hF dX11_hut_67 flX11_33 (isK.mo (isK.mo (isK.mo (isK.mo f0 hm4) hm11) hm20) hm28) g36 rfl ?_
    refine s_aload_n hF dX11_hut_70 rfl 1 rfl ?_
    refine sim_gd (fun g37 => ?_)
    refine s_getR (x := (g_R (p_R (p_R m26 l0 9 (g_R m26 l0 10)) l0 10 (g_R m26 l0 9)) l0 9)) hF dX11_hut_71 flX11_68 (isK.mo (isK.mo (isK.mo (isK.mo f0 hm4) hm11) hm20) hm28) g37 rfl ?_
    refine sim_gd (fun g44 => ?_)
    refine s_xVv (st := []) (ci := 8) [.ref (g_R (p_R (p_R m26 l0 9 (g_R m26 l0 10)) l0 10 (g_R m26 l0 9)) l0 9)] hF hD dX11_hut_74 cwX11_131 (Nat.le_of_ble_eq_true rfl) (Nat.le_of_ble_eq_true rfl) rfl rfl (Nat.le_of_ble_eq_true rfl) g44 rfl rfl (Nat.le_of_ble_eq_true rfl) (ctX8_begin (g_R (p_R (p_R m26 l0 9 (g_R m26 l0 10)) l0 10 (g_R m26 l0 9)) l0 3) (g_R (p_R (p_R m26 l0 9 (g_R m26 l0 10)) l0 10 (g_R m26 l0 9)) l0 9) _) (fun r38 m39 hl40 hm41 => ?_)
    refine s_aload_n hF dX11_hut_77 rfl 1 rfl ?_
    refine sim_gd (fun g45 => ?_)
    refine s_getR (x := (g_R m39 l0 11)) hF dX11_hut_78 flX11_78 (isK.mo (isK.mo (isK.mo (isK.mo (isK.mo f0 hm4) hm11) hm20) hm28) hm41) g45 rfl ?_
    refine sim_gd (fun g52 => ?_)
    refine s_xVv (st := []) (ci := 4) [] hF hD dX11_hut_81 cwX11_135 (Nat.le_of_ble_eq_true rfl) (Nat.le_of_ble_eq_true rfl) rfl rfl (Nat.le_of_ble_eq_true rfl) g52 rfl rfl (Nat.le_of_ble_eq_true rfl) (ctX4_clear (g_R m39 l0 11) _) (fun r46 m47 hl48 hm49 => ?_)
    refine s_aload_n hF dX11_hut_84 rfl 1 rfl ?_
    refine sim_gd (fun g53 => ?_)
    refine s_getR (x := (g_R m47 l0 13)) hF dX11_hut_85 flX11_88 (isK.mo (isK.mo (isK.mo (isK.mo (isK.mo (isK.mo f0 hm4) hm11) hm20) hm28) hm41) hm49) g53 rfl ?_
    refine sim_gd (fun g60 => ?_)
    refine s_xVv (st := []) (ci := 1) [] hF hD dX11_hut_88 cwX11_138 (Nat.le_of_ble_eq_true rfl) (Nat.le_of_ble_eq_true rfl) rfl rfl (Nat.le_of_ble_eq_true rfl) g60 rfl rfl (Nat.le_of_ble_eq_true rfl) (ctX1_clear (g_R m47 l0 13) _) (fun r54 m55 hl56 hm57 => ?_)
    refine s_aload_n hF dX11_hut_91 rfl 1 rfl ?_
    refine sim_gd (fun g61 => ?_)
    refine s_getR (x := (g_R m55 l0 15)) hF dX11_hut_92 flX11_98 (isK.mo (isK.mo (isK.mo (isK.mo (isK.mo (isK.mo (isK.mo f0 hm4) hm11) hm20) hm28) hm41) hm49) hm57) g61 rfl ?_
    refine sim_gd (fun g68 => ?_)
    refine s_xVv (st := []) (ci := 0) [] hF hD dX11_hut_95 cwX11_139 (Nat.le_of_ble_eq_true rfl) (Nat.le_of_ble_eq_true rfl) rfl rfl (Nat.le_of_ble_eq_true rfl) g68 rfl rfl (Nat.le_of_ble_eq_true rfl) (ctX0_clear (g_R m55 l0 15) _) (fun r62 m63 hl64 hm65 => ?_)
    refine s_aload_n hF dX11_hut_98 rfl 1 rfl ?_
    refine sim_gd (fun g69 => ?_)
    refine s_getR (x := (g_R m63 l0 2)) hF dX11_hut_99 flX11_26 (isK.mo (isK.mo (isK.mo (isK.mo (isK.mo (isK.mo (isK.mo (isK.mo f0 hm4) hm11) hm20) hm28) hm41) hm49) hm57) hm65) g69 rfl ?_
    refine sim_gd (fun g76 => ?_)
    refine s_xVv (st := []) (ci := 2) [] hF hD dX11_hut_102 cwX11_140 (Nat.le_of_ble_eq_true rfl) (Nat.le_of_ble_eq_true rfl) rfl rfl (Nat.le_of_ble_eq_true rfl) g76 rfl rfl (Nat.le_of_ble_eq_true rfl) (ctX2_clear (g_R m63 l0 2) _) (fun r70 m71 hl72 hm73 => ?_)
    refine s_aload_n hF dX11_hut_105 rfl 1 rfl ?_
    refine s_iconst (v := (0 : Int32)) hF dX11_hut_106 kI_0 ?_
    refine s_putI hF dX11_hut_107 flX11_141 (isK.mo (isK.mo (isK.mo (isK.mo (isK.mo (isK.mo (isK.mo (isK.mo (isK.mo f0 hm4) hm11) hm20) hm28) hm41) hm49) hm57) hm65) hm73) ?_
    refine s_aload_n hF dX11_hut_110 rfl 1 rfl ?_
    refine sim_gd (fun g77 => ?_)
    refine s_getR (x := (g_R m71 l0 9)) hF dX11_hut_111 flX11_68 (isK.mo (isK.mo (isK.mo (isK.mo (isK.mo (isK.mo (isK.mo (isK.mo (isK.mo f0 hm4) hm11) hm20) hm28) hm41) hm49) hm57) hm65) hm73) g77 rfl ?_
    refine sim_gd (fun g78 => ?_)
    refine s_getIq (x := (g_I (p_I m71 l0 17 (0 : Int32)) (g_R m71 l0 9) 0)) hF dX11_hut_114 fqX11_144 g78 rfl ?_
    exact s_iretX hF hD dX11_hut_117 rfl
  · refine s_aload_n hF dX11_hut_37 rfl 0 rfl ?_
    refine sim_gd (fun g79 => ?_)
    refine s_getR (x := (g_R m26 l0 0)) hF dX11_hut_38 flX11_10 (isK.mo (isK.mo (isK.mo (isK.mo f0 hm4) hm11) hm20) hm28) g79 rfl ?_
    refine sim_gd (fun g80 => ?_)
    refine s_getIq (x := (g_I m26 (g_R m26 l0 0) 2)) hF dX11_hut_41 fqX11_128 g80 rfl ?_
    refine s_bipush (v := (10 : Int32)) hF dX11_hut_44 kB_10 ?_
    refine s_isub hF dX11_hut_46 ?_
    exact s_iretX hF hD dX11_hut_47 rfl
theorem ctX11_law  (l0 : Nat) (l1 : Int32) (μ : Mem) : ∀ (r : (Nat ⊕ Int32)) (μ' : Mem), LX11_law l0 l1 μ = some (r, μ') → CtX yX11_law cX11_law 3 (some .int) 68 [.ref l0, .int l1] μ ((encX encI) r) μ' := by
  refine ct_enterX plX11 (Nat.le_of_ble_eq_true rfl) (fun F hF hD hI => ?_)
  unfold LX11_law
  refine sim_gd (fun f0 => ?_)
  refine s_aload_n hF dX11_law_0 rfl 0 rfl ?_
  refine s_iload_n hF dX11_law_1 rfl 1 rfl ?_
  refine s_sipush (v := (150 : Int32)) hF dX11_law_2 kS_150 ?_
  refine s_tVv (st := []) (ci := 11) [.int l1, .int (150 : Int32)] hF hD dX11_law_5 cwX11_113 (Nat.le_of_ble_eq_true rfl) (Nat.le_of_ble_eq_true rfl) rfl rfl (Nat.le_of_ble_eq_true rfl) f0 rfl rfl (Nat.le_of_ble_eq_true rfl) (ctX11_needText l0 l1 (150 : Int32) _) (fun r1 m2 hl3 hm4 => ?_)
  refine s_aload_n hF dX11_law_8 rfl 0 rfl ?_
  refine sim_gd (fun g7 => ?_)
  refine s_getR (x := (g_R m2 l0 0)) hF dX11_law_9 flX11_10 (isK.mo f0 hm4) g7 rfl ?_
  refine s_iload_n hF dX11_law_12 rfl 1 rfl ?_
  refine sim_gd (fun g14 => ?_)
  refine s_xVv (st := []) (ci := 9) [.int l1] hF hD dX11_law_13 cwX11_117 (Nat.le_of_ble_eq_true rfl) (Nat.le_of_ble_eq_true rfl) rfl rfl (Nat.le_of_ble_eq_true rfl) g14 rfl rfl (Nat.le_of_ble_eq_true rfl) (ctX9_open (g_R m2 l0 0) l1 _) (fun r8 m9 hl10 hm11 => ?_)
  refine s_aload_n hF dX11_law_16 rfl 0 rfl ?_
  refine sim_gd (fun g15 => ?_)
  refine s_getR (x := (g_R m9 l0 12)) hF dX11_law_17 flX11_82 (isK.mo (isK.mo f0 hm4) hm11) g15 rfl ?_
  refine s_aload_n hF dX11_law_20 rfl 0 rfl ?_
  refine sim_gd (fun g16 => ?_)
  refine s_getR (x := (g_R m9 l0 0)) hF dX11_law_21 flX11_10 (isK.mo (isK.mo f0 hm4) hm11) g16 rfl ?_
  refine sim_gd (fun g23 => ?_)
  refine s_xVv (st := []) (ci := 4) [.ref (g_R m9 l0 0)] hF hD dX11_law_24 cwX11_147 (Nat.le_of_ble_eq_true rfl) (Nat.le_of_ble_eq_true rfl) rfl rfl (Nat.le_of_ble_eq_true rfl) g23 rfl rfl (Nat.le_of_ble_eq_true rfl) (ctX4_parse (g_R m9 l0 12) (g_R m9 l0 0) _) (fun r17 m18 hl19 hm20 => ?_)
  refine s_aload_n hF dX11_law_27 rfl 0 rfl ?_
  refine sim_gd (fun g24 => ?_)
  refine s_getR (x := (g_R m18 l0 0)) hF dX11_law_28 flX11_10 (isK.mo (isK.mo (isK.mo f0 hm4) hm11) hm20) g24 rfl ?_
  refine sim_gd (fun g31 => ?_)
  refine s_xVi (st := []) (ci := 9) [] hF hD dX11_law_31 cwX11_124 (Nat.le_of_ble_eq_true rfl) (Nat.le_of_ble_eq_true rfl) rfl rfl (Nat.le_of_ble_eq_true rfl) g31 rfl rfl (Nat.le_of_ble_eq_true rfl) (ctX9_failed (g_R m18 l0 0) _) (fun r25 m26 hl27 hm28 => ?_)
  refine s_if_eq (tgt := 48) hF dX11_law_34 rfl (fun c32 => ?_) (fun c32 => ?_)
  · refine s_aload_n hF dX11_law_48 rfl 0 rfl ?_
    refine sim_gd (fun g33 => ?_)
    refine s_getR (x := (g_R m26 l0 11)) hF dX11_law_49 flX11_78 (isK.mo (isK.mo (isK.mo (isK.mo f0 hm4) hm11) hm20) hm28) g33 rfl ?_
    refine sim_gd (fun g34 => ?_)
    refine s_astore_n (pls' := [(2, .ref (g_R m26 l0 11)), (0, .ref l0), (1, .int l1)]) hF dX11_law_52 rfl (by decide) rfl ?_
    refine s_aload_n hF dX11_law_53 rfl 1 rfl ?_
    refine s_aload_n hF dX11_law_54 rfl 1 rfl ?_
    refine sim_gd (fun g35 => ?_)
    refine s_getR (x := (g_R m26 l0 12)) hF dX11_law_55 flX11_82 (isK.mo (isK.mo (isK.mo (isK.mo f0 hm4) hm11) hm20) hm28) g35 rfl ?_
    refine s_putR hF dX11_law_58 flX11_78 (isK.mo (isK.mo (isK.mo (isK.mo f0 hm4) hm11) hm20) hm28) g35 ?_
    refine s_aload_n hF dX11_law_61 rfl 1 rfl ?_
    refine s_aload_n hF dX11_law_62 rfl 0 rfl ?_
    refine s_putR hF dX11_law_63 flX11_82 (isK.mo (isK.mo (isK.mo (isK.mo f0 hm4) hm11) hm20) hm28) ((isK_iff.mp g34).1) ?_
    refine s_iconst (v := (1 : Int32)) hF dX11_law_66 kI_1 ?_
    exact s_iretX hF hD dX11_law_67 rfl
  · refine s_aload_n hF dX11_law_37 rfl 0 rfl ?_
    refine sim_gd (fun g36 => ?_)
    refine s_getR (x := (g_R m26 l0 0)) hF dX11_law_38 flX11_10 (isK.mo (isK.mo (isK.mo (isK.mo f0 hm4) hm11) hm20) hm28) g36 rfl ?_
    refine sim_gd (fun g37 => ?_)
    refine s_getIq (x := (g_I m26 (g_R m26 l0 0) 2)) hF dX11_law_41 fqX11_128 g37 rfl ?_
    refine s_bipush (v := (10 : Int32)) hF dX11_law_44 kB_10 ?_
    refine s_isub hF dX11_law_46 ?_
    exact s_iretX hF hD dX11_law_47 rfl
theorem ctX11_work  (l0 : Nat) (l1 : Int32) (μ : Mem) : ∀ (r : (Nat ⊕ Int32)) (μ' : Mem), LX11_work l0 l1 μ = some (r, μ') → CtX yX11_work cX11_work 2 (some .int) 32 [.ref l0, .int l1] μ ((encX encI) r) μ' := by
  refine ct_enterX plX11 (Nat.le_of_ble_eq_true rfl) (fun F hF hD hI => ?_)
  unfold LX11_work
  refine sim_gd (fun f0 => ?_)
  refine s_aload_n hF dX11_work_0 rfl 0 rfl ?_
  refine s_iload_n hF dX11_work_1 rfl 1 rfl ?_
  refine s_sipush (v := (150 : Int32)) hF dX11_work_2 kS_150 ?_
  refine s_tVv (st := []) (ci := 11) [.int l1, .int (150 : Int32)] hF hD dX11_work_5 cwX11_113 (Nat.le_of_ble_eq_true rfl) (Nat.le_of_ble_eq_true rfl) rfl rfl (Nat.le_of_ble_eq_true rfl) f0 rfl rfl (Nat.le_of_ble_eq_true rfl) (ctX11_needText l0 l1 (150 : Int32) _) (fun r1 m2 hl3 hm4 => ?_)
  refine s_aload_n hF dX11_work_8 rfl 0 rfl ?_
  refine sim_gd (fun g7 => ?_)
  refine s_getR (x := (g_R m2 l0 2)) hF dX11_work_9 flX11_26 (isK.mo f0 hm4) g7 rfl ?_
  refine sim_gd (fun g8 => ?_)
  refine s_getIq (x := (g_I m2 (g_R m2 l0 2) 4)) hF dX11_work_12 fqX11_148 g8 rfl ?_
  refine s_bipush (v := (16 : Int32)) hF dX11_work_15 kB_16 ?_
  refine s_icmp_lt (tgt := 31) hF dX11_work_17 rfl (fun c9 => ?_) (fun c9 => ?_)
  · refine s_aload_n hF dX11_work_31 rfl 0 rfl ?_
    refine sim_gd (fun g10 => ?_)
    refine s_getR (x := (g_R m2 l0 0)) hF dX11_work_32 flX11_10 (isK.mo f0 hm4) g10 rfl ?_
    refine s_iload_n hF dX11_work_35 rfl 1 rfl ?_
    refine sim_gd (fun g17 => ?_)
    refine s_xVv (st := []) (ci := 9) [.int l1] hF hD dX11_work_36 cwX11_117 (Nat.le_of_ble_eq_true rfl) (Nat.le_of_ble_eq_true rfl) rfl rfl (Nat.le_of_ble_eq_true rfl) g17 rfl rfl (Nat.le_of_ble_eq_true rfl) (ctX9_open (g_R m2 l0 0) l1 _) (fun r11 m12 hl13 hm14 => ?_)
    refine s_aload_n hF dX11_work_39 rfl 0 rfl ?_
    refine sim_gd (fun g18 => ?_)
    refine s_getR (x := (g_R m12 l0 1)) hF dX11_work_40 flX11_19 (isK.mo (isK.mo f0 hm4) hm14) g18 rfl ?_
    refine s_aload_n hF dX11_work_43 rfl 0 rfl ?_
    refine sim_gd (fun g19 => ?_)
    refine s_getR (x := (g_R m12 l0 0)) hF dX11_work_44 flX11_10 (isK.mo (isK.mo f0 hm4) hm14) g19 rfl ?_
    refine s_aload_n hF dX11_work_47 rfl 0 rfl ?_
    refine sim_gd (fun g20 => ?_)
    refine s_getR (x := (g_R m12 l0 9)) hF dX11_work_48 flX11_68 (isK.mo (isK.mo f0 hm4) hm14) g20 rfl ?_
    refine sim_gd (fun g27 => ?_)
    refine s_xVv (st := []) (ci := 10) [.ref (g_R m12 l0 0), .ref (g_R m12 l0 9)] hF hD dX11_work_51 cwX11_151 (Nat.le_of_ble_eq_true rfl) (Nat.le_of_ble_eq_true rfl) rfl rfl (Nat.le_of_ble_eq_true rfl) g27 rfl rfl (Nat.le_of_ble_eq_true rfl) (ctX10_parse (g_R m12 l0 1) (g_R m12 l0 0) (g_R m12 l0 9) _) (fun r21 m22 hl23 hm24 => ?_)
    refine s_aload_n hF dX11_work_54 rfl 0 rfl ?_
    refine sim_gd (fun g28 => ?_)
    refine s_getR (x := (g_R m22 l0 0)) hF dX11_work_55 flX11_10 (isK.mo (isK.mo (isK.mo f0 hm4) hm14) hm24) g28 rfl ?_
    refine sim_gd (fun g35 => ?_)
    refine s_xVi (st := []) (ci := 9) [] hF hD dX11_work_58 cwX11_124 (Nat.le_of_ble_eq_true rfl) (Nat.le_of_ble_eq_true rfl) rfl rfl (Nat.le_of_ble_eq_true rfl) g35 rfl rfl (Nat.le_of_ble_eq_true rfl) (ctX9_failed (g_R m22 l0 0) _) (fun r29 m30 hl31 hm32 => ?_)
    refine s_if_eq (tgt := 75) hF dX11_work_61 rfl (fun c36 => ?_) (fun c36 => ?_)
    · refine s_aload_n hF dX11_work_75 rfl 0 rfl ?_
      refine sim_gd (fun g37 => ?_)
      refine s_getR (x := (g_R m30 l0 2)) hF dX11_work_76 flX11_26 (isK.mo (isK.mo (isK.mo (isK.mo f0 hm4) hm14) hm24) hm32) g37 rfl ?_
      refine s_aload_n hF dX11_work_79 rfl 0 rfl ?_
      refine sim_gd (fun g38 => ?_)
      refine s_getR (x := (g_R m30 l0 3)) hF dX11_work_80 flX11_33 (isK.mo (isK.mo (isK.mo (isK.mo f0 hm4) hm14) hm24) hm32) g38 rfl ?_
      refine sim_gd (fun g45 => ?_)
      refine s_xVv (st := []) (ci := 2) [.ref (g_R m30 l0 3)] hF hD dX11_work_83 cwX11_154 (Nat.le_of_ble_eq_true rfl) (Nat.le_of_ble_eq_true rfl) rfl rfl (Nat.le_of_ble_eq_true rfl) g45 rfl rfl (Nat.le_of_ble_eq_true rfl) (ctX2_keep (g_R m30 l0 2) (g_R m30 l0 3) _) (fun r39 m40 hl41 hm42 => ?_)
      refine s_aload_n hF dX11_work_86 rfl 0 rfl ?_
      refine sim_gd (fun g46 => ?_)
      refine s_getR (x := (g_R m40 l0 1)) hF dX11_work_87 flX11_19 (isK.mo (isK.mo (isK.mo (isK.mo (isK.mo f0 hm4) hm14) hm24) hm32) hm42) g46 rfl ?_
      refine sim_gd (fun g53 => ?_)
      refine s_xVv (st := []) (ci := 10) [] hF hD dX11_work_90 cwX11_158 (Nat.le_of_ble_eq_true rfl) (Nat.le_of_ble_eq_true rfl) rfl rfl (Nat.le_of_ble_eq_true rfl) g53 rfl rfl (Nat.le_of_ble_eq_true rfl) (ctX10_begin (g_R m40 l0 1) _) (fun r47 m48 hl49 hm50 => ?_)
      refine s_aload_n hF dX11_work_93 rfl 0 rfl ?_
      refine sim_gd (fun g54 => ?_)
      refine s_getR (x := (g_R m48 l0 1)) hF dX11_work_94 flX11_19 (isK.mo (isK.mo (isK.mo (isK.mo (isK.mo (isK.mo f0 hm4) hm14) hm24) hm32) hm42) hm50) g54 rfl ?_
      refine s_aload_n hF dX11_work_97 rfl 0 rfl ?_
      refine sim_gd (fun g55 => ?_)
      refine s_getR (x := (g_R m48 l0 3)) hF dX11_work_98 flX11_33 (isK.mo (isK.mo (isK.mo (isK.mo (isK.mo (isK.mo f0 hm4) hm14) hm24) hm32) hm42) hm50) g55 rfl ?_
      refine s_aload_n hF dX11_work_101 rfl 0 rfl ?_
      refine sim_gd (fun g56 => ?_)
      refine s_getR (x := (g_R m48 l0 9)) hF dX11_work_102 flX11_68 (isK.mo (isK.mo (isK.mo (isK.mo (isK.mo (isK.mo f0 hm4) hm14) hm24) hm32) hm42) hm50) g56 rfl ?_
      refine s_aload_n hF dX11_work_105 rfl 0 rfl ?_
      refine sim_gd (fun g57 => ?_)
      refine s_getR (x := (g_R m48 l0 11)) hF dX11_work_106 flX11_78 (isK.mo (isK.mo (isK.mo (isK.mo (isK.mo (isK.mo f0 hm4) hm14) hm24) hm32) hm42) hm50) g57 rfl ?_
      refine s_iconst (v := (0 : Int32)) hF dX11_work_109 kI_0 ?_
      refine s_aload_n hF dX11_work_110 rfl 0 rfl ?_
      refine s_getR (x := (g_R m48 l0 1)) hF dX11_work_111 flX11_19 (isK.mo (isK.mo (isK.mo (isK.mo (isK.mo (isK.mo f0 hm4) hm14) hm24) hm32) hm42) hm50) g54 rfl ?_
      refine sim_gd (fun g58 => ?_)
      refine s_getIq (x := (g_I m48 (g_R m48 l0 1) 5)) hF dX11_work_114 fqX11_160 g58 rfl ?_
      refine s_iconst (v := (0 : Int32)) hF dX11_work_117 kI_0 ?_
      refine s_xSNv (st := []) [.ref (g_R m48 l0 1), .ref (g_R m48 l0 3), .ref (g_R m48 l0 9), .ref (g_R m48 l0 11), .int (0 : Int32), .int (g_I m48 (g_R m48 l0 1) 5), .int (0 : Int32)] hF hD dX11_work_118 cwX11_163 (Nat.le_of_ble_eq_true rfl) (Nat.le_of_ble_eq_true rfl) rfl rfl (Nat.le_of_ble_eq_true rfl) (ctX10_run 12 (g_R m48 l0 1) (g_R m48 l0 3) (g_R m48 l0 9) (g_R m48 l0 11) (0 : Int32) (g_I m48 (g_R m48 l0 1) 5) (0 : Int32) _) (fun r59 m60 hl61 hm62 => ?_)
      refine s_aload_n hF dX11_work_121 rfl 0 rfl ?_
      refine s_aload_n hF dX11_work_122 rfl 0 rfl ?_
      refine sim_gd (fun g65 => ?_)
      refine s_getR (x := (g_R m60 l0 1)) hF dX11_work_123 flX11_19 (isK.mo (isK.mo (isK.mo (isK.mo (isK.mo (isK.mo (isK.mo f0 hm4) hm14) hm24) hm32) hm42) hm50) hm62) g65 rfl ?_
      refine sim_gd (fun g66 => ?_)
      refine s_getIq (x := (g_I m60 (g_R m60 l0 1) 8)) hF dX11_work_126 fqX11_167 g66 rfl ?_
      refine s_putI hF dX11_work_129 flX11_141 (isK.mo (isK.mo (isK.mo (isK.mo (isK.mo (isK.mo (isK.mo f0 hm4) hm14) hm24) hm32) hm42) hm50) hm62) ?_
      refine s_aload_n hF dX11_work_132 rfl 0 rfl ?_
      refine s_getR (x := (g_R m60 l0 1)) hF dX11_work_133 flX11_19 (isK.mo (isK.mo (isK.mo (isK.mo (isK.mo (isK.mo (isK.mo f0 hm4) hm14) hm24) hm32) hm42) hm50) hm62) g65 rfl ?_
      refine s_getIq (x := (g_I (p_I m60 l0 17 (g_I m60 (g_R m60 l0 1) 8)) (g_R m60 l0 1) 7)) hF dX11_work_136 fqX11_170 g66 rfl ?_
      exact s_iretX hF hD dX11_work_139 rfl
    · refine s_aload_n hF dX11_work_64 rfl 0 rfl ?_
      refine sim_gd (fun g67 => ?_)
      refine s_getR (x := (g_R m30 l0 0)) hF dX11_work_65 flX11_10 (isK.mo (isK.mo (isK.mo (isK.mo f0 hm4) hm14) hm24) hm32) g67 rfl ?_
      refine sim_gd (fun g68 => ?_)
      refine s_getIq (x := (g_I m30 (g_R m30 l0 0) 2)) hF dX11_work_68 fqX11_128 g68 rfl ?_
      refine s_bipush (v := (10 : Int32)) hF dX11_work_71 kB_10 ?_
      refine s_isub hF dX11_work_73 ?_
      exact s_iretX hF hD dX11_work_74 rfl
  · refine s_aload_n hF dX11_work_20 rfl 0 rfl ?_
    refine sim_gd (fun g69 => ?_)
    refine s_getR (x := (g_R m2 l0 0)) hF dX11_work_21 flX11_10 (isK.mo f0 hm4) g69 rfl ?_
    refine s_iconst (v := (0 : Int32)) hF dX11_work_24 kI_0 ?_
    refine sim_gd (fun g76 => ?_)
    refine s_xVv (st := []) (ci := 9) [.int (0 : Int32)] hF hD dX11_work_25 cwX11_117 (Nat.le_of_ble_eq_true rfl) (Nat.le_of_ble_eq_true rfl) rfl rfl (Nat.le_of_ble_eq_true rfl) g76 rfl rfl (Nat.le_of_ble_eq_true rfl) (ctX9_open (g_R m2 l0 0) (0 : Int32) _) (fun r70 m71 hl72 hm73 => ?_)
    refine s_bipush (v := (-20 : Int32)) hF dX11_work_28 kB_m20 ?_
    exact s_iretX hF hD dX11_work_30 rfl
theorem ctX11_chain  (l0 : Nat) (l1 : Int32) (μ : Mem) : ∀ (r : (Nat ⊕ Int32)) (μ' : Mem), LX11_chain l0 l1 μ = some (r, μ') → CtX yX11_chain cX11_chain 3 (some .int) 11 [.ref l0, .int l1] μ ((encX encI) r) μ' := by
  refine ct_enterX plX11 (Nat.le_of_ble_eq_true rfl) (fun F hF hD hI => ?_)
  unfold LX11_chain
  refine sim_gd (fun f0 => ?_)
  refine s_aload_n hF dX11_chain_0 rfl 0 rfl ?_
  refine s_iload_n hF dX11_chain_1 rfl 1 rfl ?_
  refine s_bipush (v := (60 : Int32)) hF dX11_chain_2 kB_60 ?_
  refine s_tVv (st := []) (ci := 11) [.int l1, .int (60 : Int32)] hF hD dX11_chain_4 cwX11_113 (Nat.le_of_ble_eq_true rfl) (Nat.le_of_ble_eq_true rfl) rfl rfl (Nat.le_of_ble_eq_true rfl) f0 rfl rfl (Nat.le_of_ble_eq_true rfl) (ctX11_needText l0 l1 (60 : Int32) _) (fun r1 m2 hl3 hm4 => ?_)
  refine s_aload_n hF dX11_chain_7 rfl 0 rfl ?_
  refine sim_gd (fun g7 => ?_)
  refine s_getR (x := (g_R m2 l0 0)) hF dX11_chain_8 flX11_10 (isK.mo f0 hm4) g7 rfl ?_
  refine s_iload_n hF dX11_chain_11 rfl 1 rfl ?_
  refine sim_gd (fun g14 => ?_)
  refine s_xVv (st := []) (ci := 9) [.int l1] hF hD dX11_chain_12 cwX11_117 (Nat.le_of_ble_eq_true rfl) (Nat.le_of_ble_eq_true rfl) rfl rfl (Nat.le_of_ble_eq_true rfl) g14 rfl rfl (Nat.le_of_ble_eq_true rfl) (ctX9_open (g_R m2 l0 0) l1 _) (fun r8 m9 hl10 hm11 => ?_)
  refine s_aload_n hF dX11_chain_15 rfl 0 rfl ?_
  refine sim_gd (fun g15 => ?_)
  refine s_getR (x := (g_R m9 l0 14)) hF dX11_chain_16 flX11_92 (isK.mo (isK.mo f0 hm4) hm11) g15 rfl ?_
  refine s_aload_n hF dX11_chain_19 rfl 0 rfl ?_
  refine sim_gd (fun g16 => ?_)
  refine s_getR (x := (g_R m9 l0 0)) hF dX11_chain_20 flX11_10 (isK.mo (isK.mo f0 hm4) hm11) g16 rfl ?_
  refine s_aload_n hF dX11_chain_23 rfl 0 rfl ?_
  refine sim_gd (fun g17 => ?_)
  refine s_getR (x := (g_R m9 l0 9)) hF dX11_chain_24 flX11_68 (isK.mo (isK.mo f0 hm4) hm11) g17 rfl ?_
  refine sim_gd (fun g18 => ?_)
  refine s_getIq (x := (g_I m9 (g_R m9 l0 9) 0)) hF dX11_chain_27 fqX11_144 g18 rfl ?_
  refine sim_gd (fun g25 => ?_)
  refine s_xVv (st := []) (ci := 1) [.ref (g_R m9 l0 0), .int (g_I m9 (g_R m9 l0 9) 0)] hF hD dX11_chain_30 cwX11_173 (Nat.le_of_ble_eq_true rfl) (Nat.le_of_ble_eq_true rfl) rfl rfl (Nat.le_of_ble_eq_true rfl) g25 rfl rfl (Nat.le_of_ble_eq_true rfl) (ctX1_parse (g_R m9 l0 14) (g_R m9 l0 0) (g_I m9 (g_R m9 l0 9) 0) _) (fun r19 m20 hl21 hm22 => ?_)
  refine s_aload_n hF dX11_chain_33 rfl 0 rfl ?_
  refine sim_gd (fun g26 => ?_)
  refine s_getR (x := (g_R m20 l0 0)) hF dX11_chain_34 flX11_10 (isK.mo (isK.mo (isK.mo f0 hm4) hm11) hm22) g26 rfl ?_
  refine sim_gd (fun g33 => ?_)
  refine s_xVi (st := []) (ci := 9) [] hF hD dX11_chain_37 cwX11_124 (Nat.le_of_ble_eq_true rfl) (Nat.le_of_ble_eq_true rfl) rfl rfl (Nat.le_of_ble_eq_true rfl) g33 rfl rfl (Nat.le_of_ble_eq_true rfl) (ctX9_failed (g_R m20 l0 0) _) (fun r27 m28 hl29 hm30 => ?_)
  refine s_if_eq (tgt := 54) hF dX11_chain_40 rfl (fun c34 => ?_) (fun c34 => ?_)
  · refine s_aload_n hF dX11_chain_54 rfl 0 rfl ?_
    refine sim_gd (fun g35 => ?_)
    refine s_getR (x := (g_R m28 l0 13)) hF dX11_chain_55 flX11_88 (isK.mo (isK.mo (isK.mo (isK.mo f0 hm4) hm11) hm22) hm30) g35 rfl ?_
    refine sim_gd (fun g36 => ?_)
    refine s_astore_n (pls' := [(2, .ref (g_R m28 l0 13)), (0, .ref l0), (1, .int l1)]) hF dX11_chain_58 rfl (by decide) rfl ?_
    refine s_aload_n hF dX11_chain_59 rfl 1 rfl ?_
    refine s_aload_n hF dX11_chain_60 rfl 1 rfl ?_
    refine sim_gd (fun g37 => ?_)
    refine s_getR (x := (g_R m28 l0 14)) hF dX11_chain_61 flX11_92 (isK.mo (isK.mo (isK.mo (isK.mo f0 hm4) hm11) hm22) hm30) g37 rfl ?_
    refine s_putR hF dX11_chain_64 flX11_88 (isK.mo (isK.mo (isK.mo (isK.mo f0 hm4) hm11) hm22) hm30) g37 ?_
    refine s_aload_n hF dX11_chain_67 rfl 1 rfl ?_
    refine s_aload_n hF dX11_chain_68 rfl 0 rfl ?_
    refine s_putR hF dX11_chain_69 flX11_92 (isK.mo (isK.mo (isK.mo (isK.mo f0 hm4) hm11) hm22) hm30) ((isK_iff.mp g36).1) ?_
    refine s_aload_n hF dX11_chain_72 rfl 1 rfl ?_
    refine sim_gd (fun g38 => ?_)
    refine s_getR (x := (g_R (p_R (p_R m28 l0 13 (g_R m28 l0 14)) l0 14 (g_R m28 l0 13)) l0 13)) hF dX11_chain_73 flX11_88 (isK.mo (isK.mo (isK.mo (isK.mo f0 hm4) hm11) hm22) hm30) g38 rfl ?_
    refine sim_gd (fun g39 => ?_)
    refine s_getIq (x := (g_I m28 (g_R (p_R (p_R m28 l0 13 (g_R m28 l0 14)) l0 14 (g_R m28 l0 13)) l0 13) 1)) hF dX11_chain_76 fqX11_176 g39 rfl ?_
    exact s_iretX hF hD dX11_chain_79 rfl
  · refine s_aload_n hF dX11_chain_43 rfl 0 rfl ?_
    refine sim_gd (fun g40 => ?_)
    refine s_getR (x := (g_R m28 l0 0)) hF dX11_chain_44 flX11_10 (isK.mo (isK.mo (isK.mo (isK.mo f0 hm4) hm11) hm22) hm30) g40 rfl ?_
    refine sim_gd (fun g41 => ?_)
    refine s_getIq (x := (g_I m28 (g_R m28 l0 0) 2)) hF dX11_chain_47 fqX11_128 g41 rfl ?_
    refine s_bipush (v := (10 : Int32)) hF dX11_chain_50 kB_10 ?_
    refine s_isub hF dX11_chain_52 ?_
    exact s_iretX hF hD dX11_chain_53 rfl
theorem ctX11_book  (l0 : Nat) (l1 : Int32) (μ : Mem) : ∀ (r : (Nat ⊕ Int32)) (μ' : Mem), LX11_book l0 l1 μ = some (r, μ') → CtX yX11_book cX11_book 3 (some .int) 11 [.ref l0, .int l1] μ ((encX encI) r) μ' := by
  refine ct_enterX plX11 (Nat.le_of_ble_eq_true rfl) (fun F hF hD hI => ?_)
  unfold LX11_book
  refine sim_gd (fun f0 => ?_)
  refine s_aload_n hF dX11_book_0 rfl 0 rfl ?_
  refine s_iload_n hF dX11_book_1 rfl 1 rfl ?_
  refine s_bipush (v := (60 : Int32)) hF dX11_book_2 kB_60 ?_
  refine s_tVv (st := []) (ci := 11) [.int l1, .int (60 : Int32)] hF hD dX11_book_4 cwX11_113 (Nat.le_of_ble_eq_true rfl) (Nat.le_of_ble_eq_true rfl) rfl rfl (Nat.le_of_ble_eq_true rfl) f0 rfl rfl (Nat.le_of_ble_eq_true rfl) (ctX11_needText l0 l1 (60 : Int32) _) (fun r1 m2 hl3 hm4 => ?_)
  refine s_aload_n hF dX11_book_7 rfl 0 rfl ?_
  refine sim_gd (fun g7 => ?_)
  refine s_getR (x := (g_R m2 l0 0)) hF dX11_book_8 flX11_10 (isK.mo f0 hm4) g7 rfl ?_
  refine s_iload_n hF dX11_book_11 rfl 1 rfl ?_
  refine sim_gd (fun g14 => ?_)
  refine s_xVv (st := []) (ci := 9) [.int l1] hF hD dX11_book_12 cwX11_117 (Nat.le_of_ble_eq_true rfl) (Nat.le_of_ble_eq_true rfl) rfl rfl (Nat.le_of_ble_eq_true rfl) g14 rfl rfl (Nat.le_of_ble_eq_true rfl) (ctX9_open (g_R m2 l0 0) l1 _) (fun r8 m9 hl10 hm11 => ?_)
  refine s_aload_n hF dX11_book_15 rfl 0 rfl ?_
  refine sim_gd (fun g15 => ?_)
  refine s_getR (x := (g_R m9 l0 16)) hF dX11_book_16 flX11_102 (isK.mo (isK.mo f0 hm4) hm11) g15 rfl ?_
  refine s_aload_n hF dX11_book_19 rfl 0 rfl ?_
  refine sim_gd (fun g16 => ?_)
  refine s_getR (x := (g_R m9 l0 0)) hF dX11_book_20 flX11_10 (isK.mo (isK.mo f0 hm4) hm11) g16 rfl ?_
  refine sim_gd (fun g23 => ?_)
  refine s_xVv (st := []) (ci := 0) [.ref (g_R m9 l0 0)] hF hD dX11_book_23 cwX11_179 (Nat.le_of_ble_eq_true rfl) (Nat.le_of_ble_eq_true rfl) rfl rfl (Nat.le_of_ble_eq_true rfl) g23 rfl rfl (Nat.le_of_ble_eq_true rfl) (ctX0_parse (g_R m9 l0 16) (g_R m9 l0 0) _) (fun r17 m18 hl19 hm20 => ?_)
  refine s_aload_n hF dX11_book_26 rfl 0 rfl ?_
  refine sim_gd (fun g24 => ?_)
  refine s_getR (x := (g_R m18 l0 0)) hF dX11_book_27 flX11_10 (isK.mo (isK.mo (isK.mo f0 hm4) hm11) hm20) g24 rfl ?_
  refine sim_gd (fun g31 => ?_)
  refine s_xVi (st := []) (ci := 9) [] hF hD dX11_book_30 cwX11_124 (Nat.le_of_ble_eq_true rfl) (Nat.le_of_ble_eq_true rfl) rfl rfl (Nat.le_of_ble_eq_true rfl) g31 rfl rfl (Nat.le_of_ble_eq_true rfl) (ctX9_failed (g_R m18 l0 0) _) (fun r25 m26 hl27 hm28 => ?_)
  refine s_if_eq (tgt := 47) hF dX11_book_33 rfl (fun c32 => ?_) (fun c32 => ?_)
  · refine s_aload_n hF dX11_book_47 rfl 0 rfl ?_
    refine sim_gd (fun g33 => ?_)
    refine s_getR (x := (g_R m26 l0 15)) hF dX11_book_48 flX11_98 (isK.mo (isK.mo (isK.mo (isK.mo f0 hm4) hm11) hm20) hm28) g33 rfl ?_
    refine sim_gd (fun g34 => ?_)
    refine s_astore_n (pls' := [(2, .ref (g_R m26 l0 15)), (0, .ref l0), (1, .int l1)]) hF dX11_book_51 rfl (by decide) rfl ?_
    refine s_aload_n hF dX11_book_52 rfl 1 rfl ?_
    refine s_aload_n hF dX11_book_53 rfl 1 rfl ?_
    refine sim_gd (fun g35 => ?_)
    refine s_getR (x := (g_R m26 l0 16)) hF dX11_book_54 flX11_102 (isK.mo (isK.mo (isK.mo (isK.mo f0 hm4) hm11) hm20) hm28) g35 rfl ?_
    refine s_putR hF dX11_book_57 flX11_98 (isK.mo (isK.mo (isK.mo (isK.mo f0 hm4) hm11) hm20) hm28) g35 ?_
    refine s_aload_n hF dX11_book_60 rfl 1 rfl ?_
    refine s_aload_n hF dX11_book_61 rfl 0 rfl ?_
    refine s_putR hF dX11_book_62 flX11_102 (isK.mo (isK.mo (isK.mo (isK.mo f0 hm4) hm11) hm20) hm28) ((isK_iff.mp g34).1) ?_
    refine s_aload_n hF dX11_book_65 rfl 1 rfl ?_
    refine sim_gd (fun g36 => ?_)
    refine s_getR (x := (g_R (p_R (p_R m26 l0 15 (g_R m26 l0 16)) l0 16 (g_R m26 l0 15)) l0 15)) hF dX11_book_66 flX11_98 (isK.mo (isK.mo (isK.mo (isK.mo f0 hm4) hm11) hm20) hm28) g36 rfl ?_
    refine sim_gd (fun g37 => ?_)
    refine s_getIq (x := (g_I m26 (g_R (p_R (p_R m26 l0 15 (g_R m26 l0 16)) l0 16 (g_R m26 l0 15)) l0 15) 2)) hF dX11_book_69 fqX11_180 g37 rfl ?_
    exact s_iretX hF hD dX11_book_72 rfl
  · refine s_aload_n hF dX11_book_36 rfl 0 rfl ?_
    refine sim_gd (fun g38 => ?_)
    refine s_getR (x := (g_R m26 l0 0)) hF dX11_book_37 flX11_10 (isK.mo (isK.mo (isK.mo (isK.mo f0 hm4) hm11) hm20) hm28) g38 rfl ?_
    refine sim_gd (fun g39 => ?_)
    refine s_getIq (x := (g_I m26 (g_R m26 l0 0) 2)) hF dX11_book_40 fqX11_128 g39 rfl ?_
    refine s_bipush (v := (10 : Int32)) hF dX11_book_43 kB_10 ?_
    refine s_isub hF dX11_book_45 ?_
    exact s_iretX hF hD dX11_book_46 rfl
theorem ctX11_fault  (l0 : Nat) (μ : Mem) : ∀ (r : Int32) (μ' : Mem), LX11_fault l0 μ = some (r, μ') → CtX yX11_fault cX11_fault 1 (some .int) 0 [.ref l0] μ (encI r) μ' := by
  refine ct_enterX plX11 (Nat.le_of_ble_eq_true rfl) (fun F hF hD hI => ?_)
  unfold LX11_fault
  refine sim_gd (fun f0 => ?_)
  refine s_aload_n hF dX11_fault_0 rfl 0 rfl ?_
  refine sim_gd (fun g1 => ?_)
  refine s_getR (x := (g_R μ l0 0)) hF dX11_fault_1 flX11_10 f0 g1 rfl ?_
  refine sim_gd (fun g2 => ?_)
  refine s_getIq (x := (g_I μ (g_R μ l0 0) 3)) hF dX11_fault_4 fqX11_183 g2 rfl ?_
  exact s_iretX hF hD dX11_fault_7 rfl
theorem ctX11_undo  (l0 : Nat) (μ : Mem) : ∀ (r : Int32) (μ' : Mem), LX11_undo l0 μ = some (r, μ') → CtX yX11_undo cX11_undo 1 (some .int) 5 [.ref l0] μ (encI r) μ' := by
  refine ct_enterX plX11 (Nat.le_of_ble_eq_true rfl) (fun F hF hD hI => ?_)
  unfold LX11_undo
  refine sim_gd (fun f0 => ?_)
  refine s_aload_n hF dX11_undo_0 rfl 0 rfl ?_
  refine sim_gd (fun g1 => ?_)
  refine s_getR (x := (g_R μ l0 2)) hF dX11_undo_1 flX11_26 f0 g1 rfl ?_
  refine sim_gd (fun g2 => ?_)
  refine s_getIq (x := (g_I μ (g_R μ l0 2) 4)) hF dX11_undo_4 fqX11_148 g2 rfl ?_
  refine s_if_ne (tgt := 12) hF dX11_undo_7 rfl (fun c3 => ?_) (fun c3 => ?_)
  · refine s_iconst (v := (-1 : Int32)) hF dX11_undo_10 kI_m1 ?_
    exact s_iretX hF hD dX11_undo_11 rfl
  · refine s_aload_n hF dX11_undo_12 rfl 0 rfl ?_
    refine s_getR (x := (g_R μ l0 2)) hF dX11_undo_13 flX11_26 f0 g1 rfl ?_
    refine s_aload_n hF dX11_undo_16 rfl 0 rfl ?_
    refine sim_gd (fun g4 => ?_)
    refine s_getR (x := (g_R μ l0 3)) hF dX11_undo_17 flX11_33 f0 g4 rfl ?_
    refine s_xVv (st := []) (ci := 2) [.ref (g_R μ l0 3)] hF hD dX11_undo_20 cwX11_186 (Nat.le_of_ble_eq_true rfl) (Nat.le_of_ble_eq_true rfl) rfl rfl (Nat.le_of_ble_eq_true rfl) g2 rfl rfl (Nat.le_of_ble_eq_true rfl) (ctX2_takeBack (g_R μ l0 2) (g_R μ l0 3) _) (fun r5 m6 hl7 hm8 => ?_)
    refine s_aload_n hF dX11_undo_23 rfl 0 rfl ?_
    refine s_iconst (v := (0 : Int32)) hF dX11_undo_24 kI_0 ?_
    refine s_putI hF dX11_undo_25 flX11_141 (isK.mo f0 hm8) ?_
    refine s_aload_n hF dX11_undo_28 rfl 0 rfl ?_
    refine sim_gd (fun g11 => ?_)
    refine s_getR (x := (g_R m6 l0 2)) hF dX11_undo_29 flX11_26 (isK.mo f0 hm8) g11 rfl ?_
    refine sim_gd (fun g12 => ?_)
    refine s_getIq (x := (g_I (p_I m6 l0 17 (0 : Int32)) (g_R m6 l0 2) 4)) hF dX11_undo_32 fqX11_148 g12 rfl ?_
    exact s_iretX hF hD dX11_undo_35 rfl
theorem sX11_jamBits_4 {F : Option Fx} (hF : FxO F RX11 cX11_jamBits 3 1) (hD : FxXO F (some .int)) : ∀ (fu : Nat) (l0 : Nat) (l1 : Int32) (l2 : Int32) (μ : Mem) (f0 : isK μ l0 11 = true), Sim F encI 4 [(0, .ref l0), (1, .int l1), (2, .int l2)] [] μ (mX11_jamBits_4 fu l0 l1 l2 μ) := by
  intro fu
  induction fu with
  | zero =>
    intro l0 l1 l2 μ f0
    exact sim_none
  | succ fu ih =>
    intro l0 l1 l2 μ f0
    rw [mX11_jamBits_4]
    refine s_iload_n hF dX11_jamBits_4 rfl 2 rfl ?_
    refine s_aload_n hF dX11_jamBits_5 rfl 0 rfl ?_
    refine sim_gd (fun g1 => ?_)
    refine s_getR (x := (g_R μ l0 9)) hF dX11_jamBits_6 flX11_68 f0 g1 rfl ?_
    refine sim_gd (fun g2 => ?_)
    refine s_getIq (x := (g_I μ (g_R μ l0 9) 0)) hF dX11_jamBits_9 fqX11_144 g2 rfl ?_
    refine s_icmp_ge (tgt := 42) hF dX11_jamBits_12 rfl (fun c3 => ?_) (fun c3 => ?_)
    · refine s_iload_n hF dX11_jamBits_42 rfl 1 rfl ?_
      exact s_iretX hF hD dX11_jamBits_43 rfl
    · refine s_aload_n hF dX11_jamBits_15 rfl 0 rfl ?_
      refine sim_gd (fun g4 => ?_)
      refine s_getR (x := (g_R μ l0 3)) hF dX11_jamBits_16 flX11_33 f0 g4 rfl ?_
      refine sim_gd (fun g5 => ?_)
      refine sim_gd (fun g6 => ?_)
      refine s_getRq (x := (g_R μ (g_R μ l0 3) 0)) hF dX11_jamBits_19 fqX11_218 g5 g6 rfl ?_
      refine s_iload_n hF dX11_jamBits_22 rfl 2 rfl ?_
      refine sim_gd (fun g7 => ?_)
      refine sim_gd (fun g8 => ?_)
      refine s_aaload (x := (g_R μ (g_R μ (g_R μ l0 3) 0) l2.toNatClampNeg)) hF dX11_jamBits_23 (by decide) (by decide) g7 g8 rfl ?_
      refine sim_gd (fun g15 => ?_)
      refine s_xVi (st := []) (ci := 5) [] hF hD dX11_jamBits_24 cwX11_256 (Nat.le_of_ble_eq_true rfl) (Nat.le_of_ble_eq_true rfl) rfl rfl (Nat.le_of_ble_eq_true rfl) g15 rfl rfl (Nat.le_of_ble_eq_true rfl) (ctX5_jams (g_R μ (g_R μ (g_R μ l0 3) 0) l2.toNatClampNeg) _) (fun r9 m10 hl11 hm12 => ?_)
      refine s_if_eq (tgt := 36) hF dX11_jamBits_27 rfl (fun c16 => ?_) (fun c16 => ?_)
      · refine s_iinc (v := (l2 + (1 : Int32))) (pls' := [(2, .int (l2 + (1 : Int32))), (0, .ref l0), (1, .int l1)]) hF dX11_jamBits_36 2 rfl rfl (by decide) rfl ?_
        refine s_goto (tgt := 4) hF dX11_jamBits_39 rfl ?_
        refine s_sub [1, 2, 0] rfl ?_
        exact ih l0 l1 (l2 + (1 : Int32)) _ (isK.mo f0 hm12)
      · refine s_iload_n hF dX11_jamBits_30 rfl 1 rfl ?_
        refine s_iconst (v := (1 : Int32)) hF dX11_jamBits_31 kI_1 ?_
        refine s_iload_n hF dX11_jamBits_32 rfl 2 rfl ?_
        refine s_ishl hF dX11_jamBits_33 ?_
        refine s_ior hF dX11_jamBits_34 ?_
        refine s_istore_n (pls' := [(1, .int (l1 ||| ((1 : Int32) <<< (l2 &&& 31)))), (0, .ref l0), (2, .int l2)]) hF dX11_jamBits_35 rfl (by decide) rfl ?_
        refine s_iinc (v := (l2 + (1 : Int32))) (pls' := [(2, .int (l2 + (1 : Int32))), (1, .int (l1 ||| ((1 : Int32) <<< (l2 &&& 31)))), (0, .ref l0)]) hF dX11_jamBits_36 2 rfl rfl (by decide) rfl ?_
        refine s_goto (tgt := 4) hF dX11_jamBits_39 rfl ?_
        refine s_sub [2, 1, 0] rfl ?_
        exact ih l0 (l1 ||| ((1 : Int32) <<< (l2 &&& 31))) (l2 + (1 : Int32)) _ (isK.mo f0 hm12)
theorem ctX11_jamBits  (l0 : Nat) (μ : Mem) : ∀ (r : Int32) (μ' : Mem), LX11_jamBits l0 μ = some (r, μ') → CtX yX11_jamBits cX11_jamBits 3 (some .int) 1 [.ref l0] μ (encI r) μ' := by
  refine ct_enterX plX11 (Nat.le_of_ble_eq_true rfl) (fun F hF hD hI => ?_)
  unfold LX11_jamBits
  refine sim_gd (fun f0 => ?_)
  refine s_iconst (v := (0 : Int32)) hF dX11_jamBits_0 kI_0 ?_
  refine s_istore_n (pls' := [(1, .int (0 : Int32)), (0, .ref l0)]) hF dX11_jamBits_1 rfl (by decide) rfl ?_
  refine s_iconst (v := (0 : Int32)) hF dX11_jamBits_2 kI_0 ?_
  refine s_istore_n (pls' := [(2, .int (0 : Int32)), (1, .int (0 : Int32)), (0, .ref l0)]) hF dX11_jamBits_3 rfl (by decide) rfl ?_
  refine s_sub [2, 1, 0] rfl ?_
  exact sX11_jamBits_4 hF hD 100000 l0 (0 : Int32) (0 : Int32) _ f0
theorem sX11_sheetBits_4 {F : Option Fx} (hF : FxO F RX11 cX11_sheetBits 3 0) (hD : FxXO F (some .int)) : ∀ (fu : Nat) (l0 : Nat) (l1 : Int32) (l2 : Int32) (μ : Mem) (f0 : isK μ l0 11 = true), Sim F encI 4 [(0, .ref l0), (1, .int l1), (2, .int l2)] [] μ (mX11_sheetBits_4 fu l0 l1 l2 μ) := by
  intro fu
  induction fu with
  | zero =>
    intro l0 l1 l2 μ f0
    exact sim_none
  | succ fu ih =>
    intro l0 l1 l2 μ f0
    rw [mX11_sheetBits_4]
    refine s_iload_n hF dX11_sheetBits_4 rfl 2 rfl ?_
    refine s_aload_n hF dX11_sheetBits_5 rfl 0 rfl ?_
    refine sim_gd (fun g1 => ?_)
    refine s_getR (x := (g_R μ l0 9)) hF dX11_sheetBits_6 flX11_68 f0 g1 rfl ?_
    refine sim_gd (fun g2 => ?_)
    refine s_getIq (x := (g_I μ (g_R μ l0 9) 0)) hF dX11_sheetBits_9 fqX11_144 g2 rfl ?_
    refine s_icmp_ge (tgt := 43) hF dX11_sheetBits_12 rfl (fun c3 => ?_) (fun c3 => ?_)
    · refine s_iload_n hF dX11_sheetBits_43 rfl 1 rfl ?_
      exact s_iretX hF hD dX11_sheetBits_44 rfl
    · refine s_aload_n hF dX11_sheetBits_15 rfl 0 rfl ?_
      refine sim_gd (fun g4 => ?_)
      refine s_getR (x := (g_R μ l0 3)) hF dX11_sheetBits_16 flX11_33 f0 g4 rfl ?_
      refine sim_gd (fun g5 => ?_)
      refine sim_gd (fun g6 => ?_)
      refine s_getRq (x := (g_R μ (g_R μ l0 3) 0)) hF dX11_sheetBits_19 fqX11_218 g5 g6 rfl ?_
      refine s_iload_n hF dX11_sheetBits_22 rfl 2 rfl ?_
      refine sim_gd (fun g7 => ?_)
      refine sim_gd (fun g8 => ?_)
      refine s_aaload (x := (g_R μ (g_R μ (g_R μ l0 3) 0) l2.toNatClampNeg)) hF dX11_sheetBits_23 (by decide) (by decide) g7 g8 rfl ?_
      refine sim_gd (fun g9 => ?_)
      refine s_getIq (x := (g_I μ (g_R μ (g_R μ (g_R μ l0 3) 0) l2.toNatClampNeg) 3)) hF dX11_sheetBits_24 fqX11_230 g9 rfl ?_
      refine s_iconst (v := (-1 : Int32)) hF dX11_sheetBits_27 kI_m1 ?_
      refine s_icmp_eq (tgt := 37) hF dX11_sheetBits_28 rfl (fun c10 => ?_) (fun c10 => ?_)
      · refine s_iinc (v := (l2 + (1 : Int32))) (pls' := [(2, .int (l2 + (1 : Int32))), (0, .ref l0), (1, .int l1)]) hF dX11_sheetBits_37 2 rfl rfl (by decide) rfl ?_
        refine s_goto (tgt := 4) hF dX11_sheetBits_40 rfl ?_
        refine s_sub [1, 2, 0] rfl ?_
        exact ih l0 l1 (l2 + (1 : Int32)) _ f0
      · refine s_iload_n hF dX11_sheetBits_31 rfl 1 rfl ?_
        refine s_iconst (v := (1 : Int32)) hF dX11_sheetBits_32 kI_1 ?_
        refine s_iload_n hF dX11_sheetBits_33 rfl 2 rfl ?_
        refine s_ishl hF dX11_sheetBits_34 ?_
        refine s_ior hF dX11_sheetBits_35 ?_
        refine s_istore_n (pls' := [(1, .int (l1 ||| ((1 : Int32) <<< (l2 &&& 31)))), (0, .ref l0), (2, .int l2)]) hF dX11_sheetBits_36 rfl (by decide) rfl ?_
        refine s_iinc (v := (l2 + (1 : Int32))) (pls' := [(2, .int (l2 + (1 : Int32))), (1, .int (l1 ||| ((1 : Int32) <<< (l2 &&& 31)))), (0, .ref l0)]) hF dX11_sheetBits_37 2 rfl rfl (by decide) rfl ?_
        refine s_goto (tgt := 4) hF dX11_sheetBits_40 rfl ?_
        refine s_sub [2, 1, 0] rfl ?_
        exact ih l0 (l1 ||| ((1 : Int32) <<< (l2 &&& 31))) (l2 + (1 : Int32)) _ f0
theorem ctX11_sheetBits  (l0 : Nat) (μ : Mem) : ∀ (r : Int32) (μ' : Mem), LX11_sheetBits l0 μ = some (r, μ') → CtX yX11_sheetBits cX11_sheetBits 3 (some .int) 0 [.ref l0] μ (encI r) μ' := by
  refine ct_enterX plX11 (Nat.le_of_ble_eq_true rfl) (fun F hF hD hI => ?_)
  unfold LX11_sheetBits
  refine sim_gd (fun f0 => ?_)
  refine s_iconst (v := (0 : Int32)) hF dX11_sheetBits_0 kI_0 ?_
  refine s_istore_n (pls' := [(1, .int (0 : Int32)), (0, .ref l0)]) hF dX11_sheetBits_1 rfl (by decide) rfl ?_
  refine s_iconst (v := (0 : Int32)) hF dX11_sheetBits_2 kI_0 ?_
  refine s_istore_n (pls' := [(2, .int (0 : Int32)), (1, .int (0 : Int32)), (0, .ref l0)]) hF dX11_sheetBits_3 rfl (by decide) rfl ?_
  refine s_sub [2, 1, 0] rfl ?_
  exact sX11_sheetBits_4 hF hD 100000 l0 (0 : Int32) (0 : Int32) _ f0
theorem ctX11_told  (l0 : Nat) (l1 : Int32) (μ : Mem) : ∀ (r : (Nat ⊕ Int32)) (μ' : Mem), LX11_told l0 l1 μ = some (r, μ') → CtX yX11_told cX11_told 2 (some .int) 10 [.ref l0, .int l1] μ ((encX encI) r) μ' := by
  refine ct_enterX plX11 (Nat.le_of_ble_eq_true rfl) (fun F hF hD hI => ?_)
  unfold LX11_told
  refine sim_gd (fun f0 => ?_)
  refine s_aload_n hF dX11_told_0 rfl 0 rfl ?_
  refine s_iload_n hF dX11_told_1 rfl 1 rfl ?_
  refine s_iconst (v := (0 : Int32)) hF dX11_told_2 kI_0 ?_
  refine s_bipush (v := (10 : Int32)) hF dX11_told_3 kB_10 ?_
  refine s_tVv (st := []) (ci := 11) [.int l1, .int (0 : Int32), .int (10 : Int32)] hF hD dX11_told_5 cwX11_189 (Nat.le_of_ble_eq_true rfl) (Nat.le_of_ble_eq_true rfl) rfl rfl (Nat.le_of_ble_eq_true rfl) f0 rfl rfl (Nat.le_of_ble_eq_true rfl) (ctX11_needWithin l0 l1 (0 : Int32) (10 : Int32) _) (fun r1 m2 hl3 hm4 => ?_)
  refine s_iload_n hF dX11_told_8 rfl 1 rfl ?_
  refine sim_if (fun c7 => ?_) (fun c7 => ?_)
  · refine s_tin (v := (0 : Int32)) (tgt := 64) hF dX11_told_9 c7 (by decide) (by decide) rfl rfl ?_
    refine s_aload_n hF dX11_told_64 rfl 0 rfl ?_
    refine sim_gd (fun g8 => ?_)
    refine s_getR (x := (g_R m2 l0 9)) hF dX11_told_65 flX11_68 (isK.mo f0 hm4) g8 rfl ?_
    refine sim_gd (fun g9 => ?_)
    refine s_getIq (x := (g_I m2 (g_R m2 l0 9) 0)) hF dX11_told_68 fqX11_144 g9 rfl ?_
    exact s_iretX hF hD dX11_told_71 rfl
  · refine sim_if (fun c10 => ?_) (fun c10 => ?_)
    · refine s_tin (v := (1 : Int32)) (tgt := 72) hF dX11_told_9 c10 (by decide) (by decide) rfl rfl ?_
      refine s_aload_n hF dX11_told_72 rfl 0 rfl ?_
      refine sim_gd (fun g11 => ?_)
      refine s_getR (x := (g_R m2 l0 9)) hF dX11_told_73 flX11_68 (isK.mo f0 hm4) g11 rfl ?_
      refine sim_gd (fun g12 => ?_)
      refine s_getIq (x := (g_I m2 (g_R m2 l0 9) 4)) hF dX11_told_76 fqX11_193 g12 rfl ?_
      exact s_iretX hF hD dX11_told_79 rfl
    · refine sim_if (fun c13 => ?_) (fun c13 => ?_)
      · refine s_tin (v := (2 : Int32)) (tgt := 80) hF dX11_told_9 c13 (by decide) (by decide) rfl rfl ?_
        refine s_aload_n hF dX11_told_80 rfl 0 rfl ?_
        refine sim_gd (fun g14 => ?_)
        refine s_getR (x := (g_R m2 l0 3)) hF dX11_told_81 flX11_33 (isK.mo f0 hm4) g14 rfl ?_
        refine sim_gd (fun g15 => ?_)
        refine s_getIq (x := (g_I m2 (g_R m2 l0 3) 2)) hF dX11_told_84 fqX11_196 g15 rfl ?_
        exact s_iretX hF hD dX11_told_87 rfl
      · refine sim_if (fun c16 => ?_) (fun c16 => ?_)
        · refine s_tin (v := (3 : Int32)) (tgt := 88) hF dX11_told_9 c16 (by decide) (by decide) rfl rfl ?_
          refine s_aload_n hF dX11_told_88 rfl 0 rfl ?_
          refine s_xVi (st := []) (ci := 11) [] hF hD dX11_told_89 cwX11_199 (Nat.le_of_ble_eq_true rfl) (Nat.le_of_ble_eq_true rfl) rfl rfl (Nat.le_of_ble_eq_true rfl) (isK.mo f0 hm4) rfl rfl (Nat.le_of_ble_eq_true rfl) (ctX11_sheetBits l0 _) (fun r17 m18 hl19 hm20 => ?_)
          exact s_iretX hF hD dX11_told_92 rfl
        · refine sim_if (fun c23 => ?_) (fun c23 => ?_)
          · refine s_tin (v := (4 : Int32)) (tgt := 93) hF dX11_told_9 c23 (by decide) (by decide) rfl rfl ?_
            refine s_aload_n hF dX11_told_93 rfl 0 rfl ?_
            refine sim_gd (fun g24 => ?_)
            refine s_getR (x := (g_R m2 l0 3)) hF dX11_told_94 flX11_33 (isK.mo f0 hm4) g24 rfl ?_
            refine sim_gd (fun g31 => ?_)
            refine s_xVi (st := []) (ci := 8) [] hF hD dX11_told_97 cwX11_203 (Nat.le_of_ble_eq_true rfl) (Nat.le_of_ble_eq_true rfl) rfl rfl (Nat.le_of_ble_eq_true rfl) g31 rfl rfl (Nat.le_of_ble_eq_true rfl) (ctX8_records (g_R m2 l0 3) _) (fun r25 m26 hl27 hm28 => ?_)
            exact s_iretX hF hD dX11_told_100 rfl
          · refine sim_if (fun c32 => ?_) (fun c32 => ?_)
            · refine s_tin (v := (5 : Int32)) (tgt := 101) hF dX11_told_9 c32 (by decide) (by decide) rfl rfl ?_
              refine s_aload_n hF dX11_told_101 rfl 0 rfl ?_
              refine sim_gd (fun g33 => ?_)
              refine s_getR (x := (g_R m2 l0 3)) hF dX11_told_102 flX11_33 (isK.mo f0 hm4) g33 rfl ?_
              refine sim_gd (fun g34 => ?_)
              refine s_getIq (x := (g_I m2 (g_R m2 l0 3) 3)) hF dX11_told_105 fqX11_206 g34 rfl ?_
              exact s_iretX hF hD dX11_told_108 rfl
            · refine sim_if (fun c35 => ?_) (fun c35 => ?_)
              · refine s_tin (v := (6 : Int32)) (tgt := 109) hF dX11_told_9 c35 (by decide) (by decide) rfl rfl ?_
                refine s_aload_n hF dX11_told_109 rfl 0 rfl ?_
                refine sim_gd (fun g36 => ?_)
                refine s_getR (x := (g_R m2 l0 3)) hF dX11_told_110 flX11_33 (isK.mo f0 hm4) g36 rfl ?_
                refine sim_gd (fun g37 => ?_)
                refine s_getIq (x := (g_I m2 (g_R m2 l0 3) 4)) hF dX11_told_113 fqX11_209 g37 rfl ?_
                exact s_iretX hF hD dX11_told_116 rfl
              · refine sim_if (fun c38 => ?_) (fun c38 => ?_)
                · refine s_tin (v := (7 : Int32)) (tgt := 117) hF dX11_told_9 c38 (by decide) (by decide) rfl rfl ?_
                  refine s_aload_n hF dX11_told_117 rfl 0 rfl ?_
                  refine sim_gd (fun g39 => ?_)
                  refine s_getR (x := (g_R m2 l0 13)) hF dX11_told_118 flX11_88 (isK.mo f0 hm4) g39 rfl ?_
                  refine sim_gd (fun g40 => ?_)
                  refine s_getIq (x := (g_I m2 (g_R m2 l0 13) 1)) hF dX11_told_121 fqX11_176 g40 rfl ?_
                  exact s_iretX hF hD dX11_told_124 rfl
                · refine sim_if (fun c41 => ?_) (fun c41 => ?_)
                  · refine s_tin (v := (8 : Int32)) (tgt := 125) hF dX11_told_9 c41 (by decide) (by decide) rfl rfl ?_
                    refine s_aload_n hF dX11_told_125 rfl 0 rfl ?_
                    refine sim_gd (fun g42 => ?_)
                    refine s_getR (x := (g_R m2 l0 15)) hF dX11_told_126 flX11_98 (isK.mo f0 hm4) g42 rfl ?_
                    refine sim_gd (fun g43 => ?_)
                    refine s_getIq (x := (g_I m2 (g_R m2 l0 15) 2)) hF dX11_told_129 fqX11_180 g43 rfl ?_
                    exact s_iretX hF hD dX11_told_132 rfl
                  · refine sim_if (fun c44 => ?_) (fun c44 => ?_)
                    · refine s_tin (v := (9 : Int32)) (tgt := 133) hF dX11_told_9 c44 (by decide) (by decide) rfl rfl ?_
                      refine s_aload_n hF dX11_told_133 rfl 0 rfl ?_
                      refine s_getI (x := (g_I m2 l0 17)) hF dX11_told_134 flX11_141 (isK.mo f0 hm4) rfl ?_
                      exact s_iretX hF hD dX11_told_137 rfl
                    · refine s_tout (tgt := 138) hF dX11_told_9 (by have e0 := i32_ne c7 (k := (0 : Int32)) (n := 0) rfl; have e1 := i32_ne c10 (k := (1 : Int32)) (n := 1) rfl; have e2 := i32_ne c13 (k := (2 : Int32)) (n := 2) rfl; have e3 := i32_ne c16 (k := (3 : Int32)) (n := 3) rfl; have e4 := i32_ne c23 (k := (4 : Int32)) (n := 4) rfl; have e5 := i32_ne c32 (k := (5 : Int32)) (n := 5) rfl; have e6 := i32_ne c35 (k := (6 : Int32)) (n := 6) rfl; have e7 := i32_ne c38 (k := (7 : Int32)) (n := 7) rfl; have e8 := i32_ne c41 (k := (8 : Int32)) (n := 8) rfl; have e9 := i32_ne c44 (k := (9 : Int32)) (n := 9) rfl; omega) rfl ?_
                      refine s_aload_n hF dX11_told_138 rfl 0 rfl ?_
                      refine s_xVi (st := []) (ci := 11) [] hF hD dX11_told_139 cwX11_212 (Nat.le_of_ble_eq_true rfl) (Nat.le_of_ble_eq_true rfl) rfl rfl (Nat.le_of_ble_eq_true rfl) (isK.mo f0 hm4) rfl rfl (Nat.le_of_ble_eq_true rfl) (ctX11_jamBits l0 _) (fun r45 m46 hl47 hm48 => ?_)
                      exact s_iretX hF hD dX11_told_142 rfl
theorem ctX11_refuseElement  (l0 : Nat) (μ : Mem) : ∀ (r : (Nat ⊕ Unit)) (μ' : Mem), LX11_refuseElement l0 μ = some (r, μ') → CtX yX11_refuseElement cX11_refuseElement 1 none 8 [.ref l0] μ ((encX encV) r) μ' := by
  refine ct_enterX plX11 (Nat.le_of_ble_eq_true rfl) (fun F hF hD hI => ?_)
  unfold LX11_refuseElement
  refine sim_gd (fun f0 => ?_)
  refine s_aload_n hF dX11_refuseElement_0 rfl 0 rfl ?_
  refine sim_gd (fun g1 => ?_)
  refine s_getR (x := (g_R μ l0 8)) hF dX11_refuseElement_1 flX11_62 f0 g1 rfl ?_
  refine s_iconst (v := (0 : Int32)) hF dX11_refuseElement_4 kI_0 ?_
  refine s_dup2 hF dX11_refuseElement_5 rfl rfl ?_
  refine sim_gd (fun g2 => ?_)
  refine s_iaload (x := (g_I μ (g_R μ l0 8) (0 : Int32).toNatClampNeg)) hF dX11_refuseElement_6 g2 rfl ?_
  refine s_iconst (v := (1 : Int32)) hF dX11_refuseElement_7 kI_1 ?_
  refine s_iadd hF dX11_refuseElement_8 ?_
  refine s_iastore hF dX11_refuseElement_9 g2 ?_
  exact thX11_369 hF hD (Nat.le_of_ble_eq_true rfl) rfl dX11_refuseElement_10 dX11_refuseElement_13 dX11_refuseElement_14 dX11_refuseElement_17 dX11_refuseElement_20 (Nat.le_of_ble_eq_true rfl)
theorem sX11_needPen_15 {F : Option Fx} (hF : FxO F RX11 cX11_needPen 2 9) (hD : FxXO F none) (l0 : Nat) (μ : Mem) (f0 : isK μ l0 11 = true) : Sim F (encX encV) 15 [(0, .ref l0)] [] μ (mX11_needPen_15 l0 μ) := by
  unfold mX11_needPen_15
  refine s_aload_n hF dX11_needPen_15 rfl 0 rfl ?_
  refine s_tVv (st := []) (ci := 11) [] hF hD dX11_needPen_16 cwX11_241 (Nat.le_of_ble_eq_true rfl) (Nat.le_of_ble_eq_true rfl) rfl rfl (Nat.le_of_ble_eq_true rfl) f0 rfl rfl (Nat.le_of_ble_eq_true rfl) (ctX11_refuseElement l0 _) (fun r5 m6 hl7 hm8 => ?_)
  exact s_vretX hF hD dX11_needPen_19 rfl
theorem ctX11_needPen  (l0 : Nat) (l1 : Int32) (μ : Mem) : ∀ (r : (Nat ⊕ Unit)) (μ' : Mem), LX11_needPen l0 l1 μ = some (r, μ') → CtX yX11_needPen cX11_needPen 2 none 9 [.ref l0, .int l1] μ ((encX encV) r) μ' := by
  refine ct_enterX plX11 (Nat.le_of_ble_eq_true rfl) (fun F hF hD hI => ?_)
  unfold LX11_needPen
  refine sim_gd (fun f0 => ?_)
  refine s_iload_n hF dX11_needPen_0 rfl 1 rfl ?_
  refine s_if_lt (tgt := 15) hF dX11_needPen_1 rfl (fun c1 => ?_) (fun c1 => ?_)
  · refine s_sub [0] rfl ?_
    exact sX11_needPen_15 hF hD l0 _ f0
  · refine s_iload_n hF dX11_needPen_4 rfl 1 rfl ?_
    refine s_aload_n hF dX11_needPen_5 rfl 0 rfl ?_
    refine sim_gd (fun g2 => ?_)
    refine s_getR (x := (g_R μ l0 9)) hF dX11_needPen_6 flX11_68 f0 g2 rfl ?_
    refine sim_gd (fun g3 => ?_)
    refine s_getIq (x := (g_I μ (g_R μ l0 9) 0)) hF dX11_needPen_9 fqX11_144 g3 rfl ?_
    refine s_icmp_lt (tgt := 19) hF dX11_needPen_12 rfl (fun c4 => ?_) (fun c4 => ?_)
    · exact s_vretX hF hD dX11_needPen_19 rfl
    · refine s_sub [0] rfl ?_
      exact sX11_needPen_15 hF hD l0 _ f0
theorem ctX11_pen  (l0 : Nat) (l1 : Int32) (l2 : Int32) (μ : Mem) : ∀ (r : (Nat ⊕ Int32)) (μ' : Mem), LX11_pen l0 l1 l2 μ = some (r, μ') → CtX yX11_pen cX11_pen 4 (some .int) 10 [.ref l0, .int l1, .int l2] μ ((encX encI) r) μ' := by
  refine ct_enterX plX11 (Nat.le_of_ble_eq_true rfl) (fun F hF hD hI => ?_)
  unfold LX11_pen
  refine sim_gd (fun f0 => ?_)
  refine s_aload_n hF dX11_pen_0 rfl 0 rfl ?_
  refine s_iload_n hF dX11_pen_1 rfl 1 rfl ?_
  refine s_tVv (st := []) (ci := 11) [.int l1] hF hD dX11_pen_2 cwX11_215 (Nat.le_of_ble_eq_true rfl) (Nat.le_of_ble_eq_true rfl) rfl rfl (Nat.le_of_ble_eq_true rfl) f0 rfl rfl (Nat.le_of_ble_eq_true rfl) (ctX11_needPen l0 l1 _) (fun r1 m2 hl3 hm4 => ?_)
  refine s_aload_n hF dX11_pen_5 rfl 0 rfl ?_
  refine s_iload_n hF dX11_pen_6 rfl 2 rfl ?_
  refine s_iconst (v := (0 : Int32)) hF dX11_pen_7 kI_0 ?_
  refine s_bipush (v := (6 : Int32)) hF dX11_pen_8 kB_6 ?_
  refine s_tVv (st := []) (ci := 11) [.int l2, .int (0 : Int32), .int (6 : Int32)] hF hD dX11_pen_10 cwX11_189 (Nat.le_of_ble_eq_true rfl) (Nat.le_of_ble_eq_true rfl) rfl rfl (Nat.le_of_ble_eq_true rfl) (isK.mo f0 hm4) rfl rfl (Nat.le_of_ble_eq_true rfl) (ctX11_needWithin l0 l2 (0 : Int32) (6 : Int32) _) (fun r7 m8 hl9 hm10 => ?_)
  refine s_aload_n hF dX11_pen_13 rfl 0 rfl ?_
  refine sim_gd (fun g13 => ?_)
  refine s_getR (x := (g_R m8 l0 3)) hF dX11_pen_14 flX11_33 (isK.mo (isK.mo f0 hm4) hm10) g13 rfl ?_
  refine sim_gd (fun g14 => ?_)
  refine sim_gd (fun g15 => ?_)
  refine s_getRq (x := (g_R m8 (g_R m8 l0 3) 0)) hF dX11_pen_17 fqX11_218 g14 g15 rfl ?_
  refine s_iload_n hF dX11_pen_20 rfl 1 rfl ?_
  refine sim_gd (fun g16 => ?_)
  refine sim_gd (fun g17 => ?_)
  refine s_aaload (x := (g_R m8 (g_R m8 (g_R m8 l0 3) 0) l1.toNatClampNeg)) hF dX11_pen_21 (by decide) (by decide) g16 g17 rfl ?_
  refine sim_gd (fun g18 => ?_)
  refine s_astore_n (pls' := [(3, .ref (g_R m8 (g_R m8 (g_R m8 l0 3) 0) l1.toNatClampNeg)), (0, .ref l0), (1, .int l1), (2, .int l2)]) hF dX11_pen_22 rfl (by decide) rfl ?_
  refine s_iload_n hF dX11_pen_23 rfl 3 rfl ?_
  refine sim_if (fun c19 => ?_) (fun c19 => ?_)
  · refine s_tin (v := (0 : Int32)) (tgt := 64) hF dX11_pen_24 c19 (by decide) (by decide) rfl rfl ?_
    refine s_aload_n hF dX11_pen_64 rfl 0 rfl ?_
    refine s_getIq (x := (g_I m8 (g_R m8 (g_R m8 (g_R m8 l0 3) 0) l1.toNatClampNeg) 0)) hF dX11_pen_65 fqX11_221 g18 rfl ?_
    exact s_iretX hF hD dX11_pen_68 rfl
  · refine sim_if (fun c20 => ?_) (fun c20 => ?_)
    · refine s_tin (v := (1 : Int32)) (tgt := 69) hF dX11_pen_24 c20 (by decide) (by decide) rfl rfl ?_
      refine s_aload_n hF dX11_pen_69 rfl 0 rfl ?_
      refine s_getIq (x := (g_I m8 (g_R m8 (g_R m8 (g_R m8 l0 3) 0) l1.toNatClampNeg) 1)) hF dX11_pen_70 fqX11_224 g18 rfl ?_
      exact s_iretX hF hD dX11_pen_73 rfl
    · refine sim_if (fun c21 => ?_) (fun c21 => ?_)
      · refine s_tin (v := (2 : Int32)) (tgt := 74) hF dX11_pen_24 c21 (by decide) (by decide) rfl rfl ?_
        refine s_aload_n hF dX11_pen_74 rfl 0 rfl ?_
        refine s_getIq (x := (g_I m8 (g_R m8 (g_R m8 (g_R m8 l0 3) 0) l1.toNatClampNeg) 2)) hF dX11_pen_75 fqX11_227 g18 rfl ?_
        exact s_iretX hF hD dX11_pen_78 rfl
      · refine sim_if (fun c22 => ?_) (fun c22 => ?_)
        · refine s_tin (v := (3 : Int32)) (tgt := 79) hF dX11_pen_24 c22 (by decide) (by decide) rfl rfl ?_
          refine s_aload_n hF dX11_pen_79 rfl 0 rfl ?_
          refine s_getIq (x := (g_I m8 (g_R m8 (g_R m8 (g_R m8 l0 3) 0) l1.toNatClampNeg) 3)) hF dX11_pen_80 fqX11_230 g18 rfl ?_
          exact s_iretX hF hD dX11_pen_83 rfl
        · refine sim_if (fun c23 => ?_) (fun c23 => ?_)
          · refine s_tin (v := (4 : Int32)) (tgt := 84) hF dX11_pen_24 c23 (by decide) (by decide) rfl rfl ?_
            refine s_aload_n hF dX11_pen_84 rfl 0 rfl ?_
            refine s_getIq (x := (g_I m8 (g_R m8 (g_R m8 (g_R m8 l0 3) 0) l1.toNatClampNeg) 4)) hF dX11_pen_85 fqX11_233 g18 rfl ?_
            exact s_iretX hF hD dX11_pen_88 rfl
          · refine sim_if (fun c24 => ?_) (fun c24 => ?_)
            · refine s_tin (v := (5 : Int32)) (tgt := 89) hF dX11_pen_24 c24 (by decide) (by decide) rfl rfl ?_
              refine s_aload_n hF dX11_pen_89 rfl 1 rfl ?_
              refine sim_gd (fun g25 => ?_)
              refine s_getR (x := (g_R m8 l0 9)) hF dX11_pen_90 flX11_68 (isK.mo (isK.mo f0 hm4) hm10) g25 rfl ?_
              refine s_iload_n hF dX11_pen_93 rfl 2 rfl ?_
              refine sim_gd (fun g32 => ?_)
              refine s_xVi (st := []) (ci := 3) [.int l1] hF hD dX11_pen_94 cwX11_234 (Nat.le_of_ble_eq_true rfl) (Nat.le_of_ble_eq_true rfl) rfl rfl (Nat.le_of_ble_eq_true rfl) g32 rfl rfl (Nat.le_of_ble_eq_true rfl) (ctX3_hearersOf (g_R m8 l0 9) l1 _) (fun r26 m27 hl28 hm29 => ?_)
              exact s_iretX hF hD dX11_pen_97 rfl
            · refine s_tout (tgt := 98) hF dX11_pen_24 (by have e0 := i32_ne c19 (k := (0 : Int32)) (n := 0) rfl; have e1 := i32_ne c20 (k := (1 : Int32)) (n := 1) rfl; have e2 := i32_ne c21 (k := (2 : Int32)) (n := 2) rfl; have e3 := i32_ne c22 (k := (3 : Int32)) (n := 3) rfl; have e4 := i32_ne c23 (k := (4 : Int32)) (n := 4) rfl; have e5 := i32_ne c24 (k := (5 : Int32)) (n := 5) rfl; omega) rfl ?_
              refine s_aload_n hF dX11_pen_98 rfl 1 rfl ?_
              refine sim_gd (fun g33 => ?_)
              refine s_getR (x := (g_R m8 l0 9)) hF dX11_pen_99 flX11_68 (isK.mo (isK.mo f0 hm4) hm10) g33 rfl ?_
              refine s_iload_n hF dX11_pen_102 rfl 2 rfl ?_
              refine sim_gd (fun g40 => ?_)
              refine s_xVi (st := []) (ci := 3) [.int l1] hF hD dX11_pen_103 cwX11_238 (Nat.le_of_ble_eq_true rfl) (Nat.le_of_ble_eq_true rfl) rfl rfl (Nat.le_of_ble_eq_true rfl) g40 rfl rfl (Nat.le_of_ble_eq_true rfl) (ctX3_heardBy (g_R m8 l0 9) l1 _) (fun r34 m35 hl36 hm37 => ?_)
              exact s_iretX hF hD dX11_pen_106 rfl
theorem sX11_wire_19 {F : Option Fx} (hF : FxO F RX11 cX11_wire 3 10) (hD : FxXO F (some .int)) (l0 : Nat) (l1 : Int32) (l2 : Int32) (μ : Mem) (f0 : isK μ l0 11 = true) : Sim F (encX encI) 19 [(0, .ref l0), (1, .int l1), (2, .int l2)] [] μ (mX11_wire_19 l0 l1 l2 μ) := by
  unfold mX11_wire_19
  refine s_aload_n hF dX11_wire_19 rfl 0 rfl ?_
  refine s_iload_n hF dX11_wire_20 rfl 2 rfl ?_
  refine s_iconst (v := (0 : Int32)) hF dX11_wire_21 kI_0 ?_
  refine s_iconst (v := (1 : Int32)) hF dX11_wire_22 kI_1 ?_
  refine s_tVv (st := []) (ci := 11) [.int l2, .int (0 : Int32), .int (1 : Int32)] hF hD dX11_wire_23 cwX11_189 (Nat.le_of_ble_eq_true rfl) (Nat.le_of_ble_eq_true rfl) rfl rfl (Nat.le_of_ble_eq_true rfl) f0 rfl rfl (Nat.le_of_ble_eq_true rfl) (ctX11_needWithin l0 l2 (0 : Int32) (1 : Int32) _) (fun r5 m6 hl7 hm8 => ?_)
  refine s_iload_n hF dX11_wire_26 rfl 2 rfl ?_
  refine s_if_ne (tgt := 42) hF dX11_wire_27 rfl (fun c11 => ?_) (fun c11 => ?_)
  · refine s_aload_n hF dX11_wire_30 rfl 0 rfl ?_
    refine sim_gd (fun g12 => ?_)
    refine s_getR (x := (g_R m6 l0 9)) hF dX11_wire_31 flX11_68 (isK.mo f0 hm8) g12 rfl ?_
    refine sim_gd (fun g13 => ?_)
    refine sim_gd (fun g14 => ?_)
    refine s_getRq (x := (g_R m6 (g_R m6 l0 9) 5)) hF dX11_wire_34 fqX11_244 g13 g14 rfl ?_
    refine s_iload_n hF dX11_wire_37 rfl 1 rfl ?_
    refine sim_gd (fun g15 => ?_)
    refine s_iaload (x := (g_I m6 (g_R m6 (g_R m6 l0 9) 5) l1.toNatClampNeg)) hF dX11_wire_38 g15 rfl ?_
    refine s_goto (tgt := 51) hF dX11_wire_39 rfl ?_
    exact s_iretX hF hD dX11_wire_51 rfl
  · refine s_aload_n hF dX11_wire_42 rfl 0 rfl ?_
    refine sim_gd (fun g16 => ?_)
    refine s_getR (x := (g_R m6 l0 9)) hF dX11_wire_43 flX11_68 (isK.mo f0 hm8) g16 rfl ?_
    refine sim_gd (fun g17 => ?_)
    refine sim_gd (fun g18 => ?_)
    refine s_getRq (x := (g_R m6 (g_R m6 l0 9) 6)) hF dX11_wire_46 fqX11_247 g17 g18 rfl ?_
    refine s_iload_n hF dX11_wire_49 rfl 1 rfl ?_
    refine sim_gd (fun g19 => ?_)
    refine s_iaload (x := (g_I m6 (g_R m6 (g_R m6 l0 9) 6) l1.toNatClampNeg)) hF dX11_wire_50 g19 rfl ?_
    exact s_iretX hF hD dX11_wire_51 rfl
theorem sX11_wire_15 {F : Option Fx} (hF : FxO F RX11 cX11_wire 3 10) (hD : FxXO F (some .int)) (l0 : Nat) (l1 : Int32) (l2 : Int32) (μ : Mem) (f0 : isK μ l0 11 = true) : Sim F (encX encI) 15 [(0, .ref l0), (1, .int l1), (2, .int l2)] [] μ (mX11_wire_15 l0 l1 l2 μ) := by
  unfold mX11_wire_15
  refine s_aload_n hF dX11_wire_15 rfl 0 rfl ?_
  refine s_tVv (st := []) (ci := 11) [] hF hD dX11_wire_16 cwX11_241 (Nat.le_of_ble_eq_true rfl) (Nat.le_of_ble_eq_true rfl) rfl rfl (Nat.le_of_ble_eq_true rfl) f0 rfl rfl (Nat.le_of_ble_eq_true rfl) (ctX11_refuseElement l0 _) (fun r20 m21 hl22 hm23 => ?_)
  exact sX11_wire_19 hF hD l0 l1 l2 _ (isK.mo f0 hm23)
theorem ctX11_wire  (l0 : Nat) (l1 : Int32) (l2 : Int32) (μ : Mem) : ∀ (r : (Nat ⊕ Int32)) (μ' : Mem), LX11_wire l0 l1 l2 μ = some (r, μ') → CtX yX11_wire cX11_wire 3 (some .int) 10 [.ref l0, .int l1, .int l2] μ ((encX encI) r) μ' := by
  refine ct_enterX plX11 (Nat.le_of_ble_eq_true rfl) (fun F hF hD hI => ?_)
  unfold LX11_wire
  refine sim_gd (fun f0 => ?_)
  refine s_iload_n hF dX11_wire_0 rfl 1 rfl ?_
  refine s_if_lt (tgt := 15) hF dX11_wire_1 rfl (fun c1 => ?_) (fun c1 => ?_)
  · exact sX11_wire_15 hF hD l0 l1 l2 _ f0
  · refine s_iload_n hF dX11_wire_4 rfl 1 rfl ?_
    refine s_aload_n hF dX11_wire_5 rfl 0 rfl ?_
    refine sim_gd (fun g2 => ?_)
    refine s_getR (x := (g_R μ l0 9)) hF dX11_wire_6 flX11_68 f0 g2 rfl ?_
    refine sim_gd (fun g3 => ?_)
    refine s_getIq (x := (g_I μ (g_R μ l0 9) 4)) hF dX11_wire_9 fqX11_193 g3 rfl ?_
    refine s_icmp_lt (tgt := 19) hF dX11_wire_12 rfl (fun c4 => ?_) (fun c4 => ?_)
    · exact sX11_wire_19 hF hD l0 l1 l2 _ f0
    · exact sX11_wire_15 hF hD l0 l1 l2 _ f0
theorem sX11_needRecord_20 {F : Option Fx} (hF : FxO F RX11 cX11_needRecord 3 8) (hD : FxXO F none) (l0 : Nat) (μ : Mem) (f0 : isK μ l0 11 = true) : Sim F (encX encV) 20 [(0, .ref l0)] [] μ (mX11_needRecord_20 l0 μ) := by
  unfold mX11_needRecord_20
  refine s_aload_n hF dX11_needRecord_20 rfl 0 rfl ?_
  refine sim_gd (fun g9 => ?_)
  refine s_getR (x := (g_R μ l0 8)) hF dX11_needRecord_21 flX11_62 f0 g9 rfl ?_
  refine s_iconst (v := (3 : Int32)) hF dX11_needRecord_24 kI_3 ?_
  refine s_dup2 hF dX11_needRecord_25 rfl rfl ?_
  refine sim_gd (fun g10 => ?_)
  refine s_iaload (x := (g_I μ (g_R μ l0 8) (3 : Int32).toNatClampNeg)) hF dX11_needRecord_26 g10 rfl ?_
  refine s_iconst (v := (1 : Int32)) hF dX11_needRecord_27 kI_1 ?_
  refine s_iadd hF dX11_needRecord_28 ?_
  refine s_iastore hF dX11_needRecord_29 g10 ?_
  exact thX11_384 hF hD (Nat.le_of_ble_eq_true rfl) rfl dX11_needRecord_30 dX11_needRecord_33 dX11_needRecord_34 dX11_needRecord_37 dX11_needRecord_40 (Nat.le_of_ble_eq_true rfl)
theorem ctX11_needRecord  (l0 : Nat) (l1 : Int32) (l2 : Int32) (μ : Mem) : ∀ (r : (Nat ⊕ Unit)) (μ' : Mem), LX11_needRecord l0 l1 l2 μ = some (r, μ') → CtX yX11_needRecord cX11_needRecord 3 none 8 [.ref l0, .int l1, .int l2] μ ((encX encV) r) μ' := by
  refine ct_enterX plX11 (Nat.le_of_ble_eq_true rfl) (fun F hF hD hI => ?_)
  unfold LX11_needRecord
  refine sim_gd (fun f0 => ?_)
  refine s_iload_n hF dX11_needRecord_0 rfl 2 rfl ?_
  refine s_if_lt (tgt := 20) hF dX11_needRecord_1 rfl (fun c1 => ?_) (fun c1 => ?_)
  · refine s_sub [0] rfl ?_
    exact sX11_needRecord_20 hF hD l0 _ f0
  · refine s_iload_n hF dX11_needRecord_4 rfl 2 rfl ?_
    refine s_aload_n hF dX11_needRecord_5 rfl 0 rfl ?_
    refine sim_gd (fun g2 => ?_)
    refine s_getR (x := (g_R μ l0 3)) hF dX11_needRecord_6 flX11_33 f0 g2 rfl ?_
    refine sim_gd (fun g3 => ?_)
    refine sim_gd (fun g4 => ?_)
    refine s_getRq (x := (g_R μ (g_R μ l0 3) 0)) hF dX11_needRecord_9 fqX11_218 g3 g4 rfl ?_
    refine s_iload_n hF dX11_needRecord_12 rfl 1 rfl ?_
    refine sim_gd (fun g5 => ?_)
    refine sim_gd (fun g6 => ?_)
    refine s_aaload (x := (g_R μ (g_R μ (g_R μ l0 3) 0) l1.toNatClampNeg)) hF dX11_needRecord_13 (by decide) (by decide) g5 g6 rfl ?_
    refine sim_gd (fun g7 => ?_)
    refine s_getIq (x := (g_I μ (g_R μ (g_R μ (g_R μ l0 3) 0) l1.toNatClampNeg) 4)) hF dX11_needRecord_14 fqX11_233 g7 rfl ?_
    refine s_icmp_lt (tgt := 41) hF dX11_needRecord_17 rfl (fun c8 => ?_) (fun c8 => ?_)
    · exact s_vretX hF hD dX11_needRecord_41 rfl
    · refine s_sub [0] rfl ?_
      exact sX11_needRecord_20 hF hD l0 _ f0
theorem ctX11_record  (l0 : Nat) (l1 : Int32) (l2 : Int32) (μ : Mem) : ∀ (r : (Nat ⊕ Int32)) (μ' : Mem), LX11_record l0 l1 l2 μ = some (r, μ') → CtX yX11_record cX11_record 3 (some .int) 10 [.ref l0, .int l1, .int l2] μ ((encX encI) r) μ' := by
  refine ct_enterX plX11 (Nat.le_of_ble_eq_true rfl) (fun F hF hD hI => ?_)
  unfold LX11_record
  refine sim_gd (fun f0 => ?_)
  refine s_aload_n hF dX11_record_0 rfl 0 rfl ?_
  refine s_iload_n hF dX11_record_1 rfl 1 rfl ?_
  refine s_tVv (st := []) (ci := 11) [.int l1] hF hD dX11_record_2 cwX11_215 (Nat.le_of_ble_eq_true rfl) (Nat.le_of_ble_eq_true rfl) rfl rfl (Nat.le_of_ble_eq_true rfl) f0 rfl rfl (Nat.le_of_ble_eq_true rfl) (ctX11_needPen l0 l1 _) (fun r1 m2 hl3 hm4 => ?_)
  refine s_aload_n hF dX11_record_5 rfl 0 rfl ?_
  refine s_iload_n hF dX11_record_6 rfl 1 rfl ?_
  refine s_iload_n hF dX11_record_7 rfl 2 rfl ?_
  refine s_tVv (st := []) (ci := 11) [.int l1, .int l2] hF hD dX11_record_8 cwX11_250 (Nat.le_of_ble_eq_true rfl) (Nat.le_of_ble_eq_true rfl) rfl rfl (Nat.le_of_ble_eq_true rfl) (isK.mo f0 hm4) rfl rfl (Nat.le_of_ble_eq_true rfl) (ctX11_needRecord l0 l1 l2 _) (fun r7 m8 hl9 hm10 => ?_)
  refine s_aload_n hF dX11_record_11 rfl 0 rfl ?_
  refine sim_gd (fun g13 => ?_)
  refine s_getR (x := (g_R m8 l0 3)) hF dX11_record_12 flX11_33 (isK.mo (isK.mo f0 hm4) hm10) g13 rfl ?_
  refine sim_gd (fun g14 => ?_)
  refine sim_gd (fun g15 => ?_)
  refine s_getRq (x := (g_R m8 (g_R m8 l0 3) 0)) hF dX11_record_15 fqX11_218 g14 g15 rfl ?_
  refine s_iload_n hF dX11_record_18 rfl 1 rfl ?_
  refine sim_gd (fun g16 => ?_)
  refine sim_gd (fun g17 => ?_)
  refine s_aaload (x := (g_R m8 (g_R m8 (g_R m8 l0 3) 0) l1.toNatClampNeg)) hF dX11_record_19 (by decide) (by decide) g16 g17 rfl ?_
  refine s_iload_n hF dX11_record_20 rfl 2 rfl ?_
  refine sim_gd (fun g24 => ?_)
  refine s_xVi (st := []) (ci := 5) [.int l2] hF hD dX11_record_21 cwX11_253 (Nat.le_of_ble_eq_true rfl) (Nat.le_of_ble_eq_true rfl) rfl rfl (Nat.le_of_ble_eq_true rfl) g24 rfl rfl (Nat.le_of_ble_eq_true rfl) (ctX5_readAt (g_R m8 (g_R m8 (g_R m8 l0 3) 0) l1.toNatClampNeg) l2 _) (fun r18 m19 hl20 hm21 => ?_)
  exact s_iretX hF hD dX11_record_24 rfl
theorem ctX11_refuseArithmetic  (l0 : Nat) (μ : Mem) : ∀ (r : (Nat ⊕ Unit)) (μ' : Mem), LX11_refuseArithmetic l0 μ = some (r, μ') → CtX yX11_refuseArithmetic cX11_refuseArithmetic 1 none 8 [.ref l0] μ ((encX encV) r) μ' := by
  refine ct_enterX plX11 (Nat.le_of_ble_eq_true rfl) (fun F hF hD hI => ?_)
  unfold LX11_refuseArithmetic
  refine sim_gd (fun f0 => ?_)
  refine s_aload_n hF dX11_refuseArithmetic_0 rfl 0 rfl ?_
  refine sim_gd (fun g1 => ?_)
  refine s_getR (x := (g_R μ l0 8)) hF dX11_refuseArithmetic_1 flX11_62 f0 g1 rfl ?_
  refine s_iconst (v := (4 : Int32)) hF dX11_refuseArithmetic_4 kI_4 ?_
  refine s_dup2 hF dX11_refuseArithmetic_5 rfl rfl ?_
  refine sim_gd (fun g2 => ?_)
  refine s_iaload (x := (g_I μ (g_R μ l0 8) (4 : Int32).toNatClampNeg)) hF dX11_refuseArithmetic_6 g2 rfl ?_
  refine s_iconst (v := (1 : Int32)) hF dX11_refuseArithmetic_7 kI_1 ?_
  refine s_iadd hF dX11_refuseArithmetic_8 ?_
  refine s_iastore hF dX11_refuseArithmetic_9 g2 ?_
  exact thX11_379 hF hD (Nat.le_of_ble_eq_true rfl) rfl dX11_refuseArithmetic_10 dX11_refuseArithmetic_13 dX11_refuseArithmetic_14 dX11_refuseArithmetic_17 dX11_refuseArithmetic_20 (Nat.le_of_ble_eq_true rfl)
theorem sX11_out_24 {F : Option Fx} (hF : FxO F RX11 cX11_out 3 10) (hD : FxXO F (some .int)) (l0 : Nat) (l1 : Int32) (l2 : Int32) (μ : Mem) (f0 : isK μ l0 11 = true) : Sim F (encX encI) 24 [(0, .ref l0), (1, .int l1), (2, .int l2)] [] μ (mX11_out_24 l0 l1 l2 μ) := by
  unfold mX11_out_24
  refine s_aload_n hF dX11_out_24 rfl 0 rfl ?_
  refine sim_gd (fun g26 => ?_)
  refine s_getR (x := (g_R μ l0 3)) hF dX11_out_25 flX11_33 f0 g26 rfl ?_
  refine sim_gd (fun g27 => ?_)
  refine sim_gd (fun g28 => ?_)
  refine s_getRq (x := (g_R μ (g_R μ l0 3) 0)) hF dX11_out_28 fqX11_218 g27 g28 rfl ?_
  refine s_iload_n hF dX11_out_31 rfl 1 rfl ?_
  refine sim_gd (fun g29 => ?_)
  refine sim_gd (fun g30 => ?_)
  refine s_aaload (x := (g_R μ (g_R μ (g_R μ l0 3) 0) l1.toNatClampNeg)) hF dX11_out_32 (by decide) (by decide) g29 g30 rfl ?_
  refine s_iload_n hF dX11_out_33 rfl 2 rfl ?_
  refine sim_gd (fun g37 => ?_)
  refine s_xVi (st := []) (ci := 5) [.int l2] hF hD dX11_out_34 cwX11_262 (Nat.le_of_ble_eq_true rfl) (Nat.le_of_ble_eq_true rfl) rfl rfl (Nat.le_of_ble_eq_true rfl) g37 rfl rfl (Nat.le_of_ble_eq_true rfl) (ctX5_outOf (g_R μ (g_R μ (g_R μ l0 3) 0) l1.toNatClampNeg) l2 _) (fun r31 m32 hl33 hm34 => ?_)
  exact s_iretX hF hD dX11_out_37 rfl
theorem ctX11_out  (l0 : Nat) (l1 : Int32) (l2 : Int32) (μ : Mem) : ∀ (r : (Nat ⊕ Int32)) (μ' : Mem), LX11_out l0 l1 l2 μ = some (r, μ') → CtX yX11_out cX11_out 3 (some .int) 10 [.ref l0, .int l1, .int l2] μ ((encX encI) r) μ' := by
  refine ct_enterX plX11 (Nat.le_of_ble_eq_true rfl) (fun F hF hD hI => ?_)
  unfold LX11_out
  refine sim_gd (fun f0 => ?_)
  refine s_aload_n hF dX11_out_0 rfl 0 rfl ?_
  refine s_iload_n hF dX11_out_1 rfl 1 rfl ?_
  refine s_tVv (st := []) (ci := 11) [.int l1] hF hD dX11_out_2 cwX11_215 (Nat.le_of_ble_eq_true rfl) (Nat.le_of_ble_eq_true rfl) rfl rfl (Nat.le_of_ble_eq_true rfl) f0 rfl rfl (Nat.le_of_ble_eq_true rfl) (ctX11_needPen l0 l1 _) (fun r1 m2 hl3 hm4 => ?_)
  refine s_aload_n hF dX11_out_5 rfl 0 rfl ?_
  refine sim_gd (fun g7 => ?_)
  refine s_getR (x := (g_R m2 l0 3)) hF dX11_out_6 flX11_33 (isK.mo f0 hm4) g7 rfl ?_
  refine sim_gd (fun g8 => ?_)
  refine sim_gd (fun g9 => ?_)
  refine s_getRq (x := (g_R m2 (g_R m2 l0 3) 0)) hF dX11_out_9 fqX11_218 g8 g9 rfl ?_
  refine s_iload_n hF dX11_out_12 rfl 1 rfl ?_
  refine sim_gd (fun g10 => ?_)
  refine sim_gd (fun g11 => ?_)
  refine s_aaload (x := (g_R m2 (g_R m2 (g_R m2 l0 3) 0) l1.toNatClampNeg)) hF dX11_out_13 (by decide) (by decide) g10 g11 rfl ?_
  refine sim_gd (fun g18 => ?_)
  refine s_xVi (st := []) (ci := 5) [] hF hD dX11_out_14 cwX11_256 (Nat.le_of_ble_eq_true rfl) (Nat.le_of_ble_eq_true rfl) rfl rfl (Nat.le_of_ble_eq_true rfl) g18 rfl rfl (Nat.le_of_ble_eq_true rfl) (ctX5_jams (g_R m2 (g_R m2 (g_R m2 l0 3) 0) l1.toNatClampNeg) _) (fun r12 m13 hl14 hm15 => ?_)
  refine s_if_eq (tgt := 24) hF dX11_out_17 rfl (fun c19 => ?_) (fun c19 => ?_)
  · exact sX11_out_24 hF hD l0 l1 l2 _ (isK.mo (isK.mo f0 hm4) hm15)
  · refine s_aload_n hF dX11_out_20 rfl 0 rfl ?_
    refine s_tVv (st := []) (ci := 11) [] hF hD dX11_out_21 cwX11_259 (Nat.le_of_ble_eq_true rfl) (Nat.le_of_ble_eq_true rfl) rfl rfl (Nat.le_of_ble_eq_true rfl) (isK.mo (isK.mo f0 hm4) hm15) rfl rfl (Nat.le_of_ble_eq_true rfl) (ctX11_refuseArithmetic l0 _) (fun r20 m21 hl22 hm23 => ?_)
    exact sX11_out_24 hF hD l0 l1 l2 _ (isK.mo (isK.mo (isK.mo f0 hm4) hm15) hm23)
theorem ctX11_level  (l0 : Nat) (l1 : Int32) (l2 : Int32) (μ : Mem) : ∀ (r : (Nat ⊕ Int32)) (μ' : Mem), LX11_level l0 l1 l2 μ = some (r, μ') → CtX yX11_level cX11_level 3 (some .int) 10 [.ref l0, .int l1, .int l2] μ ((encX encI) r) μ' := by
  refine ct_enterX plX11 (Nat.le_of_ble_eq_true rfl) (fun F hF hD hI => ?_)
  unfold LX11_level
  refine sim_gd (fun f0 => ?_)
  refine s_aload_n hF dX11_level_0 rfl 0 rfl ?_
  refine s_iload_n hF dX11_level_1 rfl 1 rfl ?_
  refine s_tVv (st := []) (ci := 11) [.int l1] hF hD dX11_level_2 cwX11_215 (Nat.le_of_ble_eq_true rfl) (Nat.le_of_ble_eq_true rfl) rfl rfl (Nat.le_of_ble_eq_true rfl) f0 rfl rfl (Nat.le_of_ble_eq_true rfl) (ctX11_needPen l0 l1 _) (fun r1 m2 hl3 hm4 => ?_)
  refine s_aload_n hF dX11_level_5 rfl 0 rfl ?_
  refine sim_gd (fun g7 => ?_)
  refine s_getR (x := (g_R m2 l0 11)) hF dX11_level_6 flX11_78 (isK.mo f0 hm4) g7 rfl ?_
  refine s_aload_n hF dX11_level_9 rfl 0 rfl ?_
  refine sim_gd (fun g8 => ?_)
  refine s_getR (x := (g_R m2 l0 3)) hF dX11_level_10 flX11_33 (isK.mo f0 hm4) g8 rfl ?_
  refine s_iload_n hF dX11_level_13 rfl 1 rfl ?_
  refine s_iload_n hF dX11_level_14 rfl 2 rfl ?_
  refine sim_gd (fun g15 => ?_)
  refine s_xVi (st := []) (ci := 4) [.ref (g_R m2 l0 3), .int l1, .int l2] hF hD dX11_level_15 cwX11_265 (Nat.le_of_ble_eq_true rfl) (Nat.le_of_ble_eq_true rfl) rfl rfl (Nat.le_of_ble_eq_true rfl) g15 rfl rfl (Nat.le_of_ble_eq_true rfl) (ctX4_levelBy (g_R m2 l0 11) (g_R m2 l0 3) l1 l2 _) (fun r9 m10 hl11 hm12 => ?_)
  exact s_iretX hF hD dX11_level_18 rfl
theorem ctX11_would  (l0 : Nat) (l1 : Int32) (l2 : Int32) (l3 : Int32) (l4 : Int32) (l5 : Int32) (l6 : Int32) (l7 : Int32) (l8 : Int32) (μ : Mem) : ∀ (r : (Nat ⊕ Int32)) (μ' : Mem), LX11_would l0 l1 l2 l3 l4 l5 l6 l7 l8 μ = some (r, μ') → CtX yX11_would cX11_would 9 (some .int) 10 [.ref l0, .int l1, .int l2, .int l3, .int l4, .int l5, .int l6, .int l7, .int l8] μ ((encX encI) r) μ' := by
  refine ct_enterX plX11 (Nat.le_of_ble_eq_true rfl) (fun F hF hD hI => ?_)
  unfold LX11_would
  refine sim_gd (fun f0 => ?_)
  refine s_aload_n hF dX11_would_0 rfl 0 rfl ?_
  refine s_iload_n hF dX11_would_1 rfl 3 rfl ?_
  refine s_iconst (v := (0 : Int32)) hF dX11_would_2 kI_0 ?_
  refine s_ldcw (v := (2147483647 : Int32)) hF dX11_would_3 cwX11_269 ?_
  refine s_tVv (st := []) (ci := 11) [.int l3, .int (0 : Int32), .int (2147483647 : Int32)] hF hD dX11_would_6 cwX11_189 (Nat.le_of_ble_eq_true rfl) (Nat.le_of_ble_eq_true rfl) rfl rfl (Nat.le_of_ble_eq_true rfl) f0 rfl rfl (Nat.le_of_ble_eq_true rfl) (ctX11_needWithin l0 l3 (0 : Int32) (2147483647 : Int32) _) (fun r1 m2 hl3 hm4 => ?_)
  refine s_aload_n hF dX11_would_9 rfl 0 rfl ?_
  refine s_iload hF dX11_would_10 4 rfl ?_
  refine s_iconst (v := (0 : Int32)) hF dX11_would_12 kI_0 ?_
  refine s_bipush (v := (24 : Int32)) hF dX11_would_13 kB_24 ?_
  refine s_tVv (st := []) (ci := 11) [.int l4, .int (0 : Int32), .int (24 : Int32)] hF hD dX11_would_15 cwX11_189 (Nat.le_of_ble_eq_true rfl) (Nat.le_of_ble_eq_true rfl) rfl rfl (Nat.le_of_ble_eq_true rfl) (isK.mo f0 hm4) rfl rfl (Nat.le_of_ble_eq_true rfl) (ctX11_needWithin l0 l4 (0 : Int32) (24 : Int32) _) (fun r7 m8 hl9 hm10 => ?_)
  refine s_aload_n hF dX11_would_18 rfl 0 rfl ?_
  refine s_iload hF dX11_would_19 5 rfl ?_
  refine s_iconst (v := (0 : Int32)) hF dX11_would_21 kI_0 ?_
  refine s_sipush (v := (900 : Int32)) hF dX11_would_22 kS_900 ?_
  refine s_tVv (st := []) (ci := 11) [.int l5, .int (0 : Int32), .int (900 : Int32)] hF hD dX11_would_25 cwX11_189 (Nat.le_of_ble_eq_true rfl) (Nat.le_of_ble_eq_true rfl) rfl rfl (Nat.le_of_ble_eq_true rfl) (isK.mo (isK.mo f0 hm4) hm10) rfl rfl (Nat.le_of_ble_eq_true rfl) (ctX11_needWithin l0 l5 (0 : Int32) (900 : Int32) _) (fun r13 m14 hl15 hm16 => ?_)
  refine s_aload_n hF dX11_would_28 rfl 0 rfl ?_
  refine s_iload hF dX11_would_29 6 rfl ?_
  refine s_iconst (v := (0 : Int32)) hF dX11_would_31 kI_0 ?_
  refine s_bipush (v := (7 : Int32)) hF dX11_would_32 kB_7 ?_
  refine s_tVv (st := []) (ci := 11) [.int l6, .int (0 : Int32), .int (7 : Int32)] hF hD dX11_would_34 cwX11_189 (Nat.le_of_ble_eq_true rfl) (Nat.le_of_ble_eq_true rfl) rfl rfl (Nat.le_of_ble_eq_true rfl) (isK.mo (isK.mo (isK.mo f0 hm4) hm10) hm16) rfl rfl (Nat.le_of_ble_eq_true rfl) (ctX11_needWithin l0 l6 (0 : Int32) (7 : Int32) _) (fun r19 m20 hl21 hm22 => ?_)
  refine s_aload_n hF dX11_would_37 rfl 0 rfl ?_
  refine s_iload hF dX11_would_38 7 rfl ?_
  refine s_iconst (v := (0 : Int32)) hF dX11_would_40 kI_0 ?_
  refine s_bipush (v := (99 : Int32)) hF dX11_would_41 kB_99 ?_
  refine s_tVv (st := []) (ci := 11) [.int l7, .int (0 : Int32), .int (99 : Int32)] hF hD dX11_would_43 cwX11_189 (Nat.le_of_ble_eq_true rfl) (Nat.le_of_ble_eq_true rfl) rfl rfl (Nat.le_of_ble_eq_true rfl) (isK.mo (isK.mo (isK.mo (isK.mo f0 hm4) hm10) hm16) hm22) rfl rfl (Nat.le_of_ble_eq_true rfl) (ctX11_needWithin l0 l7 (0 : Int32) (99 : Int32) _) (fun r25 m26 hl27 hm28 => ?_)
  refine s_aload_n hF dX11_would_46 rfl 0 rfl ?_
  refine s_iload hF dX11_would_47 8 rfl ?_
  refine s_iconst (v := (0 : Int32)) hF dX11_would_49 kI_0 ?_
  refine s_bipush (v := (99 : Int32)) hF dX11_would_50 kB_99 ?_
  refine s_tVv (st := []) (ci := 11) [.int l8, .int (0 : Int32), .int (99 : Int32)] hF hD dX11_would_52 cwX11_189 (Nat.le_of_ble_eq_true rfl) (Nat.le_of_ble_eq_true rfl) rfl rfl (Nat.le_of_ble_eq_true rfl) (isK.mo (isK.mo (isK.mo (isK.mo (isK.mo f0 hm4) hm10) hm16) hm22) hm28) rfl rfl (Nat.le_of_ble_eq_true rfl) (ctX11_needWithin l0 l8 (0 : Int32) (99 : Int32) _) (fun r31 m32 hl33 hm34 => ?_)
  refine s_aload_n hF dX11_would_55 rfl 0 rfl ?_
  refine sim_gd (fun g37 => ?_)
  refine s_getR (x := (g_R m32 l0 11)) hF dX11_would_56 flX11_78 (isK.mo (isK.mo (isK.mo (isK.mo (isK.mo (isK.mo f0 hm4) hm10) hm16) hm22) hm28) hm34) g37 rfl ?_
  refine sim_gd (fun g38 => ?_)
  refine sim_gd (fun g39 => ?_)
  refine s_getRq (x := (g_R m32 (g_R m32 l0 11) 0)) hF dX11_would_59 fqX11_270 g38 g39 rfl ?_
  refine s_iconst (v := (0 : Int32)) hF dX11_would_62 kI_0 ?_
  refine s_iload_n hF dX11_would_63 rfl 1 rfl ?_
  refine sim_gd (fun g40 => ?_)
  refine s_iastore hF dX11_would_64 g40 ?_
  refine s_aload_n hF dX11_would_65 rfl 0 rfl ?_
  refine s_getR (x := (g_R m32 l0 11)) hF dX11_would_66 flX11_78 (isK.mo (isK.mo (isK.mo (isK.mo (isK.mo (isK.mo f0 hm4) hm10) hm16) hm22) hm28) hm34) g37 rfl ?_
  refine s_getRq (x := (g_R m32 (g_R m32 l0 11) 0)) hF dX11_would_69 fqX11_270 g38 g39 rfl ?_
  refine s_iconst (v := (1 : Int32)) hF dX11_would_72 kI_1 ?_
  refine s_iload_n hF dX11_would_73 rfl 2 rfl ?_
  refine sim_gd (fun g41 => ?_)
  refine s_iastore hF dX11_would_74 g41 ?_
  refine s_aload_n hF dX11_would_75 rfl 0 rfl ?_
  refine s_getR (x := (g_R m32 l0 11)) hF dX11_would_76 flX11_78 (isK.mo (isK.mo (isK.mo (isK.mo (isK.mo (isK.mo f0 hm4) hm10) hm16) hm22) hm28) hm34) g37 rfl ?_
  refine s_getRq (x := (g_R m32 (g_R m32 l0 11) 0)) hF dX11_would_79 fqX11_270 g38 g39 rfl ?_
  refine s_iconst (v := (2 : Int32)) hF dX11_would_82 kI_2 ?_
  refine s_iload_n hF dX11_would_83 rfl 3 rfl ?_
  refine sim_gd (fun g42 => ?_)
  refine s_iastore hF dX11_would_84 g42 ?_
  refine s_aload_n hF dX11_would_85 rfl 0 rfl ?_
  refine s_getR (x := (g_R m32 l0 11)) hF dX11_would_86 flX11_78 (isK.mo (isK.mo (isK.mo (isK.mo (isK.mo (isK.mo f0 hm4) hm10) hm16) hm22) hm28) hm34) g37 rfl ?_
  refine s_getRq (x := (g_R m32 (g_R m32 l0 11) 0)) hF dX11_would_89 fqX11_270 g38 g39 rfl ?_
  refine s_iconst (v := (3 : Int32)) hF dX11_would_92 kI_3 ?_
  refine s_iload hF dX11_would_93 4 rfl ?_
  refine sim_gd (fun g43 => ?_)
  refine s_iastore hF dX11_would_95 g43 ?_
  refine s_aload_n hF dX11_would_96 rfl 0 rfl ?_
  refine s_getR (x := (g_R m32 l0 11)) hF dX11_would_97 flX11_78 (isK.mo (isK.mo (isK.mo (isK.mo (isK.mo (isK.mo f0 hm4) hm10) hm16) hm22) hm28) hm34) g37 rfl ?_
  refine s_getRq (x := (g_R m32 (g_R m32 l0 11) 0)) hF dX11_would_100 fqX11_270 g38 g39 rfl ?_
  refine s_iconst (v := (4 : Int32)) hF dX11_would_103 kI_4 ?_
  refine s_iload hF dX11_would_104 5 rfl ?_
  refine sim_gd (fun g44 => ?_)
  refine s_iastore hF dX11_would_106 g44 ?_
  refine s_aload_n hF dX11_would_107 rfl 0 rfl ?_
  refine s_getR (x := (g_R m32 l0 11)) hF dX11_would_108 flX11_78 (isK.mo (isK.mo (isK.mo (isK.mo (isK.mo (isK.mo f0 hm4) hm10) hm16) hm22) hm28) hm34) g37 rfl ?_
  refine s_getRq (x := (g_R m32 (g_R m32 l0 11) 0)) hF dX11_would_111 fqX11_270 g38 g39 rfl ?_
  refine s_iconst (v := (5 : Int32)) hF dX11_would_114 kI_5 ?_
  refine s_iload hF dX11_would_115 6 rfl ?_
  refine sim_gd (fun g45 => ?_)
  refine s_iastore hF dX11_would_117 g45 ?_
  refine s_aload_n hF dX11_would_118 rfl 0 rfl ?_
  refine s_getR (x := (g_R m32 l0 11)) hF dX11_would_119 flX11_78 (isK.mo (isK.mo (isK.mo (isK.mo (isK.mo (isK.mo f0 hm4) hm10) hm16) hm22) hm28) hm34) g37 rfl ?_
  refine s_getRq (x := (g_R m32 (g_R m32 l0 11) 0)) hF dX11_would_122 fqX11_270 g38 g39 rfl ?_
  refine s_bipush (v := (6 : Int32)) hF dX11_would_125 kB_6 ?_
  refine s_iload hF dX11_would_127 7 rfl ?_
  refine sim_gd (fun g46 => ?_)
  refine s_iastore hF dX11_would_129 g46 ?_
  refine s_aload_n hF dX11_would_130 rfl 0 rfl ?_
  refine s_getR (x := (g_R m32 l0 11)) hF dX11_would_131 flX11_78 (isK.mo (isK.mo (isK.mo (isK.mo (isK.mo (isK.mo f0 hm4) hm10) hm16) hm22) hm28) hm34) g37 rfl ?_
  refine s_getRq (x := (g_R m32 (g_R m32 l0 11) 0)) hF dX11_would_134 fqX11_270 g38 g39 rfl ?_
  refine s_bipush (v := (7 : Int32)) hF dX11_would_137 kB_7 ?_
  refine s_iload hF dX11_would_139 8 rfl ?_
  refine sim_gd (fun g47 => ?_)
  refine s_iastore hF dX11_would_141 g47 ?_
  refine s_aload_n hF dX11_would_142 rfl 0 rfl ?_
  refine s_getR (x := (g_R m32 l0 11)) hF dX11_would_143 flX11_78 (isK.mo (isK.mo (isK.mo (isK.mo (isK.mo (isK.mo f0 hm4) hm10) hm16) hm22) hm28) hm34) g37 rfl ?_
  refine s_xVi (st := []) (ci := 4) [] hF hD dX11_would_146 cwX11_273 (Nat.le_of_ble_eq_true rfl) (Nat.le_of_ble_eq_true rfl) rfl rfl (Nat.le_of_ble_eq_true rfl) g38 rfl rfl (Nat.le_of_ble_eq_true rfl) (ctX4_levelOfGiven (g_R m32 l0 11) _) (fun r48 m49 hl50 hm51 => ?_)
  exact s_iretX hF hD dX11_would_149 rfl
theorem sX11_total_20 {F : Option Fx} (hF : FxO F RX11 cX11_total 6 10) (hD : FxXO F (some .int)) : ∀ (fu : Nat) (l0 : Nat) (l2 : Nat) (l3 : Int64) (l5 : Int32) (μ : Mem) (f0 : isK μ l0 11 = true) (f2 : isK μ l2 5 = true), Sim F (encX encI) 20 [(0, .ref l0), (2, .ref l2), (3, .long l3), (5, .int l5)] [] μ (mX11_total_20 fu l0 l2 l3 l5 μ) := by
  intro fu
  induction fu with
  | zero =>
    intro l0 l2 l3 l5 μ f0 f2
    exact sim_none
  | succ fu ih =>
    intro l0 l2 l3 l5 μ f0 f2
    rw [mX11_total_20]
    refine s_iload hF dX11_total_20 3 rfl ?_
    refine s_aload_n hF dX11_total_22 rfl 1 rfl ?_
    refine s_getIq (x := (g_I μ l2 4)) hF dX11_total_23 fqX11_233 f2 rfl ?_
    refine s_icmp_ge (tgt := 57) hF dX11_total_26 rfl (fun c13 => ?_) (fun c13 => ?_)
    · refine s_lload_n hF dX11_total_57 rfl 2 rfl ?_
      refine s_l2i hF dX11_total_58 ?_
      exact s_iretX hF hD dX11_total_59 rfl
    · refine s_lload_n hF dX11_total_29 rfl 2 rfl ?_
      refine s_aload_n hF dX11_total_30 rfl 1 rfl ?_
      refine s_iload hF dX11_total_31 3 rfl ?_
      refine s_xVi (st := [.long l3]) (ci := 5) [.int l5] hF hD dX11_total_33 cwX11_253 (Nat.le_of_ble_eq_true rfl) (Nat.le_of_ble_eq_true rfl) rfl rfl (Nat.le_of_ble_eq_true rfl) f2 rfl rfl (Nat.le_of_ble_eq_true rfl) (ctX5_readAt l2 l5 _) (fun r14 m15 hl16 hm17 => ?_)
      refine s_i2l hF dX11_total_36 ?_
      refine s_ladd hF dX11_total_37 ?_
      refine s_lstore_n (pls' := [(3, .long (l3 + r14.toInt64)), (0, .ref l0), (2, .ref l2), (5, .int l5)]) hF dX11_total_38 rfl (by decide) rfl ?_
      refine s_lload_n hF dX11_total_39 rfl 0 rfl ?_
      refine s_lload_n hF dX11_total_40 rfl 0 rfl ?_
      refine s_l2i hF dX11_total_41 ?_
      refine s_i2l hF dX11_total_42 ?_
      refine s_lcmp hF dX11_total_43 ?_
      refine s_if_eq (tgt := 51) hF dX11_total_44 rfl (fun c20 => ?_) (fun c20 => ?_)
      · refine s_iinc (v := (l5 + (1 : Int32))) (pls' := [(5, .int (l5 + (1 : Int32))), (3, .long (l3 + r14.toInt64)), (0, .ref l0), (2, .ref l2)]) hF dX11_total_51 3 rfl rfl (by decide) rfl ?_
        refine s_goto (tgt := 20) hF dX11_total_54 rfl ?_
        refine s_sub [2, 3, 1, 0] rfl ?_
        exact ih l0 l2 (l3 + r14.toInt64) (l5 + (1 : Int32)) _ (isK.mo f0 hm17) (isK.mo f2 hm17)
      · refine s_aload_n hF dX11_total_47 rfl 1 rfl ?_
        refine s_tVv (st := []) (ci := 11) [] hF hD dX11_total_48 cwX11_259 (Nat.le_of_ble_eq_true rfl) (Nat.le_of_ble_eq_true rfl) rfl rfl (Nat.le_of_ble_eq_true rfl) (isK.mo f0 hm17) rfl rfl (Nat.le_of_ble_eq_true rfl) (ctX11_refuseArithmetic l0 _) (fun r21 m22 hl23 hm24 => ?_)
        refine s_iinc (v := (l5 + (1 : Int32))) (pls' := [(5, .int (l5 + (1 : Int32))), (3, .long (l3 + r14.toInt64)), (0, .ref l0), (2, .ref l2)]) hF dX11_total_51 3 rfl rfl (by decide) rfl ?_
        refine s_goto (tgt := 20) hF dX11_total_54 rfl ?_
        refine s_sub [2, 3, 1, 0] rfl ?_
        exact ih l0 l2 (l3 + r14.toInt64) (l5 + (1 : Int32)) _ (isK.mo (isK.mo f0 hm17) hm24) (isK.mo (isK.mo f2 hm17) hm24)
theorem ctX11_total  (l0 : Nat) (l1 : Int32) (μ : Mem) : ∀ (r : (Nat ⊕ Int32)) (μ' : Mem), LX11_total l0 l1 μ = some (r, μ') → CtX yX11_total cX11_total 6 (some .int) 10 [.ref l0, .int l1] μ ((encX encI) r) μ' := by
  refine ct_enterX plX11 (Nat.le_of_ble_eq_true rfl) (fun F hF hD hI => ?_)
  unfold LX11_total
  refine sim_gd (fun f0 => ?_)
  refine s_aload_n hF dX11_total_0 rfl 0 rfl ?_
  refine s_iload_n hF dX11_total_1 rfl 1 rfl ?_
  refine s_tVv (st := []) (ci := 11) [.int l1] hF hD dX11_total_2 cwX11_215 (Nat.le_of_ble_eq_true rfl) (Nat.le_of_ble_eq_true rfl) rfl rfl (Nat.le_of_ble_eq_true rfl) f0 rfl rfl (Nat.le_of_ble_eq_true rfl) (ctX11_needPen l0 l1 _) (fun r1 m2 hl3 hm4 => ?_)
  refine s_aload_n hF dX11_total_5 rfl 0 rfl ?_
  refine sim_gd (fun g7 => ?_)
  refine s_getR (x := (g_R m2 l0 3)) hF dX11_total_6 flX11_33 (isK.mo f0 hm4) g7 rfl ?_
  refine sim_gd (fun g8 => ?_)
  refine sim_gd (fun g9 => ?_)
  refine s_getRq (x := (g_R m2 (g_R m2 l0 3) 0)) hF dX11_total_9 fqX11_218 g8 g9 rfl ?_
  refine s_iload_n hF dX11_total_12 rfl 1 rfl ?_
  refine sim_gd (fun g10 => ?_)
  refine sim_gd (fun g11 => ?_)
  refine s_aaload (x := (g_R m2 (g_R m2 (g_R m2 l0 3) 0) l1.toNatClampNeg)) hF dX11_total_13 (by decide) (by decide) g10 g11 rfl ?_
  refine sim_gd (fun g12 => ?_)
  refine s_astore_n (pls' := [(2, .ref (g_R m2 (g_R m2 (g_R m2 l0 3) 0) l1.toNatClampNeg)), (0, .ref l0), (1, .int l1)]) hF dX11_total_14 rfl (by decide) rfl ?_
  refine s_lconst (v := (0 : Int64)) hF dX11_total_15 kL_0 ?_
  refine s_lstore_n (pls' := [(3, .long (0 : Int64)), (2, .ref (g_R m2 (g_R m2 (g_R m2 l0 3) 0) l1.toNatClampNeg)), (0, .ref l0), (1, .int l1)]) hF dX11_total_16 rfl (by decide) rfl ?_
  refine s_iconst (v := (0 : Int32)) hF dX11_total_17 kI_0 ?_
  refine s_istore (pls' := [(5, .int (0 : Int32)), (3, .long (0 : Int64)), (2, .ref (g_R m2 (g_R m2 (g_R m2 l0 3) 0) l1.toNatClampNeg)), (0, .ref l0), (1, .int l1)]) hF dX11_total_18 (by decide) rfl ?_
  refine s_sub [3, 2, 1, 0] rfl ?_
  exact sX11_total_20 hF hD 100000 l0 (g_R m2 (g_R m2 (g_R m2 l0 3) 0) l1.toNatClampNeg) (0 : Int64) (0 : Int32) _ (isK.mo f0 hm4) g12
theorem sX11_strange_31 {F : Option Fx} (hF : FxO F RX11 cX11_strange 3 10) (hD : FxXO F (some .int)) (k0 : Int32) (k1 : Nat) (μ : Mem) : Sim F (encX encI) 31 [] [.int k0, .ref k1] μ (mX11_strange_31 k0 k1 μ) := by
  unfold mX11_strange_31
  refine sim_gd (fun g25 => ?_)
  refine s_xVi (st := []) (ci := 5) [.int k0] hF hD dX11_strange_31 cwX11_276 (Nat.le_of_ble_eq_true rfl) (Nat.le_of_ble_eq_true rfl) rfl rfl (Nat.le_of_ble_eq_true rfl) g25 rfl rfl (Nat.le_of_ble_eq_true rfl) (ctX5_strangeRecords k1 k0 _) (fun r19 m20 hl21 hm22 => ?_)
  exact s_iretX hF hD dX11_strange_34 rfl
theorem ctX11_strange  (l0 : Nat) (l1 : Int32) (l2 : Int32) (μ : Mem) : ∀ (r : (Nat ⊕ Int32)) (μ' : Mem), LX11_strange l0 l1 l2 μ = some (r, μ') → CtX yX11_strange cX11_strange 3 (some .int) 10 [.ref l0, .int l1, .int l2] μ ((encX encI) r) μ' := by
  refine ct_enterX plX11 (Nat.le_of_ble_eq_true rfl) (fun F hF hD hI => ?_)
  unfold LX11_strange
  refine sim_gd (fun f0 => ?_)
  refine s_aload_n hF dX11_strange_0 rfl 0 rfl ?_
  refine s_iload_n hF dX11_strange_1 rfl 1 rfl ?_
  refine s_tVv (st := []) (ci := 11) [.int l1] hF hD dX11_strange_2 cwX11_215 (Nat.le_of_ble_eq_true rfl) (Nat.le_of_ble_eq_true rfl) rfl rfl (Nat.le_of_ble_eq_true rfl) f0 rfl rfl (Nat.le_of_ble_eq_true rfl) (ctX11_needPen l0 l1 _) (fun r1 m2 hl3 hm4 => ?_)
  refine s_aload_n hF dX11_strange_5 rfl 0 rfl ?_
  refine s_iload_n hF dX11_strange_6 rfl 2 rfl ?_
  refine s_iconst (v := (0 : Int32)) hF dX11_strange_7 kI_0 ?_
  refine s_iconst (v := (1 : Int32)) hF dX11_strange_8 kI_1 ?_
  refine s_tVv (st := []) (ci := 11) [.int l2, .int (0 : Int32), .int (1 : Int32)] hF hD dX11_strange_9 cwX11_189 (Nat.le_of_ble_eq_true rfl) (Nat.le_of_ble_eq_true rfl) rfl rfl (Nat.le_of_ble_eq_true rfl) (isK.mo f0 hm4) rfl rfl (Nat.le_of_ble_eq_true rfl) (ctX11_needWithin l0 l2 (0 : Int32) (1 : Int32) _) (fun r7 m8 hl9 hm10 => ?_)
  refine s_aload_n hF dX11_strange_12 rfl 0 rfl ?_
  refine sim_gd (fun g13 => ?_)
  refine s_getR (x := (g_R m8 l0 3)) hF dX11_strange_13 flX11_33 (isK.mo (isK.mo f0 hm4) hm10) g13 rfl ?_
  refine sim_gd (fun g14 => ?_)
  refine sim_gd (fun g15 => ?_)
  refine s_getRq (x := (g_R m8 (g_R m8 l0 3) 0)) hF dX11_strange_16 fqX11_218 g14 g15 rfl ?_
  refine s_iload_n hF dX11_strange_19 rfl 1 rfl ?_
  refine sim_gd (fun g16 => ?_)
  refine sim_gd (fun g17 => ?_)
  refine s_aaload (x := (g_R m8 (g_R m8 (g_R m8 l0 3) 0) l1.toNatClampNeg)) hF dX11_strange_20 (by decide) (by decide) g16 g17 rfl ?_
  refine s_iload_n hF dX11_strange_21 rfl 2 rfl ?_
  refine s_iconst (v := (1 : Int32)) hF dX11_strange_22 kI_1 ?_
  refine s_icmp_ne (tgt := 30) hF dX11_strange_23 rfl (fun c18 => ?_) (fun c18 => ?_)
  · refine s_iconst (v := (1 : Int32)) hF dX11_strange_26 kI_1 ?_
    refine s_goto (tgt := 31) hF dX11_strange_27 rfl ?_
    refine s_sub [] rfl ?_
    exact sX11_strange_31 hF hD (1 : Int32) (g_R m8 (g_R m8 (g_R m8 l0 3) 0) l1.toNatClampNeg) _
  · refine s_iconst (v := (0 : Int32)) hF dX11_strange_30 kI_0 ?_
    refine s_sub [] rfl ?_
    exact sX11_strange_31 hF hD (0 : Int32) (g_R m8 (g_R m8 (g_R m8 l0 3) 0) l1.toNatClampNeg) _
theorem sX11_extreme_31 {F : Option Fx} (hF : FxO F RX11 cX11_extreme 3 10) (hD : FxXO F (some .int)) (k0 : Int32) (k1 : Nat) (μ : Mem) : Sim F (encX encI) 31 [] [.int k0, .ref k1] μ (mX11_extreme_31 k0 k1 μ) := by
  unfold mX11_extreme_31
  refine sim_gd (fun g25 => ?_)
  refine s_xVi (st := []) (ci := 5) [.int k0] hF hD dX11_extreme_31 cwX11_280 (Nat.le_of_ble_eq_true rfl) (Nat.le_of_ble_eq_true rfl) rfl rfl (Nat.le_of_ble_eq_true rfl) g25 rfl rfl (Nat.le_of_ble_eq_true rfl) (ctX5_extremePlace k1 k0 _) (fun r19 m20 hl21 hm22 => ?_)
  exact s_iretX hF hD dX11_extreme_34 rfl
theorem ctX11_extreme  (l0 : Nat) (l1 : Int32) (l2 : Int32) (μ : Mem) : ∀ (r : (Nat ⊕ Int32)) (μ' : Mem), LX11_extreme l0 l1 l2 μ = some (r, μ') → CtX yX11_extreme cX11_extreme 3 (some .int) 10 [.ref l0, .int l1, .int l2] μ ((encX encI) r) μ' := by
  refine ct_enterX plX11 (Nat.le_of_ble_eq_true rfl) (fun F hF hD hI => ?_)
  unfold LX11_extreme
  refine sim_gd (fun f0 => ?_)
  refine s_aload_n hF dX11_extreme_0 rfl 0 rfl ?_
  refine s_iload_n hF dX11_extreme_1 rfl 1 rfl ?_
  refine s_tVv (st := []) (ci := 11) [.int l1] hF hD dX11_extreme_2 cwX11_215 (Nat.le_of_ble_eq_true rfl) (Nat.le_of_ble_eq_true rfl) rfl rfl (Nat.le_of_ble_eq_true rfl) f0 rfl rfl (Nat.le_of_ble_eq_true rfl) (ctX11_needPen l0 l1 _) (fun r1 m2 hl3 hm4 => ?_)
  refine s_aload_n hF dX11_extreme_5 rfl 0 rfl ?_
  refine s_iload_n hF dX11_extreme_6 rfl 2 rfl ?_
  refine s_iconst (v := (0 : Int32)) hF dX11_extreme_7 kI_0 ?_
  refine s_iconst (v := (1 : Int32)) hF dX11_extreme_8 kI_1 ?_
  refine s_tVv (st := []) (ci := 11) [.int l2, .int (0 : Int32), .int (1 : Int32)] hF hD dX11_extreme_9 cwX11_189 (Nat.le_of_ble_eq_true rfl) (Nat.le_of_ble_eq_true rfl) rfl rfl (Nat.le_of_ble_eq_true rfl) (isK.mo f0 hm4) rfl rfl (Nat.le_of_ble_eq_true rfl) (ctX11_needWithin l0 l2 (0 : Int32) (1 : Int32) _) (fun r7 m8 hl9 hm10 => ?_)
  refine s_aload_n hF dX11_extreme_12 rfl 0 rfl ?_
  refine sim_gd (fun g13 => ?_)
  refine s_getR (x := (g_R m8 l0 3)) hF dX11_extreme_13 flX11_33 (isK.mo (isK.mo f0 hm4) hm10) g13 rfl ?_
  refine sim_gd (fun g14 => ?_)
  refine sim_gd (fun g15 => ?_)
  refine s_getRq (x := (g_R m8 (g_R m8 l0 3) 0)) hF dX11_extreme_16 fqX11_218 g14 g15 rfl ?_
  refine s_iload_n hF dX11_extreme_19 rfl 1 rfl ?_
  refine sim_gd (fun g16 => ?_)
  refine sim_gd (fun g17 => ?_)
  refine s_aaload (x := (g_R m8 (g_R m8 (g_R m8 l0 3) 0) l1.toNatClampNeg)) hF dX11_extreme_20 (by decide) (by decide) g16 g17 rfl ?_
  refine s_iload_n hF dX11_extreme_21 rfl 2 rfl ?_
  refine s_iconst (v := (1 : Int32)) hF dX11_extreme_22 kI_1 ?_
  refine s_icmp_ne (tgt := 30) hF dX11_extreme_23 rfl (fun c18 => ?_) (fun c18 => ?_)
  · refine s_iconst (v := (1 : Int32)) hF dX11_extreme_26 kI_1 ?_
    refine s_goto (tgt := 31) hF dX11_extreme_27 rfl ?_
    refine s_sub [] rfl ?_
    exact sX11_extreme_31 hF hD (1 : Int32) (g_R m8 (g_R m8 (g_R m8 l0 3) 0) l1.toNatClampNeg) _
  · refine s_iconst (v := (0 : Int32)) hF dX11_extreme_30 kI_0 ?_
    refine s_sub [] rfl ?_
    exact sX11_extreme_31 hF hD (0 : Int32) (g_R m8 (g_R m8 (g_R m8 l0 3) 0) l1.toNatClampNeg) _
theorem sX11_chainJams_2 {F : Option Fx} (hF : FxO F RX11 cX11_chainJams 2 1) (hD : FxXO F (some .boolean)) : ∀ (fu : Nat) (l0 : Nat) (l1 : Int32) (μ : Mem) (f0 : isK μ l0 11 = true), Sim F encI 2 [(0, .ref l0), (1, .int l1)] [] μ (mX11_chainJams_2 fu l0 l1 μ) := by
  intro fu
  induction fu with
  | zero =>
    intro l0 l1 μ f0
    exact sim_none
  | succ fu ih =>
    intro l0 l1 μ f0
    rw [mX11_chainJams_2]
    refine s_iload_n hF dX11_chainJams_2 rfl 1 rfl ?_
    refine s_aload_n hF dX11_chainJams_3 rfl 0 rfl ?_
    refine sim_gd (fun g1 => ?_)
    refine s_getR (x := (g_R μ l0 13)) hF dX11_chainJams_4 flX11_88 f0 g1 rfl ?_
    refine sim_gd (fun g2 => ?_)
    refine s_getIq (x := (g_I μ (g_R μ l0 13) 1)) hF dX11_chainJams_7 fqX11_176 g2 rfl ?_
    refine s_icmp_ge (tgt := 44) hF dX11_chainJams_10 rfl (fun c3 => ?_) (fun c3 => ?_)
    · refine s_iconst (v := (0 : Int32)) hF dX11_chainJams_44 kI_0 ?_
      exact s_zretX hF hD dX11_chainJams_45 rfl rfl
    · refine s_aload_n hF dX11_chainJams_13 rfl 0 rfl ?_
      refine sim_gd (fun g4 => ?_)
      refine s_getR (x := (g_R μ l0 3)) hF dX11_chainJams_14 flX11_33 f0 g4 rfl ?_
      refine sim_gd (fun g5 => ?_)
      refine sim_gd (fun g6 => ?_)
      refine s_getRq (x := (g_R μ (g_R μ l0 3) 0)) hF dX11_chainJams_17 fqX11_218 g5 g6 rfl ?_
      refine s_aload_n hF dX11_chainJams_20 rfl 0 rfl ?_
      refine s_getR (x := (g_R μ l0 13)) hF dX11_chainJams_21 flX11_88 f0 g1 rfl ?_
      refine sim_gd (fun g7 => ?_)
      refine s_getRq (x := (g_R μ (g_R μ l0 13) 0)) hF dX11_chainJams_24 fqX11_348 g2 g7 rfl ?_
      refine s_iload_n hF dX11_chainJams_27 rfl 1 rfl ?_
      refine sim_gd (fun g8 => ?_)
      refine s_iaload (x := (g_I μ (g_R μ (g_R μ l0 13) 0) l1.toNatClampNeg)) hF dX11_chainJams_28 g8 rfl ?_
      refine sim_gd (fun g9 => ?_)
      refine sim_gd (fun g10 => ?_)
      refine s_aaload (x := (g_R μ (g_R μ (g_R μ l0 3) 0) (g_I μ (g_R μ (g_R μ l0 13) 0) l1.toNatClampNeg).toNatClampNeg)) hF dX11_chainJams_29 (by decide) (by decide) g9 g10 rfl ?_
      refine sim_gd (fun g17 => ?_)
      refine s_xVi (st := []) (ci := 5) [] hF hD dX11_chainJams_30 cwX11_256 (Nat.le_of_ble_eq_true rfl) (Nat.le_of_ble_eq_true rfl) rfl rfl (Nat.le_of_ble_eq_true rfl) g17 rfl rfl (Nat.le_of_ble_eq_true rfl) (ctX5_jams (g_R μ (g_R μ (g_R μ l0 3) 0) (g_I μ (g_R μ (g_R μ l0 13) 0) l1.toNatClampNeg).toNatClampNeg) _) (fun r11 m12 hl13 hm14 => ?_)
      refine s_if_eq (tgt := 38) hF dX11_chainJams_33 rfl (fun c18 => ?_) (fun c18 => ?_)
      · refine s_iinc (v := (l1 + (1 : Int32))) (pls' := [(1, .int (l1 + (1 : Int32))), (0, .ref l0)]) hF dX11_chainJams_38 1 rfl rfl (by decide) rfl ?_
        refine s_goto (tgt := 2) hF dX11_chainJams_41 rfl ?_
        refine s_sub [1, 0] rfl ?_
        exact ih l0 (l1 + (1 : Int32)) _ (isK.mo f0 hm14)
      · refine s_iconst (v := (1 : Int32)) hF dX11_chainJams_36 kI_1 ?_
        exact s_zretX hF hD dX11_chainJams_37 rfl rfl
theorem ctX11_chainJams  (l0 : Nat) (μ : Mem) : ∀ (r : Int32) (μ' : Mem), LX11_chainJams l0 μ = some (r, μ') → CtX yX11_chainJams cX11_chainJams 2 (some .boolean) 1 [.ref l0] μ (encI r) μ' := by
  refine ct_enterX plX11 (Nat.le_of_ble_eq_true rfl) (fun F hF hD hI => ?_)
  unfold LX11_chainJams
  refine sim_gd (fun f0 => ?_)
  refine s_iconst (v := (0 : Int32)) hF dX11_chainJams_0 kI_0 ?_
  refine s_istore_n (pls' := [(1, .int (0 : Int32)), (0, .ref l0)]) hF dX11_chainJams_1 rfl (by decide) rfl ?_
  refine s_sub [1, 0] rfl ?_
  exact sX11_chainJams_2 hF hD 100000 l0 (0 : Int32) _ f0
theorem sX11_chainOut_4 {F : Option Fx} (hF : FxO F RX11 cX11_chainOut 4 2) (hD : FxXO F (some .int)) : ∀ (fu : Nat) (l0 : Nat) (l2 : Int32) (l3 : Int32) (μ : Mem) (f0 : isK μ l0 11 = true), Sim F encI 4 [(0, .ref l0), (2, .int l2), (3, .int l3)] [] μ (mX11_chainOut_4 fu l0 l2 l3 μ) := by
  intro fu
  induction fu with
  | zero =>
    intro l0 l2 l3 μ f0
    exact sim_none
  | succ fu ih =>
    intro l0 l2 l3 μ f0
    rw [mX11_chainOut_4]
    refine s_iload_n hF dX11_chainOut_4 rfl 2 rfl ?_
    refine s_aload_n hF dX11_chainOut_5 rfl 0 rfl ?_
    refine sim_gd (fun g1 => ?_)
    refine s_getR (x := (g_R μ l0 13)) hF dX11_chainOut_6 flX11_88 f0 g1 rfl ?_
    refine sim_gd (fun g2 => ?_)
    refine s_getIq (x := (g_I μ (g_R μ l0 13) 1)) hF dX11_chainOut_9 fqX11_176 g2 rfl ?_
    refine s_icmp_ge (tgt := 43) hF dX11_chainOut_12 rfl (fun c3 => ?_) (fun c3 => ?_)
    · refine s_iload_n hF dX11_chainOut_43 rfl 1 rfl ?_
      exact s_iretX hF hD dX11_chainOut_44 rfl
    · refine s_aload_n hF dX11_chainOut_15 rfl 0 rfl ?_
      refine sim_gd (fun g4 => ?_)
      refine s_getR (x := (g_R μ l0 3)) hF dX11_chainOut_16 flX11_33 f0 g4 rfl ?_
      refine sim_gd (fun g5 => ?_)
      refine sim_gd (fun g6 => ?_)
      refine s_getRq (x := (g_R μ (g_R μ l0 3) 0)) hF dX11_chainOut_19 fqX11_218 g5 g6 rfl ?_
      refine s_aload_n hF dX11_chainOut_22 rfl 0 rfl ?_
      refine s_getR (x := (g_R μ l0 13)) hF dX11_chainOut_23 flX11_88 f0 g1 rfl ?_
      refine sim_gd (fun g7 => ?_)
      refine s_getRq (x := (g_R μ (g_R μ l0 13) 0)) hF dX11_chainOut_26 fqX11_348 g2 g7 rfl ?_
      refine s_iload_n hF dX11_chainOut_29 rfl 2 rfl ?_
      refine sim_gd (fun g8 => ?_)
      refine s_iaload (x := (g_I μ (g_R μ (g_R μ l0 13) 0) l3.toNatClampNeg)) hF dX11_chainOut_30 g8 rfl ?_
      refine sim_gd (fun g9 => ?_)
      refine sim_gd (fun g10 => ?_)
      refine s_aaload (x := (g_R μ (g_R μ (g_R μ l0 3) 0) (g_I μ (g_R μ (g_R μ l0 13) 0) l3.toNatClampNeg).toNatClampNeg)) hF dX11_chainOut_31 (by decide) (by decide) g9 g10 rfl ?_
      refine s_iload_n hF dX11_chainOut_32 rfl 1 rfl ?_
      refine sim_gd (fun g17 => ?_)
      refine s_xVi (st := []) (ci := 5) [.int l2] hF hD dX11_chainOut_33 cwX11_262 (Nat.le_of_ble_eq_true rfl) (Nat.le_of_ble_eq_true rfl) rfl rfl (Nat.le_of_ble_eq_true rfl) g17 rfl rfl (Nat.le_of_ble_eq_true rfl) (ctX5_outOf (g_R μ (g_R μ (g_R μ l0 3) 0) (g_I μ (g_R μ (g_R μ l0 13) 0) l3.toNatClampNeg).toNatClampNeg) l2 _) (fun r11 m12 hl13 hm14 => ?_)
      refine s_istore_n (pls' := [(2, .int r11), (0, .ref l0), (3, .int l3)]) hF dX11_chainOut_36 rfl (by decide) rfl ?_
      refine s_iinc (v := (l3 + (1 : Int32))) (pls' := [(3, .int (l3 + (1 : Int32))), (2, .int r11), (0, .ref l0)]) hF dX11_chainOut_37 2 rfl rfl (by decide) rfl ?_
      refine s_goto (tgt := 4) hF dX11_chainOut_40 rfl ?_
      refine s_sub [2, 1, 0] rfl ?_
      exact ih l0 r11 (l3 + (1 : Int32)) _ (isK.mo f0 hm14)
theorem ctX11_chainOut  (l0 : Nat) (l1 : Int32) (μ : Mem) : ∀ (r : Int32) (μ' : Mem), LX11_chainOut l0 l1 μ = some (r, μ') → CtX yX11_chainOut cX11_chainOut 4 (some .int) 2 [.ref l0, .int l1] μ (encI r) μ' := by
  refine ct_enterX plX11 (Nat.le_of_ble_eq_true rfl) (fun F hF hD hI => ?_)
  unfold LX11_chainOut
  refine sim_gd (fun f0 => ?_)
  refine s_iload_n hF dX11_chainOut_0 rfl 1 rfl ?_
  refine s_istore_n (pls' := [(2, .int l1), (0, .ref l0), (1, .int l1)]) hF dX11_chainOut_1 rfl (by decide) rfl ?_
  refine s_iconst (v := (0 : Int32)) hF dX11_chainOut_2 kI_0 ?_
  refine s_istore_n (pls' := [(3, .int (0 : Int32)), (2, .int l1), (0, .ref l0), (1, .int l1)]) hF dX11_chainOut_3 rfl (by decide) rfl ?_
  refine s_sub [2, 1, 0] rfl ?_
  exact sX11_chainOut_4 hF hD 100000 l0 l1 (0 : Int32) _ f0
theorem sX11_through_11 {F : Option Fx} (hF : FxO F RX11 cX11_through 2 9) (hD : FxXO F (some .int)) (l0 : Nat) (l1 : Int32) (μ : Mem) (f0 : isK μ l0 11 = true) : Sim F (encX encI) 11 [(0, .ref l0), (1, .int l1)] [] μ (mX11_through_11 l0 l1 μ) := by
  unfold mX11_through_11
  refine s_aload_n hF dX11_through_11 rfl 0 rfl ?_
  refine s_iload_n hF dX11_through_12 rfl 1 rfl ?_
  refine s_xVi (st := []) (ci := 11) [.int l1] hF hD dX11_through_13 cwX11_286 (Nat.le_of_ble_eq_true rfl) (Nat.le_of_ble_eq_true rfl) rfl rfl (Nat.le_of_ble_eq_true rfl) f0 rfl rfl (Nat.le_of_ble_eq_true rfl) (ctX11_chainOut l0 l1 _) (fun r14 m15 hl16 hm17 => ?_)
  exact s_iretX hF hD dX11_through_16 rfl
theorem ctX11_through  (l0 : Nat) (l1 : Int32) (μ : Mem) : ∀ (r : (Nat ⊕ Int32)) (μ' : Mem), LX11_through l0 l1 μ = some (r, μ') → CtX yX11_through cX11_through 2 (some .int) 9 [.ref l0, .int l1] μ ((encX encI) r) μ' := by
  refine ct_enterX plX11 (Nat.le_of_ble_eq_true rfl) (fun F hF hD hI => ?_)
  unfold LX11_through
  refine sim_gd (fun f0 => ?_)
  refine s_aload_n hF dX11_through_0 rfl 0 rfl ?_
  refine s_xVi (st := []) (ci := 11) [] hF hD dX11_through_1 cwX11_283 (Nat.le_of_ble_eq_true rfl) (Nat.le_of_ble_eq_true rfl) rfl rfl (Nat.le_of_ble_eq_true rfl) f0 rfl rfl (Nat.le_of_ble_eq_true rfl) (ctX11_chainJams l0 _) (fun r1 m2 hl3 hm4 => ?_)
  refine s_if_eq (tgt := 11) hF dX11_through_4 rfl (fun c7 => ?_) (fun c7 => ?_)
  · exact sX11_through_11 hF hD l0 l1 _ (isK.mo f0 hm4)
  · refine s_aload_n hF dX11_through_7 rfl 0 rfl ?_
    refine s_tVv (st := []) (ci := 11) [] hF hD dX11_through_8 cwX11_259 (Nat.le_of_ble_eq_true rfl) (Nat.le_of_ble_eq_true rfl) rfl rfl (Nat.le_of_ble_eq_true rfl) (isK.mo f0 hm4) rfl rfl (Nat.le_of_ble_eq_true rfl) (ctX11_refuseArithmetic l0 _) (fun r8 m9 hl10 hm11 => ?_)
    exact sX11_through_11 hF hD l0 l1 _ (isK.mo (isK.mo f0 hm4) hm11)
theorem sX11_kept_23 {F : Option Fx} (hF : FxO F RX11 cX11_kept 5 10) (hD : FxXO F (some .int)) : ∀ (fu : Nat) (l0 : Nat) (l1 : Int32) (l2 : Int32) (l3 : Int32) (l4 : Int32) (μ : Mem) (f0 : isK μ l0 11 = true), Sim F (encX encI) 23 [(0, .ref l0), (1, .int l1), (2, .int l2), (3, .int l3), (4, .int l4)] [] μ (mX11_kept_23 fu l0 l1 l2 l3 l4 μ) := by
  intro fu
  induction fu with
  | zero =>
    intro l0 l1 l2 l3 l4 μ f0
    exact sim_none
  | succ fu ih =>
    intro l0 l1 l2 l3 l4 μ f0
    rw [mX11_kept_23]
    refine s_iload hF dX11_kept_23 4 rfl ?_
    refine s_iload_n hF dX11_kept_25 rfl 2 rfl ?_
    refine s_icmp_ge (tgt := 53) hF dX11_kept_26 rfl (fun c14 => ?_) (fun c14 => ?_)
    · refine s_iload_n hF dX11_kept_53 rfl 3 rfl ?_
      exact s_iretX hF hD dX11_kept_54 rfl
    · refine s_aload_n hF dX11_kept_29 rfl 0 rfl ?_
      refine s_iload_n hF dX11_kept_30 rfl 1 rfl ?_
      refine s_iload hF dX11_kept_31 4 rfl ?_
      refine s_iadd hF dX11_kept_33 ?_
      refine s_xVi (st := []) (ci := 11) [.int (l1 + l4)] hF hD dX11_kept_34 cwX11_286 (Nat.le_of_ble_eq_true rfl) (Nat.le_of_ble_eq_true rfl) rfl rfl (Nat.le_of_ble_eq_true rfl) f0 rfl rfl (Nat.le_of_ble_eq_true rfl) (ctX11_chainOut l0 (l1 + l4) _) (fun r15 m16 hl17 hm18 => ?_)
      refine s_iload_n hF dX11_kept_37 rfl 1 rfl ?_
      refine s_iload hF dX11_kept_38 4 rfl ?_
      refine s_iadd hF dX11_kept_40 ?_
      refine s_icmp_ne (tgt := 47) hF dX11_kept_41 rfl (fun c21 => ?_) (fun c21 => ?_)
      · refine s_iinc (v := (l3 + (1 : Int32))) (pls' := [(3, .int (l3 + (1 : Int32))), (0, .ref l0), (1, .int l1), (2, .int l2), (4, .int l4)]) hF dX11_kept_44 3 rfl rfl (by decide) rfl ?_
        refine s_iinc (v := (l4 + (1 : Int32))) (pls' := [(4, .int (l4 + (1 : Int32))), (3, .int (l3 + (1 : Int32))), (0, .ref l0), (1, .int l1), (2, .int l2)]) hF dX11_kept_47 4 rfl rfl (by decide) rfl ?_
        refine s_goto (tgt := 23) hF dX11_kept_50 rfl ?_
        refine s_sub [2, 3, 4, 1, 0] rfl ?_
        exact ih l0 l1 l2 (l3 + (1 : Int32)) (l4 + (1 : Int32)) _ (isK.mo f0 hm18)
      · refine s_iinc (v := (l4 + (1 : Int32))) (pls' := [(4, .int (l4 + (1 : Int32))), (0, .ref l0), (1, .int l1), (2, .int l2), (3, .int l3)]) hF dX11_kept_47 4 rfl rfl (by decide) rfl ?_
        refine s_goto (tgt := 23) hF dX11_kept_50 rfl ?_
        refine s_sub [1, 2, 3, 4, 0] rfl ?_
        exact ih l0 l1 l2 l3 (l4 + (1 : Int32)) _ (isK.mo f0 hm18)
theorem ctX11_kept  (l0 : Nat) (l1 : Int32) (l2 : Int32) (μ : Mem) : ∀ (r : (Nat ⊕ Int32)) (μ' : Mem), LX11_kept l0 l1 l2 μ = some (r, μ') → CtX yX11_kept cX11_kept 5 (some .int) 10 [.ref l0, .int l1, .int l2] μ ((encX encI) r) μ' := by
  refine ct_enterX plX11 (Nat.le_of_ble_eq_true rfl) (fun F hF hD hI => ?_)
  unfold LX11_kept
  refine sim_gd (fun f0 => ?_)
  refine s_aload_n hF dX11_kept_0 rfl 0 rfl ?_
  refine s_iload_n hF dX11_kept_1 rfl 2 rfl ?_
  refine s_iconst (v := (0 : Int32)) hF dX11_kept_2 kI_0 ?_
  refine s_sipush (v := (1000 : Int32)) hF dX11_kept_3 kS_1000 ?_
  refine s_tVv (st := []) (ci := 11) [.int l2, .int (0 : Int32), .int (1000 : Int32)] hF hD dX11_kept_6 cwX11_189 (Nat.le_of_ble_eq_true rfl) (Nat.le_of_ble_eq_true rfl) rfl rfl (Nat.le_of_ble_eq_true rfl) f0 rfl rfl (Nat.le_of_ble_eq_true rfl) (ctX11_needWithin l0 l2 (0 : Int32) (1000 : Int32) _) (fun r1 m2 hl3 hm4 => ?_)
  refine s_aload_n hF dX11_kept_9 rfl 0 rfl ?_
  refine s_xVi (st := []) (ci := 11) [] hF hD dX11_kept_10 cwX11_283 (Nat.le_of_ble_eq_true rfl) (Nat.le_of_ble_eq_true rfl) rfl rfl (Nat.le_of_ble_eq_true rfl) (isK.mo f0 hm4) rfl rfl (Nat.le_of_ble_eq_true rfl) (ctX11_chainJams l0 _) (fun r7 m8 hl9 hm10 => ?_)
  refine s_if_eq (tgt := 18) hF dX11_kept_13 rfl (fun c13 => ?_) (fun c13 => ?_)
  · refine s_iconst (v := (0 : Int32)) hF dX11_kept_18 kI_0 ?_
    refine s_istore_n (pls' := [(3, .int (0 : Int32)), (0, .ref l0), (1, .int l1), (2, .int l2)]) hF dX11_kept_19 rfl (by decide) rfl ?_
    refine s_iconst (v := (0 : Int32)) hF dX11_kept_20 kI_0 ?_
    refine s_istore (pls' := [(4, .int (0 : Int32)), (3, .int (0 : Int32)), (0, .ref l0), (1, .int l1), (2, .int l2)]) hF dX11_kept_21 (by decide) rfl ?_
    refine s_sub [2, 3, 4, 1, 0] rfl ?_
    exact sX11_kept_23 hF hD 100000 l0 l1 l2 (0 : Int32) (0 : Int32) _ (isK.mo (isK.mo f0 hm4) hm10)
  · refine s_iconst (v := (0 : Int32)) hF dX11_kept_16 kI_0 ?_
    exact s_iretX hF hD dX11_kept_17 rfl
theorem sX11_gives_21 {F : Option Fx} (hF : FxO F RX11 cX11_gives 5 10) (hD : FxXO F (some .int)) : ∀ (fu : Nat) (l0 : Nat) (l1 : Int32) (l2 : Int32) (l3 : Int32) (l4 : Int32) (μ : Mem) (f0 : isK μ l0 11 = true), Sim F (encX encI) 21 [(0, .ref l0), (1, .int l1), (2, .int l2), (3, .int l3), (4, .int l4)] [] μ (mX11_gives_21 fu l0 l1 l2 l3 l4 μ) := by
  intro fu
  induction fu with
  | zero =>
    intro l0 l1 l2 l3 l4 μ f0
    exact sim_none
  | succ fu ih =>
    intro l0 l1 l2 l3 l4 μ f0
    rw [mX11_gives_21]
    refine s_iload hF dX11_gives_21 4 rfl ?_
    refine s_iload_n hF dX11_gives_23 rfl 3 rfl ?_
    refine s_icmp_ge (tgt := 48) hF dX11_gives_24 rfl (fun c14 => ?_) (fun c14 => ?_)
    · refine s_iconst (v := (-1 : Int32)) hF dX11_gives_48 kI_m1 ?_
      exact s_iretX hF hD dX11_gives_49 rfl
    · refine s_aload_n hF dX11_gives_27 rfl 0 rfl ?_
      refine s_iload_n hF dX11_gives_28 rfl 2 rfl ?_
      refine s_iload hF dX11_gives_29 4 rfl ?_
      refine s_iadd hF dX11_gives_31 ?_
      refine s_xVi (st := []) (ci := 11) [.int (l2 + l4)] hF hD dX11_gives_32 cwX11_286 (Nat.le_of_ble_eq_true rfl) (Nat.le_of_ble_eq_true rfl) rfl rfl (Nat.le_of_ble_eq_true rfl) f0 rfl rfl (Nat.le_of_ble_eq_true rfl) (ctX11_chainOut l0 (l2 + l4) _) (fun r15 m16 hl17 hm18 => ?_)
      refine s_iload_n hF dX11_gives_35 rfl 1 rfl ?_
      refine s_icmp_ne (tgt := 42) hF dX11_gives_36 rfl (fun c21 => ?_) (fun c21 => ?_)
      · refine s_iload hF dX11_gives_39 4 rfl ?_
        exact s_iretX hF hD dX11_gives_41 rfl
      · refine s_iinc (v := (l4 + (1 : Int32))) (pls' := [(4, .int (l4 + (1 : Int32))), (0, .ref l0), (1, .int l1), (2, .int l2), (3, .int l3)]) hF dX11_gives_42 4 rfl rfl (by decide) rfl ?_
        refine s_goto (tgt := 21) hF dX11_gives_45 rfl ?_
        refine s_sub [1, 2, 3, 4, 0] rfl ?_
        exact ih l0 l1 l2 l3 (l4 + (1 : Int32)) _ (isK.mo f0 hm18)
theorem ctX11_gives  (l0 : Nat) (l1 : Int32) (l2 : Int32) (l3 : Int32) (μ : Mem) : ∀ (r : (Nat ⊕ Int32)) (μ' : Mem), LX11_gives l0 l1 l2 l3 μ = some (r, μ') → CtX yX11_gives cX11_gives 5 (some .int) 10 [.ref l0, .int l1, .int l2, .int l3] μ ((encX encI) r) μ' := by
  refine ct_enterX plX11 (Nat.le_of_ble_eq_true rfl) (fun F hF hD hI => ?_)
  unfold LX11_gives
  refine sim_gd (fun f0 => ?_)
  refine s_aload_n hF dX11_gives_0 rfl 0 rfl ?_
  refine s_iload_n hF dX11_gives_1 rfl 3 rfl ?_
  refine s_iconst (v := (0 : Int32)) hF dX11_gives_2 kI_0 ?_
  refine s_sipush (v := (1000 : Int32)) hF dX11_gives_3 kS_1000 ?_
  refine s_tVv (st := []) (ci := 11) [.int l3, .int (0 : Int32), .int (1000 : Int32)] hF hD dX11_gives_6 cwX11_189 (Nat.le_of_ble_eq_true rfl) (Nat.le_of_ble_eq_true rfl) rfl rfl (Nat.le_of_ble_eq_true rfl) f0 rfl rfl (Nat.le_of_ble_eq_true rfl) (ctX11_needWithin l0 l3 (0 : Int32) (1000 : Int32) _) (fun r1 m2 hl3 hm4 => ?_)
  refine s_aload_n hF dX11_gives_9 rfl 0 rfl ?_
  refine s_xVi (st := []) (ci := 11) [] hF hD dX11_gives_10 cwX11_283 (Nat.le_of_ble_eq_true rfl) (Nat.le_of_ble_eq_true rfl) rfl rfl (Nat.le_of_ble_eq_true rfl) (isK.mo f0 hm4) rfl rfl (Nat.le_of_ble_eq_true rfl) (ctX11_chainJams l0 _) (fun r7 m8 hl9 hm10 => ?_)
  refine s_if_eq (tgt := 18) hF dX11_gives_13 rfl (fun c13 => ?_) (fun c13 => ?_)
  · refine s_iconst (v := (0 : Int32)) hF dX11_gives_18 kI_0 ?_
    refine s_istore (pls' := [(4, .int (0 : Int32)), (0, .ref l0), (1, .int l1), (2, .int l2), (3, .int l3)]) hF dX11_gives_19 (by decide) rfl ?_
    refine s_sub [1, 2, 3, 4, 0] rfl ?_
    exact sX11_gives_21 hF hD 100000 l0 l1 l2 l3 (0 : Int32) _ (isK.mo (isK.mo f0 hm4) hm10)
  · refine s_iconst (v := (-1 : Int32)) hF dX11_gives_16 kI_m1 ?_
    exact s_iretX hF hD dX11_gives_17 rfl
theorem sX11_worst_34 {F : Option Fx} (hF : FxO F RX11 cX11_worst 8 10) (hD : FxXO F (some .int)) : ∀ (fu : Nat) (l0 : Nat) (l1 : Int32) (l2 : Int32) (l3 : Int32) (l4 : Int32) (l5 : Int32) (l6 : Int32) (μ : Mem) (f0 : isK μ l0 11 = true), Sim F (encX encI) 34 [(0, .ref l0), (1, .int l1), (2, .int l2), (3, .int l3), (4, .int l4), (5, .int l5), (6, .int l6)] [] μ (mX11_worst_34 fu l0 l1 l2 l3 l4 l5 l6 μ) := by
  intro fu
  induction fu with
  | zero =>
    intro l0 l1 l2 l3 l4 l5 l6 μ f0
    exact sim_none
  | succ fu ih =>
    intro l0 l1 l2 l3 l4 l5 l6 μ f0
    rw [mX11_worst_34]
    refine s_iload hF dX11_worst_34 6 rfl ?_
    refine s_iload_n hF dX11_worst_36 rfl 2 rfl ?_
    refine s_icmp_ge (tgt := 78) hF dX11_worst_37 rfl (fun c20 => ?_) (fun c20 => ?_)
    · refine s_iload_n hF dX11_worst_78 rfl 3 rfl ?_
      refine s_if_ne (tgt := 87) hF dX11_worst_79 rfl (fun c21 => ?_) (fun c21 => ?_)
      · refine s_iload hF dX11_worst_82 4 rfl ?_
        refine s_goto (tgt := 89) hF dX11_worst_84 rfl ?_
        exact s_iretX hF hD dX11_worst_89 rfl
      · refine s_iload hF dX11_worst_87 5 rfl ?_
        exact s_iretX hF hD dX11_worst_89 rfl
    · refine s_iload_n hF dX11_worst_40 rfl 1 rfl ?_
      refine s_iload hF dX11_worst_41 6 rfl ?_
      refine s_iadd hF dX11_worst_43 ?_
      refine s_aload_n hF dX11_worst_44 rfl 0 rfl ?_
      refine s_iload_n hF dX11_worst_45 rfl 1 rfl ?_
      refine s_iload hF dX11_worst_46 6 rfl ?_
      refine s_iadd hF dX11_worst_48 ?_
      refine s_xVi (st := [.int (l1 + l6)]) (ci := 11) [.int (l1 + l6)] hF hD dX11_worst_49 cwX11_286 (Nat.le_of_ble_eq_true rfl) (Nat.le_of_ble_eq_true rfl) rfl rfl (Nat.le_of_ble_eq_true rfl) f0 rfl rfl (Nat.le_of_ble_eq_true rfl) (ctX11_chainOut l0 (l1 + l6) _) (fun r22 m23 hl24 hm25 => ?_)
      refine s_xSi (st := []) [.int (l1 + l6), .int r22] hF hD dX11_worst_52 cwX11_289 (Nat.le_of_ble_eq_true rfl) (Nat.le_of_ble_eq_true rfl) rfl rfl (Nat.le_of_ble_eq_true rfl) (ctX11_distance (l1 + l6) r22 _) (fun r28 m29 hl30 hm31 => ?_)
      refine s_istore (pls' := [(7, .int r28), (0, .ref l0), (1, .int l1), (2, .int l2), (3, .int l3), (4, .int l4), (5, .int l5), (6, .int l6)]) hF dX11_worst_55 (by decide) rfl ?_
      refine s_iload hF dX11_worst_57 0 rfl ?_
      refine s_iload hF dX11_worst_59 6 rfl ?_
      refine s_icmp_le (tgt := 72) hF dX11_worst_61 rfl (fun c34 => ?_) (fun c34 => ?_)
      · refine s_iinc (v := (l6 + (1 : Int32))) (pls' := [(6, .int (l6 + (1 : Int32))), (7, .int r28), (0, .ref l0), (1, .int l1), (2, .int l2), (3, .int l3), (4, .int l4), (5, .int l5)]) hF dX11_worst_72 7 rfl rfl (by decide) rfl ?_
        refine s_goto (tgt := 34) hF dX11_worst_75 rfl ?_
        refine s_sub [2, 3, 4, 5, 6, 7, 0] rfl ?_
        exact ih l0 l1 l2 l3 l4 l5 (l6 + (1 : Int32)) _ (isK.mo (isK.mo f0 hm25) hm31)
      · refine s_iload hF dX11_worst_64 0 rfl ?_
        refine s_istore (pls' := [(5, .int r28), (7, .int r28), (0, .ref l0), (1, .int l1), (2, .int l2), (3, .int l3), (4, .int l4), (6, .int l6)]) hF dX11_worst_66 (by decide) rfl ?_
        refine s_iload hF dX11_worst_68 7 rfl ?_
        refine s_istore (pls' := [(4, .int l6), (5, .int r28), (7, .int r28), (0, .ref l0), (1, .int l1), (2, .int l2), (3, .int l3), (6, .int l6)]) hF dX11_worst_70 (by decide) rfl ?_
        refine s_iinc (v := (l6 + (1 : Int32))) (pls' := [(6, .int (l6 + (1 : Int32))), (4, .int l6), (5, .int r28), (7, .int r28), (0, .ref l0), (1, .int l1), (2, .int l2), (3, .int l3)]) hF dX11_worst_72 7 rfl rfl (by decide) rfl ?_
        refine s_goto (tgt := 34) hF dX11_worst_75 rfl ?_
        refine s_sub [4, 5, 6, 7, 1, 2, 0] rfl ?_
        exact ih l0 l1 l2 l3 l6 r28 (l6 + (1 : Int32)) _ (isK.mo (isK.mo f0 hm25) hm31)
theorem ctX11_worst  (l0 : Nat) (l1 : Int32) (l2 : Int32) (l3 : Int32) (μ : Mem) : ∀ (r : (Nat ⊕ Int32)) (μ' : Mem), LX11_worst l0 l1 l2 l3 μ = some (r, μ') → CtX yX11_worst cX11_worst 8 (some .int) 10 [.ref l0, .int l1, .int l2, .int l3] μ ((encX encI) r) μ' := by
  refine ct_enterX plX11 (Nat.le_of_ble_eq_true rfl) (fun F hF hD hI => ?_)
  unfold LX11_worst
  refine sim_gd (fun f0 => ?_)
  refine s_aload_n hF dX11_worst_0 rfl 0 rfl ?_
  refine s_iload_n hF dX11_worst_1 rfl 2 rfl ?_
  refine s_iconst (v := (0 : Int32)) hF dX11_worst_2 kI_0 ?_
  refine s_sipush (v := (1000 : Int32)) hF dX11_worst_3 kS_1000 ?_
  refine s_tVv (st := []) (ci := 11) [.int l2, .int (0 : Int32), .int (1000 : Int32)] hF hD dX11_worst_6 cwX11_189 (Nat.le_of_ble_eq_true rfl) (Nat.le_of_ble_eq_true rfl) rfl rfl (Nat.le_of_ble_eq_true rfl) f0 rfl rfl (Nat.le_of_ble_eq_true rfl) (ctX11_needWithin l0 l2 (0 : Int32) (1000 : Int32) _) (fun r1 m2 hl3 hm4 => ?_)
  refine s_aload_n hF dX11_worst_9 rfl 0 rfl ?_
  refine s_iload_n hF dX11_worst_10 rfl 3 rfl ?_
  refine s_iconst (v := (0 : Int32)) hF dX11_worst_11 kI_0 ?_
  refine s_iconst (v := (1 : Int32)) hF dX11_worst_12 kI_1 ?_
  refine s_tVv (st := []) (ci := 11) [.int l3, .int (0 : Int32), .int (1 : Int32)] hF hD dX11_worst_13 cwX11_189 (Nat.le_of_ble_eq_true rfl) (Nat.le_of_ble_eq_true rfl) rfl rfl (Nat.le_of_ble_eq_true rfl) (isK.mo f0 hm4) rfl rfl (Nat.le_of_ble_eq_true rfl) (ctX11_needWithin l0 l3 (0 : Int32) (1 : Int32) _) (fun r7 m8 hl9 hm10 => ?_)
  refine s_aload_n hF dX11_worst_16 rfl 0 rfl ?_
  refine s_xVi (st := []) (ci := 11) [] hF hD dX11_worst_17 cwX11_283 (Nat.le_of_ble_eq_true rfl) (Nat.le_of_ble_eq_true rfl) rfl rfl (Nat.le_of_ble_eq_true rfl) (isK.mo (isK.mo f0 hm4) hm10) rfl rfl (Nat.le_of_ble_eq_true rfl) (ctX11_chainJams l0 _) (fun r13 m14 hl15 hm16 => ?_)
  refine s_if_eq (tgt := 25) hF dX11_worst_20 rfl (fun c19 => ?_) (fun c19 => ?_)
  · refine s_iconst (v := (-1 : Int32)) hF dX11_worst_25 kI_m1 ?_
    refine s_istore (pls' := [(4, .int (-1 : Int32)), (0, .ref l0), (1, .int l1), (2, .int l2), (3, .int l3)]) hF dX11_worst_26 (by decide) rfl ?_
    refine s_iconst (v := (-1 : Int32)) hF dX11_worst_28 kI_m1 ?_
    refine s_istore (pls' := [(5, .int (-1 : Int32)), (4, .int (-1 : Int32)), (0, .ref l0), (1, .int l1), (2, .int l2), (3, .int l3)]) hF dX11_worst_29 (by decide) rfl ?_
    refine s_iconst (v := (0 : Int32)) hF dX11_worst_31 kI_0 ?_
    refine s_istore (pls' := [(6, .int (0 : Int32)), (5, .int (-1 : Int32)), (4, .int (-1 : Int32)), (0, .ref l0), (1, .int l1), (2, .int l2), (3, .int l3)]) hF dX11_worst_32 (by decide) rfl ?_
    refine s_sub [3, 4, 5, 6, 2, 1, 0] rfl ?_
    exact sX11_worst_34 hF hD 100000 l0 l1 l2 l3 (-1 : Int32) (-1 : Int32) (0 : Int32) _ (isK.mo (isK.mo (isK.mo f0 hm4) hm10) hm16)
  · refine s_iconst (v := (-1 : Int32)) hF dX11_worst_23 kI_m1 ?_
    exact s_iretX hF hD dX11_worst_24 rfl
theorem ctX11_best  (l0 : Nat) (l1 : Int32) (l2 : Int32) (l3 : Int32) (l4 : Int32) (μ : Mem) : ∀ (r : (Nat ⊕ Int32)) (μ' : Mem), LX11_best l0 l1 l2 l3 l4 μ = some (r, μ') → CtX yX11_best cX11_best 5 (some .int) 16 [.ref l0, .int l1, .int l2, .int l3, .int l4] μ ((encX encI) r) μ' := by
  refine ct_enterX plX11 (Nat.le_of_ble_eq_true rfl) (fun F hF hD hI => ?_)
  unfold LX11_best
  refine sim_gd (fun f0 => ?_)
  refine s_aload_n hF dX11_best_0 rfl 0 rfl ?_
  refine s_iload_n hF dX11_best_1 rfl 1 rfl ?_
  refine s_tVv (st := []) (ci := 11) [.int l1] hF hD dX11_best_2 cwX11_215 (Nat.le_of_ble_eq_true rfl) (Nat.le_of_ble_eq_true rfl) rfl rfl (Nat.le_of_ble_eq_true rfl) f0 rfl rfl (Nat.le_of_ble_eq_true rfl) (ctX11_needPen l0 l1 _) (fun r1 m2 hl3 hm4 => ?_)
  refine s_aload_n hF dX11_best_5 rfl 0 rfl ?_
  refine s_iload_n hF dX11_best_6 rfl 2 rfl ?_
  refine s_tVv (st := []) (ci := 11) [.int l2] hF hD dX11_best_7 cwX11_215 (Nat.le_of_ble_eq_true rfl) (Nat.le_of_ble_eq_true rfl) rfl rfl (Nat.le_of_ble_eq_true rfl) (isK.mo f0 hm4) rfl rfl (Nat.le_of_ble_eq_true rfl) (ctX11_needPen l0 l2 _) (fun r7 m8 hl9 hm10 => ?_)
  refine s_aload_n hF dX11_best_10 rfl 0 rfl ?_
  refine s_iload hF dX11_best_11 4 rfl ?_
  refine s_iconst (v := (0 : Int32)) hF dX11_best_13 kI_0 ?_
  refine s_iconst (v := (1 : Int32)) hF dX11_best_14 kI_1 ?_
  refine s_tVv (st := []) (ci := 11) [.int l4, .int (0 : Int32), .int (1 : Int32)] hF hD dX11_best_15 cwX11_189 (Nat.le_of_ble_eq_true rfl) (Nat.le_of_ble_eq_true rfl) rfl rfl (Nat.le_of_ble_eq_true rfl) (isK.mo (isK.mo f0 hm4) hm10) rfl rfl (Nat.le_of_ble_eq_true rfl) (ctX11_needWithin l0 l4 (0 : Int32) (1 : Int32) _) (fun r13 m14 hl15 hm16 => ?_)
  refine s_aload_n hF dX11_best_18 rfl 0 rfl ?_
  refine sim_gd (fun g19 => ?_)
  refine s_getR (x := (g_R m14 l0 5)) hF dX11_best_19 flX11_47 (isK.mo (isK.mo (isK.mo f0 hm4) hm10) hm16) g19 rfl ?_
  refine s_aload_n hF dX11_best_22 rfl 0 rfl ?_
  refine sim_gd (fun g20 => ?_)
  refine s_getR (x := (g_R m14 l0 3)) hF dX11_best_23 flX11_33 (isK.mo (isK.mo (isK.mo f0 hm4) hm10) hm16) g20 rfl ?_
  refine s_aload_n hF dX11_best_26 rfl 0 rfl ?_
  refine sim_gd (fun g21 => ?_)
  refine s_getR (x := (g_R m14 l0 9)) hF dX11_best_27 flX11_68 (isK.mo (isK.mo (isK.mo f0 hm4) hm10) hm16) g21 rfl ?_
  refine s_iload_n hF dX11_best_30 rfl 1 rfl ?_
  refine s_iload_n hF dX11_best_31 rfl 2 rfl ?_
  refine s_iload_n hF dX11_best_32 rfl 3 rfl ?_
  refine sim_gd (fun g28 => ?_)
  refine s_xVv (st := []) (ci := 6) [.ref (g_R m14 l0 3), .ref (g_R m14 l0 9), .int l1, .int l2, .int l3] hF hD dX11_best_33 cwX11_293 (Nat.le_of_ble_eq_true rfl) (Nat.le_of_ble_eq_true rfl) rfl rfl (Nat.le_of_ble_eq_true rfl) g28 rfl rfl (Nat.le_of_ble_eq_true rfl) (ctX6_search (g_R m14 l0 5) (g_R m14 l0 3) (g_R m14 l0 9) l1 l2 l3 _) (fun r22 m23 hl24 hm25 => ?_)
  refine s_aload_n hF dX11_best_36 rfl 0 rfl ?_
  refine sim_gd (fun g29 => ?_)
  refine s_getR (x := (g_R m23 l0 5)) hF dX11_best_37 flX11_47 (isK.mo (isK.mo (isK.mo (isK.mo f0 hm4) hm10) hm16) hm25) g29 rfl ?_
  refine sim_gd (fun g30 => ?_)
  refine s_getIq (x := (g_I m23 (g_R m23 l0 5) 1)) hF dX11_best_40 fqX11_297 g30 rfl ?_
  refine s_if_ne (tgt := 48) hF dX11_best_43 rfl (fun c31 => ?_) (fun c31 => ?_)
  · refine s_iconst (v := (-1 : Int32)) hF dX11_best_46 kI_m1 ?_
    exact s_iretX hF hD dX11_best_47 rfl
  · refine s_iload hF dX11_best_48 4 rfl ?_
    refine s_if_ne (tgt := 63) hF dX11_best_50 rfl (fun c32 => ?_) (fun c32 => ?_)
    · refine s_aload_n hF dX11_best_53 rfl 0 rfl ?_
      refine s_getR (x := (g_R m23 l0 5)) hF dX11_best_54 flX11_47 (isK.mo (isK.mo (isK.mo (isK.mo f0 hm4) hm10) hm16) hm25) g29 rfl ?_
      refine s_getIq (x := (g_I m23 (g_R m23 l0 5) 2)) hF dX11_best_57 fqX11_298 g30 rfl ?_
      refine s_goto (tgt := 70) hF dX11_best_60 rfl ?_
      exact s_iretX hF hD dX11_best_70 rfl
    · refine s_aload_n hF dX11_best_63 rfl 0 rfl ?_
      refine s_getR (x := (g_R m23 l0 5)) hF dX11_best_64 flX11_47 (isK.mo (isK.mo (isK.mo (isK.mo f0 hm4) hm10) hm16) hm25) g29 rfl ?_
      refine s_getIq (x := (g_I m23 (g_R m23 l0 5) 1)) hF dX11_best_67 fqX11_297 g30 rfl ?_
      exact s_iretX hF hD dX11_best_70 rfl
theorem sX11_hop_19 {F : Option Fx} (hF : FxO F RX11 cX11_hop 5 16) (hD : FxXO F (some .int)) (l0 : Nat) (l1 : Int32) (l2 : Int32) (l3 : Int32) (l4 : Int32) (μ : Mem) (f0 : isK μ l0 11 = true) : Sim F (encX encI) 19 [(0, .ref l0), (1, .int l1), (2, .int l2), (3, .int l3), (4, .int l4)] [] μ (mX11_hop_19 l0 l1 l2 l3 l4 μ) := by
  unfold mX11_hop_19
  refine s_aload_n hF dX11_hop_19 rfl 0 rfl ?_
  refine sim_gd (fun g20 => ?_)
  refine s_getR (x := (g_R μ l0 5)) hF dX11_hop_20 flX11_47 f0 g20 rfl ?_
  refine s_aload_n hF dX11_hop_23 rfl 0 rfl ?_
  refine sim_gd (fun g21 => ?_)
  refine s_getR (x := (g_R μ l0 3)) hF dX11_hop_24 flX11_33 f0 g21 rfl ?_
  refine s_aload_n hF dX11_hop_27 rfl 0 rfl ?_
  refine sim_gd (fun g22 => ?_)
  refine s_getR (x := (g_R μ l0 9)) hF dX11_hop_28 flX11_68 f0 g22 rfl ?_
  refine s_iload_n hF dX11_hop_31 rfl 1 rfl ?_
  refine s_iload_n hF dX11_hop_32 rfl 2 rfl ?_
  refine s_iload_n hF dX11_hop_33 rfl 3 rfl ?_
  refine sim_gd (fun g29 => ?_)
  refine s_xVv (st := []) (ci := 6) [.ref (g_R μ l0 3), .ref (g_R μ l0 9), .int l1, .int l2, .int l3] hF hD dX11_hop_34 cwX11_293 (Nat.le_of_ble_eq_true rfl) (Nat.le_of_ble_eq_true rfl) rfl rfl (Nat.le_of_ble_eq_true rfl) g29 rfl rfl (Nat.le_of_ble_eq_true rfl) (ctX6_search (g_R μ l0 5) (g_R μ l0 3) (g_R μ l0 9) l1 l2 l3 _) (fun r23 m24 hl25 hm26 => ?_)
  refine s_iload hF dX11_hop_37 4 rfl ?_
  refine s_aload_n hF dX11_hop_39 rfl 0 rfl ?_
  refine sim_gd (fun g30 => ?_)
  refine s_getR (x := (g_R m24 l0 5)) hF dX11_hop_40 flX11_47 (isK.mo f0 hm26) g30 rfl ?_
  refine sim_gd (fun g31 => ?_)
  refine s_getIq (x := (g_I m24 (g_R m24 l0 5) 1)) hF dX11_hop_43 fqX11_297 g31 rfl ?_
  refine s_icmp_ge (tgt := 62) hF dX11_hop_46 rfl (fun c32 => ?_) (fun c32 => ?_)
  · refine s_iconst (v := (-1 : Int32)) hF dX11_hop_62 kI_m1 ?_
    exact s_iretX hF hD dX11_hop_63 rfl
  · refine s_aload_n hF dX11_hop_49 rfl 0 rfl ?_
    refine s_getR (x := (g_R m24 l0 5)) hF dX11_hop_50 flX11_47 (isK.mo f0 hm26) g30 rfl ?_
    refine sim_gd (fun g33 => ?_)
    refine s_getRq (x := (g_R m24 (g_R m24 l0 5) 0)) hF dX11_hop_53 fqX11_304 g31 g33 rfl ?_
    refine s_iload hF dX11_hop_56 4 rfl ?_
    refine sim_gd (fun g34 => ?_)
    refine s_iaload (x := (g_I m24 (g_R m24 (g_R m24 l0 5) 0) l4.toNatClampNeg)) hF dX11_hop_58 g34 rfl ?_
    refine s_goto (tgt := 63) hF dX11_hop_59 rfl ?_
    exact s_iretX hF hD dX11_hop_63 rfl
theorem ctX11_hop  (l0 : Nat) (l1 : Int32) (l2 : Int32) (l3 : Int32) (l4 : Int32) (μ : Mem) : ∀ (r : (Nat ⊕ Int32)) (μ' : Mem), LX11_hop l0 l1 l2 l3 l4 μ = some (r, μ') → CtX yX11_hop cX11_hop 5 (some .int) 16 [.ref l0, .int l1, .int l2, .int l3, .int l4] μ ((encX encI) r) μ' := by
  refine ct_enterX plX11 (Nat.le_of_ble_eq_true rfl) (fun F hF hD hI => ?_)
  unfold LX11_hop
  refine sim_gd (fun f0 => ?_)
  refine s_aload_n hF dX11_hop_0 rfl 0 rfl ?_
  refine s_iload_n hF dX11_hop_1 rfl 1 rfl ?_
  refine s_tVv (st := []) (ci := 11) [.int l1] hF hD dX11_hop_2 cwX11_215 (Nat.le_of_ble_eq_true rfl) (Nat.le_of_ble_eq_true rfl) rfl rfl (Nat.le_of_ble_eq_true rfl) f0 rfl rfl (Nat.le_of_ble_eq_true rfl) (ctX11_needPen l0 l1 _) (fun r1 m2 hl3 hm4 => ?_)
  refine s_aload_n hF dX11_hop_5 rfl 0 rfl ?_
  refine s_iload_n hF dX11_hop_6 rfl 2 rfl ?_
  refine s_tVv (st := []) (ci := 11) [.int l2] hF hD dX11_hop_7 cwX11_215 (Nat.le_of_ble_eq_true rfl) (Nat.le_of_ble_eq_true rfl) rfl rfl (Nat.le_of_ble_eq_true rfl) (isK.mo f0 hm4) rfl rfl (Nat.le_of_ble_eq_true rfl) (ctX11_needPen l0 l2 _) (fun r7 m8 hl9 hm10 => ?_)
  refine s_iload hF dX11_hop_10 4 rfl ?_
  refine s_if_ge (tgt := 19) hF dX11_hop_12 rfl (fun c13 => ?_) (fun c13 => ?_)
  · exact sX11_hop_19 hF hD l0 l1 l2 l3 l4 _ (isK.mo (isK.mo f0 hm4) hm10)
  · refine s_aload_n hF dX11_hop_15 rfl 0 rfl ?_
    refine s_tVv (st := []) (ci := 11) [] hF hD dX11_hop_16 cwX11_301 (Nat.le_of_ble_eq_true rfl) (Nat.le_of_ble_eq_true rfl) rfl rfl (Nat.le_of_ble_eq_true rfl) (isK.mo (isK.mo f0 hm4) hm10) rfl rfl (Nat.le_of_ble_eq_true rfl) (ctX11_refuseArgument l0 _) (fun r14 m15 hl16 hm17 => ?_)
    exact sX11_hop_19 hF hD l0 l1 l2 l3 l4 _ (isK.mo (isK.mo (isK.mo f0 hm4) hm10) hm17)
theorem sX11_tuning_57 {F : Option Fx} (q27 : Nat → Int32 → Int32 → Int32 → Mem → Option ((Nat ⊕ Int32) × Mem)) (hF : FxO F RX11 cX11_tuning 7 10) (hD : FxXO F (some .int)) (hq27 : ∀ (l0 : Nat) (l2 : Int32) (l3 : Int32) (l4 : Int32) (μ : Mem) (_ : isK μ l0 11 = true), Sim F (encX encI) 27 [(0, .ref l0), (2, .int l2), (3, .int l3), (4, .int l4)] [] μ (q27 l0 l2 l3 l4 μ)) : ∀ (fu : Nat) (l0 : Nat) (l2 : Int32) (l3 : Int32) (l4 : Int32) (l5 : Int32) (l6 : Int32) (μ : Mem) (f0 : isK μ l0 11 = true), Sim F (encX encI) 57 [(0, .ref l0), (2, .int l2), (3, .int l3), (4, .int l4), (5, .int l5), (6, .int l6)] [] μ (mX11_tuning_57 q27 fu l0 l2 l3 l4 l5 l6 μ) := by
  intro fu
  induction fu with
  | zero =>
    intro l0 l2 l3 l4 l5 l6 μ f0
    exact sim_none
  | succ fu ih =>
    intro l0 l2 l3 l4 l5 l6 μ f0
    rw [mX11_tuning_57]
    refine s_iload hF dX11_tuning_57 5 rfl ?_
    refine s_iload hF dX11_tuning_59 4 rfl ?_
    refine s_icmp_gt (tgt := 115) hF dX11_tuning_61 rfl (fun c16 => ?_) (fun c16 => ?_)
    · refine s_iinc (v := (l4 + (1 : Int32))) (pls' := [(4, .int (l4 + (1 : Int32))), (0, .ref l0), (2, .int l2), (3, .int l3), (5, .int l5), (6, .int l6)]) hF dX11_tuning_115 3 rfl rfl (by decide) rfl ?_
      refine s_goto (tgt := 27) hF dX11_tuning_118 rfl ?_
      refine s_sub [1, 2, 3, 0] rfl ?_
      exact hq27 l0 l2 l3 (l4 + (1 : Int32)) _ f0
    · refine s_aload_n hF dX11_tuning_64 rfl 0 rfl ?_
      refine sim_gd (fun g17 => ?_)
      refine s_getR (x := (g_R μ l0 6)) hF dX11_tuning_65 flX11_54 f0 g17 rfl ?_
      refine s_iload hF dX11_tuning_68 5 rfl ?_
      refine sim_gd (fun g18 => ?_)
      refine s_putIq hF dX11_tuning_70 fqX11_224 g18 ?_
      refine s_aload_n hF dX11_tuning_73 rfl 0 rfl ?_
      refine s_getR (x := (g_R μ l0 6)) hF dX11_tuning_74 flX11_54 f0 g17 rfl ?_
      refine s_iload hF dX11_tuning_77 3 rfl ?_
      refine s_iload hF dX11_tuning_79 5 rfl ?_
      refine s_isub hF dX11_tuning_81 ?_
      refine s_putIq hF dX11_tuning_82 fqX11_227 g18 ?_
      refine s_aload_n hF dX11_tuning_85 rfl 0 rfl ?_
      refine s_getR (x := (g_R μ l0 6)) hF dX11_tuning_86 flX11_54 f0 g17 rfl ?_
      refine s_iload_n hF dX11_tuning_89 rfl 1 rfl ?_
      refine s_xVi (st := []) (ci := 5) [.int l2] hF hD dX11_tuning_90 cwX11_262 (Nat.le_of_ble_eq_true rfl) (Nat.le_of_ble_eq_true rfl) rfl rfl (Nat.le_of_ble_eq_true rfl) g18 rfl rfl (Nat.le_of_ble_eq_true rfl) (ctX5_outOf (g_R μ l0 6) l2 _) (fun r19 m20 hl21 hm22 => ?_)
      refine s_iload_n hF dX11_tuning_93 rfl 2 rfl ?_
      refine s_icmp_ne (tgt := 109) hF dX11_tuning_94 rfl (fun c25 => ?_) (fun c25 => ?_)
      · refine s_bipush (v := (100 : Int32)) hF dX11_tuning_97 kB_100 ?_
        refine s_iload hF dX11_tuning_99 5 rfl ?_
        refine s_imul hF dX11_tuning_101 ?_
        refine s_iload hF dX11_tuning_102 3 rfl ?_
        refine s_iadd hF dX11_tuning_104 ?_
        refine s_iload hF dX11_tuning_105 5 rfl ?_
        refine s_isub hF dX11_tuning_107 ?_
        exact s_iretX hF hD dX11_tuning_108 rfl
      · refine s_iinc (v := (l6 + (1 : Int32))) (pls' := [(6, .int (l6 + (1 : Int32))), (0, .ref l0), (2, .int l2), (3, .int l3), (4, .int l4), (5, .int l5)]) hF dX11_tuning_109 5 rfl rfl (by decide) rfl ?_
        refine s_goto (tgt := 57) hF dX11_tuning_112 rfl ?_
        refine s_sub [1, 2, 3, 4, 5, 0] rfl ?_
        exact ih l0 l2 l3 l4 l5 (l6 + (1 : Int32)) _ (isK.mo f0 hm22)
theorem sX11_tuning_27 {F : Option Fx} (hF : FxO F RX11 cX11_tuning 7 10) (hD : FxXO F (some .int)) : ∀ (fu : Nat) (l0 : Nat) (l2 : Int32) (l3 : Int32) (l4 : Int32) (μ : Mem) (f0 : isK μ l0 11 = true), Sim F (encX encI) 27 [(0, .ref l0), (2, .int l2), (3, .int l3), (4, .int l4)] [] μ (mX11_tuning_27 fu l0 l2 l3 l4 μ) := by
  intro fu
  induction fu with
  | zero =>
    intro l0 l2 l3 l4 μ f0
    exact sim_none
  | succ fu ih =>
    intro l0 l2 l3 l4 μ f0
    rw [mX11_tuning_27]
    refine s_iload hF dX11_tuning_27 3 rfl ?_
    refine s_sipush (v := (198 : Int32)) hF dX11_tuning_29 kS_198 ?_
    refine s_icmp_gt (tgt := 121) hF dX11_tuning_32 rfl (fun c15 => ?_) (fun c15 => ?_)
    · refine s_iconst (v := (-1 : Int32)) hF dX11_tuning_121 kI_m1 ?_
      exact s_iretX hF hD dX11_tuning_122 rfl
    · refine s_iload hF dX11_tuning_35 3 rfl ?_
      refine s_iconst (v := (1 : Int32)) hF dX11_tuning_37 kI_1 ?_
      refine s_isub hF dX11_tuning_38 ?_
      refine s_bipush (v := (99 : Int32)) hF dX11_tuning_39 kB_99 ?_
      refine s_min hF dX11_tuning_41 mlX11_307 mt_smin mt_i mt_cmin (Nat.le_of_ble_eq_true rfl) (Nat.le_of_ble_eq_true rfl) ?_
      refine s_istore (pls' := [(5, .int (if (99 : Int32) < (l4 - (1 : Int32)) then (99 : Int32) else (l4 - (1 : Int32)))), (0, .ref l0), (2, .int l2), (3, .int l3), (4, .int l4)]) hF dX11_tuning_44 (by decide) rfl ?_
      refine s_iconst (v := (1 : Int32)) hF dX11_tuning_46 kI_1 ?_
      refine s_iload hF dX11_tuning_47 4 rfl ?_
      refine s_bipush (v := (99 : Int32)) hF dX11_tuning_49 kB_99 ?_
      refine s_isub hF dX11_tuning_51 ?_
      refine s_max hF dX11_tuning_52 mlX11_312 mt_smax mt_i mt_cmax (Nat.le_of_ble_eq_true rfl) (Nat.le_of_ble_eq_true rfl) ?_
      refine s_istore (pls' := [(6, .int (if (1 : Int32) < (l4 - (99 : Int32)) then (l4 - (99 : Int32)) else (1 : Int32))), (5, .int (if (99 : Int32) < (l4 - (1 : Int32)) then (99 : Int32) else (l4 - (1 : Int32)))), (0, .ref l0), (2, .int l2), (3, .int l3), (4, .int l4)]) hF dX11_tuning_55 (by decide) rfl ?_
      refine s_sub [2, 3, 4, 5, 1, 0] rfl ?_
      exact sX11_tuning_57 (fun l0 l2 l3 l4 μ => mX11_tuning_27 fu l0 l2 l3 l4 μ) hF hD ih 100000 l0 l2 l3 l4 (if (99 : Int32) < (l4 - (1 : Int32)) then (99 : Int32) else (l4 - (1 : Int32))) (if (1 : Int32) < (l4 - (99 : Int32)) then (l4 - (99 : Int32)) else (1 : Int32)) _ f0
theorem ctX11_tuning  (l0 : Nat) (l1 : Int32) (l2 : Int32) (l3 : Int32) (μ : Mem) : ∀ (r : (Nat ⊕ Int32)) (μ' : Mem), LX11_tuning l0 l1 l2 l3 μ = some (r, μ') → CtX yX11_tuning cX11_tuning 7 (some .int) 10 [.ref l0, .int l1, .int l2, .int l3] μ ((encX encI) r) μ' := by
  refine ct_enterX plX11 (Nat.le_of_ble_eq_true rfl) (fun F hF hD hI => ?_)
  unfold LX11_tuning
  refine sim_gd (fun f0 => ?_)
  refine s_aload_n hF dX11_tuning_0 rfl 0 rfl ?_
  refine s_iload_n hF dX11_tuning_1 rfl 1 rfl ?_
  refine s_tVv (st := []) (ci := 11) [.int l1] hF hD dX11_tuning_2 cwX11_215 (Nat.le_of_ble_eq_true rfl) (Nat.le_of_ble_eq_true rfl) rfl rfl (Nat.le_of_ble_eq_true rfl) f0 rfl rfl (Nat.le_of_ble_eq_true rfl) (ctX11_needPen l0 l1 _) (fun r1 m2 hl3 hm4 => ?_)
  refine s_aload_n hF dX11_tuning_5 rfl 0 rfl ?_
  refine sim_gd (fun g7 => ?_)
  refine s_getR (x := (g_R m2 l0 6)) hF dX11_tuning_6 flX11_54 (isK.mo f0 hm4) g7 rfl ?_
  refine s_aload_n hF dX11_tuning_9 rfl 0 rfl ?_
  refine sim_gd (fun g8 => ?_)
  refine s_getR (x := (g_R m2 l0 3)) hF dX11_tuning_10 flX11_33 (isK.mo f0 hm4) g8 rfl ?_
  refine sim_gd (fun g9 => ?_)
  refine sim_gd (fun g10 => ?_)
  refine s_getRq (x := (g_R m2 (g_R m2 l0 3) 0)) hF dX11_tuning_13 fqX11_218 g9 g10 rfl ?_
  refine s_iload_n hF dX11_tuning_16 rfl 1 rfl ?_
  refine sim_gd (fun g11 => ?_)
  refine sim_gd (fun g12 => ?_)
  refine s_aaload (x := (g_R m2 (g_R m2 (g_R m2 l0 3) 0) l1.toNatClampNeg)) hF dX11_tuning_17 (by decide) (by decide) g11 g12 rfl ?_
  refine sim_gd (fun g13 => ?_)
  refine s_getIq (x := (g_I m2 (g_R m2 (g_R m2 (g_R m2 l0 3) 0) l1.toNatClampNeg) 0)) hF dX11_tuning_18 fqX11_221 g13 rfl ?_
  refine sim_gd (fun g14 => ?_)
  refine s_putIq hF dX11_tuning_21 fqX11_221 g14 ?_
  refine s_iconst (v := (2 : Int32)) hF dX11_tuning_24 kI_2 ?_
  refine s_istore (pls' := [(4, .int (2 : Int32)), (0, .ref l0), (1, .int l1), (2, .int l2), (3, .int l3)]) hF dX11_tuning_25 (by decide) rfl ?_
  refine s_sub [1, 3, 4, 0] rfl ?_
  exact sX11_tuning_27 hF hD 100000 l0 l2 l3 (2 : Int32) _ (isK.mo f0 hm4)
theorem sX11_fillRing_9 {F : Option Fx} (hF : FxO F RX11 cX11_fillRing 4 2) (hD : FxXO F none) : ∀ (fu : Nat) (l0 : Nat) (l1 : Nat) (l3 : Int32) (μ : Mem) (f0 : isK μ l0 11 = true) (f1 : isK μ l1 5 = true), Sim F encV 9 [(0, .ref l0), (1, .ref l1), (3, .int l3)] [] μ (mX11_fillRing_9 fu l0 l1 l3 μ) := by
  intro fu
  induction fu with
  | zero =>
    intro l0 l1 l3 μ f0 f1
    exact sim_none
  | succ fu ih =>
    intro l0 l1 l3 μ f0 f1
    rw [mX11_fillRing_9]
    refine s_iload_n hF dX11_fillRing_9 rfl 2 rfl ?_
    refine s_sipush (v := (1000 : Int32)) hF dX11_fillRing_10 kS_1000 ?_
    refine s_icmp_gt (tgt := 40) hF dX11_fillRing_13 rfl (fun c3 => ?_) (fun c3 => ?_)
    · exact s_vretX hF hD dX11_fillRing_40 rfl
    · refine s_aload_n hF dX11_fillRing_16 rfl 0 rfl ?_
      refine sim_gd (fun g4 => ?_)
      refine s_getR (x := (g_R μ l0 7)) hF dX11_fillRing_17 flX11_58 f0 g4 rfl ?_
      refine s_iload_n hF dX11_fillRing_20 rfl 2 rfl ?_
      refine s_aload_n hF dX11_fillRing_21 rfl 1 rfl ?_
      refine s_aload_n hF dX11_fillRing_22 rfl 0 rfl ?_
      refine s_getR (x := (g_R μ l0 7)) hF dX11_fillRing_23 flX11_58 f0 g4 rfl ?_
      refine s_iload_n hF dX11_fillRing_26 rfl 2 rfl ?_
      refine s_iconst (v := (1 : Int32)) hF dX11_fillRing_27 kI_1 ?_
      refine s_isub hF dX11_fillRing_28 ?_
      refine sim_gd (fun g5 => ?_)
      refine s_iaload (x := (g_I μ (g_R μ l0 7) (l3 - (1 : Int32)).toNatClampNeg)) hF dX11_fillRing_29 g5 rfl ?_
      refine s_xVi (st := [.int l3, .ref (g_R μ l0 7)]) (ci := 5) [.int (g_I μ (g_R μ l0 7) (l3 - (1 : Int32)).toNatClampNeg)] hF hD dX11_fillRing_30 cwX11_262 (Nat.le_of_ble_eq_true rfl) (Nat.le_of_ble_eq_true rfl) rfl rfl (Nat.le_of_ble_eq_true rfl) f1 rfl rfl (Nat.le_of_ble_eq_true rfl) (ctX5_outOf l1 (g_I μ (g_R μ l0 7) (l3 - (1 : Int32)).toNatClampNeg) _) (fun r6 m7 hl8 hm9 => ?_)
      refine sim_gd (fun g12 => ?_)
      refine s_iastore hF dX11_fillRing_33 g12 ?_
      refine s_iinc (v := (l3 + (1 : Int32))) (pls' := [(3, .int (l3 + (1 : Int32))), (0, .ref l0), (1, .ref l1)]) hF dX11_fillRing_34 2 rfl rfl (by decide) rfl ?_
      refine s_goto (tgt := 9) hF dX11_fillRing_37 rfl ?_
      refine s_sub [1, 2, 0] rfl ?_
      exact ih l0 l1 (l3 + (1 : Int32)) _ (isK.mo f0 hm9) (isK.mo f1 hm9)
theorem ctX11_fillRing  (l0 : Nat) (l1 : Nat) (l2 : Int32) (μ : Mem) : ∀ (r : Unit) (μ' : Mem), LX11_fillRing l0 l1 l2 μ = some (r, μ') → CtX yX11_fillRing cX11_fillRing 4 none 2 [.ref l0, .ref l1, .int l2] μ (encV r) μ' := by
  refine ct_enterX plX11 (Nat.le_of_ble_eq_true rfl) (fun F hF hD hI => ?_)
  unfold LX11_fillRing
  refine sim_gd (fun f0 => ?_)
  refine sim_gd (fun f1 => ?_)
  refine s_aload_n hF dX11_fillRing_0 rfl 0 rfl ?_
  refine sim_gd (fun g1 => ?_)
  refine s_getR (x := (g_R μ l0 7)) hF dX11_fillRing_1 flX11_58 f0 g1 rfl ?_
  refine s_iconst (v := (0 : Int32)) hF dX11_fillRing_4 kI_0 ?_
  refine s_iload_n hF dX11_fillRing_5 rfl 2 rfl ?_
  refine sim_gd (fun g2 => ?_)
  refine s_iastore hF dX11_fillRing_6 g2 ?_
  refine s_iconst (v := (1 : Int32)) hF dX11_fillRing_7 kI_1 ?_
  refine s_istore_n (pls' := [(3, .int (1 : Int32)), (0, .ref l0), (1, .ref l1), (2, .int l2)]) hF dX11_fillRing_8 rfl (by decide) rfl ?_
  refine s_sub [1, 2, 0] rfl ?_
  exact sX11_fillRing_9 hF hD 100000 l0 l1 (1 : Int32) _ f0 f1
theorem sX11_ringLength_4 {F : Option Fx} (hF : FxO F RX11 cX11_ringLength 2 0) (hD : FxXO F (some .int)) : ∀ (fu : Nat) (l0 : Nat) (l1 : Int32) (μ : Mem) (f0 : isK μ l0 11 = true), Sim F encI 4 [(0, .ref l0), (1, .int l1)] [] μ (mX11_ringLength_4 fu l0 l1 μ) := by
  intro fu
  induction fu with
  | zero =>
    intro l0 l1 μ f0
    exact sim_none
  | succ fu ih =>
    intro l0 l1 μ f0
    rw [mX11_ringLength_4]
    refine s_iload_n hF dX11_ringLength_4 rfl 1 rfl ?_
    refine s_if_lt (tgt := 37) hF dX11_ringLength_5 rfl (fun c1 => ?_) (fun c1 => ?_)
    · refine s_iconst (v := (-1 : Int32)) hF dX11_ringLength_37 kI_m1 ?_
      exact s_iretX hF hD dX11_ringLength_38 rfl
    · refine s_aload_n hF dX11_ringLength_8 rfl 0 rfl ?_
      refine sim_gd (fun g2 => ?_)
      refine s_getR (x := (g_R μ l0 7)) hF dX11_ringLength_9 flX11_58 f0 g2 rfl ?_
      refine s_iload_n hF dX11_ringLength_12 rfl 1 rfl ?_
      refine sim_gd (fun g3 => ?_)
      refine s_iaload (x := (g_I μ (g_R μ l0 7) l1.toNatClampNeg)) hF dX11_ringLength_13 g3 rfl ?_
      refine s_aload_n hF dX11_ringLength_14 rfl 0 rfl ?_
      refine s_getR (x := (g_R μ l0 7)) hF dX11_ringLength_15 flX11_58 f0 g2 rfl ?_
      refine s_sipush (v := (1000 : Int32)) hF dX11_ringLength_18 kS_1000 ?_
      refine sim_gd (fun g4 => ?_)
      refine s_iaload (x := (g_I μ (g_R μ l0 7) (1000 : Int32).toNatClampNeg)) hF dX11_ringLength_21 g4 rfl ?_
      refine s_icmp_ne (tgt := 31) hF dX11_ringLength_22 rfl (fun c5 => ?_) (fun c5 => ?_)
      · refine s_sipush (v := (1000 : Int32)) hF dX11_ringLength_25 kS_1000 ?_
        refine s_iload_n hF dX11_ringLength_28 rfl 1 rfl ?_
        refine s_isub hF dX11_ringLength_29 ?_
        exact s_iretX hF hD dX11_ringLength_30 rfl
      · refine s_iinc (v := (l1 + (-1 : Int32))) (pls' := [(1, .int (l1 + (-1 : Int32))), (0, .ref l0)]) hF dX11_ringLength_31 1 rfl rfl (by decide) rfl ?_
        refine s_goto (tgt := 4) hF dX11_ringLength_34 rfl ?_
        refine s_sub [1, 0] rfl ?_
        exact ih l0 (l1 + (-1 : Int32)) _ f0
theorem ctX11_ringLength  (l0 : Nat) (μ : Mem) : ∀ (r : Int32) (μ' : Mem), LX11_ringLength l0 μ = some (r, μ') → CtX yX11_ringLength cX11_ringLength 2 (some .int) 0 [.ref l0] μ (encI r) μ' := by
  refine ct_enterX plX11 (Nat.le_of_ble_eq_true rfl) (fun F hF hD hI => ?_)
  unfold LX11_ringLength
  refine sim_gd (fun f0 => ?_)
  refine s_sipush (v := (999 : Int32)) hF dX11_ringLength_0 kS_999 ?_
  refine s_istore_n (pls' := [(1, .int (999 : Int32)), (0, .ref l0)]) hF dX11_ringLength_3 rfl (by decide) rfl ?_
  refine s_sub [1, 0] rfl ?_
  exact sX11_ringLength_4 hF hD 100000 l0 (999 : Int32) _ f0
theorem sX11_ringStart_2 {F : Option Fx} (hF : FxO F RX11 cX11_ringStart 3 0) (hD : FxXO F (some .int)) : ∀ (fu : Nat) (l0 : Nat) (l1 : Int32) (l2 : Int32) (μ : Mem) (f0 : isK μ l0 11 = true), Sim F encI 2 [(0, .ref l0), (1, .int l1), (2, .int l2)] [] μ (mX11_ringStart_2 fu l0 l1 l2 μ) := by
  intro fu
  induction fu with
  | zero =>
    intro l0 l1 l2 μ f0
    exact sim_none
  | succ fu ih =>
    intro l0 l1 l2 μ f0
    rw [mX11_ringStart_2]
    refine s_iload_n hF dX11_ringStart_2 rfl 2 rfl ?_
    refine s_iload_n hF dX11_ringStart_3 rfl 1 rfl ?_
    refine s_iadd hF dX11_ringStart_4 ?_
    refine s_sipush (v := (1000 : Int32)) hF dX11_ringStart_5 kS_1000 ?_
    refine s_icmp_ge (tgt := 36) hF dX11_ringStart_8 rfl (fun c1 => ?_) (fun c1 => ?_)
    · refine s_sipush (v := (1000 : Int32)) hF dX11_ringStart_36 kS_1000 ?_
      refine s_iload_n hF dX11_ringStart_39 rfl 1 rfl ?_
      refine s_isub hF dX11_ringStart_40 ?_
      exact s_iretX hF hD dX11_ringStart_41 rfl
    · refine s_aload_n hF dX11_ringStart_11 rfl 0 rfl ?_
      refine sim_gd (fun g2 => ?_)
      refine s_getR (x := (g_R μ l0 7)) hF dX11_ringStart_12 flX11_58 f0 g2 rfl ?_
      refine s_iload_n hF dX11_ringStart_15 rfl 2 rfl ?_
      refine sim_gd (fun g3 => ?_)
      refine s_iaload (x := (g_I μ (g_R μ l0 7) l2.toNatClampNeg)) hF dX11_ringStart_16 g3 rfl ?_
      refine s_aload_n hF dX11_ringStart_17 rfl 0 rfl ?_
      refine s_getR (x := (g_R μ l0 7)) hF dX11_ringStart_18 flX11_58 f0 g2 rfl ?_
      refine s_iload_n hF dX11_ringStart_21 rfl 2 rfl ?_
      refine s_iload_n hF dX11_ringStart_22 rfl 1 rfl ?_
      refine s_iadd hF dX11_ringStart_23 ?_
      refine sim_gd (fun g4 => ?_)
      refine s_iaload (x := (g_I μ (g_R μ l0 7) (l2 + l1).toNatClampNeg)) hF dX11_ringStart_24 g4 rfl ?_
      refine s_icmp_ne (tgt := 30) hF dX11_ringStart_25 rfl (fun c5 => ?_) (fun c5 => ?_)
      · refine s_iload_n hF dX11_ringStart_28 rfl 2 rfl ?_
        exact s_iretX hF hD dX11_ringStart_29 rfl
      · refine s_iinc (v := (l2 + (1 : Int32))) (pls' := [(2, .int (l2 + (1 : Int32))), (0, .ref l0), (1, .int l1)]) hF dX11_ringStart_30 2 rfl rfl (by decide) rfl ?_
        refine s_goto (tgt := 2) hF dX11_ringStart_33 rfl ?_
        refine s_sub [1, 2, 0] rfl ?_
        exact ih l0 l1 (l2 + (1 : Int32)) _ f0
theorem ctX11_ringStart  (l0 : Nat) (l1 : Int32) (μ : Mem) : ∀ (r : Int32) (μ' : Mem), LX11_ringStart l0 l1 μ = some (r, μ') → CtX yX11_ringStart cX11_ringStart 3 (some .int) 0 [.ref l0, .int l1] μ (encI r) μ' := by
  refine ct_enterX plX11 (Nat.le_of_ble_eq_true rfl) (fun F hF hD hI => ?_)
  unfold LX11_ringStart
  refine sim_gd (fun f0 => ?_)
  refine s_iconst (v := (0 : Int32)) hF dX11_ringStart_0 kI_0 ?_
  refine s_istore_n (pls' := [(2, .int (0 : Int32)), (0, .ref l0), (1, .int l1)]) hF dX11_ringStart_1 rfl (by decide) rfl ?_
  refine s_sub [1, 2, 0] rfl ?_
  exact sX11_ringStart_2 hF hD 100000 l0 l1 (0 : Int32) _ f0
theorem ctX11_ring  (l0 : Nat) (l1 : Int32) (l2 : Int32) (l3 : Int32) (μ : Mem) : ∀ (r : (Nat ⊕ Int32)) (μ' : Mem), LX11_ring l0 l1 l2 l3 μ = some (r, μ') → CtX yX11_ring cX11_ring 5 (some .int) 10 [.ref l0, .int l1, .int l2, .int l3] μ ((encX encI) r) μ' := by
  refine ct_enterX plX11 (Nat.le_of_ble_eq_true rfl) (fun F hF hD hI => ?_)
  unfold LX11_ring
  refine sim_gd (fun f0 => ?_)
  refine s_aload_n hF dX11_ring_0 rfl 0 rfl ?_
  refine s_iload_n hF dX11_ring_1 rfl 1 rfl ?_
  refine s_tVv (st := []) (ci := 11) [.int l1] hF hD dX11_ring_2 cwX11_215 (Nat.le_of_ble_eq_true rfl) (Nat.le_of_ble_eq_true rfl) rfl rfl (Nat.le_of_ble_eq_true rfl) f0 rfl rfl (Nat.le_of_ble_eq_true rfl) (ctX11_needPen l0 l1 _) (fun r1 m2 hl3 hm4 => ?_)
  refine s_aload_n hF dX11_ring_5 rfl 0 rfl ?_
  refine s_iload_n hF dX11_ring_6 rfl 3 rfl ?_
  refine s_iconst (v := (0 : Int32)) hF dX11_ring_7 kI_0 ?_
  refine s_iconst (v := (1 : Int32)) hF dX11_ring_8 kI_1 ?_
  refine s_tVv (st := []) (ci := 11) [.int l3, .int (0 : Int32), .int (1 : Int32)] hF hD dX11_ring_9 cwX11_189 (Nat.le_of_ble_eq_true rfl) (Nat.le_of_ble_eq_true rfl) rfl rfl (Nat.le_of_ble_eq_true rfl) (isK.mo f0 hm4) rfl rfl (Nat.le_of_ble_eq_true rfl) (ctX11_needWithin l0 l3 (0 : Int32) (1 : Int32) _) (fun r7 m8 hl9 hm10 => ?_)
  refine s_aload_n hF dX11_ring_12 rfl 0 rfl ?_
  refine sim_gd (fun g13 => ?_)
  refine s_getR (x := (g_R m8 l0 3)) hF dX11_ring_13 flX11_33 (isK.mo (isK.mo f0 hm4) hm10) g13 rfl ?_
  refine sim_gd (fun g14 => ?_)
  refine sim_gd (fun g15 => ?_)
  refine s_getRq (x := (g_R m8 (g_R m8 l0 3) 0)) hF dX11_ring_16 fqX11_218 g14 g15 rfl ?_
  refine s_iload_n hF dX11_ring_19 rfl 1 rfl ?_
  refine sim_gd (fun g16 => ?_)
  refine sim_gd (fun g17 => ?_)
  refine s_aaload (x := (g_R m8 (g_R m8 (g_R m8 l0 3) 0) l1.toNatClampNeg)) hF dX11_ring_20 (by decide) (by decide) g16 g17 rfl ?_
  refine sim_gd (fun g24 => ?_)
  refine s_xVi (st := []) (ci := 5) [] hF hD dX11_ring_21 cwX11_256 (Nat.le_of_ble_eq_true rfl) (Nat.le_of_ble_eq_true rfl) rfl rfl (Nat.le_of_ble_eq_true rfl) g24 rfl rfl (Nat.le_of_ble_eq_true rfl) (ctX5_jams (g_R m8 (g_R m8 (g_R m8 l0 3) 0) l1.toNatClampNeg) _) (fun r18 m19 hl20 hm21 => ?_)
  refine s_if_eq (tgt := 29) hF dX11_ring_24 rfl (fun c25 => ?_) (fun c25 => ?_)
  · refine s_aload_n hF dX11_ring_29 rfl 0 rfl ?_
    refine s_aload_n hF dX11_ring_30 rfl 0 rfl ?_
    refine sim_gd (fun g26 => ?_)
    refine s_getR (x := (g_R m19 l0 3)) hF dX11_ring_31 flX11_33 (isK.mo (isK.mo (isK.mo f0 hm4) hm10) hm21) g26 rfl ?_
    refine sim_gd (fun g27 => ?_)
    refine sim_gd (fun g28 => ?_)
    refine s_getRq (x := (g_R m19 (g_R m19 l0 3) 0)) hF dX11_ring_34 fqX11_218 g27 g28 rfl ?_
    refine s_iload_n hF dX11_ring_37 rfl 1 rfl ?_
    refine sim_gd (fun g29 => ?_)
    refine sim_gd (fun g30 => ?_)
    refine s_aaload (x := (g_R m19 (g_R m19 (g_R m19 l0 3) 0) l1.toNatClampNeg)) hF dX11_ring_38 (by decide) (by decide) g29 g30 rfl ?_
    refine s_iload_n hF dX11_ring_39 rfl 2 rfl ?_
    refine s_xVv (st := []) (ci := 11) [.ref (g_R m19 (g_R m19 (g_R m19 l0 3) 0) l1.toNatClampNeg), .int l2] hF hD dX11_ring_40 cwX11_315 (Nat.le_of_ble_eq_true rfl) (Nat.le_of_ble_eq_true rfl) rfl rfl (Nat.le_of_ble_eq_true rfl) (isK.mo (isK.mo (isK.mo f0 hm4) hm10) hm21) rfl rfl (Nat.le_of_ble_eq_true rfl) (ctX11_fillRing l0 (g_R m19 (g_R m19 (g_R m19 l0 3) 0) l1.toNatClampNeg) l2 _) (fun r31 m32 hl33 hm34 => ?_)
    refine s_aload_n hF dX11_ring_43 rfl 0 rfl ?_
    refine s_xVi (st := []) (ci := 11) [] hF hD dX11_ring_44 cwX11_319 (Nat.le_of_ble_eq_true rfl) (Nat.le_of_ble_eq_true rfl) rfl rfl (Nat.le_of_ble_eq_true rfl) (isK.mo (isK.mo (isK.mo (isK.mo f0 hm4) hm10) hm21) hm34) rfl rfl (Nat.le_of_ble_eq_true rfl) (ctX11_ringLength l0 _) (fun r37 m38 hl39 hm40 => ?_)
    refine s_istore (pls' := [(4, .int r37), (0, .ref l0), (1, .int l1), (2, .int l2), (3, .int l3)]) hF dX11_ring_47 (by decide) rfl ?_
    refine s_iload hF dX11_ring_49 0 rfl ?_
    refine s_iconst (v := (-1 : Int32)) hF dX11_ring_51 kI_m1 ?_
    refine s_icmp_eq (tgt := 60) hF dX11_ring_52 rfl (fun c43 => ?_) (fun c43 => ?_)
    · refine s_iload hF dX11_ring_60 0 rfl ?_
      exact s_iretX hF hD dX11_ring_62 rfl
    · refine s_iload_n hF dX11_ring_55 rfl 4 rfl ?_
      refine s_iconst (v := (1 : Int32)) hF dX11_ring_56 kI_1 ?_
      refine s_icmp_ne (tgt := 63) hF dX11_ring_57 rfl (fun c44 => ?_) (fun c44 => ?_)
      · refine s_iload hF dX11_ring_60 0 rfl ?_
        exact s_iretX hF hD dX11_ring_62 rfl
      · refine s_aload_n hF dX11_ring_63 rfl 1 rfl ?_
        refine s_iload hF dX11_ring_64 0 rfl ?_
        refine s_xVi (st := []) (ci := 11) [.int r37] hF hD dX11_ring_66 cwX11_322 (Nat.le_of_ble_eq_true rfl) (Nat.le_of_ble_eq_true rfl) rfl rfl (Nat.le_of_ble_eq_true rfl) (isK.mo (isK.mo (isK.mo (isK.mo (isK.mo f0 hm4) hm10) hm21) hm34) hm40) rfl rfl (Nat.le_of_ble_eq_true rfl) (ctX11_ringStart l0 r37 _) (fun r45 m46 hl47 hm48 => ?_)
        refine s_iload hF dX11_ring_69 0 rfl ?_
        refine s_iadd hF dX11_ring_71 ?_
        exact s_iretX hF hD dX11_ring_72 rfl
  · refine s_iconst (v := (-1 : Int32)) hF dX11_ring_27 kI_m1 ?_
    exact s_iretX hF hD dX11_ring_28 rfl
theorem sX11_fitsBook_21 {F : Option Fx} (hF : FxO F RX11 cX11_fitsBook 3 2) (hD : FxXO F (some .boolean)) : ∀ (fu : Nat) (l0 : Nat) (l1 : Nat) (l2 : Int32) (μ : Mem) (f0 : isK μ l0 11 = true) (f1 : isK μ l1 5 = true), Sim F encI 21 [(0, .ref l0), (1, .ref l1), (2, .int l2)] [] μ (mX11_fitsBook_21 fu l0 l1 l2 μ) := by
  intro fu
  induction fu with
  | zero =>
    intro l0 l1 l2 μ f0 f1
    exact sim_none
  | succ fu ih =>
    intro l0 l1 l2 μ f0 f1
    rw [mX11_fitsBook_21]
    refine s_iload_n hF dX11_fitsBook_21 rfl 2 rfl ?_
    refine s_aload_n hF dX11_fitsBook_22 rfl 0 rfl ?_
    refine sim_gd (fun g11 => ?_)
    refine s_getR (x := (g_R μ l0 15)) hF dX11_fitsBook_23 flX11_98 f0 g11 rfl ?_
    refine sim_gd (fun g12 => ?_)
    refine s_getIq (x := (g_I μ (g_R μ l0 15) 2)) hF dX11_fitsBook_26 fqX11_180 g12 rfl ?_
    refine s_icmp_ge (tgt := 65) hF dX11_fitsBook_29 rfl (fun c13 => ?_) (fun c13 => ?_)
    · refine s_iconst (v := (1 : Int32)) hF dX11_fitsBook_65 kI_1 ?_
      exact s_zretX hF hD dX11_fitsBook_66 rfl rfl
    · refine s_aload_n hF dX11_fitsBook_32 rfl 1 rfl ?_
      refine s_aload_n hF dX11_fitsBook_33 rfl 0 rfl ?_
      refine s_getR (x := (g_R μ l0 15)) hF dX11_fitsBook_34 flX11_98 f0 g11 rfl ?_
      refine sim_gd (fun g14 => ?_)
      refine s_getRq (x := (g_R μ (g_R μ l0 15) 0)) hF dX11_fitsBook_37 fqX11_398 g12 g14 rfl ?_
      refine s_iload_n hF dX11_fitsBook_40 rfl 2 rfl ?_
      refine sim_gd (fun g15 => ?_)
      refine s_iaload (x := (g_I μ (g_R μ (g_R μ l0 15) 0) l2.toNatClampNeg)) hF dX11_fitsBook_41 g15 rfl ?_
      refine s_xVi (st := []) (ci := 5) [.int (g_I μ (g_R μ (g_R μ l0 15) 0) l2.toNatClampNeg)] hF hD dX11_fitsBook_42 cwX11_262 (Nat.le_of_ble_eq_true rfl) (Nat.le_of_ble_eq_true rfl) rfl rfl (Nat.le_of_ble_eq_true rfl) f1 rfl rfl (Nat.le_of_ble_eq_true rfl) (ctX5_outOf l1 (g_I μ (g_R μ (g_R μ l0 15) 0) l2.toNatClampNeg) _) (fun r16 m17 hl18 hm19 => ?_)
      refine s_aload_n hF dX11_fitsBook_45 rfl 0 rfl ?_
      refine sim_gd (fun g22 => ?_)
      refine s_getR (x := (g_R m17 l0 15)) hF dX11_fitsBook_46 flX11_98 (isK.mo f0 hm19) g22 rfl ?_
      refine sim_gd (fun g23 => ?_)
      refine sim_gd (fun g24 => ?_)
      refine s_getRq (x := (g_R m17 (g_R m17 l0 15) 1)) hF dX11_fitsBook_49 fqX11_400 g23 g24 rfl ?_
      refine s_iload_n hF dX11_fitsBook_52 rfl 2 rfl ?_
      refine sim_gd (fun g25 => ?_)
      refine s_iaload (x := (g_I m17 (g_R m17 (g_R m17 l0 15) 1) l2.toNatClampNeg)) hF dX11_fitsBook_53 g25 rfl ?_
      refine s_icmp_eq (tgt := 59) hF dX11_fitsBook_54 rfl (fun c26 => ?_) (fun c26 => ?_)
      · refine s_iinc (v := (l2 + (1 : Int32))) (pls' := [(2, .int (l2 + (1 : Int32))), (0, .ref l0), (1, .ref l1)]) hF dX11_fitsBook_59 2 rfl rfl (by decide) rfl ?_
        refine s_goto (tgt := 21) hF dX11_fitsBook_62 rfl ?_
        refine s_sub [1, 2, 0] rfl ?_
        exact ih l0 l1 (l2 + (1 : Int32)) _ (isK.mo f0 hm19) (isK.mo f1 hm19)
      · refine s_iconst (v := (0 : Int32)) hF dX11_fitsBook_57 kI_0 ?_
        exact s_zretX hF hD dX11_fitsBook_58 rfl rfl
theorem ctX11_fitsBook  (l0 : Nat) (l1 : Nat) (μ : Mem) : ∀ (r : Int32) (μ' : Mem), LX11_fitsBook l0 l1 μ = some (r, μ') → CtX yX11_fitsBook cX11_fitsBook 3 (some .boolean) 2 [.ref l0, .ref l1] μ (encI r) μ' := by
  refine ct_enterX plX11 (Nat.le_of_ble_eq_true rfl) (fun F hF hD hI => ?_)
  unfold LX11_fitsBook
  refine sim_gd (fun f0 => ?_)
  refine sim_gd (fun f1 => ?_)
  refine s_aload_n hF dX11_fitsBook_0 rfl 0 rfl ?_
  refine sim_gd (fun g1 => ?_)
  refine s_getR (x := (g_R μ l0 15)) hF dX11_fitsBook_1 flX11_98 f0 g1 rfl ?_
  refine sim_gd (fun g2 => ?_)
  refine s_getIq (x := (g_I μ (g_R μ l0 15) 2)) hF dX11_fitsBook_4 fqX11_180 g2 rfl ?_
  refine s_if_le (tgt := 19) hF dX11_fitsBook_7 rfl (fun c3 => ?_) (fun c3 => ?_)
  · refine s_iconst (v := (0 : Int32)) hF dX11_fitsBook_19 kI_0 ?_
    refine s_istore_n (pls' := [(2, .int (0 : Int32)), (0, .ref l0), (1, .ref l1)]) hF dX11_fitsBook_20 rfl (by decide) rfl ?_
    refine s_sub [1, 2, 0] rfl ?_
    exact sX11_fitsBook_21 hF hD 100000 l0 l1 (0 : Int32) _ f0 f1
  · refine s_aload_n hF dX11_fitsBook_10 rfl 1 rfl ?_
    refine s_xVi (st := []) (ci := 5) [] hF hD dX11_fitsBook_11 cwX11_256 (Nat.le_of_ble_eq_true rfl) (Nat.le_of_ble_eq_true rfl) rfl rfl (Nat.le_of_ble_eq_true rfl) f1 rfl rfl (Nat.le_of_ble_eq_true rfl) (ctX5_jams l1 _) (fun r4 m5 hl6 hm7 => ?_)
    refine s_if_eq (tgt := 19) hF dX11_fitsBook_14 rfl (fun c10 => ?_) (fun c10 => ?_)
    · refine s_iconst (v := (0 : Int32)) hF dX11_fitsBook_19 kI_0 ?_
      refine s_istore_n (pls' := [(2, .int (0 : Int32)), (0, .ref l0), (1, .ref l1)]) hF dX11_fitsBook_20 rfl (by decide) rfl ?_
      refine s_sub [1, 2, 0] rfl ?_
      exact sX11_fitsBook_21 hF hD 100000 l0 l1 (0 : Int32) _ (isK.mo f0 hm7) (isK.mo f1 hm7)
    · refine s_iconst (v := (0 : Int32)) hF dX11_fitsBook_17 kI_0 ?_
      exact s_zretX hF hD dX11_fitsBook_18 rfl rfl
theorem sX11_fits_4 {F : Option Fx} (hF : FxO F RX11 cX11_fits 3 3) (hD : FxXO F (some .int)) : ∀ (fu : Nat) (l0 : Nat) (l1 : Int32) (l2 : Int32) (μ : Mem) (f0 : isK μ l0 11 = true), Sim F encI 4 [(0, .ref l0), (1, .int l1), (2, .int l2)] [] μ (mX11_fits_4 fu l0 l1 l2 μ) := by
  intro fu
  induction fu with
  | zero =>
    intro l0 l1 l2 μ f0
    exact sim_none
  | succ fu ih =>
    intro l0 l1 l2 μ f0
    rw [mX11_fits_4]
    refine s_iload_n hF dX11_fits_4 rfl 2 rfl ?_
    refine s_aload_n hF dX11_fits_5 rfl 0 rfl ?_
    refine sim_gd (fun g1 => ?_)
    refine s_getR (x := (g_R μ l0 9)) hF dX11_fits_6 flX11_68 f0 g1 rfl ?_
    refine sim_gd (fun g2 => ?_)
    refine s_getIq (x := (g_I μ (g_R μ l0 9) 0)) hF dX11_fits_9 fqX11_144 g2 rfl ?_
    refine s_icmp_ge (tgt := 43) hF dX11_fits_12 rfl (fun c3 => ?_) (fun c3 => ?_)
    · refine s_iload_n hF dX11_fits_43 rfl 1 rfl ?_
      exact s_iretX hF hD dX11_fits_44 rfl
    · refine s_aload_n hF dX11_fits_15 rfl 0 rfl ?_
      refine s_aload_n hF dX11_fits_16 rfl 0 rfl ?_
      refine sim_gd (fun g4 => ?_)
      refine s_getR (x := (g_R μ l0 3)) hF dX11_fits_17 flX11_33 f0 g4 rfl ?_
      refine sim_gd (fun g5 => ?_)
      refine sim_gd (fun g6 => ?_)
      refine s_getRq (x := (g_R μ (g_R μ l0 3) 0)) hF dX11_fits_20 fqX11_218 g5 g6 rfl ?_
      refine s_iload_n hF dX11_fits_23 rfl 2 rfl ?_
      refine sim_gd (fun g7 => ?_)
      refine sim_gd (fun g8 => ?_)
      refine s_aaload (x := (g_R μ (g_R μ (g_R μ l0 3) 0) l2.toNatClampNeg)) hF dX11_fits_24 (by decide) (by decide) g7 g8 rfl ?_
      refine s_xVi (st := []) (ci := 11) [.ref (g_R μ (g_R μ (g_R μ l0 3) 0) l2.toNatClampNeg)] hF hD dX11_fits_25 cwX11_325 (Nat.le_of_ble_eq_true rfl) (Nat.le_of_ble_eq_true rfl) rfl rfl (Nat.le_of_ble_eq_true rfl) f0 rfl rfl (Nat.le_of_ble_eq_true rfl) (ctX11_fitsBook l0 (g_R μ (g_R μ (g_R μ l0 3) 0) l2.toNatClampNeg) _) (fun r9 m10 hl11 hm12 => ?_)
      refine s_if_eq (tgt := 37) hF dX11_fits_28 rfl (fun c15 => ?_) (fun c15 => ?_)
      · refine s_iinc (v := (l2 + (1 : Int32))) (pls' := [(2, .int (l2 + (1 : Int32))), (0, .ref l0), (1, .int l1)]) hF dX11_fits_37 2 rfl rfl (by decide) rfl ?_
        refine s_goto (tgt := 4) hF dX11_fits_40 rfl ?_
        refine s_sub [1, 2, 0] rfl ?_
        exact ih l0 l1 (l2 + (1 : Int32)) _ (isK.mo f0 hm12)
      · refine s_iload_n hF dX11_fits_31 rfl 1 rfl ?_
        refine s_iconst (v := (1 : Int32)) hF dX11_fits_32 kI_1 ?_
        refine s_iload_n hF dX11_fits_33 rfl 2 rfl ?_
        refine s_ishl hF dX11_fits_34 ?_
        refine s_ior hF dX11_fits_35 ?_
        refine s_istore_n (pls' := [(1, .int (l1 ||| ((1 : Int32) <<< (l2 &&& 31)))), (0, .ref l0), (2, .int l2)]) hF dX11_fits_36 rfl (by decide) rfl ?_
        refine s_iinc (v := (l2 + (1 : Int32))) (pls' := [(2, .int (l2 + (1 : Int32))), (1, .int (l1 ||| ((1 : Int32) <<< (l2 &&& 31)))), (0, .ref l0)]) hF dX11_fits_37 2 rfl rfl (by decide) rfl ?_
        refine s_goto (tgt := 4) hF dX11_fits_40 rfl ?_
        refine s_sub [2, 1, 0] rfl ?_
        exact ih l0 (l1 ||| ((1 : Int32) <<< (l2 &&& 31))) (l2 + (1 : Int32)) _ (isK.mo f0 hm12)
theorem ctX11_fits  (l0 : Nat) (μ : Mem) : ∀ (r : Int32) (μ' : Mem), LX11_fits l0 μ = some (r, μ') → CtX yX11_fits cX11_fits 3 (some .int) 3 [.ref l0] μ (encI r) μ' := by
  refine ct_enterX plX11 (Nat.le_of_ble_eq_true rfl) (fun F hF hD hI => ?_)
  unfold LX11_fits
  refine sim_gd (fun f0 => ?_)
  refine s_iconst (v := (0 : Int32)) hF dX11_fits_0 kI_0 ?_
  refine s_istore_n (pls' := [(1, .int (0 : Int32)), (0, .ref l0)]) hF dX11_fits_1 rfl (by decide) rfl ?_
  refine s_iconst (v := (0 : Int32)) hF dX11_fits_2 kI_0 ?_
  refine s_istore_n (pls' := [(2, .int (0 : Int32)), (1, .int (0 : Int32)), (0, .ref l0)]) hF dX11_fits_3 rfl (by decide) rfl ?_
  refine s_sub [2, 1, 0] rfl ?_
  exact sX11_fits_4 hF hD 100000 l0 (0 : Int32) (0 : Int32) _ f0
theorem sX11_comesOutAlike_14 {F : Option Fx} (hF : FxO F RX11 cX11_comesOutAlike 3 2) (hD : FxXO F (some .boolean)) (l0 : Nat) (l1 : Nat) (μ : Mem) (f0 : isK μ l0 5 = true) (f1 : isK μ l1 5 = true) : Sim F encI 14 [(0, .ref l0), (1, .ref l1)] [] μ (mX11_comesOutAlike_14 l0 l1 μ) := by
  unfold mX11_comesOutAlike_14
  refine s_aload_n hF dX11_comesOutAlike_14 rfl 0 rfl ?_
  refine s_xVi (st := []) (ci := 5) [] hF hD dX11_comesOutAlike_15 cwX11_256 (Nat.le_of_ble_eq_true rfl) (Nat.le_of_ble_eq_true rfl) rfl rfl (Nat.le_of_ble_eq_true rfl) f0 rfl rfl (Nat.le_of_ble_eq_true rfl) (ctX5_jams l0 _) (fun r28 m29 hl30 hm31 => ?_)
  refine s_if_eq (tgt := 32) hF dX11_comesOutAlike_18 rfl (fun c34 => ?_) (fun c34 => ?_)
  · refine s_iconst (v := (0 : Int32)) hF dX11_comesOutAlike_32 kI_0 ?_
    exact s_zretX hF hD dX11_comesOutAlike_33 rfl rfl
  · refine s_aload_n hF dX11_comesOutAlike_21 rfl 1 rfl ?_
    refine s_xVi (st := []) (ci := 5) [] hF hD dX11_comesOutAlike_22 cwX11_256 (Nat.le_of_ble_eq_true rfl) (Nat.le_of_ble_eq_true rfl) rfl rfl (Nat.le_of_ble_eq_true rfl) (isK.mo f1 hm31) rfl rfl (Nat.le_of_ble_eq_true rfl) (ctX5_jams l1 _) (fun r35 m36 hl37 hm38 => ?_)
    refine s_if_eq (tgt := 32) hF dX11_comesOutAlike_25 rfl (fun c41 => ?_) (fun c41 => ?_)
    · refine s_iconst (v := (0 : Int32)) hF dX11_comesOutAlike_32 kI_0 ?_
      exact s_zretX hF hD dX11_comesOutAlike_33 rfl rfl
    · refine s_iconst (v := (1 : Int32)) hF dX11_comesOutAlike_28 kI_1 ?_
      refine s_goto (tgt := 33) hF dX11_comesOutAlike_29 rfl ?_
      exact s_zretX hF hD dX11_comesOutAlike_33 rfl rfl
theorem ctX11_comesOutAlike  (l0 : Nat) (l1 : Nat) (l2 : Int32) (μ : Mem) : ∀ (r : Int32) (μ' : Mem), LX11_comesOutAlike l0 l1 l2 μ = some (r, μ') → CtX yX11_comesOutAlike cX11_comesOutAlike 3 (some .boolean) 2 [.ref l0, .ref l1, .int l2] μ (encI r) μ' := by
  refine ct_enterX plX11 (Nat.le_of_ble_eq_true rfl) (fun F hF hD hI => ?_)
  unfold LX11_comesOutAlike
  refine sim_gd (fun f0 => ?_)
  refine sim_gd (fun f1 => ?_)
  refine s_aload_n hF dX11_comesOutAlike_0 rfl 0 rfl ?_
  refine s_xVi (st := []) (ci := 5) [] hF hD dX11_comesOutAlike_1 cwX11_256 (Nat.le_of_ble_eq_true rfl) (Nat.le_of_ble_eq_true rfl) rfl rfl (Nat.le_of_ble_eq_true rfl) f0 rfl rfl (Nat.le_of_ble_eq_true rfl) (ctX5_jams l0 _) (fun r1 m2 hl3 hm4 => ?_)
  refine s_if_ne (tgt := 14) hF dX11_comesOutAlike_4 rfl (fun c7 => ?_) (fun c7 => ?_)
  · refine s_aload_n hF dX11_comesOutAlike_7 rfl 1 rfl ?_
    refine s_xVi (st := []) (ci := 5) [] hF hD dX11_comesOutAlike_8 cwX11_256 (Nat.le_of_ble_eq_true rfl) (Nat.le_of_ble_eq_true rfl) rfl rfl (Nat.le_of_ble_eq_true rfl) (isK.mo f1 hm4) rfl rfl (Nat.le_of_ble_eq_true rfl) (ctX5_jams l1 _) (fun r8 m9 hl10 hm11 => ?_)
    refine s_if_eq (tgt := 34) hF dX11_comesOutAlike_11 rfl (fun c14 => ?_) (fun c14 => ?_)
    · refine s_aload_n hF dX11_comesOutAlike_34 rfl 0 rfl ?_
      refine s_iload_n hF dX11_comesOutAlike_35 rfl 2 rfl ?_
      refine s_xVi (st := []) (ci := 5) [.int l2] hF hD dX11_comesOutAlike_36 cwX11_262 (Nat.le_of_ble_eq_true rfl) (Nat.le_of_ble_eq_true rfl) rfl rfl (Nat.le_of_ble_eq_true rfl) (isK.mo (isK.mo f0 hm4) hm11) rfl rfl (Nat.le_of_ble_eq_true rfl) (ctX5_outOf l0 l2 _) (fun r15 m16 hl17 hm18 => ?_)
      refine s_aload_n hF dX11_comesOutAlike_39 rfl 1 rfl ?_
      refine s_iload_n hF dX11_comesOutAlike_40 rfl 2 rfl ?_
      refine s_xVi (st := [.int r15]) (ci := 5) [.int l2] hF hD dX11_comesOutAlike_41 cwX11_262 (Nat.le_of_ble_eq_true rfl) (Nat.le_of_ble_eq_true rfl) rfl rfl (Nat.le_of_ble_eq_true rfl) (isK.mo (isK.mo (isK.mo f1 hm4) hm11) hm18) rfl rfl (Nat.le_of_ble_eq_true rfl) (ctX5_outOf l1 l2 _) (fun r21 m22 hl23 hm24 => ?_)
      refine s_icmp_ne (tgt := 51) hF dX11_comesOutAlike_44 rfl (fun c27 => ?_) (fun c27 => ?_)
      · refine s_iconst (v := (1 : Int32)) hF dX11_comesOutAlike_47 kI_1 ?_
        refine s_goto (tgt := 52) hF dX11_comesOutAlike_48 rfl ?_
        exact s_zretX hF hD dX11_comesOutAlike_52 rfl rfl
      · refine s_iconst (v := (0 : Int32)) hF dX11_comesOutAlike_51 kI_0 ?_
        exact s_zretX hF hD dX11_comesOutAlike_52 rfl rfl
    · refine s_sub [0, 1] rfl ?_
      exact sX11_comesOutAlike_14 hF hD l0 l1 _ (isK.mo (isK.mo f0 hm4) hm11) (isK.mo (isK.mo f1 hm4) hm11)
  · refine s_sub [0, 1] rfl ?_
    exact sX11_comesOutAlike_14 hF hD l0 l1 _ (isK.mo f0 hm4) (isK.mo f1 hm4)
