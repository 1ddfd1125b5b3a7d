theorem sX11_mostAlike_54 {F : Option Fx} (q5 : Nat → Int32 → Int32 → Int32 → Int32 → Mem → Option (Int32 × Mem)) (q23 : Nat → Int32 → Int32 → Int32 → Int32 → Int32 → Int32 → Mem → Option (Int32 × Mem)) (hF : FxO F RX11 cX11_mostAlike 8 3) (hD : FxXO F (some .int)) (hq5 : ∀ (l0 : Nat) (l1 : Int32) (l2 : Int32) (l3 : Int32) (l4 : Int32) (μ : Mem) (_ : isK μ l0 11 = true), Sim F encI 5 [(0, .ref l0), (1, .int l1), (2, .int l2), (3, .int l3), (4, .int l4)] [] μ (q5 l0 l1 l2 l3 l4 μ)) (hq23 : ∀ (l0 : Nat) (l1 : Int32) (l2 : Int32) (l3 : Int32) (l4 : Int32) (l5 : Int32) (l6 : Int32) (μ : Mem) (_ : isK μ l0 11 = true), Sim F encI 23 [(0, .ref l0), (1, .int l1), (2, .int l2), (3, .int l3), (4, .int l4), (5, .int l5), (6, .int l6)] [] μ (q23 l0 l1 l2 l3 l4 l5 l6 μ)) (l0 : Nat) (l1 : Int32) (l2 : Int32) (l3 : Int32) (l4 : Int32) (l5 : Int32) (l6 : Int32) (k0 : Int32) (μ : Mem) (f0 : isK μ l0 11 = true) : Sim F encI 54 [(0, .ref l0), (1, .int l1), (2, .int l2), (3, .int l3), (4, .int l4), (5, .int l5), (6, .int l6)] [.int k0] μ (mX11_mostAlike_54 q5 q23 l0 l1 l2 l3 l4 l5 l6 k0 μ) := by
  unfold mX11_mostAlike_54
  refine s_istore (pls' := [(7, .int k0), (0, .ref l0), (1, .int l1), (2, .int l2), (3, .int l3), (4, .int l4), (5, .int l5), (6, .int l6)]) hF dX11_mostAlike_54 (by decide) rfl ?_
  refine s_iload hF dX11_mostAlike_56 0 rfl ?_
  refine s_if_eq (tgt := 91) hF dX11_mostAlike_58 rfl (fun c8 => ?_) (fun c8 => ?_)
  · refine s_iinc (v := (l6 + (1 : Int32))) (pls' := [(6, .int (l6 + (1 : Int32))), (7, .int k0), (0, .ref l0), (1, .int l1), (2, .int l2), (3, .int l3), (4, .int l4), (5, .int l5)]) hF dX11_mostAlike_91 7 rfl rfl (by decide) rfl ?_
    refine s_goto (tgt := 23) hF dX11_mostAlike_94 rfl ?_
    refine s_sub [2, 3, 4, 5, 6, 7, 0] rfl ?_
    exact hq23 l0 l1 l2 l3 l4 l5 (l6 + (1 : Int32)) _ f0
  · refine s_aload_n hF dX11_mostAlike_61 rfl 1 rfl ?_
    refine sim_gd (fun g9 => ?_)
    refine s_getR (x := (g_R μ l0 3)) hF dX11_mostAlike_62 flX11_33 f0 g9 rfl ?_
    refine sim_gd (fun g10 => ?_)
    refine sim_gd (fun g11 => ?_)
    refine s_getRq (x := (g_R μ (g_R μ l0 3) 0)) hF dX11_mostAlike_65 fqX11_218 g10 g11 rfl ?_
    refine s_iload hF dX11_mostAlike_68 5 rfl ?_
    refine sim_gd (fun g12 => ?_)
    refine sim_gd (fun g13 => ?_)
    refine s_aaload (x := (g_R μ (g_R μ (g_R μ l0 3) 0) l4.toNatClampNeg)) hF dX11_mostAlike_70 (by decide) (by decide) g12 g13 rfl ?_
    refine s_aload_n hF dX11_mostAlike_71 rfl 1 rfl ?_
    refine s_getR (x := (g_R μ l0 3)) hF dX11_mostAlike_72 flX11_33 f0 g9 rfl ?_
    refine s_getRq (x := (g_R μ (g_R μ l0 3) 0)) hF dX11_mostAlike_75 fqX11_218 g10 g11 rfl ?_
    refine s_iload hF dX11_mostAlike_78 7 rfl ?_
    refine sim_gd (fun g14 => ?_)
    refine sim_gd (fun g15 => ?_)
    refine s_aaload (x := (g_R μ (g_R μ (g_R μ l0 3) 0) l6.toNatClampNeg)) hF dX11_mostAlike_80 (by decide) (by decide) g14 g15 rfl ?_
    refine s_iload_n hF dX11_mostAlike_81 rfl 3 rfl ?_
    refine s_xSi (st := []) [.ref (g_R μ (g_R μ (g_R μ l0 3) 0) l4.toNatClampNeg), .ref (g_R μ (g_R μ (g_R μ l0 3) 0) l6.toNatClampNeg), .int l2] hF hD dX11_mostAlike_82 cwX11_403 (Nat.le_of_ble_eq_true rfl) (Nat.le_of_ble_eq_true rfl) rfl rfl (Nat.le_of_ble_eq_true rfl) (ctX11_comesOutAlike (g_R μ (g_R μ (g_R μ l0 3) 0) l4.toNatClampNeg) (g_R μ (g_R μ (g_R μ l0 3) 0) l6.toNatClampNeg) l2 _) (fun r16 m17 hl18 hm19 => ?_)
    refine s_if_eq (tgt := 91) hF dX11_mostAlike_85 rfl (fun c22 => ?_) (fun c22 => ?_)
    · refine s_iinc (v := (l6 + (1 : Int32))) (pls' := [(6, .int (l6 + (1 : Int32))), (7, .int k0), (0, .ref l0), (1, .int l1), (2, .int l2), (3, .int l3), (4, .int l4), (5, .int l5)]) hF dX11_mostAlike_91 7 rfl rfl (by decide) rfl ?_
      refine s_goto (tgt := 23) hF dX11_mostAlike_94 rfl ?_
      refine s_sub [2, 3, 4, 5, 6, 7, 0] rfl ?_
      exact hq23 l0 l1 l2 l3 l4 l5 (l6 + (1 : Int32)) _ (isK.mo f0 hm19)
    · refine s_iinc (v := (l5 + (1 : Int32))) (pls' := [(5, .int (l5 + (1 : Int32))), (7, .int k0), (0, .ref l0), (1, .int l1), (2, .int l2), (3, .int l3), (4, .int l4), (6, .int l6)]) hF dX11_mostAlike_88 6 rfl rfl (by decide) rfl ?_
      refine s_iinc (v := (l6 + (1 : Int32))) (pls' := [(6, .int (l6 + (1 : Int32))), (5, .int (l5 + (1 : Int32))), (7, .int k0), (0, .ref l0), (1, .int l1), (2, .int l2), (3, .int l3), (4, .int l4)]) hF dX11_mostAlike_91 7 rfl rfl (by decide) rfl ?_
      refine s_goto (tgt := 23) hF dX11_mostAlike_94 rfl ?_
      refine s_sub [3, 4, 5, 6, 7, 1, 0] rfl ?_
      exact hq23 l0 l1 l2 l3 l4 (l5 + (1 : Int32)) (l6 + (1 : Int32)) _ (isK.mo f0 hm19)
theorem sX11_mostAlike_23 {F : Option Fx} (q5 : Nat → Int32 → Int32 → Int32 → Int32 → Mem → Option (Int32 × Mem)) (hF : FxO F RX11 cX11_mostAlike 8 3) (hD : FxXO F (some .int)) (hq5 : ∀ (l0 : Nat) (l1 : Int32) (l2 : Int32) (l3 : Int32) (l4 : Int32) (μ : Mem) (_ : isK μ l0 11 = true), Sim F encI 5 [(0, .ref l0), (1, .int l1), (2, .int l2), (3, .int l3), (4, .int l4)] [] μ (q5 l0 l1 l2 l3 l4 μ)) : ∀ (fu : Nat) (l0 : Nat) (l1 : Int32) (l2 : Int32) (l3 : Int32) (l4 : Int32) (l5 : Int32) (l6 : Int32) (μ : Mem) (f0 : isK μ l0 11 = true), Sim F encI 23 [(0, .ref l0), (1, .int l1), (2, .int l2), (3, .int l3), (4, .int l4), (5, .int l5), (6, .int l6)] [] μ (mX11_mostAlike_23 q5 fu l0 l1 l2 l3 l4 l5 l6 μ) := by
  intro fu
  induction fu with
  | zero =>
    intro l0 l1 l2 l3 l4 l5 l6 μ f0
    exact sim_none
  | succ fu ih =>
    intro l0 l1 l2 l3 l4 l5 l6 μ f0
    rw [mX11_mostAlike_23]
    refine s_iload hF dX11_mostAlike_23 6 rfl ?_
    refine s_aload_n hF dX11_mostAlike_25 rfl 0 rfl ?_
    refine sim_gd (fun g4 => ?_)
    refine s_getR (x := (g_R μ l0 9)) hF dX11_mostAlike_26 flX11_68 f0 g4 rfl ?_
    refine sim_gd (fun g5 => ?_)
    refine s_getIq (x := (g_I μ (g_R μ l0 9) 0)) hF dX11_mostAlike_29 fqX11_144 g5 rfl ?_
    refine s_icmp_ge (tgt := 97) hF dX11_mostAlike_32 rfl (fun c6 => ?_) (fun c6 => ?_)
    · refine s_iload_n hF dX11_mostAlike_97 rfl 3 rfl ?_
      refine s_iload hF dX11_mostAlike_98 5 rfl ?_
      refine s_max hF dX11_mostAlike_100 mlX11_312 mt_smax mt_i mt_cmax (Nat.le_of_ble_eq_true rfl) (Nat.le_of_ble_eq_true rfl) ?_
      refine s_istore_n (pls' := [(3, .int (if l3 < l5 then l5 else l3)), (0, .ref l0), (1, .int l1), (2, .int l2), (4, .int l4), (5, .int l5), (6, .int l6)]) hF dX11_mostAlike_103 rfl (by decide) rfl ?_
      refine s_iinc (v := (l4 + (1 : Int32))) (pls' := [(4, .int (l4 + (1 : Int32))), (3, .int (if l3 < l5 then l5 else l3)), (0, .ref l0), (1, .int l1), (2, .int l2), (5, .int l5), (6, .int l6)]) hF dX11_mostAlike_104 4 rfl rfl (by decide) rfl ?_
      refine s_goto (tgt := 5) hF dX11_mostAlike_107 rfl ?_
      refine s_sub [2, 3, 4, 1, 0] rfl ?_
      exact hq5 l0 l1 l2 (if l3 < l5 then l5 else l3) (l4 + (1 : Int32)) _ f0
    · refine s_iload_n hF dX11_mostAlike_35 rfl 1 rfl ?_
      refine s_iload hF dX11_mostAlike_36 4 rfl ?_
      refine s_ishr hF dX11_mostAlike_38 ?_
      refine s_iload_n hF dX11_mostAlike_39 rfl 1 rfl ?_
      refine s_iload hF dX11_mostAlike_40 6 rfl ?_
      refine s_ishr hF dX11_mostAlike_42 ?_
      refine s_iand hF dX11_mostAlike_43 ?_
      refine s_iconst (v := (1 : Int32)) hF dX11_mostAlike_44 kI_1 ?_
      refine s_iand hF dX11_mostAlike_45 ?_
      refine s_if_eq (tgt := 53) hF dX11_mostAlike_46 rfl (fun c7 => ?_) (fun c7 => ?_)
      · refine s_iconst (v := (0 : Int32)) hF dX11_mostAlike_53 kI_0 ?_
        exact sX11_mostAlike_54 q5 (fun l0 l1 l2 l3 l4 l5 l6 μ => mX11_mostAlike_23 q5 fu l0 l1 l2 l3 l4 l5 l6 μ) hF hD hq5 ih l0 l1 l2 l3 l4 l5 l6 (0 : Int32) _ f0
      · refine s_iconst (v := (1 : Int32)) hF dX11_mostAlike_49 kI_1 ?_
        refine s_goto (tgt := 54) hF dX11_mostAlike_50 rfl ?_
        exact sX11_mostAlike_54 q5 (fun l0 l1 l2 l3 l4 l5 l6 μ => mX11_mostAlike_23 q5 fu l0 l1 l2 l3 l4 l5 l6 μ) hF hD hq5 ih l0 l1 l2 l3 l4 l5 l6 (1 : Int32) _ f0
theorem sX11_mostAlike_5 {F : Option Fx} (hF : FxO F RX11 cX11_mostAlike 8 3) (hD : FxXO F (some .int)) : ∀ (fu : Nat) (l0 : Nat) (l1 : Int32) (l2 : Int32) (l3 : Int32) (l4 : Int32) (μ : Mem) (f0 : isK μ l0 11 = true), Sim F encI 5 [(0, .ref l0), (1, .int l1), (2, .int l2), (3, .int l3), (4, .int l4)] [] μ (mX11_mostAlike_5 fu l0 l1 l2 l3 l4 μ) := by
  intro fu
  induction fu with
  | zero =>
    intro l0 l1 l2 l3 l4 μ f0
    exact sim_none
  | succ fu ih =>
    intro l0 l1 l2 l3 l4 μ f0
    rw [mX11_mostAlike_5]
    refine s_iload hF dX11_mostAlike_5 4 rfl ?_
    refine s_aload_n hF dX11_mostAlike_7 rfl 0 rfl ?_
    refine sim_gd (fun g1 => ?_)
    refine s_getR (x := (g_R μ l0 9)) hF dX11_mostAlike_8 flX11_68 f0 g1 rfl ?_
    refine sim_gd (fun g2 => ?_)
    refine s_getIq (x := (g_I μ (g_R μ l0 9) 0)) hF dX11_mostAlike_11 fqX11_144 g2 rfl ?_
    refine s_icmp_ge (tgt := 110) hF dX11_mostAlike_14 rfl (fun c3 => ?_) (fun c3 => ?_)
    · refine s_iload_n hF dX11_mostAlike_110 rfl 3 rfl ?_
      exact s_iretX hF hD dX11_mostAlike_111 rfl
    · refine s_iconst (v := (0 : Int32)) hF dX11_mostAlike_17 kI_0 ?_
      refine s_istore (pls' := [(5, .int (0 : Int32)), (0, .ref l0), (1, .int l1), (2, .int l2), (3, .int l3), (4, .int l4)]) hF dX11_mostAlike_18 (by decide) rfl ?_
      refine s_iconst (v := (0 : Int32)) hF dX11_mostAlike_20 kI_0 ?_
      refine s_istore (pls' := [(6, .int (0 : Int32)), (5, .int (0 : Int32)), (0, .ref l0), (1, .int l1), (2, .int l2), (3, .int l3), (4, .int l4)]) hF dX11_mostAlike_21 (by decide) rfl ?_
      refine s_sub [2, 3, 4, 5, 6, 1, 0] rfl ?_
      exact sX11_mostAlike_23 (fun l0 l1 l2 l3 l4 μ => mX11_mostAlike_5 fu l0 l1 l2 l3 l4 μ) hF hD ih 100000 l0 l1 l2 l3 l4 (0 : Int32) (0 : Int32) _ f0
theorem ctX11_mostAlike  (l0 : Nat) (l1 : Int32) (l2 : Int32) (μ : Mem) : ∀ (r : Int32) (μ' : Mem), LX11_mostAlike l0 l1 l2 μ = some (r, μ') → CtX yX11_mostAlike cX11_mostAlike 8 (some .int) 3 [.ref l0, .int l1, .int l2] μ (encI r) μ' := by
  refine ct_enterX plX11 (Nat.le_of_ble_eq_true rfl) (fun F hF hD hI => ?_)
  unfold LX11_mostAlike
  refine sim_gd (fun f0 => ?_)
  refine s_iconst (v := (0 : Int32)) hF dX11_mostAlike_0 kI_0 ?_
  refine s_istore_n (pls' := [(3, .int (0 : Int32)), (0, .ref l0), (1, .int l1), (2, .int l2)]) hF dX11_mostAlike_1 rfl (by decide) rfl ?_
  refine s_iconst (v := (0 : Int32)) hF dX11_mostAlike_2 kI_0 ?_
  refine s_istore (pls' := [(4, .int (0 : Int32)), (3, .int (0 : Int32)), (0, .ref l0), (1, .int l1), (2, .int l2)]) hF dX11_mostAlike_3 (by decide) rfl ?_
  refine s_sub [2, 3, 4, 1, 0] rfl ?_
  exact sX11_mostAlike_5 hF hD 100000 l0 l1 l2 (0 : Int32) (0 : Int32) _ f0
theorem sX11_look_27 {F : Option Fx} (hF : FxO F RX11 cX11_look 7 10) (hD : FxXO F (some .int)) : ∀ (fu : Nat) (l0 : Nat) (l1 : Int32) (l2 : Int32) (l3 : Int32) (l4 : Int32) (l5 : Int32) (μ : Mem) (f0 : isK μ l0 11 = true), Sim F (encX encI) 27 [(0, .ref l0), (1, .int l1), (2, .int l2), (3, .int l3), (4, .int l4), (5, .int l5)] [] μ (mX11_look_27 fu l0 l1 l2 l3 l4 l5 μ) := by
  intro fu
  induction fu with
  | zero =>
    intro l0 l1 l2 l3 l4 l5 μ f0
    exact sim_none
  | succ fu ih =>
    intro l0 l1 l2 l3 l4 l5 μ f0
    rw [mX11_look_27]
    refine s_iload hF dX11_look_27 5 rfl ?_
    refine s_bipush (v := (100 : Int32)) hF dX11_look_29 kB_100 ?_
    refine s_icmp_ge (tgt := 63) hF dX11_look_31 rfl (fun c14 => ?_) (fun c14 => ?_)
    · refine s_iload_n hF dX11_look_63 rfl 1 rfl ?_
      refine s_if_ne (tgt := 71) hF dX11_look_64 rfl (fun c15 => ?_) (fun c15 => ?_)
      · refine s_iload_n hF dX11_look_67 rfl 3 rfl ?_
        refine s_goto (tgt := 73) hF dX11_look_68 rfl ?_
        exact s_iretX hF hD dX11_look_73 rfl
      · refine s_iload hF dX11_look_71 4 rfl ?_
        exact s_iretX hF hD dX11_look_73 rfl
    · refine s_aload_n hF dX11_look_34 rfl 0 rfl ?_
      refine s_iload_n hF dX11_look_35 rfl 2 rfl ?_
      refine s_iload hF dX11_look_36 5 rfl ?_
      refine s_xVi (st := []) (ci := 11) [.int l2, .int l5] hF hD dX11_look_38 cwX11_332 (Nat.le_of_ble_eq_true rfl) (Nat.le_of_ble_eq_true rfl) rfl rfl (Nat.le_of_ble_eq_true rfl) f0 rfl rfl (Nat.le_of_ble_eq_true rfl) (ctX11_mostAlike l0 l2 l5 _) (fun r16 m17 hl18 hm19 => ?_)
      refine s_istore (pls' := [(6, .int r16), (0, .ref l0), (1, .int l1), (2, .int l2), (3, .int l3), (4, .int l4), (5, .int l5)]) hF dX11_look_41 (by decide) rfl ?_
      refine s_iload hF dX11_look_43 0 rfl ?_
      refine s_iload hF dX11_look_45 5 rfl ?_
      refine s_icmp_ge (tgt := 57) hF dX11_look_47 rfl (fun c22 => ?_) (fun c22 => ?_)
      · refine s_iinc (v := (l5 + (1 : Int32))) (pls' := [(5, .int (l5 + (1 : Int32))), (6, .int r16), (0, .ref l0), (1, .int l1), (2, .int l2), (3, .int l3), (4, .int l4)]) hF dX11_look_57 6 rfl rfl (by decide) rfl ?_
        refine s_goto (tgt := 27) hF dX11_look_60 rfl ?_
        refine s_sub [2, 3, 4, 5, 6, 0] rfl ?_
        exact ih l0 l1 l2 l3 l4 (l5 + (1 : Int32)) _ (isK.mo f0 hm19)
      · refine s_iload hF dX11_look_50 0 rfl ?_
        refine s_istore (pls' := [(4, .int r16), (6, .int r16), (0, .ref l0), (1, .int l1), (2, .int l2), (3, .int l3), (5, .int l5)]) hF dX11_look_52 (by decide) rfl ?_
        refine s_iload hF dX11_look_54 6 rfl ?_
        refine s_istore_n (pls' := [(3, .int l5), (4, .int r16), (6, .int r16), (0, .ref l0), (1, .int l1), (2, .int l2), (5, .int l5)]) hF dX11_look_56 rfl (by decide) rfl ?_
        refine s_iinc (v := (l5 + (1 : Int32))) (pls' := [(5, .int (l5 + (1 : Int32))), (3, .int l5), (4, .int r16), (6, .int r16), (0, .ref l0), (1, .int l1), (2, .int l2)]) hF dX11_look_57 6 rfl rfl (by decide) rfl ?_
        refine s_goto (tgt := 27) hF dX11_look_60 rfl ?_
        refine s_sub [4, 5, 6, 1, 2, 0] rfl ?_
        exact ih l0 l1 l2 l5 r16 (l5 + (1 : Int32)) _ (isK.mo f0 hm19)
theorem ctX11_look  (l0 : Nat) (l1 : Int32) (μ : Mem) : ∀ (r : (Nat ⊕ Int32)) (μ' : Mem), LX11_look l0 l1 μ = some (r, μ') → CtX yX11_look cX11_look 7 (some .int) 10 [.ref l0, .int l1] μ ((encX encI) r) μ' := by
  refine ct_enterX plX11 (Nat.le_of_ble_eq_true rfl) (fun F hF hD hI => ?_)
  unfold LX11_look
  refine sim_gd (fun f0 => ?_)
  refine s_aload_n hF dX11_look_0 rfl 0 rfl ?_
  refine s_iload_n hF dX11_look_1 rfl 1 rfl ?_
  refine s_iconst (v := (0 : Int32)) hF dX11_look_2 kI_0 ?_
  refine s_iconst (v := (1 : Int32)) hF dX11_look_3 kI_1 ?_
  refine s_tVv (st := []) (ci := 11) [.int l1, .int (0 : Int32), .int (1 : Int32)] hF hD dX11_look_4 cwX11_189 (Nat.le_of_ble_eq_true rfl) (Nat.le_of_ble_eq_true rfl) rfl rfl (Nat.le_of_ble_eq_true rfl) f0 rfl rfl (Nat.le_of_ble_eq_true rfl) (ctX11_needWithin l0 l1 (0 : Int32) (1 : Int32) _) (fun r1 m2 hl3 hm4 => ?_)
  refine s_aload_n hF dX11_look_7 rfl 0 rfl ?_
  refine s_xVi (st := []) (ci := 11) [] hF hD dX11_look_8 cwX11_329 (Nat.le_of_ble_eq_true rfl) (Nat.le_of_ble_eq_true rfl) rfl rfl (Nat.le_of_ble_eq_true rfl) (isK.mo f0 hm4) rfl rfl (Nat.le_of_ble_eq_true rfl) (ctX11_fits l0 _) (fun r7 m8 hl9 hm10 => ?_)
  refine s_istore_n (pls' := [(2, .int r7), (0, .ref l0), (1, .int l1)]) hF dX11_look_11 rfl (by decide) rfl ?_
  refine s_iload_n hF dX11_look_12 rfl 0 rfl ?_
  refine s_if_ne (tgt := 18) hF dX11_look_13 rfl (fun c13 => ?_) (fun c13 => ?_)
  · refine s_iconst (v := (-1 : Int32)) hF dX11_look_16 kI_m1 ?_
    exact s_iretX hF hD dX11_look_17 rfl
  · refine s_iconst (v := (-1 : Int32)) hF dX11_look_18 kI_m1 ?_
    refine s_istore_n (pls' := [(3, .int (-1 : Int32)), (2, .int r7), (0, .ref l0), (1, .int l1)]) hF dX11_look_19 rfl (by decide) rfl ?_
    refine s_bipush (v := (9 : Int32)) hF dX11_look_20 kB_9 ?_
    refine s_istore (pls' := [(4, .int (9 : Int32)), (3, .int (-1 : Int32)), (2, .int r7), (0, .ref l0), (1, .int l1)]) hF dX11_look_22 (by decide) rfl ?_
    refine s_iconst (v := (0 : Int32)) hF dX11_look_24 kI_0 ?_
    refine s_istore (pls' := [(5, .int (0 : Int32)), (4, .int (9 : Int32)), (3, .int (-1 : Int32)), (2, .int r7), (0, .ref l0), (1, .int l1)]) hF dX11_look_25 (by decide) rfl ?_
    refine s_sub [4, 5, 3, 2, 1, 0] rfl ?_
    exact sX11_look_27 hF hD 100000 l0 l1 r7 (-1 : Int32) (9 : Int32) (0 : Int32) _ (isK.mo (isK.mo f0 hm4) hm10)
theorem sX11_ready_4 {F : Option Fx} (hF : FxO F RX11 cX11_ready 4 2) (hD : FxXO F (some .int)) : ∀ (fu : Nat) (l0 : Nat) (l2 : Int32) (l3 : Int32) (μ : Mem) (f0 : isK μ l0 11 = true), Sim F encI 4 [(0, .ref l0), (2, .int l2), (3, .int l3)] [] μ (mX11_ready_4 fu l0 l2 l3 μ) := by
  intro fu
  induction fu with
  | zero =>
    intro l0 l2 l3 μ f0
    exact sim_none
  | succ fu ih =>
    intro l0 l2 l3 μ f0
    rw [mX11_ready_4]
    refine s_iload_n hF dX11_ready_4 rfl 2 rfl ?_
    refine s_aload_n hF dX11_ready_5 rfl 0 rfl ?_
    refine sim_gd (fun g1 => ?_)
    refine s_getR (x := (g_R μ l0 9)) hF dX11_ready_6 flX11_68 f0 g1 rfl ?_
    refine sim_gd (fun g2 => ?_)
    refine s_getIq (x := (g_I μ (g_R μ l0 9) 0)) hF dX11_ready_9 fqX11_144 g2 rfl ?_
    refine s_icmp_ge (tgt := 42) hF dX11_ready_12 rfl (fun c3 => ?_) (fun c3 => ?_)
    · refine s_iload_n hF dX11_ready_42 rfl 1 rfl ?_
      exact s_iretX hF hD dX11_ready_43 rfl
    · refine s_aload_n hF dX11_ready_15 rfl 0 rfl ?_
      refine sim_gd (fun g4 => ?_)
      refine s_getR (x := (g_R μ l0 3)) hF dX11_ready_16 flX11_33 f0 g4 rfl ?_
      refine sim_gd (fun g5 => ?_)
      refine sim_gd (fun g6 => ?_)
      refine s_getRq (x := (g_R μ (g_R μ l0 3) 0)) hF dX11_ready_19 fqX11_218 g5 g6 rfl ?_
      refine s_iload_n hF dX11_ready_22 rfl 2 rfl ?_
      refine sim_gd (fun g7 => ?_)
      refine sim_gd (fun g8 => ?_)
      refine s_aaload (x := (g_R μ (g_R μ (g_R μ l0 3) 0) l3.toNatClampNeg)) hF dX11_ready_23 (by decide) (by decide) g7 g8 rfl ?_
      refine sim_gd (fun g15 => ?_)
      refine s_xVi (st := []) (ci := 5) [] hF hD dX11_ready_24 cwX11_335 (Nat.le_of_ble_eq_true rfl) (Nat.le_of_ble_eq_true rfl) rfl rfl (Nat.le_of_ble_eq_true rfl) g15 rfl rfl (Nat.le_of_ble_eq_true rfl) (ctX5_canWrite (g_R μ (g_R μ (g_R μ l0 3) 0) l3.toNatClampNeg) _) (fun r9 m10 hl11 hm12 => ?_)
      refine s_if_eq (tgt := 36) hF dX11_ready_27 rfl (fun c16 => ?_) (fun c16 => ?_)
      · refine s_iinc (v := (l3 + (1 : Int32))) (pls' := [(3, .int (l3 + (1 : Int32))), (0, .ref l0), (2, .int l2)]) hF dX11_ready_36 2 rfl rfl (by decide) rfl ?_
        refine s_goto (tgt := 4) hF dX11_ready_39 rfl ?_
        refine s_sub [1, 2, 0] rfl ?_
        exact ih l0 l2 (l3 + (1 : Int32)) _ (isK.mo f0 hm12)
      · refine s_iload_n hF dX11_ready_30 rfl 1 rfl ?_
        refine s_iconst (v := (1 : Int32)) hF dX11_ready_31 kI_1 ?_
        refine s_iload_n hF dX11_ready_32 rfl 2 rfl ?_
        refine s_ishl hF dX11_ready_33 ?_
        refine s_ior hF dX11_ready_34 ?_
        refine s_istore_n (pls' := [(2, .int (l2 ||| ((1 : Int32) <<< (l3 &&& 31)))), (0, .ref l0), (3, .int l3)]) hF dX11_ready_35 rfl (by decide) rfl ?_
        refine s_iinc (v := (l3 + (1 : Int32))) (pls' := [(3, .int (l3 + (1 : Int32))), (2, .int (l2 ||| ((1 : Int32) <<< (l3 &&& 31)))), (0, .ref l0)]) hF dX11_ready_36 2 rfl rfl (by decide) rfl ?_
        refine s_goto (tgt := 4) hF dX11_ready_39 rfl ?_
        refine s_sub [2, 1, 0] rfl ?_
        exact ih l0 (l2 ||| ((1 : Int32) <<< (l3 &&& 31))) (l3 + (1 : Int32)) _ (isK.mo f0 hm12)
theorem ctX11_ready  (l0 : Nat) (l1 : Int32) (μ : Mem) : ∀ (r : Int32) (μ' : Mem), LX11_ready l0 l1 μ = some (r, μ') → CtX yX11_ready cX11_ready 4 (some .int) 2 [.ref l0, .int l1] μ (encI r) μ' := by
  refine ct_enterX plX11 (Nat.le_of_ble_eq_true rfl) (fun F hF hD hI => ?_)
  unfold LX11_ready
  refine sim_gd (fun f0 => ?_)
  refine s_iconst (v := (0 : Int32)) hF dX11_ready_0 kI_0 ?_
  refine s_istore_n (pls' := [(2, .int (0 : Int32)), (0, .ref l0), (1, .int l1)]) hF dX11_ready_1 rfl (by decide) rfl ?_
  refine s_iconst (v := (0 : Int32)) hF dX11_ready_2 kI_0 ?_
  refine s_istore_n (pls' := [(3, .int (0 : Int32)), (2, .int (0 : Int32)), (0, .ref l0), (1, .int l1)]) hF dX11_ready_3 rfl (by decide) rfl ?_
  refine s_sub [2, 1, 0] rfl ?_
  exact sX11_ready_4 hF hD 100000 l0 (0 : Int32) (0 : Int32) _ f0
/- X11_latest by hand -/
theorem ctX11_alike  (l0 : Nat) (l1 : Int32) (l2 : Int32) (μ : Mem) : ∀ (r : (Nat ⊕ Int32)) (μ' : Mem), LX11_alike l0 l1 l2 μ = some (r, μ') → CtX yX11_alike cX11_alike 3 (some .boolean) 10 [.ref l0, .int l1, .int l2] μ ((encX encI) r) μ' := by
  refine ct_enterX plX11 (Nat.le_of_ble_eq_true rfl) (fun F hF hD hI => ?_)
  unfold LX11_alike
  refine sim_gd (fun f0 => ?_)
  refine s_aload_n hF dX11_alike_0 rfl 0 rfl ?_
  refine s_iload_n hF dX11_alike_1 rfl 1 rfl ?_
  refine s_tVv (st := []) (ci := 11) [.int l1] hF hD dX11_alike_2 cwX11_215 (Nat.le_of_ble_eq_true rfl) (Nat.le_of_ble_eq_true rfl) rfl rfl (Nat.le_of_ble_eq_true rfl) f0 rfl rfl (Nat.le_of_ble_eq_true rfl) (ctX11_needPen l0 l1 _) (fun r1 m2 hl3 hm4 => ?_)
  refine s_aload_n hF dX11_alike_5 rfl 0 rfl ?_
  refine s_iload_n hF dX11_alike_6 rfl 2 rfl ?_
  refine s_tVv (st := []) (ci := 11) [.int l2] hF hD dX11_alike_7 cwX11_215 (Nat.le_of_ble_eq_true rfl) (Nat.le_of_ble_eq_true rfl) rfl rfl (Nat.le_of_ble_eq_true rfl) (isK.mo f0 hm4) rfl rfl (Nat.le_of_ble_eq_true rfl) (ctX11_needPen l0 l2 _) (fun r7 m8 hl9 hm10 => ?_)
  refine s_aload_n hF dX11_alike_10 rfl 0 rfl ?_
  refine sim_gd (fun g13 => ?_)
  refine s_getR (x := (g_R m8 l0 3)) hF dX11_alike_11 flX11_33 (isK.mo (isK.mo f0 hm4) hm10) g13 rfl ?_
  refine sim_gd (fun g14 => ?_)
  refine sim_gd (fun g15 => ?_)
  refine s_getRq (x := (g_R m8 (g_R m8 l0 3) 0)) hF dX11_alike_14 fqX11_218 g14 g15 rfl ?_
  refine s_iload_n hF dX11_alike_17 rfl 1 rfl ?_
  refine sim_gd (fun g16 => ?_)
  refine sim_gd (fun g17 => ?_)
  refine s_aaload (x := (g_R m8 (g_R m8 (g_R m8 l0 3) 0) l1.toNatClampNeg)) hF dX11_alike_18 (by decide) (by decide) g16 g17 rfl ?_
  refine s_aload_n hF dX11_alike_19 rfl 0 rfl ?_
  refine s_getR (x := (g_R m8 l0 3)) hF dX11_alike_20 flX11_33 (isK.mo (isK.mo f0 hm4) hm10) g13 rfl ?_
  refine s_getRq (x := (g_R m8 (g_R m8 l0 3) 0)) hF dX11_alike_23 fqX11_218 g14 g15 rfl ?_
  refine s_iload_n hF dX11_alike_26 rfl 2 rfl ?_
  refine sim_gd (fun g18 => ?_)
  refine sim_gd (fun g19 => ?_)
  refine s_aaload (x := (g_R m8 (g_R m8 (g_R m8 l0 3) 0) l2.toNatClampNeg)) hF dX11_alike_27 (by decide) (by decide) g18 g19 rfl ?_
  refine sim_gd (fun g26 => ?_)
  refine s_xVi (st := []) (ci := 5) [.ref (g_R m8 (g_R m8 (g_R m8 l0 3) 0) l2.toNatClampNeg)] hF hD dX11_alike_28 cwX11_345 (Nat.le_of_ble_eq_true rfl) (Nat.le_of_ble_eq_true rfl) rfl rfl (Nat.le_of_ble_eq_true rfl) g26 rfl rfl (Nat.le_of_ble_eq_true rfl) (ctX5_isLike (g_R m8 (g_R m8 (g_R m8 l0 3) 0) l1.toNatClampNeg) (g_R m8 (g_R m8 (g_R m8 l0 3) 0) l2.toNatClampNeg) _) (fun r20 m21 hl22 hm23 => ?_)
  refine sim_gd (fun g27 => ?_)
  exact s_zretX hF hD dX11_alike_31 rfl (nar_z g27)
theorem sX11_chained_12 {F : Option Fx} (hF : FxO F RX11 cX11_chained 4 10) (hD : FxXO F (some .int)) : ∀ (fu : Nat) (l0 : Nat) (l1 : Int32) (l2 : Int32) (l3 : Int32) (μ : Mem) (f0 : isK μ l0 11 = true), Sim F (encX encI) 12 [(0, .ref l0), (1, .int l1), (2, .int l2), (3, .int l3)] [] μ (mX11_chained_12 fu l0 l1 l2 l3 μ) := by
  intro fu
  induction fu with
  | zero =>
    intro l0 l1 l2 l3 μ f0
    exact sim_none
  | succ fu ih =>
    intro l0 l1 l2 l3 μ f0
    rw [mX11_chained_12]
    refine s_iload_n hF dX11_chained_12 rfl 3 rfl ?_
    refine s_aload_n hF dX11_chained_13 rfl 0 rfl ?_
    refine sim_gd (fun g7 => ?_)
    refine s_getR (x := (g_R μ l0 13)) hF dX11_chained_14 flX11_88 f0 g7 rfl ?_
    refine sim_gd (fun g8 => ?_)
    refine s_getIq (x := (g_I μ (g_R μ l0 13) 1)) hF dX11_chained_17 fqX11_176 g8 rfl ?_
    refine s_icmp_ge (tgt := 56) hF dX11_chained_20 rfl (fun c9 => ?_) (fun c9 => ?_)
    · refine s_iload_n hF dX11_chained_56 rfl 2 rfl ?_
      exact s_iretX hF hD dX11_chained_57 rfl
    · refine s_aload_n hF dX11_chained_23 rfl 0 rfl ?_
      refine sim_gd (fun g10 => ?_)
      refine s_getR (x := (g_R μ l0 3)) hF dX11_chained_24 flX11_33 f0 g10 rfl ?_
      refine sim_gd (fun g11 => ?_)
      refine sim_gd (fun g12 => ?_)
      refine s_getRq (x := (g_R μ (g_R μ l0 3) 0)) hF dX11_chained_27 fqX11_218 g11 g12 rfl ?_
      refine s_aload_n hF dX11_chained_30 rfl 0 rfl ?_
      refine s_getR (x := (g_R μ l0 13)) hF dX11_chained_31 flX11_88 f0 g7 rfl ?_
      refine sim_gd (fun g13 => ?_)
      refine s_getRq (x := (g_R μ (g_R μ l0 13) 0)) hF dX11_chained_34 fqX11_348 g8 g13 rfl ?_
      refine s_iload_n hF dX11_chained_37 rfl 3 rfl ?_
      refine sim_gd (fun g14 => ?_)
      refine s_iaload (x := (g_I μ (g_R μ (g_R μ l0 13) 0) l3.toNatClampNeg)) hF dX11_chained_38 g14 rfl ?_
      refine sim_gd (fun g15 => ?_)
      refine sim_gd (fun g16 => ?_)
      refine s_aaload (x := (g_R μ (g_R μ (g_R μ l0 3) 0) (g_I μ (g_R μ (g_R μ l0 13) 0) l3.toNatClampNeg).toNatClampNeg)) hF dX11_chained_39 (by decide) (by decide) g15 g16 rfl ?_
      refine sim_gd (fun g17 => ?_)
      refine s_getIq (x := (g_I μ (g_R μ (g_R μ (g_R μ l0 3) 0) (g_I μ (g_R μ (g_R μ l0 13) 0) l3.toNatClampNeg).toNatClampNeg) 0)) hF dX11_chained_40 fqX11_221 g17 rfl ?_
      refine s_iload_n hF dX11_chained_43 rfl 1 rfl ?_
      refine s_icmp_ne (tgt := 50) hF dX11_chained_44 rfl (fun c18 => ?_) (fun c18 => ?_)
      · refine s_iinc (v := (l2 + (1 : Int32))) (pls' := [(2, .int (l2 + (1 : Int32))), (0, .ref l0), (1, .int l1), (3, .int l3)]) hF dX11_chained_47 2 rfl rfl (by decide) rfl ?_
        refine s_iinc (v := (l3 + (1 : Int32))) (pls' := [(3, .int (l3 + (1 : Int32))), (2, .int (l2 + (1 : Int32))), (0, .ref l0), (1, .int l1)]) hF dX11_chained_50 3 rfl rfl (by decide) rfl ?_
        refine s_goto (tgt := 12) hF dX11_chained_53 rfl ?_
        refine s_sub [2, 3, 1, 0] rfl ?_
        exact ih l0 l1 (l2 + (1 : Int32)) (l3 + (1 : Int32)) _ f0
      · refine s_iinc (v := (l3 + (1 : Int32))) (pls' := [(3, .int (l3 + (1 : Int32))), (0, .ref l0), (1, .int l1), (2, .int l2)]) hF dX11_chained_50 3 rfl rfl (by decide) rfl ?_
        refine s_goto (tgt := 12) hF dX11_chained_53 rfl ?_
        refine s_sub [1, 2, 3, 0] rfl ?_
        exact ih l0 l1 l2 (l3 + (1 : Int32)) _ f0
theorem ctX11_chained  (l0 : Nat) (l1 : Int32) (μ : Mem) : ∀ (r : (Nat ⊕ Int32)) (μ' : Mem), LX11_chained l0 l1 μ = some (r, μ') → CtX yX11_chained cX11_chained 4 (some .int) 10 [.ref l0, .int l1] μ ((encX encI) r) μ' := by
  refine ct_enterX plX11 (Nat.le_of_ble_eq_true rfl) (fun F hF hD hI => ?_)
  unfold LX11_chained
  refine sim_gd (fun f0 => ?_)
  refine s_aload_n hF dX11_chained_0 rfl 0 rfl ?_
  refine s_iload_n hF dX11_chained_1 rfl 1 rfl ?_
  refine s_iconst (v := (0 : Int32)) hF dX11_chained_2 kI_0 ?_
  refine s_bipush (v := (7 : Int32)) hF dX11_chained_3 kB_7 ?_
  refine s_tVv (st := []) (ci := 11) [.int l1, .int (0 : Int32), .int (7 : Int32)] hF hD dX11_chained_5 cwX11_189 (Nat.le_of_ble_eq_true rfl) (Nat.le_of_ble_eq_true rfl) rfl rfl (Nat.le_of_ble_eq_true rfl) f0 rfl rfl (Nat.le_of_ble_eq_true rfl) (ctX11_needWithin l0 l1 (0 : Int32) (7 : Int32) _) (fun r1 m2 hl3 hm4 => ?_)
  refine s_iconst (v := (0 : Int32)) hF dX11_chained_8 kI_0 ?_
  refine s_istore_n (pls' := [(2, .int (0 : Int32)), (0, .ref l0), (1, .int l1)]) hF dX11_chained_9 rfl (by decide) rfl ?_
  refine s_iconst (v := (0 : Int32)) hF dX11_chained_10 kI_0 ?_
  refine s_istore_n (pls' := [(3, .int (0 : Int32)), (2, .int (0 : Int32)), (0, .ref l0), (1, .int l1)]) hF dX11_chained_11 rfl (by decide) rfl ?_
  refine s_sub [2, 3, 1, 0] rfl ?_
  exact sX11_chained_12 hF hD 100000 l0 l1 (0 : Int32) (0 : Int32) _ (isK.mo f0 hm4)
theorem sX11_liar_61 {F : Option Fx} (q15 : Nat → Int32 → Int32 → Int32 → Int32 → Int32 → Mem → Option ((Nat ⊕ Int32) × Mem)) (hF : FxO F RX11 cX11_liar 8 10) (hD : FxXO F (some .int)) (hq15 : ∀ (l0 : Nat) (l1 : Int32) (l2 : Int32) (l3 : Int32) (l4 : Int32) (l5 : Int32) (μ : Mem) (_ : isK μ l0 11 = true), Sim F (encX encI) 15 [(0, .ref l0), (1, .int l1), (2, .int l2), (3, .int l3), (4, .int l4), (5, .int l5)] [] μ (q15 l0 l1 l2 l3 l4 l5 μ)) (l0 : Nat) (l1 : Int32) (l2 : Int32) (l3 : Int32) (l4 : Int32) (l5 : Int32) (k0 : Int32) (μ : Mem) (f0 : isK μ l0 11 = true) : Sim F (encX encI) 61 [(0, .ref l0), (1, .int l1), (2, .int l2), (3, .int l3), (4, .int l4), (5, .int l5)] [.int k0] μ (mX11_liar_61 q15 l0 l1 l2 l3 l4 l5 k0 μ) := by
  unfold mX11_liar_61
  refine s_istore (pls' := [(7, .int k0), (0, .ref l0), (1, .int l1), (2, .int l2), (3, .int l3), (4, .int l4), (5, .int l5)]) hF dX11_liar_61 (by decide) rfl ?_
  refine s_iload hF dX11_liar_63 0 rfl ?_
  refine s_iload hF dX11_liar_65 5 rfl ?_
  refine s_icmp_le (tgt := 77) hF dX11_liar_67 rfl (fun c36 => ?_) (fun c36 => ?_)
  · refine s_iinc (v := (l5 + (1 : Int32))) (pls' := [(5, .int (l5 + (1 : Int32))), (7, .int k0), (0, .ref l0), (1, .int l1), (2, .int l2), (3, .int l3), (4, .int l4)]) hF dX11_liar_77 6 rfl rfl (by decide) rfl ?_
    refine s_goto (tgt := 15) hF dX11_liar_80 rfl ?_
    refine s_sub [2, 3, 4, 5, 6, 0] rfl ?_
    exact hq15 l0 l1 l2 l3 l4 (l5 + (1 : Int32)) _ f0
  · refine s_iload hF dX11_liar_70 0 rfl ?_
    refine s_istore (pls' := [(4, .int k0), (7, .int k0), (0, .ref l0), (1, .int l1), (2, .int l2), (3, .int l3), (5, .int l5)]) hF dX11_liar_72 (by decide) rfl ?_
    refine s_iload hF dX11_liar_74 6 rfl ?_
    refine s_istore_n (pls' := [(3, .int l5), (4, .int k0), (7, .int k0), (0, .ref l0), (1, .int l1), (2, .int l2), (5, .int l5)]) hF dX11_liar_76 rfl (by decide) rfl ?_
    refine s_iinc (v := (l5 + (1 : Int32))) (pls' := [(5, .int (l5 + (1 : Int32))), (3, .int l5), (4, .int k0), (7, .int k0), (0, .ref l0), (1, .int l1), (2, .int l2)]) hF dX11_liar_77 6 rfl rfl (by decide) rfl ?_
    refine s_goto (tgt := 15) hF dX11_liar_80 rfl ?_
    refine s_sub [4, 5, 6, 1, 2, 0] rfl ?_
    exact hq15 l0 l1 l2 l5 k0 (l5 + (1 : Int32)) _ f0
theorem sX11_liar_15 {F : Option Fx} (hF : FxO F RX11 cX11_liar 8 10) (hD : FxXO F (some .int)) : ∀ (fu : Nat) (l0 : Nat) (l1 : Int32) (l2 : Int32) (l3 : Int32) (l4 : Int32) (l5 : Int32) (μ : Mem) (f0 : isK μ l0 11 = true), Sim F (encX encI) 15 [(0, .ref l0), (1, .int l1), (2, .int l2), (3, .int l3), (4, .int l4), (5, .int l5)] [] μ (mX11_liar_15 fu l0 l1 l2 l3 l4 l5 μ) := by
  intro fu
  induction fu with
  | zero =>
    intro l0 l1 l2 l3 l4 l5 μ f0
    exact sim_none
  | succ fu ih =>
    intro l0 l1 l2 l3 l4 l5 μ f0
    rw [mX11_liar_15]
    refine s_iload hF dX11_liar_15 5 rfl ?_
    refine s_aload_n hF dX11_liar_17 rfl 0 rfl ?_
    refine sim_gd (fun g7 => ?_)
    refine s_getR (x := (g_R μ l0 9)) hF dX11_liar_18 flX11_68 f0 g7 rfl ?_
    refine sim_gd (fun g8 => ?_)
    refine s_getIq (x := (g_I μ (g_R μ l0 9) 0)) hF dX11_liar_21 fqX11_144 g8 rfl ?_
    refine s_icmp_ge (tgt := 83) hF dX11_liar_24 rfl (fun c9 => ?_) (fun c9 => ?_)
    · refine s_iload_n hF dX11_liar_83 rfl 2 rfl ?_
      refine s_if_ne (tgt := 91) hF dX11_liar_84 rfl (fun c10 => ?_) (fun c10 => ?_)
      · refine s_iload_n hF dX11_liar_87 rfl 3 rfl ?_
        refine s_goto (tgt := 93) hF dX11_liar_88 rfl ?_
        exact s_iretX hF hD dX11_liar_93 rfl
      · refine s_iload hF dX11_liar_91 4 rfl ?_
        exact s_iretX hF hD dX11_liar_93 rfl
    · refine s_aload_n hF dX11_liar_27 rfl 0 rfl ?_
      refine sim_gd (fun g11 => ?_)
      refine s_getR (x := (g_R μ l0 3)) hF dX11_liar_28 flX11_33 f0 g11 rfl ?_
      refine sim_gd (fun g12 => ?_)
      refine sim_gd (fun g13 => ?_)
      refine s_getRq (x := (g_R μ (g_R μ l0 3) 0)) hF dX11_liar_31 fqX11_218 g12 g13 rfl ?_
      refine s_iload hF dX11_liar_34 5 rfl ?_
      refine sim_gd (fun g14 => ?_)
      refine sim_gd (fun g15 => ?_)
      refine s_aaload (x := (g_R μ (g_R μ (g_R μ l0 3) 0) l5.toNatClampNeg)) hF dX11_liar_36 (by decide) (by decide) g14 g15 rfl ?_
      refine sim_gd (fun g16 => ?_)
      refine s_astore (pls' := [(6, .ref (g_R μ (g_R μ (g_R μ l0 3) 0) l5.toNatClampNeg)), (0, .ref l0), (1, .int l1), (2, .int l2), (3, .int l3), (4, .int l4), (5, .int l5)]) hF dX11_liar_37 (by decide) rfl ?_
      refine s_aload hF dX11_liar_39 0 rfl ?_
      refine s_xVi (st := []) (ci := 5) [] hF hD dX11_liar_41 cwX11_256 (Nat.le_of_ble_eq_true rfl) (Nat.le_of_ble_eq_true rfl) rfl rfl (Nat.le_of_ble_eq_true rfl) g16 rfl rfl (Nat.le_of_ble_eq_true rfl) (ctX5_jams (g_R μ (g_R μ (g_R μ l0 3) 0) l5.toNatClampNeg) _) (fun r17 m18 hl19 hm20 => ?_)
      refine s_if_eq (tgt := 51) hF dX11_liar_44 rfl (fun c23 => ?_) (fun c23 => ?_)
      · refine s_iload_n hF dX11_liar_51 rfl 2 rfl ?_
        refine s_aload hF dX11_liar_52 0 rfl ?_
        refine s_iload_n hF dX11_liar_54 rfl 2 rfl ?_
        refine s_xVi (st := [.int l1]) (ci := 5) [.int l1] hF hD dX11_liar_55 cwX11_262 (Nat.le_of_ble_eq_true rfl) (Nat.le_of_ble_eq_true rfl) rfl rfl (Nat.le_of_ble_eq_true rfl) (isK.mo g16 hm20) rfl rfl (Nat.le_of_ble_eq_true rfl) (ctX5_outOf (g_R μ (g_R μ (g_R μ l0 3) 0) l5.toNatClampNeg) l1 _) (fun r24 m25 hl26 hm27 => ?_)
        refine s_xSi (st := []) [.int l1, .int r24] hF hD dX11_liar_58 cwX11_289 (Nat.le_of_ble_eq_true rfl) (Nat.le_of_ble_eq_true rfl) rfl rfl (Nat.le_of_ble_eq_true rfl) (ctX11_distance l1 r24 _) (fun r30 m31 hl32 hm33 => ?_)
        refine s_sub [1, 2, 3, 4, 5, 6] rfl ?_
        exact sX11_liar_61 (fun l0 l1 l2 l3 l4 l5 μ => mX11_liar_15 fu l0 l1 l2 l3 l4 l5 μ) hF hD ih l0 l1 l2 l3 l4 l5 r30 _ (isK.mo (isK.mo (isK.mo f0 hm20) hm27) hm33)
      · refine s_iconst (v := (-1 : Int32)) hF dX11_liar_47 kI_m1 ?_
        refine s_goto (tgt := 61) hF dX11_liar_48 rfl ?_
        refine s_sub [1, 2, 3, 4, 5, 6] rfl ?_
        exact sX11_liar_61 (fun l0 l1 l2 l3 l4 l5 μ => mX11_liar_15 fu l0 l1 l2 l3 l4 l5 μ) hF hD ih l0 l1 l2 l3 l4 l5 (-1 : Int32) _ (isK.mo f0 hm20)
theorem ctX11_liar  (l0 : Nat) (l1 : Int32) (l2 : Int32) (μ : Mem) : ∀ (r : (Nat ⊕ Int32)) (μ' : Mem), LX11_liar l0 l1 l2 μ = some (r, μ') → CtX yX11_liar cX11_liar 8 (some .int) 10 [.ref l0, .int l1, .int l2] μ ((encX encI) r) μ' := by
  refine ct_enterX plX11 (Nat.le_of_ble_eq_true rfl) (fun F hF hD hI => ?_)
  unfold LX11_liar
  refine sim_gd (fun f0 => ?_)
  refine s_aload_n hF dX11_liar_0 rfl 0 rfl ?_
  refine s_iload_n hF dX11_liar_1 rfl 2 rfl ?_
  refine s_iconst (v := (0 : Int32)) hF dX11_liar_2 kI_0 ?_
  refine s_iconst (v := (1 : Int32)) hF dX11_liar_3 kI_1 ?_
  refine s_tVv (st := []) (ci := 11) [.int l2, .int (0 : Int32), .int (1 : Int32)] hF hD dX11_liar_4 cwX11_189 (Nat.le_of_ble_eq_true rfl) (Nat.le_of_ble_eq_true rfl) rfl rfl (Nat.le_of_ble_eq_true rfl) f0 rfl rfl (Nat.le_of_ble_eq_true rfl) (ctX11_needWithin l0 l2 (0 : Int32) (1 : Int32) _) (fun r1 m2 hl3 hm4 => ?_)
  refine s_iconst (v := (-1 : Int32)) hF dX11_liar_7 kI_m1 ?_
  refine s_istore_n (pls' := [(3, .int (-1 : Int32)), (0, .ref l0), (1, .int l1), (2, .int l2)]) hF dX11_liar_8 rfl (by decide) rfl ?_
  refine s_iconst (v := (-1 : Int32)) hF dX11_liar_9 kI_m1 ?_
  refine s_istore (pls' := [(4, .int (-1 : Int32)), (3, .int (-1 : Int32)), (0, .ref l0), (1, .int l1), (2, .int l2)]) hF dX11_liar_10 (by decide) rfl ?_
  refine s_iconst (v := (0 : Int32)) hF dX11_liar_12 kI_0 ?_
  refine s_istore (pls' := [(5, .int (0 : Int32)), (4, .int (-1 : Int32)), (3, .int (-1 : Int32)), (0, .ref l0), (1, .int l1), (2, .int l2)]) hF dX11_liar_13 (by decide) rfl ?_
  refine s_sub [3, 4, 5, 2, 1, 0] rfl ?_
  exact sX11_liar_15 hF hD 100000 l0 l1 l2 (-1 : Int32) (-1 : Int32) (0 : Int32) _ (isK.mo f0 hm4)
theorem sX11_reach_20 {F : Option Fx} (q11 : Nat → Int32 → Int32 → Mem → Option ((Nat ⊕ Int32) × Mem)) (hF : FxO F RX11 cX11_reach 5 10) (hD : FxXO F (some .int)) (hq11 : ∀ (l0 : Nat) (l2 : Int32) (l3 : Int32) (μ : Mem) (_ : isK μ l0 11 = true), Sim F (encX encI) 11 [(0, .ref l0), (2, .int l2), (3, .int l3)] [] μ (q11 l0 l2 l3 μ)) : ∀ (fu : Nat) (l0 : Nat) (l2 : Int32) (l3 : Int32) (l4 : Int32) (μ : Mem) (f0 : isK μ l0 11 = true), Sim F (encX encI) 20 [(0, .ref l0), (2, .int l2), (3, .int l3), (4, .int l4)] [] μ (mX11_reach_20 q11 fu l0 l2 l3 l4 μ) := by
  intro fu
  induction fu with
  | zero =>
    intro l0 l2 l3 l4 μ f0
    exact sim_none
  | succ fu ih =>
    intro l0 l2 l3 l4 μ f0
    rw [mX11_reach_20]
    refine s_iload hF dX11_reach_20 3 rfl ?_
    refine s_aload_n hF dX11_reach_22 rfl 0 rfl ?_
    refine sim_gd (fun g8 => ?_)
    refine s_getR (x := (g_R μ l0 9)) hF dX11_reach_23 flX11_68 f0 g8 rfl ?_
    refine sim_gd (fun g9 => ?_)
    refine s_getIq (x := (g_I μ (g_R μ l0 9) 4)) hF dX11_reach_26 fqX11_193 g9 rfl ?_
    refine s_icmp_ge (tgt := 70) hF dX11_reach_29 rfl (fun c10 => ?_) (fun c10 => ?_)
    · refine s_iinc (v := (l3 + (1 : Int32))) (pls' := [(3, .int (l3 + (1 : Int32))), (0, .ref l0), (2, .int l2), (4, .int l4)]) hF dX11_reach_70 2 rfl rfl (by decide) rfl ?_
      refine s_goto (tgt := 11) hF dX11_reach_73 rfl ?_
      refine s_sub [1, 2, 0] rfl ?_
      exact hq11 l0 l2 (l3 + (1 : Int32)) _ f0
    · refine s_iload_n hF dX11_reach_32 rfl 1 rfl ?_
      refine s_aload_n hF dX11_reach_33 rfl 0 rfl ?_
      refine s_getR (x := (g_R μ l0 9)) hF dX11_reach_34 flX11_68 f0 g8 rfl ?_
      refine sim_gd (fun g11 => ?_)
      refine s_getRq (x := (g_R μ (g_R μ l0 9) 5)) hF dX11_reach_37 fqX11_244 g9 g11 rfl ?_
      refine s_iload hF dX11_reach_40 3 rfl ?_
      refine sim_gd (fun g12 => ?_)
      refine s_iaload (x := (g_I μ (g_R μ (g_R μ l0 9) 5) l4.toNatClampNeg)) hF dX11_reach_42 g12 rfl ?_
      refine s_ishr hF dX11_reach_43 ?_
      refine s_iconst (v := (1 : Int32)) hF dX11_reach_44 kI_1 ?_
      refine s_iand hF dX11_reach_45 ?_
      refine s_if_eq (tgt := 64) hF dX11_reach_46 rfl (fun c13 => ?_) (fun c13 => ?_)
      · refine s_iinc (v := (l4 + (1 : Int32))) (pls' := [(4, .int (l4 + (1 : Int32))), (0, .ref l0), (2, .int l2), (3, .int l3)]) hF dX11_reach_64 3 rfl rfl (by decide) rfl ?_
        refine s_goto (tgt := 20) hF dX11_reach_67 rfl ?_
        refine s_sub [1, 2, 3, 0] rfl ?_
        exact ih l0 l2 l3 (l4 + (1 : Int32)) _ f0
      · refine s_iload_n hF dX11_reach_49 rfl 1 rfl ?_
        refine s_iconst (v := (1 : Int32)) hF dX11_reach_50 kI_1 ?_
        refine s_aload_n hF dX11_reach_51 rfl 0 rfl ?_
        refine s_getR (x := (g_R μ l0 9)) hF dX11_reach_52 flX11_68 f0 g8 rfl ?_
        refine sim_gd (fun g14 => ?_)
        refine s_getRq (x := (g_R μ (g_R μ l0 9) 6)) hF dX11_reach_55 fqX11_247 g9 g14 rfl ?_
        refine s_iload hF dX11_reach_58 3 rfl ?_
        refine sim_gd (fun g15 => ?_)
        refine s_iaload (x := (g_I μ (g_R μ (g_R μ l0 9) 6) l4.toNatClampNeg)) hF dX11_reach_60 g15 rfl ?_
        refine s_ishl hF dX11_reach_61 ?_
        refine s_ior hF dX11_reach_62 ?_
        refine s_istore_n (pls' := [(2, .int (l2 ||| ((1 : Int32) <<< ((g_I μ (g_R μ (g_R μ l0 9) 6) l4.toNatClampNeg) &&& 31)))), (0, .ref l0), (3, .int l3), (4, .int l4)]) hF dX11_reach_63 rfl (by decide) rfl ?_
        refine s_iinc (v := (l4 + (1 : Int32))) (pls' := [(4, .int (l4 + (1 : Int32))), (2, .int (l2 ||| ((1 : Int32) <<< ((g_I μ (g_R μ (g_R μ l0 9) 6) l4.toNatClampNeg) &&& 31)))), (0, .ref l0), (3, .int l3)]) hF dX11_reach_64 3 rfl rfl (by decide) rfl ?_
        refine s_goto (tgt := 20) hF dX11_reach_67 rfl ?_
        refine s_sub [2, 1, 3, 0] rfl ?_
        exact ih l0 (l2 ||| ((1 : Int32) <<< ((g_I μ (g_R μ (g_R μ l0 9) 6) l4.toNatClampNeg) &&& 31))) l3 (l4 + (1 : Int32)) _ f0
theorem sX11_reach_11 {F : Option Fx} (hF : FxO F RX11 cX11_reach 5 10) (hD : FxXO F (some .int)) : ∀ (fu : Nat) (l0 : Nat) (l2 : Int32) (l3 : Int32) (μ : Mem) (f0 : isK μ l0 11 = true), Sim F (encX encI) 11 [(0, .ref l0), (2, .int l2), (3, .int l3)] [] μ (mX11_reach_11 fu l0 l2 l3 μ) := by
  intro fu
  induction fu with
  | zero =>
    intro l0 l2 l3 μ f0
    exact sim_none
  | succ fu ih =>
    intro l0 l2 l3 μ f0
    rw [mX11_reach_11]
    refine s_iload_n hF dX11_reach_11 rfl 2 rfl ?_
    refine s_bipush (v := (8 : Int32)) hF dX11_reach_12 kB_8 ?_
    refine s_icmp_ge (tgt := 76) hF dX11_reach_14 rfl (fun c7 => ?_) (fun c7 => ?_)
    · refine s_iload_n hF dX11_reach_76 rfl 1 rfl ?_
      exact s_iretX hF hD dX11_reach_77 rfl
    · refine s_iconst (v := (0 : Int32)) hF dX11_reach_17 kI_0 ?_
      refine s_istore (pls' := [(4, .int (0 : Int32)), (0, .ref l0), (2, .int l2), (3, .int l3)]) hF dX11_reach_18 (by decide) rfl ?_
      refine s_sub [1, 2, 3, 0] rfl ?_
      exact sX11_reach_20 (fun l0 l2 l3 μ => mX11_reach_11 fu l0 l2 l3 μ) hF hD ih 100000 l0 l2 l3 (0 : Int32) _ f0
theorem ctX11_reach  (l0 : Nat) (l1 : Int32) (μ : Mem) : ∀ (r : (Nat ⊕ Int32)) (μ' : Mem), LX11_reach l0 l1 μ = some (r, μ') → CtX yX11_reach cX11_reach 5 (some .int) 10 [.ref l0, .int l1] μ ((encX encI) r) μ' := by
  refine ct_enterX plX11 (Nat.le_of_ble_eq_true rfl) (fun F hF hD hI => ?_)
  unfold LX11_reach
  refine sim_gd (fun f0 => ?_)
  refine s_aload_n hF dX11_reach_0 rfl 0 rfl ?_
  refine s_iload_n hF dX11_reach_1 rfl 1 rfl ?_
  refine s_tVv (st := []) (ci := 11) [.int l1] hF hD dX11_reach_2 cwX11_215 (Nat.le_of_ble_eq_true rfl) (Nat.le_of_ble_eq_true rfl) rfl rfl (Nat.le_of_ble_eq_true rfl) f0 rfl rfl (Nat.le_of_ble_eq_true rfl) (ctX11_needPen l0 l1 _) (fun r1 m2 hl3 hm4 => ?_)
  refine s_iconst (v := (1 : Int32)) hF dX11_reach_5 kI_1 ?_
  refine s_iload_n hF dX11_reach_6 rfl 1 rfl ?_
  refine s_ishl hF dX11_reach_7 ?_
  refine s_istore_n (pls' := [(2, .int ((1 : Int32) <<< (l1 &&& 31))), (0, .ref l0), (1, .int l1)]) hF dX11_reach_8 rfl (by decide) rfl ?_
  refine s_iconst (v := (0 : Int32)) hF dX11_reach_9 kI_0 ?_
  refine s_istore_n (pls' := [(3, .int (0 : Int32)), (2, .int ((1 : Int32) <<< (l1 &&& 31))), (0, .ref l0), (1, .int l1)]) hF dX11_reach_10 rfl (by decide) rfl ?_
  refine s_sub [2, 1, 0] rfl ?_
  exact sX11_reach_11 hF hD 100000 l0 ((1 : Int32) <<< (l1 &&& 31)) (0 : Int32) _ (isK.mo f0 hm4)
theorem sX11_room_4 {F : Option Fx} (hF : FxO F RX11 cX11_room 3 1) (hD : FxXO F (some .int)) : ∀ (fu : Nat) (l0 : Nat) (l1 : Int32) (l2 : Int32) (μ : Mem) (f0 : isK μ l0 11 = true), Sim F encI 4 [(0, .ref l0), (1, .int l1), (2, .int l2)] [] μ (mX11_room_4 fu l0 l1 l2 μ) := by
  intro fu
  induction fu with
  | zero =>
    intro l0 l1 l2 μ f0
    exact sim_none
  | succ fu ih =>
    intro l0 l1 l2 μ f0
    rw [mX11_room_4]
    refine s_iload_n hF dX11_room_4 rfl 2 rfl ?_
    refine s_aload_n hF dX11_room_5 rfl 0 rfl ?_
    refine sim_gd (fun g1 => ?_)
    refine s_getR (x := (g_R μ l0 9)) hF dX11_room_6 flX11_68 f0 g1 rfl ?_
    refine sim_gd (fun g2 => ?_)
    refine s_getIq (x := (g_I μ (g_R μ l0 9) 0)) hF dX11_room_9 fqX11_144 g2 rfl ?_
    refine s_icmp_ge (tgt := 36) hF dX11_room_12 rfl (fun c3 => ?_) (fun c3 => ?_)
    · refine s_iload_n hF dX11_room_36 rfl 1 rfl ?_
      exact s_iretX hF hD dX11_room_37 rfl
    · refine s_iload_n hF dX11_room_15 rfl 1 rfl ?_
      refine s_aload_n hF dX11_room_16 rfl 0 rfl ?_
      refine sim_gd (fun g4 => ?_)
      refine s_getR (x := (g_R μ l0 3)) hF dX11_room_17 flX11_33 f0 g4 rfl ?_
      refine sim_gd (fun g5 => ?_)
      refine sim_gd (fun g6 => ?_)
      refine s_getRq (x := (g_R μ (g_R μ l0 3) 0)) hF dX11_room_20 fqX11_218 g5 g6 rfl ?_
      refine s_iload_n hF dX11_room_23 rfl 2 rfl ?_
      refine sim_gd (fun g7 => ?_)
      refine sim_gd (fun g8 => ?_)
      refine s_aaload (x := (g_R μ (g_R μ (g_R μ l0 3) 0) l2.toNatClampNeg)) hF dX11_room_24 (by decide) (by decide) g7 g8 rfl ?_
      refine sim_gd (fun g15 => ?_)
      refine s_xVi (st := [.int l1]) (ci := 5) [] hF hD dX11_room_25 cwX11_350 (Nat.le_of_ble_eq_true rfl) (Nat.le_of_ble_eq_true rfl) rfl rfl (Nat.le_of_ble_eq_true rfl) g15 rfl rfl (Nat.le_of_ble_eq_true rfl) (ctX5_freePlaces (g_R μ (g_R μ (g_R μ l0 3) 0) l2.toNatClampNeg) _) (fun r9 m10 hl11 hm12 => ?_)
      refine s_iadd hF dX11_room_28 ?_
      refine s_istore_n (pls' := [(1, .int (l1 + r9)), (0, .ref l0), (2, .int l2)]) hF dX11_room_29 rfl (by decide) rfl ?_
      refine s_iinc (v := (l2 + (1 : Int32))) (pls' := [(2, .int (l2 + (1 : Int32))), (1, .int (l1 + r9)), (0, .ref l0)]) hF dX11_room_30 2 rfl rfl (by decide) rfl ?_
      refine s_goto (tgt := 4) hF dX11_room_33 rfl ?_
      refine s_sub [2, 1, 0] rfl ?_
      exact ih l0 (l1 + r9) (l2 + (1 : Int32)) _ (isK.mo f0 hm12)
theorem ctX11_room  (l0 : Nat) (μ : Mem) : ∀ (r : Int32) (μ' : Mem), LX11_room l0 μ = some (r, μ') → CtX yX11_room cX11_room 3 (some .int) 1 [.ref l0] μ (encI r) μ' := by
  refine ct_enterX plX11 (Nat.le_of_ble_eq_true rfl) (fun F hF hD hI => ?_)
  unfold LX11_room
  refine sim_gd (fun f0 => ?_)
  refine s_iconst (v := (0 : Int32)) hF dX11_room_0 kI_0 ?_
  refine s_istore_n (pls' := [(1, .int (0 : Int32)), (0, .ref l0)]) hF dX11_room_1 rfl (by decide) rfl ?_
  refine s_iconst (v := (0 : Int32)) hF dX11_room_2 kI_0 ?_
  refine s_istore_n (pls' := [(2, .int (0 : Int32)), (1, .int (0 : Int32)), (0, .ref l0)]) hF dX11_room_3 rfl (by decide) rfl ?_
  refine s_sub [2, 1, 0] rfl ?_
  exact sX11_room_4 hF hD 100000 l0 (0 : Int32) (0 : Int32) _ f0
theorem ctX11_season  (l0 : Nat) (l1 : Int32) (l2 : Int32) (l3 : Int32) (l4 : Int32) (μ : Mem) : ∀ (r : (Nat ⊕ Int32)) (μ' : Mem), LX11_season l0 l1 l2 l3 l4 μ = some (r, μ') → CtX yX11_season cX11_season 5 (some .int) 10 [.ref l0, .int l1, .int l2, .int l3, .int l4] μ ((encX encI) r) μ' := by
  refine ct_enterX plX11 (Nat.le_of_ble_eq_true rfl) (fun F hF hD hI => ?_)
  unfold LX11_season
  refine sim_gd (fun f0 => ?_)
  refine s_aload_n hF dX11_season_0 rfl 0 rfl ?_
  refine s_iload_n hF dX11_season_1 rfl 2 rfl ?_
  refine s_iconst (v := (1 : Int32)) hF dX11_season_2 kI_1 ?_
  refine s_bipush (v := (96 : Int32)) hF dX11_season_3 kB_96 ?_
  refine s_tVv (st := []) (ci := 11) [.int l2, .int (1 : Int32), .int (96 : Int32)] hF hD dX11_season_5 cwX11_189 (Nat.le_of_ble_eq_true rfl) (Nat.le_of_ble_eq_true rfl) rfl rfl (Nat.le_of_ble_eq_true rfl) f0 rfl rfl (Nat.le_of_ble_eq_true rfl) (ctX11_needWithin l0 l2 (1 : Int32) (96 : Int32) _) (fun r1 m2 hl3 hm4 => ?_)
  refine s_aload_n hF dX11_season_8 rfl 0 rfl ?_
  refine s_iload_n hF dX11_season_9 rfl 3 rfl ?_
  refine s_iconst (v := (0 : Int32)) hF dX11_season_10 kI_0 ?_
  refine s_bipush (v := (16 : Int32)) hF dX11_season_11 kB_16 ?_
  refine s_tVv (st := []) (ci := 11) [.int l3, .int (0 : Int32), .int (16 : Int32)] hF hD dX11_season_13 cwX11_189 (Nat.le_of_ble_eq_true rfl) (Nat.le_of_ble_eq_true rfl) rfl rfl (Nat.le_of_ble_eq_true rfl) (isK.mo f0 hm4) rfl rfl (Nat.le_of_ble_eq_true rfl) (ctX11_needWithin l0 l3 (0 : Int32) (16 : Int32) _) (fun r7 m8 hl9 hm10 => ?_)
  refine s_aload_n hF dX11_season_16 rfl 0 rfl ?_
  refine s_iload hF dX11_season_17 4 rfl ?_
  refine s_iconst (v := (0 : Int32)) hF dX11_season_19 kI_0 ?_
  refine s_iconst (v := (2 : Int32)) hF dX11_season_20 kI_2 ?_
  refine s_tVv (st := []) (ci := 11) [.int l4, .int (0 : Int32), .int (2 : Int32)] hF hD dX11_season_21 cwX11_189 (Nat.le_of_ble_eq_true rfl) (Nat.le_of_ble_eq_true rfl) rfl rfl (Nat.le_of_ble_eq_true rfl) (isK.mo (isK.mo f0 hm4) hm10) rfl rfl (Nat.le_of_ble_eq_true rfl) (ctX11_needWithin l0 l4 (0 : Int32) (2 : Int32) _) (fun r13 m14 hl15 hm16 => ?_)
  refine s_aload_n hF dX11_season_24 rfl 0 rfl ?_
  refine sim_gd (fun g19 => ?_)
  refine s_getR (x := (g_R m14 l0 4)) hF dX11_season_25 flX11_40 (isK.mo (isK.mo (isK.mo f0 hm4) hm10) hm16) g19 rfl ?_
  refine s_aload_n hF dX11_season_28 rfl 0 rfl ?_
  refine sim_gd (fun g20 => ?_)
  refine s_getR (x := (g_R m14 l0 3)) hF dX11_season_29 flX11_33 (isK.mo (isK.mo (isK.mo f0 hm4) hm10) hm16) g20 rfl ?_
  refine s_aload_n hF dX11_season_32 rfl 0 rfl ?_
  refine sim_gd (fun g21 => ?_)
  refine s_getR (x := (g_R m14 l0 9)) hF dX11_season_33 flX11_68 (isK.mo (isK.mo (isK.mo f0 hm4) hm10) hm16) g21 rfl ?_
  refine s_aload_n hF dX11_season_36 rfl 0 rfl ?_
  refine sim_gd (fun g22 => ?_)
  refine s_getR (x := (g_R m14 l0 11)) hF dX11_season_37 flX11_78 (isK.mo (isK.mo (isK.mo f0 hm4) hm10) hm16) g22 rfl ?_
  refine s_iload_n hF dX11_season_40 rfl 1 rfl ?_
  refine s_iload_n hF dX11_season_41 rfl 2 rfl ?_
  refine s_iload_n hF dX11_season_42 rfl 3 rfl ?_
  refine sim_gd (fun g29 => ?_)
  refine s_xVv (st := []) (ci := 7) [.ref (g_R m14 l0 3), .ref (g_R m14 l0 9), .ref (g_R m14 l0 11), .int l1, .int l2, .int l3] hF hD dX11_season_43 cwX11_353 (Nat.le_of_ble_eq_true rfl) (Nat.le_of_ble_eq_true rfl) rfl rfl (Nat.le_of_ble_eq_true rfl) g29 rfl rfl (Nat.le_of_ble_eq_true rfl) (ctX7_play (g_R m14 l0 4) (g_R m14 l0 3) (g_R m14 l0 9) (g_R m14 l0 11) l1 l2 l3 _) (fun r23 m24 hl25 hm26 => ?_)
  refine s_iload hF dX11_season_46 4 rfl ?_
  refine s_if_ne (tgt := 62) hF dX11_season_48 rfl (fun c30 => ?_) (fun c30 => ?_)
  · refine s_aload_n hF dX11_season_51 rfl 0 rfl ?_
    refine sim_gd (fun g31 => ?_)
    refine s_getR (x := (g_R m24 l0 4)) hF dX11_season_52 flX11_40 (isK.mo (isK.mo (isK.mo (isK.mo f0 hm4) hm10) hm16) hm26) g31 rfl ?_
    refine sim_gd (fun g32 => ?_)
    refine sim_gd (fun g33 => ?_)
    refine s_getRq (x := (g_R m24 (g_R m24 l0 4) 0)) hF dX11_season_55 fqX11_357 g32 g33 rfl ?_
    refine sim_gd (fun g34 => ?_)
    refine s_getIq (x := (g_I m24 (g_R m24 (g_R m24 l0 4) 0) 4)) hF dX11_season_58 fqX11_209 g34 rfl ?_
    exact s_iretX hF hD dX11_season_61 rfl
  · refine s_iload hF dX11_season_62 4 rfl ?_
    refine s_iconst (v := (1 : Int32)) hF dX11_season_64 kI_1 ?_
    refine s_icmp_ne (tgt := 81) hF dX11_season_65 rfl (fun c35 => ?_) (fun c35 => ?_)
    · refine s_aload_n hF dX11_season_68 rfl 0 rfl ?_
      refine sim_gd (fun g36 => ?_)
      refine s_getR (x := (g_R m24 l0 4)) hF dX11_season_69 flX11_40 (isK.mo (isK.mo (isK.mo (isK.mo f0 hm4) hm10) hm16) hm26) g36 rfl ?_
      refine sim_gd (fun g37 => ?_)
      refine sim_gd (fun g38 => ?_)
      refine s_getRq (x := (g_R m24 (g_R m24 l0 4) 0)) hF dX11_season_72 fqX11_357 g37 g38 rfl ?_
      refine sim_gd (fun g39 => ?_)
      refine s_getIq (x := (g_I m24 (g_R m24 (g_R m24 l0 4) 0) 3)) hF dX11_season_75 fqX11_206 g39 rfl ?_
      refine s_goto (tgt := 91) hF dX11_season_78 rfl ?_
      exact s_iretX hF hD dX11_season_91 rfl
    · refine s_aload_n hF dX11_season_81 rfl 0 rfl ?_
      refine sim_gd (fun g40 => ?_)
      refine s_getR (x := (g_R m24 l0 4)) hF dX11_season_82 flX11_40 (isK.mo (isK.mo (isK.mo (isK.mo f0 hm4) hm10) hm16) hm26) g40 rfl ?_
      refine sim_gd (fun g41 => ?_)
      refine sim_gd (fun g42 => ?_)
      refine s_getRq (x := (g_R m24 (g_R m24 l0 4) 0)) hF dX11_season_85 fqX11_357 g41 g42 rfl ?_
      refine sim_gd (fun g49 => ?_)
      refine s_xVi (st := []) (ci := 8) [] hF hD dX11_season_88 cwX11_203 (Nat.le_of_ble_eq_true rfl) (Nat.le_of_ble_eq_true rfl) rfl rfl (Nat.le_of_ble_eq_true rfl) g49 rfl rfl (Nat.le_of_ble_eq_true rfl) (ctX8_records (g_R m24 (g_R m24 l0 4) 0) _) (fun r43 m44 hl45 hm46 => ?_)
      exact s_iretX hF hD dX11_season_91 rfl
theorem sX11_span_63 {F : Option Fx} (hF : FxO F RX11 cX11_span 11 10) (hD : FxXO F (some .int)) : ∀ (fu : Nat) (l0 : Nat) (l1 : Int32) (l2 : Int32) (l3 : Int32) (l4 : Int32) (l5 : Int32) (l6 : Int32) (l7 : Int32) (l8 : Int32) (l9 : Int32) (l10 : Int32) (μ : Mem) (f0 : isK μ l0 11 = true), Sim F (encX encI) 63 [(0, .ref l0), (1, .int l1), (2, .int l2), (3, .int l3), (4, .int l4), (5, .int l5), (6, .int l6), (7, .int l7), (8, .int l8), (9, .int l9), (10, .int l10)] [] μ (mX11_span_63 fu l0 l1 l2 l3 l4 l5 l6 l7 l8 l9 l10 μ) := by
  intro fu
  induction fu with
  | zero =>
    intro l0 l1 l2 l3 l4 l5 l6 l7 l8 l9 l10 μ f0
    exact sim_none
  | succ fu ih =>
    intro l0 l1 l2 l3 l4 l5 l6 l7 l8 l9 l10 μ f0
    rw [mX11_span_63]
    refine s_iload hF dX11_span_63 10 rfl ?_
    refine s_iload_n hF dX11_span_65 rfl 2 rfl ?_
    refine s_icmp_ge (tgt := 164) hF dX11_span_66 rfl (fun c33 => ?_) (fun c33 => ?_)
    · refine s_iload hF dX11_span_164 5 rfl ?_
      refine s_if_ne (tgt := 172) hF dX11_span_166 rfl (fun c34 => ?_) (fun c34 => ?_)
      · refine s_iload hF dX11_span_169 7 rfl ?_
        exact s_iretX hF hD dX11_span_171 rfl
      · refine s_iload hF dX11_span_172 5 rfl ?_
        refine s_iconst (v := (1 : Int32)) hF dX11_span_174 kI_1 ?_
        refine s_icmp_ne (tgt := 183) hF dX11_span_175 rfl (fun c35 => ?_) (fun c35 => ?_)
        · refine s_iload hF dX11_span_178 8 rfl ?_
          refine s_goto (tgt := 185) hF dX11_span_180 rfl ?_
          exact s_iretX hF hD dX11_span_185 rfl
        · refine s_iload hF dX11_span_183 9 rfl ?_
          exact s_iretX hF hD dX11_span_185 rfl
    · refine s_aload_n hF dX11_span_69 rfl 0 rfl ?_
      refine sim_gd (fun g36 => ?_)
      refine s_getR (x := (g_R μ l0 4)) hF dX11_span_70 flX11_40 f0 g36 rfl ?_
      refine s_aload_n hF dX11_span_73 rfl 0 rfl ?_
      refine sim_gd (fun g37 => ?_)
      refine s_getR (x := (g_R μ l0 3)) hF dX11_span_74 flX11_33 f0 g37 rfl ?_
      refine s_aload_n hF dX11_span_77 rfl 0 rfl ?_
      refine sim_gd (fun g38 => ?_)
      refine s_getR (x := (g_R μ l0 9)) hF dX11_span_78 flX11_68 f0 g38 rfl ?_
      refine s_aload_n hF dX11_span_81 rfl 0 rfl ?_
      refine sim_gd (fun g39 => ?_)
      refine s_getR (x := (g_R μ l0 11)) hF dX11_span_82 flX11_78 f0 g39 rfl ?_
      refine s_iload_n hF dX11_span_85 rfl 1 rfl ?_
      refine s_iload hF dX11_span_86 10 rfl ?_
      refine s_iadd hF dX11_span_88 ?_
      refine s_iload_n hF dX11_span_89 rfl 3 rfl ?_
      refine s_iload hF dX11_span_90 4 rfl ?_
      refine sim_gd (fun g46 => ?_)
      refine s_xVv (st := []) (ci := 7) [.ref (g_R μ l0 3), .ref (g_R μ l0 9), .ref (g_R μ l0 11), .int (l1 + l10), .int l3, .int l4] hF hD dX11_span_92 cwX11_353 (Nat.le_of_ble_eq_true rfl) (Nat.le_of_ble_eq_true rfl) rfl rfl (Nat.le_of_ble_eq_true rfl) g46 rfl rfl (Nat.le_of_ble_eq_true rfl) (ctX7_play (g_R μ l0 4) (g_R μ l0 3) (g_R μ l0 9) (g_R μ l0 11) (l1 + l10) l3 l4 _) (fun r40 m41 hl42 hm43 => ?_)
      refine s_iload hF dX11_span_95 7 rfl ?_
      refine s_aload_n hF dX11_span_97 rfl 0 rfl ?_
      refine sim_gd (fun g47 => ?_)
      refine s_getR (x := (g_R m41 l0 4)) hF dX11_span_98 flX11_40 (isK.mo f0 hm43) g47 rfl ?_
      refine sim_gd (fun g48 => ?_)
      refine sim_gd (fun g49 => ?_)
      refine s_getRq (x := (g_R m41 (g_R m41 l0 4) 0)) hF dX11_span_101 fqX11_357 g48 g49 rfl ?_
      refine sim_gd (fun g50 => ?_)
      refine s_getIq (x := (g_I m41 (g_R m41 (g_R m41 l0 4) 0) 3)) hF dX11_span_104 fqX11_206 g50 rfl ?_
      refine s_min hF dX11_span_107 mlX11_307 mt_smin mt_i mt_cmin (Nat.le_of_ble_eq_true rfl) (Nat.le_of_ble_eq_true rfl) ?_
      refine s_istore (pls' := [(7, .int (if (g_I m41 (g_R m41 (g_R m41 l0 4) 0) 3) < l7 then (g_I m41 (g_R m41 (g_R m41 l0 4) 0) 3) else l7)), (0, .ref l0), (1, .int l1), (2, .int l2), (3, .int l3), (4, .int l4), (5, .int l5), (6, .int l6), (8, .int l8), (9, .int l9), (10, .int l10)]) hF dX11_span_110 (by decide) rfl ?_
      refine s_iload hF dX11_span_112 8 rfl ?_
      refine s_aload_n hF dX11_span_114 rfl 1 rfl ?_
      refine s_getR (x := (g_R m41 l0 4)) hF dX11_span_115 flX11_40 (isK.mo f0 hm43) g47 rfl ?_
      refine s_getRq (x := (g_R m41 (g_R m41 l0 4) 0)) hF dX11_span_118 fqX11_357 g48 g49 rfl ?_
      refine s_getIq (x := (g_I m41 (g_R m41 (g_R m41 l0 4) 0) 3)) hF dX11_span_121 fqX11_206 g50 rfl ?_
      refine s_max hF dX11_span_124 mlX11_312 mt_smax mt_i mt_cmax (Nat.le_of_ble_eq_true rfl) (Nat.le_of_ble_eq_true rfl) ?_
      refine s_istore (pls' := [(8, .int (if l8 < (g_I m41 (g_R m41 (g_R m41 l0 4) 0) 3) then (g_I m41 (g_R m41 (g_R m41 l0 4) 0) 3) else l8)), (7, .int (if (g_I m41 (g_R m41 (g_R m41 l0 4) 0) 3) < l7 then (g_I m41 (g_R m41 (g_R m41 l0 4) 0) 3) else l7)), (0, .ref l0), (1, .int l1), (2, .int l2), (3, .int l3), (4, .int l4), (5, .int l5), (6, .int l6), (9, .int l9), (10, .int l10)]) hF dX11_span_127 (by decide) rfl ?_
      refine s_iload hF dX11_span_129 9 rfl ?_
      refine s_aload_n hF dX11_span_131 rfl 2 rfl ?_
      refine s_getR (x := (g_R m41 l0 4)) hF dX11_span_132 flX11_40 (isK.mo f0 hm43) g47 rfl ?_
      refine s_getRq (x := (g_R m41 (g_R m41 l0 4) 0)) hF dX11_span_135 fqX11_357 g48 g49 rfl ?_
      refine sim_gd (fun g51 => ?_)
      refine s_getRq (x := (g_R m41 (g_R m41 (g_R m41 l0 4) 0) 0)) hF dX11_span_138 fqX11_218 g50 g51 rfl ?_
      refine s_iload hF dX11_span_141 8 rfl ?_
      refine sim_gd (fun g52 => ?_)
      refine sim_gd (fun g53 => ?_)
      refine s_aaload (x := (g_R m41 (g_R m41 (g_R m41 (g_R m41 l0 4) 0) 0) l6.toNatClampNeg)) hF dX11_span_143 (by decide) (by decide) g52 g53 rfl ?_
      refine sim_gd (fun g54 => ?_)
      refine s_getIq (x := (g_I m41 (g_R m41 (g_R m41 (g_R m41 (g_R m41 l0 4) 0) 0) l6.toNatClampNeg) 4)) hF dX11_span_144 fqX11_233 g54 rfl ?_
      refine s_if_le (tgt := 154) hF dX11_span_147 rfl (fun c55 => ?_) (fun c55 => ?_)
      · refine s_iconst (v := (0 : Int32)) hF dX11_span_154 kI_0 ?_
        refine s_iadd hF dX11_span_155 ?_
        refine s_istore (pls' := [(9, .int (l9 + (0 : Int32))), (8, .int (if l8 < (g_I m41 (g_R m41 (g_R m41 l0 4) 0) 3) then (g_I m41 (g_R m41 (g_R m41 l0 4) 0) 3) else l8)), (7, .int (if (g_I m41 (g_R m41 (g_R m41 l0 4) 0) 3) < l7 then (g_I m41 (g_R m41 (g_R m41 l0 4) 0) 3) else l7)), (0, .ref l0), (1, .int l1), (2, .int l2), (3, .int l3), (4, .int l4), (5, .int l5), (6, .int l6), (10, .int l10)]) hF dX11_span_156 (by decide) rfl ?_
        refine s_iinc (v := (l10 + (1 : Int32))) (pls' := [(10, .int (l10 + (1 : Int32))), (9, .int (l9 + (0 : Int32))), (8, .int (if l8 < (g_I m41 (g_R m41 (g_R m41 l0 4) 0) 3) then (g_I m41 (g_R m41 (g_R m41 l0 4) 0) 3) else l8)), (7, .int (if (g_I m41 (g_R m41 (g_R m41 l0 4) 0) 3) < l7 then (g_I m41 (g_R m41 (g_R m41 l0 4) 0) 3) else l7)), (0, .ref l0), (1, .int l1), (2, .int l2), (3, .int l3), (4, .int l4), (5, .int l5), (6, .int l6)]) hF dX11_span_158 10 rfl rfl (by decide) rfl ?_
        refine s_goto (tgt := 63) hF dX11_span_161 rfl ?_
        refine s_sub [4, 5, 6, 7, 8, 9, 10, 3, 2, 1, 0] rfl ?_
        exact ih l0 l1 l2 l3 l4 l5 l6 (if (g_I m41 (g_R m41 (g_R m41 l0 4) 0) 3) < l7 then (g_I m41 (g_R m41 (g_R m41 l0 4) 0) 3) else l7) (if l8 < (g_I m41 (g_R m41 (g_R m41 l0 4) 0) 3) then (g_I m41 (g_R m41 (g_R m41 l0 4) 0) 3) else l8) (l9 + (0 : Int32)) (l10 + (1 : Int32)) _ (isK.mo f0 hm43)
      · refine s_iconst (v := (1 : Int32)) hF dX11_span_150 kI_1 ?_
        refine s_goto (tgt := 155) hF dX11_span_151 rfl ?_
        refine s_iadd hF dX11_span_155 ?_
        refine s_istore (pls' := [(9, .int (l9 + (1 : Int32))), (8, .int (if l8 < (g_I m41 (g_R m41 (g_R m41 l0 4) 0) 3) then (g_I m41 (g_R m41 (g_R m41 l0 4) 0) 3) else l8)), (7, .int (if (g_I m41 (g_R m41 (g_R m41 l0 4) 0) 3) < l7 then (g_I m41 (g_R m41 (g_R m41 l0 4) 0) 3) else l7)), (0, .ref l0), (1, .int l1), (2, .int l2), (3, .int l3), (4, .int l4), (5, .int l5), (6, .int l6), (10, .int l10)]) hF dX11_span_156 (by decide) rfl ?_
        refine s_iinc (v := (l10 + (1 : Int32))) (pls' := [(10, .int (l10 + (1 : Int32))), (9, .int (l9 + (1 : Int32))), (8, .int (if l8 < (g_I m41 (g_R m41 (g_R m41 l0 4) 0) 3) then (g_I m41 (g_R m41 (g_R m41 l0 4) 0) 3) else l8)), (7, .int (if (g_I m41 (g_R m41 (g_R m41 l0 4) 0) 3) < l7 then (g_I m41 (g_R m41 (g_R m41 l0 4) 0) 3) else l7)), (0, .ref l0), (1, .int l1), (2, .int l2), (3, .int l3), (4, .int l4), (5, .int l5), (6, .int l6)]) hF dX11_span_158 10 rfl rfl (by decide) rfl ?_
        refine s_goto (tgt := 63) hF dX11_span_161 rfl ?_
        refine s_sub [4, 5, 6, 7, 8, 9, 10, 3, 2, 1, 0] rfl ?_
        exact ih l0 l1 l2 l3 l4 l5 l6 (if (g_I m41 (g_R m41 (g_R m41 l0 4) 0) 3) < l7 then (g_I m41 (g_R m41 (g_R m41 l0 4) 0) 3) else l7) (if l8 < (g_I m41 (g_R m41 (g_R m41 l0 4) 0) 3) then (g_I m41 (g_R m41 (g_R m41 l0 4) 0) 3) else l8) (l9 + (1 : Int32)) (l10 + (1 : Int32)) _ (isK.mo f0 hm43)
theorem ctX11_span  (l0 : Nat) (l1 : Int32) (l2 : Int32) (l3 : Int32) (l4 : Int32) (l5 : Int32) (l6 : Int32) (μ : Mem) : ∀ (r : (Nat ⊕ Int32)) (μ' : Mem), LX11_span l0 l1 l2 l3 l4 l5 l6 μ = some (r, μ') → CtX yX11_span cX11_span 11 (some .int) 10 [.ref l0, .int l1, .int l2, .int l3, .int l4, .int l5, .int l6] μ ((encX encI) r) μ' := by
  refine ct_enterX plX11 (Nat.le_of_ble_eq_true rfl) (fun F hF hD hI => ?_)
  unfold LX11_span
  refine sim_gd (fun f0 => ?_)
  refine s_aload_n hF dX11_span_0 rfl 0 rfl ?_
  refine s_iload_n hF dX11_span_1 rfl 2 rfl ?_
  refine s_iconst (v := (1 : Int32)) hF dX11_span_2 kI_1 ?_
  refine s_bipush (v := (20 : Int32)) hF dX11_span_3 kB_20 ?_
  refine s_tVv (st := []) (ci := 11) [.int l2, .int (1 : Int32), .int (20 : Int32)] hF hD dX11_span_5 cwX11_189 (Nat.le_of_ble_eq_true rfl) (Nat.le_of_ble_eq_true rfl) rfl rfl (Nat.le_of_ble_eq_true rfl) f0 rfl rfl (Nat.le_of_ble_eq_true rfl) (ctX11_needWithin l0 l2 (1 : Int32) (20 : Int32) _) (fun r1 m2 hl3 hm4 => ?_)
  refine s_aload_n hF dX11_span_8 rfl 0 rfl ?_
  refine s_iload_n hF dX11_span_9 rfl 3 rfl ?_
  refine s_iconst (v := (1 : Int32)) hF dX11_span_10 kI_1 ?_
  refine s_bipush (v := (96 : Int32)) hF dX11_span_11 kB_96 ?_
  refine s_tVv (st := []) (ci := 11) [.int l3, .int (1 : Int32), .int (96 : Int32)] hF hD dX11_span_13 cwX11_189 (Nat.le_of_ble_eq_true rfl) (Nat.le_of_ble_eq_true rfl) rfl rfl (Nat.le_of_ble_eq_true rfl) (isK.mo f0 hm4) rfl rfl (Nat.le_of_ble_eq_true rfl) (ctX11_needWithin l0 l3 (1 : Int32) (96 : Int32) _) (fun r7 m8 hl9 hm10 => ?_)
  refine s_aload_n hF dX11_span_16 rfl 0 rfl ?_
  refine s_iload hF dX11_span_17 4 rfl ?_
  refine s_iconst (v := (0 : Int32)) hF dX11_span_19 kI_0 ?_
  refine s_bipush (v := (16 : Int32)) hF dX11_span_20 kB_16 ?_
  refine s_tVv (st := []) (ci := 11) [.int l4, .int (0 : Int32), .int (16 : Int32)] hF hD dX11_span_22 cwX11_189 (Nat.le_of_ble_eq_true rfl) (Nat.le_of_ble_eq_true rfl) rfl rfl (Nat.le_of_ble_eq_true rfl) (isK.mo (isK.mo f0 hm4) hm10) rfl rfl (Nat.le_of_ble_eq_true rfl) (ctX11_needWithin l0 l4 (0 : Int32) (16 : Int32) _) (fun r13 m14 hl15 hm16 => ?_)
  refine s_aload_n hF dX11_span_25 rfl 0 rfl ?_
  refine s_iload hF dX11_span_26 5 rfl ?_
  refine s_iconst (v := (0 : Int32)) hF dX11_span_28 kI_0 ?_
  refine s_iconst (v := (2 : Int32)) hF dX11_span_29 kI_2 ?_
  refine s_tVv (st := []) (ci := 11) [.int l5, .int (0 : Int32), .int (2 : Int32)] hF hD dX11_span_30 cwX11_189 (Nat.le_of_ble_eq_true rfl) (Nat.le_of_ble_eq_true rfl) rfl rfl (Nat.le_of_ble_eq_true rfl) (isK.mo (isK.mo (isK.mo f0 hm4) hm10) hm16) rfl rfl (Nat.le_of_ble_eq_true rfl) (ctX11_needWithin l0 l5 (0 : Int32) (2 : Int32) _) (fun r19 m20 hl21 hm22 => ?_)
  refine s_aload_n hF dX11_span_33 rfl 0 rfl ?_
  refine s_iload hF dX11_span_34 6 rfl ?_
  refine s_iconst (v := (0 : Int32)) hF dX11_span_36 kI_0 ?_
  refine s_aload_n hF dX11_span_37 rfl 0 rfl ?_
  refine sim_gd (fun g25 => ?_)
  refine s_getR (x := (g_R m20 l0 9)) hF dX11_span_38 flX11_68 (isK.mo (isK.mo (isK.mo (isK.mo f0 hm4) hm10) hm16) hm22) g25 rfl ?_
  refine sim_gd (fun g26 => ?_)
  refine s_getIq (x := (g_I m20 (g_R m20 l0 9) 0)) hF dX11_span_41 fqX11_144 g26 rfl ?_
  refine s_iconst (v := (1 : Int32)) hF dX11_span_44 kI_1 ?_
  refine s_isub hF dX11_span_45 ?_
  refine s_tVv (st := []) (ci := 11) [.int l6, .int (0 : Int32), .int ((g_I m20 (g_R m20 l0 9) 0) - (1 : Int32))] hF hD dX11_span_46 cwX11_189 (Nat.le_of_ble_eq_true rfl) (Nat.le_of_ble_eq_true rfl) rfl rfl (Nat.le_of_ble_eq_true rfl) (isK.mo (isK.mo (isK.mo (isK.mo f0 hm4) hm10) hm16) hm22) rfl rfl (Nat.le_of_ble_eq_true rfl) (ctX11_needWithin l0 l6 (0 : Int32) ((g_I m20 (g_R m20 l0 9) 0) - (1 : Int32)) _) (fun r27 m28 hl29 hm30 => ?_)
  refine s_ldcw (v := (2147483647 : Int32)) hF dX11_span_49 cwX11_269 ?_
  refine s_istore (pls' := [(7, .int (2147483647 : Int32)), (0, .ref l0), (1, .int l1), (2, .int l2), (3, .int l3), (4, .int l4), (5, .int l5), (6, .int l6)]) hF dX11_span_52 (by decide) rfl ?_
  refine s_iconst (v := (0 : Int32)) hF dX11_span_54 kI_0 ?_
  refine s_istore (pls' := [(8, .int (0 : Int32)), (7, .int (2147483647 : Int32)), (0, .ref l0), (1, .int l1), (2, .int l2), (3, .int l3), (4, .int l4), (5, .int l5), (6, .int l6)]) hF dX11_span_55 (by decide) rfl ?_
  refine s_iconst (v := (0 : Int32)) hF dX11_span_57 kI_0 ?_
  refine s_istore (pls' := [(9, .int (0 : Int32)), (8, .int (0 : Int32)), (7, .int (2147483647 : Int32)), (0, .ref l0), (1, .int l1), (2, .int l2), (3, .int l3), (4, .int l4), (5, .int l5), (6, .int l6)]) hF dX11_span_58 (by decide) rfl ?_
  refine s_iconst (v := (0 : Int32)) hF dX11_span_60 kI_0 ?_
  refine s_istore (pls' := [(10, .int (0 : Int32)), (9, .int (0 : Int32)), (8, .int (0 : Int32)), (7, .int (2147483647 : Int32)), (0, .ref l0), (1, .int l1), (2, .int l2), (3, .int l3), (4, .int l4), (5, .int l5), (6, .int l6)]) hF dX11_span_61 (by decide) rfl ?_
  refine s_sub [4, 5, 6, 7, 8, 9, 10, 3, 2, 1, 0] rfl ?_
  exact sX11_span_63 hF hD 100000 l0 l1 l2 l3 l4 l5 l6 (2147483647 : Int32) (0 : Int32) (0 : Int32) (0 : Int32) _ (isK.mo (isK.mo (isK.mo (isK.mo (isK.mo f0 hm4) hm10) hm16) hm22) hm30)
theorem ctX11_image  (l0 : Nat) (μ : Mem) : ∀ (r : Int32) (μ' : Mem), LX11_image l0 μ = some (r, μ') → CtX yX11_image cX11_image 1 (some .int) 5 [.ref l0] μ (encI r) μ' := by
  refine ct_enterX plX11 (Nat.le_of_ble_eq_true rfl) (fun F hF hD hI => ?_)
  unfold LX11_image
  refine sim_gd (fun f0 => ?_)
  refine s_aload_n hF dX11_image_0 rfl 0 rfl ?_
  refine sim_gd (fun g1 => ?_)
  refine s_getR (x := (g_R μ l0 2)) hF dX11_image_1 flX11_26 f0 g1 rfl ?_
  refine sim_gd (fun g2 => ?_)
  refine s_getIq (x := (g_I μ (g_R μ l0 2) 5)) hF dX11_image_4 fqX11_360 g2 rfl ?_
  refine s_iconst (v := (3 : Int32)) hF dX11_image_7 kI_3 ?_
  refine s_icmp_lt (tgt := 13) hF dX11_image_8 rfl (fun c3 => ?_) (fun c3 => ?_)
  · refine s_aload_n hF dX11_image_13 rfl 0 rfl ?_
    refine s_getR (x := (g_R μ l0 2)) hF dX11_image_14 flX11_26 f0 g1 rfl ?_
    refine s_aload_n hF dX11_image_17 rfl 0 rfl ?_
    refine sim_gd (fun g4 => ?_)
    refine s_getR (x := (g_R μ l0 3)) hF dX11_image_18 flX11_33 f0 g4 rfl ?_
    refine s_xVv (st := []) (ci := 2) [.ref (g_R μ l0 3)] hF hD dX11_image_21 cwX11_363 (Nat.le_of_ble_eq_true rfl) (Nat.le_of_ble_eq_true rfl) rfl rfl (Nat.le_of_ble_eq_true rfl) g2 rfl rfl (Nat.le_of_ble_eq_true rfl) (ctX2_takeImage (g_R μ l0 2) (g_R μ l0 3) _) (fun r5 m6 hl7 hm8 => ?_)
    refine s_aload_n hF dX11_image_24 rfl 0 rfl ?_
    refine sim_gd (fun g11 => ?_)
    refine s_getR (x := (g_R m6 l0 2)) hF dX11_image_25 flX11_26 (isK.mo f0 hm8) g11 rfl ?_
    refine sim_gd (fun g12 => ?_)
    refine s_getIq (x := (g_I m6 (g_R m6 l0 2) 5)) hF dX11_image_28 fqX11_360 g12 rfl ?_
    exact s_iretX hF hD dX11_image_31 rfl
  · refine s_iconst (v := (-1 : Int32)) hF dX11_image_11 kI_m1 ?_
    exact s_iretX hF hD dX11_image_12 rfl
theorem ctX11_restore  (l0 : Nat) (μ : Mem) : ∀ (r : Int32) (μ' : Mem), LX11_restore l0 μ = some (r, μ') → CtX yX11_restore cX11_restore 1 (some .int) 5 [.ref l0] μ (encI r) μ' := by
  refine ct_enterX plX11 (Nat.le_of_ble_eq_true rfl) (fun F hF hD hI => ?_)
  unfold LX11_restore
  refine sim_gd (fun f0 => ?_)
  refine s_aload_n hF dX11_restore_0 rfl 0 rfl ?_
  refine sim_gd (fun g1 => ?_)
  refine s_getR (x := (g_R μ l0 2)) hF dX11_restore_1 flX11_26 f0 g1 rfl ?_
  refine sim_gd (fun g2 => ?_)
  refine s_getIq (x := (g_I μ (g_R μ l0 2) 5)) hF dX11_restore_4 fqX11_360 g2 rfl ?_
  refine s_if_ne (tgt := 12) hF dX11_restore_7 rfl (fun c3 => ?_) (fun c3 => ?_)
  · refine s_iconst (v := (-1 : Int32)) hF dX11_restore_10 kI_m1 ?_
    exact s_iretX hF hD dX11_restore_11 rfl
  · refine s_aload_n hF dX11_restore_12 rfl 0 rfl ?_
    refine s_getR (x := (g_R μ l0 2)) hF dX11_restore_13 flX11_26 f0 g1 rfl ?_
    refine s_aload_n hF dX11_restore_16 rfl 0 rfl ?_
    refine sim_gd (fun g4 => ?_)
    refine s_getR (x := (g_R μ l0 3)) hF dX11_restore_17 flX11_33 f0 g4 rfl ?_
    refine s_xVv (st := []) (ci := 2) [.ref (g_R μ l0 3)] hF hD dX11_restore_20 cwX11_366 (Nat.le_of_ble_eq_true rfl) (Nat.le_of_ble_eq_true rfl) rfl rfl (Nat.le_of_ble_eq_true rfl) g2 rfl rfl (Nat.le_of_ble_eq_true rfl) (ctX2_giveBack (g_R μ l0 2) (g_R μ l0 3) _) (fun r5 m6 hl7 hm8 => ?_)
    refine s_aload_n hF dX11_restore_23 rfl 0 rfl ?_
    refine s_iconst (v := (0 : Int32)) hF dX11_restore_24 kI_0 ?_
    refine s_putI hF dX11_restore_25 flX11_141 (isK.mo f0 hm8) ?_
    refine s_aload_n hF dX11_restore_28 rfl 0 rfl ?_
    refine sim_gd (fun g11 => ?_)
    refine s_getR (x := (g_R m6 l0 2)) hF dX11_restore_29 flX11_26 (isK.mo f0 hm8) g11 rfl ?_
    refine sim_gd (fun g12 => ?_)
    refine s_getIq (x := (g_I (p_I m6 l0 17 (0 : Int32)) (g_R m6 l0 2) 5)) hF dX11_restore_32 fqX11_360 g12 rfl ?_
    exact s_iretX hF hD dX11_restore_35 rfl
theorem ctX11_status  (l0 : Nat) (l1 : Int32) (μ : Mem) : ∀ (r : Int32) (μ' : Mem), LX11_status l0 l1 μ = some (r, μ') → CtX yX11_status cX11_status 2 (some .int) 0 [.ref l0, .int l1] μ (encI r) μ' := by
  refine ct_enterX plX11 (Nat.le_of_ble_eq_true rfl) (fun F hF hD hI => ?_)
  unfold LX11_status
  refine sim_gd (fun f0 => ?_)
  refine s_iload_n hF dX11_status_0 rfl 1 rfl ?_
  refine s_if_lt (tgt := 18) hF dX11_status_1 rfl (fun c1 => ?_) (fun c1 => ?_)
  · refine s_iconst (v := (-1 : Int32)) hF dX11_status_18 kI_m1 ?_
    exact s_iretX hF hD dX11_status_19 rfl
  · refine s_iload_n hF dX11_status_4 rfl 1 rfl ?_
    refine s_iconst (v := (5 : Int32)) hF dX11_status_5 kI_5 ?_
    refine s_icmp_ge (tgt := 18) hF dX11_status_6 rfl (fun c2 => ?_) (fun c2 => ?_)
    · refine s_iconst (v := (-1 : Int32)) hF dX11_status_18 kI_m1 ?_
      exact s_iretX hF hD dX11_status_19 rfl
    · refine s_aload_n hF dX11_status_9 rfl 0 rfl ?_
      refine sim_gd (fun g3 => ?_)
      refine s_getR (x := (g_R μ l0 8)) hF dX11_status_10 flX11_62 f0 g3 rfl ?_
      refine s_iload_n hF dX11_status_13 rfl 1 rfl ?_
      refine sim_gd (fun g4 => ?_)
      refine s_iaload (x := (g_I μ (g_R μ l0 8) l1.toNatClampNeg)) hF dX11_status_14 g4 rfl ?_
      refine s_goto (tgt := 19) hF dX11_status_15 rfl ?_
      exact s_iretX hF hD dX11_status_19 rfl
theorem ctX11_count  (l0 : Nat) (l1 : Int32) (μ : Mem) : ∀ (r : Int32) (μ' : Mem), LX11_count l0 l1 μ = some (r, μ') → CtX yX11_count cX11_count 2 (some .int) 0 [.ref l0, .int l1] μ (encI r) μ' := by
  refine ct_enterX plX11 (Nat.le_of_ble_eq_true rfl) (fun F hF hD hI => ?_)
  unfold LX11_count
  refine sim_gd (fun f0 => ?_)
  refine s_iload_n hF dX11_count_0 rfl 1 rfl ?_
  refine sim_if (fun c1 => ?_) (fun c1 => ?_)
  · refine s_tin (v := (0 : Int32)) (tgt := 28) hF dX11_count_1 c1 (by decide) (by decide) rfl rfl ?_
    refine s_aload_n hF dX11_count_28 rfl 0 rfl ?_
    refine sim_gd (fun g2 => ?_)
    refine s_getR (x := (g_R μ l0 2)) hF dX11_count_29 flX11_26 f0 g2 rfl ?_
    refine sim_gd (fun g3 => ?_)
    refine s_getIq (x := (g_I μ (g_R μ l0 2) 5)) hF dX11_count_32 fqX11_360 g3 rfl ?_
    exact s_iretX hF hD dX11_count_35 rfl
  · refine sim_if (fun c4 => ?_) (fun c4 => ?_)
    · refine s_tin (v := (1 : Int32)) (tgt := 36) hF dX11_count_1 c4 (by decide) (by decide) rfl rfl ?_
      refine s_aload_n hF dX11_count_36 rfl 0 rfl ?_
      refine sim_gd (fun g5 => ?_)
      refine s_getR (x := (g_R μ l0 0)) hF dX11_count_37 flX11_10 f0 g5 rfl ?_
      refine sim_gd (fun g6 => ?_)
      refine s_getIq (x := (g_I μ (g_R μ l0 0) 1)) hF dX11_count_40 fqX11_105 g6 rfl ?_
      exact s_iretX hF hD dX11_count_43 rfl
    · refine sim_if (fun c7 => ?_) (fun c7 => ?_)
      · refine s_tin (v := (2 : Int32)) (tgt := 44) hF dX11_count_1 c7 (by decide) (by decide) rfl rfl ?_
        refine s_aload_n hF dX11_count_44 rfl 0 rfl ?_
        refine sim_gd (fun g8 => ?_)
        refine s_getR (x := (g_R μ l0 2)) hF dX11_count_45 flX11_26 f0 g8 rfl ?_
        refine sim_gd (fun g9 => ?_)
        refine s_getIq (x := (g_I μ (g_R μ l0 2) 4)) hF dX11_count_48 fqX11_148 g9 rfl ?_
        exact s_iretX hF hD dX11_count_51 rfl
      · refine s_tout (tgt := 52) hF dX11_count_1 (by have e0 := i32_ne c1 (k := (0 : Int32)) (n := 0) rfl; have e1 := i32_ne c4 (k := (1 : Int32)) (n := 1) rfl; have e2 := i32_ne c7 (k := (2 : Int32)) (n := 2) rfl; omega) rfl ?_
        refine s_iconst (v := (-1 : Int32)) hF dX11_count_52 kI_m1 ?_
        exact s_iretX hF hD dX11_count_53 rfl
theorem hokL_hut : ∀ (k : Nat) (c : Int32), hcL_hut k = some c → HOK RL cL_hut 4 hhL_hut 4 k c := by
  intro k c h
  unfold hcL_hut at h
  by_cases e0 : k = 1
  · subst e0
    cases h
    exact ⟨[], ⟨0, 9, 12, 13⟩, [], rfl, (fun z hz => nomatch hz), by decide, by decide, clL_13, cas_1, ⟨1, by decide, Or.inl ⟨3, by decide, dL_hut_12, dL_hut_13, dL_hut_14⟩⟩⟩
  rw [if_neg e0] at h
  cases h
theorem ctL_hut  (l0 : Nat) (l1 : Int32) (l2 : Nat) (μ : Mem) : ∀ (r : Int32) (μ' : Mem), LL_hut l0 l1 l2 μ = some (r, μ') → CtH yL_hut cL_hut 4 (some .int) hhL_hut 12 [.ref l0, .int l1, .ref l2] μ (encI r) μ' := by
  refine ct_enterH plL (Nat.le_of_ble_eq_true rfl) (fun F hF hD => ?_)
  unfold LL_hut
  refine sim_gd (fun f0 => ?_)
  refine sim_gd (fun f2 => ?_)
  refine s_aload_n hF dL_hut_0 rfl 2 rfl ?_
  refine s_iconst (v := (0 : Int32)) hF dL_hut_1 kI_0 ?_
  refine s_aload_n hF dL_hut_2 rfl 0 rfl ?_
  refine s_iload_n hF dL_hut_3 rfl 1 rfl ?_
  refine s_hVi (st := [.int (0 : Int32), .ref l2]) (ci := 11) (hc := hcL_hut) [.int l1] hF hD dL_hut_4 cwL_7 (Nat.le_of_ble_eq_true rfl) (Nat.le_of_ble_eq_true rfl) rfl rfl (Nat.le_of_ble_eq_true rfl) f0 rfl rfl (Nat.le_of_ble_eq_true rfl) (ctX11_hut l0 l1 _) hokL_hut (fun r1 m2 hl3 hm4 => ?_)
  refine s_i2l hF dL_hut_7 ?_
  refine sim_gd (fun g5 => ?_)
  refine s_lastore hF dL_hut_8 g5 ?_
  refine s_goto (tgt := 15) hF dL_hut_9 rfl ?_
  refine s_iconst (v := (0 : Int32)) hF dL_hut_15 kI_0 ?_
  exact s_iretH hF hD dL_hut_16 rfl
theorem hokL_law : ∀ (k : Nat) (c : Int32), hcL_law k = some c → HOK RL cL_law 4 hhL_law 4 k c := by
  intro k c h
  unfold hcL_law at h
  by_cases e0 : k = 1
  · subst e0
    cases h
    exact ⟨[], ⟨0, 9, 12, 13⟩, [], rfl, (fun z hz => nomatch hz), by decide, by decide, clL_13, cas_1, ⟨1, by decide, Or.inl ⟨3, by decide, dL_law_12, dL_law_13, dL_law_14⟩⟩⟩
  rw [if_neg e0] at h
  cases h
theorem ctL_law  (l0 : Nat) (l1 : Int32) (l2 : Nat) (μ : Mem) : ∀ (r : Int32) (μ' : Mem), LL_law l0 l1 l2 μ = some (r, μ') → CtH yL_law cL_law 4 (some .int) hhL_law 69 [.ref l0, .int l1, .ref l2] μ (encI r) μ' := by
  refine ct_enterH plL (Nat.le_of_ble_eq_true rfl) (fun F hF hD => ?_)
  unfold LL_law
  refine sim_gd (fun f0 => ?_)
  refine sim_gd (fun f2 => ?_)
  refine s_aload_n hF dL_law_0 rfl 2 rfl ?_
  refine s_iconst (v := (0 : Int32)) hF dL_law_1 kI_0 ?_
  refine s_aload_n hF dL_law_2 rfl 0 rfl ?_
  refine s_iload_n hF dL_law_3 rfl 1 rfl ?_
  refine s_hVi (st := [.int (0 : Int32), .ref l2]) (ci := 11) (hc := hcL_law) [.int l1] hF hD dL_law_4 cwL_15 (Nat.le_of_ble_eq_true rfl) (Nat.le_of_ble_eq_true rfl) rfl rfl (Nat.le_of_ble_eq_true rfl) f0 rfl rfl (Nat.le_of_ble_eq_true rfl) (ctX11_law l0 l1 _) hokL_law (fun r1 m2 hl3 hm4 => ?_)
  refine s_i2l hF dL_law_7 ?_
  refine sim_gd (fun g5 => ?_)
  refine s_lastore hF dL_law_8 g5 ?_
  refine s_goto (tgt := 15) hF dL_law_9 rfl ?_
  refine s_iconst (v := (0 : Int32)) hF dL_law_15 kI_0 ?_
  exact s_iretH hF hD dL_law_16 rfl
theorem hokL_work : ∀ (k : Nat) (c : Int32), hcL_work k = some c → HOK RL cL_work 4 hhL_work 4 k c := by
  intro k c h
  unfold hcL_work at h
  by_cases e0 : k = 1
  · subst e0
    cases h
    exact ⟨[], ⟨0, 9, 12, 13⟩, [], rfl, (fun z hz => nomatch hz), by decide, by decide, clL_13, cas_1, ⟨1, by decide, Or.inl ⟨3, by decide, dL_work_12, dL_work_13, dL_work_14⟩⟩⟩
  rw [if_neg e0] at h
  cases h
theorem ctL_work  (l0 : Nat) (l1 : Int32) (l2 : Nat) (μ : Mem) : ∀ (r : Int32) (μ' : Mem), LL_work l0 l1 l2 μ = some (r, μ') → CtH yL_work cL_work 4 (some .int) hhL_work 33 [.ref l0, .int l1, .ref l2] μ (encI r) μ' := by
  refine ct_enterH plL (Nat.le_of_ble_eq_true rfl) (fun F hF hD => ?_)
  unfold LL_work
  refine sim_gd (fun f0 => ?_)
  refine sim_gd (fun f2 => ?_)
  refine s_aload_n hF dL_work_0 rfl 2 rfl ?_
  refine s_iconst (v := (0 : Int32)) hF dL_work_1 kI_0 ?_
  refine s_aload_n hF dL_work_2 rfl 0 rfl ?_
  refine s_iload_n hF dL_work_3 rfl 1 rfl ?_
  refine s_hVi (st := [.int (0 : Int32), .ref l2]) (ci := 11) (hc := hcL_work) [.int l1] hF hD dL_work_4 cwL_18 (Nat.le_of_ble_eq_true rfl) (Nat.le_of_ble_eq_true rfl) rfl rfl (Nat.le_of_ble_eq_true rfl) f0 rfl rfl (Nat.le_of_ble_eq_true rfl) (ctX11_work l0 l1 _) hokL_work (fun r1 m2 hl3 hm4 => ?_)
  refine s_i2l hF dL_work_7 ?_
  refine sim_gd (fun g5 => ?_)
  refine s_lastore hF dL_work_8 g5 ?_
  refine s_goto (tgt := 15) hF dL_work_9 rfl ?_
  refine s_iconst (v := (0 : Int32)) hF dL_work_15 kI_0 ?_
  exact s_iretH hF hD dL_work_16 rfl
theorem hokL_chain : ∀ (k : Nat) (c : Int32), hcL_chain k = some c → HOK RL cL_chain 4 hhL_chain 4 k c := by
  intro k c h
  unfold hcL_chain at h
  by_cases e0 : k = 1
  · subst e0
    cases h
    exact ⟨[], ⟨0, 9, 12, 13⟩, [], rfl, (fun z hz => nomatch hz), by decide, by decide, clL_13, cas_1, ⟨1, by decide, Or.inl ⟨3, by decide, dL_chain_12, dL_chain_13, dL_chain_14⟩⟩⟩
  rw [if_neg e0] at h
  cases h
theorem ctL_chain  (l0 : Nat) (l1 : Int32) (l2 : Nat) (μ : Mem) : ∀ (r : Int32) (μ' : Mem), LL_chain l0 l1 l2 μ = some (r, μ') → CtH yL_chain cL_chain 4 (some .int) hhL_chain 12 [.ref l0, .int l1, .ref l2] μ (encI r) μ' := by
  refine ct_enterH plL (Nat.le_of_ble_eq_true rfl) (fun F hF hD => ?_)
  unfold LL_chain
  refine sim_gd (fun f0 => ?_)
  refine sim_gd (fun f2 => ?_)
  refine s_aload_n hF dL_chain_0 rfl 2 rfl ?_
  refine s_iconst (v := (0 : Int32)) hF dL_chain_1 kI_0 ?_
  refine s_aload_n hF dL_chain_2 rfl 0 rfl ?_
  refine s_iload_n hF dL_chain_3 rfl 1 rfl ?_
  refine s_hVi (st := [.int (0 : Int32), .ref l2]) (ci := 11) (hc := hcL_chain) [.int l1] hF hD dL_chain_4 cwL_21 (Nat.le_of_ble_eq_true rfl) (Nat.le_of_ble_eq_true rfl) rfl rfl (Nat.le_of_ble_eq_true rfl) f0 rfl rfl (Nat.le_of_ble_eq_true rfl) (ctX11_chain l0 l1 _) hokL_chain (fun r1 m2 hl3 hm4 => ?_)
  refine s_i2l hF dL_chain_7 ?_
  refine sim_gd (fun g5 => ?_)
  refine s_lastore hF dL_chain_8 g5 ?_
  refine s_goto (tgt := 15) hF dL_chain_9 rfl ?_
  refine s_iconst (v := (0 : Int32)) hF dL_chain_15 kI_0 ?_
  exact s_iretH hF hD dL_chain_16 rfl
theorem hokL_book : ∀ (k : Nat) (c : Int32), hcL_book k = some c → HOK RL cL_book 4 hhL_book 4 k c := by
  intro k c h
  unfold hcL_book at h
  by_cases e0 : k = 1
  · subst e0
    cases h
    exact ⟨[], ⟨0, 9, 12, 13⟩, [], rfl, (fun z hz => nomatch hz), by decide, by decide, clL_13, cas_1, ⟨1, by decide, Or.inl ⟨3, by decide, dL_book_12, dL_book_13, dL_book_14⟩⟩⟩
  rw [if_neg e0] at h
  cases h
theorem ctL_book  (l0 : Nat) (l1 : Int32) (l2 : Nat) (μ : Mem) : ∀ (r : Int32) (μ' : Mem), LL_book l0 l1 l2 μ = some (r, μ') → CtH yL_book cL_book 4 (some .int) hhL_book 12 [.ref l0, .int l1, .ref l2] μ (encI r) μ' := by
  refine ct_enterH plL (Nat.le_of_ble_eq_true rfl) (fun F hF hD => ?_)
  unfold LL_book
  refine sim_gd (fun f0 => ?_)
  refine sim_gd (fun f2 => ?_)
  refine s_aload_n hF dL_book_0 rfl 2 rfl ?_
  refine s_iconst (v := (0 : Int32)) hF dL_book_1 kI_0 ?_
  refine s_aload_n hF dL_book_2 rfl 0 rfl ?_
  refine s_iload_n hF dL_book_3 rfl 1 rfl ?_
  refine s_hVi (st := [.int (0 : Int32), .ref l2]) (ci := 11) (hc := hcL_book) [.int l1] hF hD dL_book_4 cwL_24 (Nat.le_of_ble_eq_true rfl) (Nat.le_of_ble_eq_true rfl) rfl rfl (Nat.le_of_ble_eq_true rfl) f0 rfl rfl (Nat.le_of_ble_eq_true rfl) (ctX11_book l0 l1 _) hokL_book (fun r1 m2 hl3 hm4 => ?_)
  refine s_i2l hF dL_book_7 ?_
  refine sim_gd (fun g5 => ?_)
  refine s_lastore hF dL_book_8 g5 ?_
  refine s_goto (tgt := 15) hF dL_book_9 rfl ?_
  refine s_iconst (v := (0 : Int32)) hF dL_book_15 kI_0 ?_
  exact s_iretH hF hD dL_book_16 rfl
theorem hokL_told : ∀ (k : Nat) (c : Int32), hcL_told k = some c → HOK RL cL_told 4 hhL_told 4 k c := by
  intro k c h
  unfold hcL_told at h
  by_cases e0 : k = 1
  · subst e0
    cases h
    exact ⟨[], ⟨0, 9, 12, 13⟩, [], rfl, (fun z hz => nomatch hz), by decide, by decide, clL_13, cas_1, ⟨1, by decide, Or.inl ⟨3, by decide, dL_told_12, dL_told_13, dL_told_14⟩⟩⟩
  rw [if_neg e0] at h
  cases h
theorem ctL_told  (l0 : Nat) (l1 : Int32) (l2 : Nat) (μ : Mem) : ∀ (r : Int32) (μ' : Mem), LL_told l0 l1 l2 μ = some (r, μ') → CtH yL_told cL_told 4 (some .int) hhL_told 11 [.ref l0, .int l1, .ref l2] μ (encI r) μ' := by
  refine ct_enterH plL (Nat.le_of_ble_eq_true rfl) (fun F hF hD => ?_)
  unfold LL_told
  refine sim_gd (fun f0 => ?_)
  refine sim_gd (fun f2 => ?_)
  refine s_aload_n hF dL_told_0 rfl 2 rfl ?_
  refine s_iconst (v := (0 : Int32)) hF dL_told_1 kI_0 ?_
  refine s_aload_n hF dL_told_2 rfl 0 rfl ?_
  refine s_iload_n hF dL_told_3 rfl 1 rfl ?_
  refine s_hVi (st := [.int (0 : Int32), .ref l2]) (ci := 11) (hc := hcL_told) [.int l1] hF hD dL_told_4 cwL_27 (Nat.le_of_ble_eq_true rfl) (Nat.le_of_ble_eq_true rfl) rfl rfl (Nat.le_of_ble_eq_true rfl) f0 rfl rfl (Nat.le_of_ble_eq_true rfl) (ctX11_told l0 l1 _) hokL_told (fun r1 m2 hl3 hm4 => ?_)
  refine s_i2l hF dL_told_7 ?_
  refine sim_gd (fun g5 => ?_)
  refine s_lastore hF dL_told_8 g5 ?_
  refine s_goto (tgt := 15) hF dL_told_9 rfl ?_
  refine s_iconst (v := (0 : Int32)) hF dL_told_15 kI_0 ?_
  exact s_iretH hF hD dL_told_16 rfl
theorem hokL_pen : ∀ (k : Nat) (c : Int32), hcL_pen k = some c → HOK RL cL_pen 5 hhL_pen 5 k c := by
  intro k c h
  unfold hcL_pen at h
  by_cases e0 : k = 0
  · subst e0
    cases h
    exact ⟨[], ⟨0, 10, 13, 34⟩, [⟨0, 10, 17, 13⟩], rfl, (fun z hz => nomatch hz), by decide, by decide, clL_34, cas_0, ⟨1, by decide, Or.inr ⟨4, by decide, dL_pen_13, dL_pen_15, dL_pen_16⟩⟩⟩
  rw [if_neg e0] at h
  by_cases e1 : k = 1
  · subst e1
    cases h
    exact ⟨[⟨0, 10, 13, 34⟩], ⟨0, 10, 17, 13⟩, [], rfl, (List.forall_mem_cons.mpr ⟨Or.inr ⟨by decide, 0, clL_34, by decide⟩, (fun z hz => nomatch hz)⟩), by decide, by decide, clL_13, cas_1, ⟨2, by decide, Or.inr ⟨4, by decide, dL_pen_17, dL_pen_19, dL_pen_20⟩⟩⟩
  rw [if_neg e1] at h
  cases h
theorem ctL_pen  (l0 : Nat) (l1 : Int32) (l2 : Int32) (l3 : Nat) (μ : Mem) : ∀ (r : Int32) (μ' : Mem), LL_pen l0 l1 l2 l3 μ = some (r, μ') → CtH yL_pen cL_pen 5 (some .int) hhL_pen 11 [.ref l0, .int l1, .int l2, .ref l3] μ (encI r) μ' := by
  refine ct_enterH plL (Nat.le_of_ble_eq_true rfl) (fun F hF hD => ?_)
  unfold LL_pen
  refine sim_gd (fun f0 => ?_)
  refine sim_gd (fun f3 => ?_)
  refine s_aload_n hF dL_pen_0 rfl 3 rfl ?_
  refine s_iconst (v := (0 : Int32)) hF dL_pen_1 kI_0 ?_
  refine s_aload_n hF dL_pen_2 rfl 0 rfl ?_
  refine s_iload_n hF dL_pen_3 rfl 1 rfl ?_
  refine s_iload_n hF dL_pen_4 rfl 2 rfl ?_
  refine s_hVi (st := [.int (0 : Int32), .ref l3]) (ci := 11) (hc := hcL_pen) [.int l1, .int l2] hF hD dL_pen_5 cwL_30 (Nat.le_of_ble_eq_true rfl) (Nat.le_of_ble_eq_true rfl) rfl rfl (Nat.le_of_ble_eq_true rfl) f0 rfl rfl (Nat.le_of_ble_eq_true rfl) (ctX11_pen l0 l1 l2 _) hokL_pen (fun r1 m2 hl3 hm4 => ?_)
  refine s_i2l hF dL_pen_8 ?_
  refine sim_gd (fun g5 => ?_)
  refine s_lastore hF dL_pen_9 g5 ?_
  refine s_goto (tgt := 21) hF dL_pen_10 rfl ?_
  refine s_iconst (v := (0 : Int32)) hF dL_pen_21 kI_0 ?_
  exact s_iretH hF hD dL_pen_22 rfl
theorem hokL_wire : ∀ (k : Nat) (c : Int32), hcL_wire k = some c → HOK RL cL_wire 5 hhL_wire 5 k c := by
  intro k c h
  unfold hcL_wire at h
  by_cases e0 : k = 0
  · subst e0
    cases h
    exact ⟨[], ⟨0, 10, 13, 34⟩, [⟨0, 10, 17, 13⟩], rfl, (fun z hz => nomatch hz), by decide, by decide, clL_34, cas_0, ⟨1, by decide, Or.inr ⟨4, by decide, dL_wire_13, dL_wire_15, dL_wire_16⟩⟩⟩
  rw [if_neg e0] at h
  by_cases e1 : k = 1
  · subst e1
    cases h
    exact ⟨[⟨0, 10, 13, 34⟩], ⟨0, 10, 17, 13⟩, [], rfl, (List.forall_mem_cons.mpr ⟨Or.inr ⟨by decide, 0, clL_34, by decide⟩, (fun z hz => nomatch hz)⟩), by decide, by decide, clL_13, cas_1, ⟨2, by decide, Or.inr ⟨4, by decide, dL_wire_17, dL_wire_19, dL_wire_20⟩⟩⟩
  rw [if_neg e1] at h
  cases h
theorem ctL_wire  (l0 : Nat) (l1 : Int32) (l2 : Int32) (l3 : Nat) (μ : Mem) : ∀ (r : Int32) (μ' : Mem), LL_wire l0 l1 l2 l3 μ = some (r, μ') → CtH yL_wire cL_wire 5 (some .int) hhL_wire 11 [.ref l0, .int l1, .int l2, .ref l3] μ (encI r) μ' := by
  refine ct_enterH plL (Nat.le_of_ble_eq_true rfl) (fun F hF hD => ?_)
  unfold LL_wire
  refine sim_gd (fun f0 => ?_)
  refine sim_gd (fun f3 => ?_)
  refine s_aload_n hF dL_wire_0 rfl 3 rfl ?_
  refine s_iconst (v := (0 : Int32)) hF dL_wire_1 kI_0 ?_
  refine s_aload_n hF dL_wire_2 rfl 0 rfl ?_
  refine s_iload_n hF dL_wire_3 rfl 1 rfl ?_
  refine s_iload_n hF dL_wire_4 rfl 2 rfl ?_
  refine s_hVi (st := [.int (0 : Int32), .ref l3]) (ci := 11) (hc := hcL_wire) [.int l1, .int l2] hF hD dL_wire_5 cwL_36 (Nat.le_of_ble_eq_true rfl) (Nat.le_of_ble_eq_true rfl) rfl rfl (Nat.le_of_ble_eq_true rfl) f0 rfl rfl (Nat.le_of_ble_eq_true rfl) (ctX11_wire l0 l1 l2 _) hokL_wire (fun r1 m2 hl3 hm4 => ?_)
  refine s_i2l hF dL_wire_8 ?_
  refine sim_gd (fun g5 => ?_)
  refine s_lastore hF dL_wire_9 g5 ?_
  refine s_goto (tgt := 21) hF dL_wire_10 rfl ?_
  refine s_iconst (v := (0 : Int32)) hF dL_wire_21 kI_0 ?_
  exact s_iretH hF hD dL_wire_22 rfl
theorem hokL_record : ∀ (k : Nat) (c : Int32), hcL_record k = some c → HOK RL cL_record 5 hhL_record 5 k c := by
  intro k c h
  unfold hcL_record at h
  by_cases e0 : k = 0
  · subst e0
    cases h
    exact ⟨[], ⟨0, 10, 13, 34⟩, [⟨0, 10, 17, 42⟩], rfl, (fun z hz => nomatch hz), by decide, by decide, clL_34, cas_0, ⟨1, by decide, Or.inr ⟨4, by decide, dL_record_13, dL_record_15, dL_record_16⟩⟩⟩
  rw [if_neg e0] at h
  by_cases e1 : k = 3
  · subst e1
    cases h
    exact ⟨[⟨0, 10, 13, 34⟩], ⟨0, 10, 17, 42⟩, [], rfl, (List.forall_mem_cons.mpr ⟨Or.inr ⟨by decide, 0, clL_34, by decide⟩, (fun z hz => nomatch hz)⟩), by decide, by decide, clL_42, cas_3, ⟨2, by decide, Or.inr ⟨4, by decide, dL_record_17, dL_record_19, dL_record_20⟩⟩⟩
  rw [if_neg e1] at h
  cases h
theorem ctL_record  (l0 : Nat) (l1 : Int32) (l2 : Int32) (l3 : Nat) (μ : Mem) : ∀ (r : Int32) (μ' : Mem), LL_record l0 l1 l2 l3 μ = some (r, μ') → CtH yL_record cL_record 5 (some .int) hhL_record 11 [.ref l0, .int l1, .int l2, .ref l3] μ (encI r) μ' := by
  refine ct_enterH plL (Nat.le_of_ble_eq_true rfl) (fun F hF hD => ?_)
  unfold LL_record
  refine sim_gd (fun f0 => ?_)
  refine sim_gd (fun f3 => ?_)
  refine s_aload_n hF dL_record_0 rfl 3 rfl ?_
  refine s_iconst (v := (0 : Int32)) hF dL_record_1 kI_0 ?_
  refine s_aload_n hF dL_record_2 rfl 0 rfl ?_
  refine s_iload_n hF dL_record_3 rfl 1 rfl ?_
  refine s_iload_n hF dL_record_4 rfl 2 rfl ?_
  refine s_hVi (st := [.int (0 : Int32), .ref l3]) (ci := 11) (hc := hcL_record) [.int l1, .int l2] hF hD dL_record_5 cwL_39 (Nat.le_of_ble_eq_true rfl) (Nat.le_of_ble_eq_true rfl) rfl rfl (Nat.le_of_ble_eq_true rfl) f0 rfl rfl (Nat.le_of_ble_eq_true rfl) (ctX11_record l0 l1 l2 _) hokL_record (fun r1 m2 hl3 hm4 => ?_)
  refine s_i2l hF dL_record_8 ?_
  refine sim_gd (fun g5 => ?_)
  refine s_lastore hF dL_record_9 g5 ?_
  refine s_goto (tgt := 21) hF dL_record_10 rfl ?_
  refine s_iconst (v := (0 : Int32)) hF dL_record_21 kI_0 ?_
  exact s_iretH hF hD dL_record_22 rfl
theorem hokL_out : ∀ (k : Nat) (c : Int32), hcL_out k = some c → HOK RL cL_out 5 hhL_out 5 k c := by
  intro k c h
  unfold hcL_out at h
  by_cases e0 : k = 0
  · subst e0
    cases h
    exact ⟨[], ⟨0, 10, 13, 34⟩, [⟨0, 10, 17, 47⟩], rfl, (fun z hz => nomatch hz), by decide, by decide, clL_34, cas_0, ⟨1, by decide, Or.inr ⟨4, by decide, dL_out_13, dL_out_15, dL_out_16⟩⟩⟩
  rw [if_neg e0] at h
  by_cases e1 : k = 4
  · subst e1
    cases h
    exact ⟨[⟨0, 10, 13, 34⟩], ⟨0, 10, 17, 47⟩, [], rfl, (List.forall_mem_cons.mpr ⟨Or.inr ⟨by decide, 0, clL_34, by decide⟩, (fun z hz => nomatch hz)⟩), by decide, by decide, clL_47, cas_4, ⟨2, by decide, Or.inr ⟨4, by decide, dL_out_17, dL_out_19, dL_out_20⟩⟩⟩
  rw [if_neg e1] at h
  cases h
theorem ctL_out  (l0 : Nat) (l1 : Int32) (l2 : Int32) (l3 : Nat) (μ : Mem) : ∀ (r : Int32) (μ' : Mem), LL_out l0 l1 l2 l3 μ = some (r, μ') → CtH yL_out cL_out 5 (some .int) hhL_out 11 [.ref l0, .int l1, .int l2, .ref l3] μ (encI r) μ' := by
  refine ct_enterH plL (Nat.le_of_ble_eq_true rfl) (fun F hF hD => ?_)
  unfold LL_out
  refine sim_gd (fun f0 => ?_)
  refine sim_gd (fun f3 => ?_)
  refine s_aload_n hF dL_out_0 rfl 3 rfl ?_
  refine s_iconst (v := (0 : Int32)) hF dL_out_1 kI_0 ?_
  refine s_aload_n hF dL_out_2 rfl 0 rfl ?_
  refine s_iload_n hF dL_out_3 rfl 1 rfl ?_
  refine s_iload_n hF dL_out_4 rfl 2 rfl ?_
  refine s_hVi (st := [.int (0 : Int32), .ref l3]) (ci := 11) (hc := hcL_out) [.int l1, .int l2] hF hD dL_out_5 cwL_44 (Nat.le_of_ble_eq_true rfl) (Nat.le_of_ble_eq_true rfl) rfl rfl (Nat.le_of_ble_eq_true rfl) f0 rfl rfl (Nat.le_of_ble_eq_true rfl) (ctX11_out l0 l1 l2 _) hokL_out (fun r1 m2 hl3 hm4 => ?_)
  refine s_i2l hF dL_out_8 ?_
  refine sim_gd (fun g5 => ?_)
  refine s_lastore hF dL_out_9 g5 ?_
  refine s_goto (tgt := 21) hF dL_out_10 rfl ?_
  refine s_iconst (v := (0 : Int32)) hF dL_out_21 kI_0 ?_
  exact s_iretH hF hD dL_out_22 rfl
theorem hokL_level : ∀ (k : Nat) (c : Int32), hcL_level k = some c → HOK RL cL_level 5 hhL_level 5 k c := by
  intro k c h
  unfold hcL_level at h
  by_cases e0 : k = 0
  · subst e0
    cases h
    exact ⟨[], ⟨0, 10, 13, 34⟩, [], rfl, (fun z hz => nomatch hz), by decide, by decide, clL_34, cas_0, ⟨1, by decide, Or.inr ⟨4, by decide, dL_level_13, dL_level_15, dL_level_16⟩⟩⟩
  rw [if_neg e0] at h
  cases h
theorem ctL_level  (l0 : Nat) (l1 : Int32) (l2 : Int32) (l3 : Nat) (μ : Mem) : ∀ (r : Int32) (μ' : Mem), LL_level l0 l1 l2 l3 μ = some (r, μ') → CtH yL_level cL_level 5 (some .int) hhL_level 11 [.ref l0, .int l1, .int l2, .ref l3] μ (encI r) μ' := by
  refine ct_enterH plL (Nat.le_of_ble_eq_true rfl) (fun F hF hD => ?_)
  unfold LL_level
  refine sim_gd (fun f0 => ?_)
  refine sim_gd (fun f3 => ?_)
  refine s_aload_n hF dL_level_0 rfl 3 rfl ?_
  refine s_iconst (v := (0 : Int32)) hF dL_level_1 kI_0 ?_
  refine s_aload_n hF dL_level_2 rfl 0 rfl ?_
  refine s_iload_n hF dL_level_3 rfl 1 rfl ?_
  refine s_iload_n hF dL_level_4 rfl 2 rfl ?_
  refine s_hVi (st := [.int (0 : Int32), .ref l3]) (ci := 11) (hc := hcL_level) [.int l1, .int l2] hF hD dL_level_5 cwL_49 (Nat.le_of_ble_eq_true rfl) (Nat.le_of_ble_eq_true rfl) rfl rfl (Nat.le_of_ble_eq_true rfl) f0 rfl rfl (Nat.le_of_ble_eq_true rfl) (ctX11_level l0 l1 l2 _) hokL_level (fun r1 m2 hl3 hm4 => ?_)
  refine s_i2l hF dL_level_8 ?_
  refine sim_gd (fun g5 => ?_)
  refine s_lastore hF dL_level_9 g5 ?_
  refine s_goto (tgt := 17) hF dL_level_10 rfl ?_
  refine s_iconst (v := (0 : Int32)) hF dL_level_17 kI_0 ?_
  exact s_iretH hF hD dL_level_18 rfl
theorem hokL_would : ∀ (k : Nat) (c : Int32), hcL_would k = some c → HOK RL cL_would 17 hhL_would 11 k c := by
  intro k c h
  unfold hcL_would at h
  by_cases e0 : k = 1
  · subst e0
    cases h
    exact ⟨[], ⟨0, 22, 25, 13⟩, [], rfl, (fun z hz => nomatch hz), by decide, by decide, clL_13, cas_1, ⟨1, by decide, Or.inr ⟨10, by decide, dL_would_25, dL_would_27, dL_would_28⟩⟩⟩
  rw [if_neg e0] at h
  cases h
theorem ctL_would  (l0 : Nat) (l1 : Int32) (l2 : Int32) (l3 : Int32) (l4 : Int32) (l5 : Int32) (l6 : Int32) (l7 : Int32) (l8 : Int32) (l9 : Nat) (μ : Mem) : ∀ (r : Int32) (μ' : Mem), LL_would l0 l1 l2 l3 l4 l5 l6 l7 l8 l9 μ = some (r, μ') → CtH yL_would cL_would 11 (some .int) hhL_would 11 [.ref l0, .int l1, .int l2, .int l3, .int l4, .int l5, .int l6, .int l7, .int l8, .ref l9] μ (encI r) μ' := by
  refine ct_enterH plL (Nat.le_of_ble_eq_true rfl) (fun F hF hD => ?_)
  unfold LL_would
  refine sim_gd (fun f0 => ?_)
  refine sim_gd (fun f9 => ?_)
  refine s_aload hF dL_would_0 9 rfl ?_
  refine s_iconst (v := (0 : Int32)) hF dL_would_2 kI_0 ?_
  refine s_aload_n hF dL_would_3 rfl 0 rfl ?_
  refine s_iload_n hF dL_would_4 rfl 1 rfl ?_
  refine s_iload_n hF dL_would_5 rfl 2 rfl ?_
  refine s_iload_n hF dL_would_6 rfl 3 rfl ?_
  refine s_iload hF dL_would_7 4 rfl ?_
  refine s_iload hF dL_would_9 5 rfl ?_
  refine s_iload hF dL_would_11 6 rfl ?_
  refine s_iload hF dL_would_13 7 rfl ?_
  refine s_iload hF dL_would_15 8 rfl ?_
  refine s_hVi (st := [.int (0 : Int32), .ref l9]) (ci := 11) (hc := hcL_would) [.int l1, .int l2, .int l3, .int l4, .int l5, .int l6, .int l7, .int l8] hF hD dL_would_17 cwL_52 (Nat.le_of_ble_eq_true rfl) (Nat.le_of_ble_eq_true rfl) rfl rfl (Nat.le_of_ble_eq_true rfl) f0 rfl rfl (Nat.le_of_ble_eq_true rfl) (ctX11_would l0 l1 l2 l3 l4 l5 l6 l7 l8 _) hokL_would (fun r1 m2 hl3 hm4 => ?_)
  refine s_i2l hF dL_would_20 ?_
  refine sim_gd (fun g5 => ?_)
  refine s_lastore hF dL_would_21 g5 ?_
  refine s_goto (tgt := 29) hF dL_would_22 rfl ?_
  refine s_iconst (v := (0 : Int32)) hF dL_would_29 kI_0 ?_
  exact s_iretH hF hD dL_would_30 rfl
theorem hokL_total : ∀ (k : Nat) (c : Int32), hcL_total k = some c → HOK RL cL_total 4 hhL_total 4 k c := by
  intro k c h
  unfold hcL_total at h
  by_cases e0 : k = 0
  · subst e0
    cases h
    exact ⟨[], ⟨0, 9, 12, 34⟩, [⟨0, 9, 15, 47⟩], rfl, (fun z hz => nomatch hz), by decide, by decide, clL_34, cas_0, ⟨1, by decide, Or.inl ⟨3, by decide, dL_total_12, dL_total_13, dL_total_14⟩⟩⟩
  rw [if_neg e0] at h
  by_cases e1 : k = 4
  · subst e1
    cases h
    exact ⟨[⟨0, 9, 12, 34⟩], ⟨0, 9, 15, 47⟩, [], rfl, (List.forall_mem_cons.mpr ⟨Or.inr ⟨by decide, 0, clL_34, by decide⟩, (fun z hz => nomatch hz)⟩), by decide, by decide, clL_47, cas_4, ⟨2, by decide, Or.inl ⟨3, by decide, dL_total_15, dL_total_16, dL_total_17⟩⟩⟩
  rw [if_neg e1] at h
  cases h
theorem ctL_total  (l0 : Nat) (l1 : Int32) (l2 : Nat) (μ : Mem) : ∀ (r : Int32) (μ' : Mem), LL_total l0 l1 l2 μ = some (r, μ') → CtH yL_total cL_total 4 (some .int) hhL_total 11 [.ref l0, .int l1, .ref l2] μ (encI r) μ' := by
  refine ct_enterH plL (Nat.le_of_ble_eq_true rfl) (fun F hF hD => ?_)
  unfold LL_total
  refine sim_gd (fun f0 => ?_)
  refine sim_gd (fun f2 => ?_)
  refine s_aload_n hF dL_total_0 rfl 2 rfl ?_
  refine s_iconst (v := (0 : Int32)) hF dL_total_1 kI_0 ?_
  refine s_aload_n hF dL_total_2 rfl 0 rfl ?_
  refine s_iload_n hF dL_total_3 rfl 1 rfl ?_
  refine s_hVi (st := [.int (0 : Int32), .ref l2]) (ci := 11) (hc := hcL_total) [.int l1] hF hD dL_total_4 cwL_56 (Nat.le_of_ble_eq_true rfl) (Nat.le_of_ble_eq_true rfl) rfl rfl (Nat.le_of_ble_eq_true rfl) f0 rfl rfl (Nat.le_of_ble_eq_true rfl) (ctX11_total l0 l1 _) hokL_total (fun r1 m2 hl3 hm4 => ?_)
  refine s_i2l hF dL_total_7 ?_
  refine sim_gd (fun g5 => ?_)
  refine s_lastore hF dL_total_8 g5 ?_
  refine s_goto (tgt := 18) hF dL_total_9 rfl ?_
  refine s_iconst (v := (0 : Int32)) hF dL_total_18 kI_0 ?_
  exact s_iretH hF hD dL_total_19 rfl
theorem hokL_strange : ∀ (k : Nat) (c : Int32), hcL_strange k = some c → HOK RL cL_strange 5 hhL_strange 5 k c := by
  intro k c h
  unfold hcL_strange at h
  by_cases e0 : k = 0
  · subst e0
    cases h
    exact ⟨[], ⟨0, 10, 13, 34⟩, [⟨0, 10, 17, 13⟩], rfl, (fun z hz => nomatch hz), by decide, by decide, clL_34, cas_0, ⟨1, by decide, Or.inr ⟨4, by decide, dL_strange_13, dL_strange_15, dL_strange_16⟩⟩⟩
  rw [if_neg e0] at h
  by_cases e1 : k = 1
  · subst e1
    cases h
    exact ⟨[⟨0, 10, 13, 34⟩], ⟨0, 10, 17, 13⟩, [], rfl, (List.forall_mem_cons.mpr ⟨Or.inr ⟨by decide, 0, clL_34, by decide⟩, (fun z hz => nomatch hz)⟩), by decide, by decide, clL_13, cas_1, ⟨2, by decide, Or.inr ⟨4, by decide, dL_strange_17, dL_strange_19, dL_strange_20⟩⟩⟩
  rw [if_neg e1] at h
  cases h
theorem ctL_strange  (l0 : Nat) (l1 : Int32) (l2 : Int32) (l3 : Nat) (μ : Mem) : ∀ (r : Int32) (μ' : Mem), LL_strange l0 l1 l2 l3 μ = some (r, μ') → CtH yL_strange cL_strange 5 (some .int) hhL_strange 11 [.ref l0, .int l1, .int l2, .ref l3] μ (encI r) μ' := by
  refine ct_enterH plL (Nat.le_of_ble_eq_true rfl) (fun F hF hD => ?_)
  unfold LL_strange
  refine sim_gd (fun f0 => ?_)
  refine sim_gd (fun f3 => ?_)
  refine s_aload_n hF dL_strange_0 rfl 3 rfl ?_
  refine s_iconst (v := (0 : Int32)) hF dL_strange_1 kI_0 ?_
  refine s_aload_n hF dL_strange_2 rfl 0 rfl ?_
  refine s_iload_n hF dL_strange_3 rfl 1 rfl ?_
  refine s_iload_n hF dL_strange_4 rfl 2 rfl ?_
  refine s_hVi (st := [.int (0 : Int32), .ref l3]) (ci := 11) (hc := hcL_strange) [.int l1, .int l2] hF hD dL_strange_5 cwL_59 (Nat.le_of_ble_eq_true rfl) (Nat.le_of_ble_eq_true rfl) rfl rfl (Nat.le_of_ble_eq_true rfl) f0 rfl rfl (Nat.le_of_ble_eq_true rfl) (ctX11_strange l0 l1 l2 _) hokL_strange (fun r1 m2 hl3 hm4 => ?_)
  refine s_i2l hF dL_strange_8 ?_
  refine sim_gd (fun g5 => ?_)
  refine s_lastore hF dL_strange_9 g5 ?_
  refine s_goto (tgt := 21) hF dL_strange_10 rfl ?_
  refine s_iconst (v := (0 : Int32)) hF dL_strange_21 kI_0 ?_
  exact s_iretH hF hD dL_strange_22 rfl
theorem hokL_extreme : ∀ (k : Nat) (c : Int32), hcL_extreme k = some c → HOK RL cL_extreme 5 hhL_extreme 5 k c := by
  intro k c h
  unfold hcL_extreme at h
  by_cases e0 : k = 0
  · subst e0
    cases h
    exact ⟨[], ⟨0, 10, 13, 34⟩, [⟨0, 10, 17, 13⟩], rfl, (fun z hz => nomatch hz), by decide, by decide, clL_34, cas_0, ⟨1, by decide, Or.inr ⟨4, by decide, dL_extreme_13, dL_extreme_15, dL_extreme_16⟩⟩⟩
  rw [if_neg e0] at h
  by_cases e1 : k = 1
  · subst e1
    cases h
    exact ⟨[⟨0, 10, 13, 34⟩], ⟨0, 10, 17, 13⟩, [], rfl, (List.forall_mem_cons.mpr ⟨Or.inr ⟨by decide, 0, clL_34, by decide⟩, (fun z hz => nomatch hz)⟩), by decide, by decide, clL_13, cas_1, ⟨2, by decide, Or.inr ⟨4, by decide, dL_extreme_17, dL_extreme_19, dL_extreme_20⟩⟩⟩
  rw [if_neg e1] at h
  cases h
theorem ctL_extreme  (l0 : Nat) (l1 : Int32) (l2 : Int32) (l3 : Nat) (μ : Mem) : ∀ (r : Int32) (μ' : Mem), LL_extreme l0 l1 l2 l3 μ = some (r, μ') → CtH yL_extreme cL_extreme 5 (some .int) hhL_extreme 11 [.ref l0, .int l1, .int l2, .ref l3] μ (encI r) μ' := by
  refine ct_enterH plL (Nat.le_of_ble_eq_true rfl) (fun F hF hD => ?_)
  unfold LL_extreme
  refine sim_gd (fun f0 => ?_)
  refine sim_gd (fun f3 => ?_)
  refine s_aload_n hF dL_extreme_0 rfl 3 rfl ?_
  refine s_iconst (v := (0 : Int32)) hF dL_extreme_1 kI_0 ?_
  refine s_aload_n hF dL_extreme_2 rfl 0 rfl ?_
  refine s_iload_n hF dL_extreme_3 rfl 1 rfl ?_
  refine s_iload_n hF dL_extreme_4 rfl 2 rfl ?_
  refine s_hVi (st := [.int (0 : Int32), .ref l3]) (ci := 11) (hc := hcL_extreme) [.int l1, .int l2] hF hD dL_extreme_5 cwL_62 (Nat.le_of_ble_eq_true rfl) (Nat.le_of_ble_eq_true rfl) rfl rfl (Nat.le_of_ble_eq_true rfl) f0 rfl rfl (Nat.le_of_ble_eq_true rfl) (ctX11_extreme l0 l1 l2 _) hokL_extreme (fun r1 m2 hl3 hm4 => ?_)
  refine s_i2l hF dL_extreme_8 ?_
  refine sim_gd (fun g5 => ?_)
  refine s_lastore hF dL_extreme_9 g5 ?_
  refine s_goto (tgt := 21) hF dL_extreme_10 rfl ?_
  refine s_iconst (v := (0 : Int32)) hF dL_extreme_21 kI_0 ?_
  exact s_iretH hF hD dL_extreme_22 rfl
theorem hokL_through : ∀ (k : Nat) (c : Int32), hcL_through k = some c → HOK RL cL_through 4 hhL_through 4 k c := by
  intro k c h
  unfold hcL_through at h
  by_cases e0 : k = 4
  · subst e0
    cases h
    exact ⟨[], ⟨0, 9, 12, 47⟩, [], rfl, (fun z hz => nomatch hz), by decide, by decide, clL_47, cas_4, ⟨1, by decide, Or.inl ⟨3, by decide, dL_through_12, dL_through_13, dL_through_14⟩⟩⟩
  rw [if_neg e0] at h
  cases h
theorem ctL_through  (l0 : Nat) (l1 : Int32) (l2 : Nat) (μ : Mem) : ∀ (r : Int32) (μ' : Mem), LL_through l0 l1 l2 μ = some (r, μ') → CtH yL_through cL_through 4 (some .int) hhL_through 10 [.ref l0, .int l1, .ref l2] μ (encI r) μ' := by
  refine ct_enterH plL (Nat.le_of_ble_eq_true rfl) (fun F hF hD => ?_)
  unfold LL_through
  refine sim_gd (fun f0 => ?_)
  refine sim_gd (fun f2 => ?_)
  refine s_aload_n hF dL_through_0 rfl 2 rfl ?_
  refine s_iconst (v := (0 : Int32)) hF dL_through_1 kI_0 ?_
  refine s_aload_n hF dL_through_2 rfl 0 rfl ?_
  refine s_iload_n hF dL_through_3 rfl 1 rfl ?_
  refine s_hVi (st := [.int (0 : Int32), .ref l2]) (ci := 11) (hc := hcL_through) [.int l1] hF hD dL_through_4 cwL_65 (Nat.le_of_ble_eq_true rfl) (Nat.le_of_ble_eq_true rfl) rfl rfl (Nat.le_of_ble_eq_true rfl) f0 rfl rfl (Nat.le_of_ble_eq_true rfl) (ctX11_through l0 l1 _) hokL_through (fun r1 m2 hl3 hm4 => ?_)
  refine s_i2l hF dL_through_7 ?_
  refine sim_gd (fun g5 => ?_)
  refine s_lastore hF dL_through_8 g5 ?_
  refine s_goto (tgt := 15) hF dL_through_9 rfl ?_
  refine s_iconst (v := (0 : Int32)) hF dL_through_15 kI_0 ?_
  exact s_iretH hF hD dL_through_16 rfl
theorem hokL_kept : ∀ (k : Nat) (c : Int32), hcL_kept k = some c → HOK RL cL_kept 5 hhL_kept 5 k c := by
  intro k c h
  unfold hcL_kept at h
  by_cases e0 : k = 1
  · subst e0
    cases h
    exact ⟨[], ⟨0, 10, 13, 13⟩, [], rfl, (fun z hz => nomatch hz), by decide, by decide, clL_13, cas_1, ⟨1, by decide, Or.inr ⟨4, by decide, dL_kept_13, dL_kept_15, dL_kept_16⟩⟩⟩
  rw [if_neg e0] at h
  cases h
theorem ctL_kept  (l0 : Nat) (l1 : Int32) (l2 : Int32) (l3 : Nat) (μ : Mem) : ∀ (r : Int32) (μ' : Mem), LL_kept l0 l1 l2 l3 μ = some (r, μ') → CtH yL_kept cL_kept 5 (some .int) hhL_kept 11 [.ref l0, .int l1, .int l2, .ref l3] μ (encI r) μ' := by
  refine ct_enterH plL (Nat.le_of_ble_eq_true rfl) (fun F hF hD => ?_)
  unfold LL_kept
  refine sim_gd (fun f0 => ?_)
  refine sim_gd (fun f3 => ?_)
  refine s_aload_n hF dL_kept_0 rfl 3 rfl ?_
  refine s_iconst (v := (0 : Int32)) hF dL_kept_1 kI_0 ?_
  refine s_aload_n hF dL_kept_2 rfl 0 rfl ?_
  refine s_iload_n hF dL_kept_3 rfl 1 rfl ?_
  refine s_iload_n hF dL_kept_4 rfl 2 rfl ?_
  refine s_hVi (st := [.int (0 : Int32), .ref l3]) (ci := 11) (hc := hcL_kept) [.int l1, .int l2] hF hD dL_kept_5 cwL_68 (Nat.le_of_ble_eq_true rfl) (Nat.le_of_ble_eq_true rfl) rfl rfl (Nat.le_of_ble_eq_true rfl) f0 rfl rfl (Nat.le_of_ble_eq_true rfl) (ctX11_kept l0 l1 l2 _) hokL_kept (fun r1 m2 hl3 hm4 => ?_)
  refine s_i2l hF dL_kept_8 ?_
  refine sim_gd (fun g5 => ?_)
  refine s_lastore hF dL_kept_9 g5 ?_
  refine s_goto (tgt := 17) hF dL_kept_10 rfl ?_
  refine s_iconst (v := (0 : Int32)) hF dL_kept_17 kI_0 ?_
  exact s_iretH hF hD dL_kept_18 rfl
theorem hokL_gives : ∀ (k : Nat) (c : Int32), hcL_gives k = some c → HOK RL cL_gives 7 hhL_gives 6 k c := by
  intro k c h
  unfold hcL_gives at h
  by_cases e0 : k = 1
  · subst e0
    cases h
    exact ⟨[], ⟨0, 12, 15, 13⟩, [], rfl, (fun z hz => nomatch hz), by decide, by decide, clL_13, cas_1, ⟨1, by decide, Or.inr ⟨5, by decide, dL_gives_15, dL_gives_17, dL_gives_18⟩⟩⟩
  rw [if_neg e0] at h
  cases h
theorem ctL_gives  (l0 : Nat) (l1 : Int32) (l2 : Int32) (l3 : Int32) (l4 : Nat) (μ : Mem) : ∀ (r : Int32) (μ' : Mem), LL_gives l0 l1 l2 l3 l4 μ = some (r, μ') → CtH yL_gives cL_gives 6 (some .int) hhL_gives 11 [.ref l0, .int l1, .int l2, .int l3, .ref l4] μ (encI r) μ' := by
  refine ct_enterH plL (Nat.le_of_ble_eq_true rfl) (fun F hF hD => ?_)
  unfold LL_gives
  refine sim_gd (fun f0 => ?_)
  refine sim_gd (fun f4 => ?_)
  refine s_aload hF dL_gives_0 4 rfl ?_
  refine s_iconst (v := (0 : Int32)) hF dL_gives_2 kI_0 ?_
  refine s_aload_n hF dL_gives_3 rfl 0 rfl ?_
  refine s_iload_n hF dL_gives_4 rfl 1 rfl ?_
  refine s_iload_n hF dL_gives_5 rfl 2 rfl ?_
  refine s_iload_n hF dL_gives_6 rfl 3 rfl ?_
  refine s_hVi (st := [.int (0 : Int32), .ref l4]) (ci := 11) (hc := hcL_gives) [.int l1, .int l2, .int l3] hF hD dL_gives_7 cwL_71 (Nat.le_of_ble_eq_true rfl) (Nat.le_of_ble_eq_true rfl) rfl rfl (Nat.le_of_ble_eq_true rfl) f0 rfl rfl (Nat.le_of_ble_eq_true rfl) (ctX11_gives l0 l1 l2 l3 _) hokL_gives (fun r1 m2 hl3 hm4 => ?_)
  refine s_i2l hF dL_gives_10 ?_
  refine sim_gd (fun g5 => ?_)
  refine s_lastore hF dL_gives_11 g5 ?_
  refine s_goto (tgt := 19) hF dL_gives_12 rfl ?_
  refine s_iconst (v := (0 : Int32)) hF dL_gives_19 kI_0 ?_
  exact s_iretH hF hD dL_gives_20 rfl
theorem hokL_worst : ∀ (k : Nat) (c : Int32), hcL_worst k = some c → HOK RL cL_worst 7 hhL_worst 6 k c := by
  intro k c h
  unfold hcL_worst at h
  by_cases e0 : k = 1
  · subst e0
    cases h
    exact ⟨[], ⟨0, 12, 15, 13⟩, [], rfl, (fun z hz => nomatch hz), by decide, by decide, clL_13, cas_1, ⟨1, by decide, Or.inr ⟨5, by decide, dL_worst_15, dL_worst_17, dL_worst_18⟩⟩⟩
  rw [if_neg e0] at h
  cases h
theorem ctL_worst  (l0 : Nat) (l1 : Int32) (l2 : Int32) (l3 : Int32) (l4 : Nat) (μ : Mem) : ∀ (r : Int32) (μ' : Mem), LL_worst l0 l1 l2 l3 l4 μ = some (r, μ') → CtH yL_worst cL_worst 6 (some .int) hhL_worst 11 [.ref l0, .int l1, .int l2, .int l3, .ref l4] μ (encI r) μ' := by
  refine ct_enterH plL (Nat.le_of_ble_eq_true rfl) (fun F hF hD => ?_)
  unfold LL_worst
  refine sim_gd (fun f0 => ?_)
  refine sim_gd (fun f4 => ?_)
  refine s_aload hF dL_worst_0 4 rfl ?_
  refine s_iconst (v := (0 : Int32)) hF dL_worst_2 kI_0 ?_
  refine s_aload_n hF dL_worst_3 rfl 0 rfl ?_
  refine s_iload_n hF dL_worst_4 rfl 1 rfl ?_
  refine s_iload_n hF dL_worst_5 rfl 2 rfl ?_
  refine s_iload_n hF dL_worst_6 rfl 3 rfl ?_
  refine s_hVi (st := [.int (0 : Int32), .ref l4]) (ci := 11) (hc := hcL_worst) [.int l1, .int l2, .int l3] hF hD dL_worst_7 cwL_75 (Nat.le_of_ble_eq_true rfl) (Nat.le_of_ble_eq_true rfl) rfl rfl (Nat.le_of_ble_eq_true rfl) f0 rfl rfl (Nat.le_of_ble_eq_true rfl) (ctX11_worst l0 l1 l2 l3 _) hokL_worst (fun r1 m2 hl3 hm4 => ?_)
  refine s_i2l hF dL_worst_10 ?_
  refine sim_gd (fun g5 => ?_)
  refine s_lastore hF dL_worst_11 g5 ?_
  refine s_goto (tgt := 19) hF dL_worst_12 rfl ?_
  refine s_iconst (v := (0 : Int32)) hF dL_worst_19 kI_0 ?_
  exact s_iretH hF hD dL_worst_20 rfl
theorem hokL_best : ∀ (k : Nat) (c : Int32), hcL_best k = some c → HOK RL cL_best 9 hhL_best 7 k c := by
  intro k c h
  unfold hcL_best at h
  by_cases e0 : k = 0
  · subst e0
    cases h
    exact ⟨[], ⟨0, 14, 17, 34⟩, [⟨0, 14, 21, 13⟩], rfl, (fun z hz => nomatch hz), by decide, by decide, clL_34, cas_0, ⟨1, by decide, Or.inr ⟨6, by decide, dL_best_17, dL_best_19, dL_best_20⟩⟩⟩
  rw [if_neg e0] at h
  by_cases e1 : k = 1
  · subst e1
    cases h
    exact ⟨[⟨0, 14, 17, 34⟩], ⟨0, 14, 21, 13⟩, [], rfl, (List.forall_mem_cons.mpr ⟨Or.inr ⟨by decide, 0, clL_34, by decide⟩, (fun z hz => nomatch hz)⟩), by decide, by decide, clL_13, cas_1, ⟨2, by decide, Or.inr ⟨6, by decide, dL_best_21, dL_best_23, dL_best_24⟩⟩⟩
  rw [if_neg e1] at h
  cases h
theorem ctL_best  (l0 : Nat) (l1 : Int32) (l2 : Int32) (l3 : Int32) (l4 : Int32) (l5 : Nat) (μ : Mem) : ∀ (r : Int32) (μ' : Mem), LL_best l0 l1 l2 l3 l4 l5 μ = some (r, μ') → CtH yL_best cL_best 7 (some .int) hhL_best 17 [.ref l0, .int l1, .int l2, .int l3, .int l4, .ref l5] μ (encI r) μ' := by
  refine ct_enterH plL (Nat.le_of_ble_eq_true rfl) (fun F hF hD => ?_)
  unfold LL_best
  refine sim_gd (fun f0 => ?_)
  refine sim_gd (fun f5 => ?_)
  refine s_aload hF dL_best_0 5 rfl ?_
  refine s_iconst (v := (0 : Int32)) hF dL_best_2 kI_0 ?_
  refine s_aload_n hF dL_best_3 rfl 0 rfl ?_
  refine s_iload_n hF dL_best_4 rfl 1 rfl ?_
  refine s_iload_n hF dL_best_5 rfl 2 rfl ?_
  refine s_iload_n hF dL_best_6 rfl 3 rfl ?_
  refine s_iload hF dL_best_7 4 rfl ?_
  refine s_hVi (st := [.int (0 : Int32), .ref l5]) (ci := 11) (hc := hcL_best) [.int l1, .int l2, .int l3, .int l4] hF hD dL_best_9 cwL_78 (Nat.le_of_ble_eq_true rfl) (Nat.le_of_ble_eq_true rfl) rfl rfl (Nat.le_of_ble_eq_true rfl) f0 rfl rfl (Nat.le_of_ble_eq_true rfl) (ctX11_best l0 l1 l2 l3 l4 _) hokL_best (fun r1 m2 hl3 hm4 => ?_)
  refine s_i2l hF dL_best_12 ?_
  refine sim_gd (fun g5 => ?_)
  refine s_lastore hF dL_best_13 g5 ?_
  refine s_goto (tgt := 25) hF dL_best_14 rfl ?_
  refine s_iconst (v := (0 : Int32)) hF dL_best_25 kI_0 ?_
  exact s_iretH hF hD dL_best_26 rfl
theorem hokL_hop : ∀ (k : Nat) (c : Int32), hcL_hop k = some c → HOK RL cL_hop 9 hhL_hop 7 k c := by
  intro k c h
  unfold hcL_hop at h
  by_cases e0 : k = 0
  · subst e0
    cases h
    exact ⟨[], ⟨0, 14, 17, 34⟩, [⟨0, 14, 21, 13⟩], rfl, (fun z hz => nomatch hz), by decide, by decide, clL_34, cas_0, ⟨1, by decide, Or.inr ⟨6, by decide, dL_hop_17, dL_hop_19, dL_hop_20⟩⟩⟩
  rw [if_neg e0] at h
  by_cases e1 : k = 1
  · subst e1
    cases h
    exact ⟨[⟨0, 14, 17, 34⟩], ⟨0, 14, 21, 13⟩, [], rfl, (List.forall_mem_cons.mpr ⟨Or.inr ⟨by decide, 0, clL_34, by decide⟩, (fun z hz => nomatch hz)⟩), by decide, by decide, clL_13, cas_1, ⟨2, by decide, Or.inr ⟨6, by decide, dL_hop_21, dL_hop_23, dL_hop_24⟩⟩⟩
  rw [if_neg e1] at h
  cases h
theorem ctL_hop  (l0 : Nat) (l1 : Int32) (l2 : Int32) (l3 : Int32) (l4 : Int32) (l5 : Nat) (μ : Mem) : ∀ (r : Int32) (μ' : Mem), LL_hop l0 l1 l2 l3 l4 l5 μ = some (r, μ') → CtH yL_hop cL_hop 7 (some .int) hhL_hop 17 [.ref l0, .int l1, .int l2, .int l3, .int l4, .ref l5] μ (encI r) μ' := by
  refine ct_enterH plL (Nat.le_of_ble_eq_true rfl) (fun F hF hD => ?_)
  unfold LL_hop
  refine sim_gd (fun f0 => ?_)
  refine sim_gd (fun f5 => ?_)
  refine s_aload hF dL_hop_0 5 rfl ?_
  refine s_iconst (v := (0 : Int32)) hF dL_hop_2 kI_0 ?_
  refine s_aload_n hF dL_hop_3 rfl 0 rfl ?_
  refine s_iload_n hF dL_hop_4 rfl 1 rfl ?_
  refine s_iload_n hF dL_hop_5 rfl 2 rfl ?_
  refine s_iload_n hF dL_hop_6 rfl 3 rfl ?_
  refine s_iload hF dL_hop_7 4 rfl ?_
  refine s_hVi (st := [.int (0 : Int32), .ref l5]) (ci := 11) (hc := hcL_hop) [.int l1, .int l2, .int l3, .int l4] hF hD dL_hop_9 cwL_82 (Nat.le_of_ble_eq_true rfl) (Nat.le_of_ble_eq_true rfl) rfl rfl (Nat.le_of_ble_eq_true rfl) f0 rfl rfl (Nat.le_of_ble_eq_true rfl) (ctX11_hop l0 l1 l2 l3 l4 _) hokL_hop (fun r1 m2 hl3 hm4 => ?_)
  refine s_i2l hF dL_hop_12 ?_
  refine sim_gd (fun g5 => ?_)
  refine s_lastore hF dL_hop_13 g5 ?_
  refine s_goto (tgt := 25) hF dL_hop_14 rfl ?_
  refine s_iconst (v := (0 : Int32)) hF dL_hop_25 kI_0 ?_
  exact s_iretH hF hD dL_hop_26 rfl
theorem hokL_tuning : ∀ (k : Nat) (c : Int32), hcL_tuning k = some c → HOK RL cL_tuning 7 hhL_tuning 6 k c := by
  intro k c h
  unfold hcL_tuning at h
  by_cases e0 : k = 0
  · subst e0
    cases h
    exact ⟨[], ⟨0, 12, 15, 34⟩, [], rfl, (fun z hz => nomatch hz), by decide, by decide, clL_34, cas_0, ⟨1, by decide, Or.inr ⟨5, by decide, dL_tuning_15, dL_tuning_17, dL_tuning_18⟩⟩⟩
  rw [if_neg e0] at h
  cases h
theorem ctL_tuning  (l0 : Nat) (l1 : Int32) (l2 : Int32) (l3 : Int32) (l4 : Nat) (μ : Mem) : ∀ (r : Int32) (μ' : Mem), LL_tuning l0 l1 l2 l3 l4 μ = some (r, μ') → CtH yL_tuning cL_tuning 6 (some .int) hhL_tuning 11 [.ref l0, .int l1, .int l2, .int l3, .ref l4] μ (encI r) μ' := by
  refine ct_enterH plL (Nat.le_of_ble_eq_true rfl) (fun F hF hD => ?_)
  unfold LL_tuning
  refine sim_gd (fun f0 => ?_)
  refine sim_gd (fun f4 => ?_)
  refine s_aload hF dL_tuning_0 4 rfl ?_
  refine s_iconst (v := (0 : Int32)) hF dL_tuning_2 kI_0 ?_
  refine s_aload_n hF dL_tuning_3 rfl 0 rfl ?_
  refine s_iload_n hF dL_tuning_4 rfl 1 rfl ?_
  refine s_iload_n hF dL_tuning_5 rfl 2 rfl ?_
  refine s_iload_n hF dL_tuning_6 rfl 3 rfl ?_
  refine s_hVi (st := [.int (0 : Int32), .ref l4]) (ci := 11) (hc := hcL_tuning) [.int l1, .int l2, .int l3] hF hD dL_tuning_7 cwL_85 (Nat.le_of_ble_eq_true rfl) (Nat.le_of_ble_eq_true rfl) rfl rfl (Nat.le_of_ble_eq_true rfl) f0 rfl rfl (Nat.le_of_ble_eq_true rfl) (ctX11_tuning l0 l1 l2 l3 _) hokL_tuning (fun r1 m2 hl3 hm4 => ?_)
  refine s_i2l hF dL_tuning_10 ?_
  refine sim_gd (fun g5 => ?_)
  refine s_lastore hF dL_tuning_11 g5 ?_
  refine s_goto (tgt := 19) hF dL_tuning_12 rfl ?_
  refine s_iconst (v := (0 : Int32)) hF dL_tuning_19 kI_0 ?_
  exact s_iretH hF hD dL_tuning_20 rfl
theorem hokL_ring : ∀ (k : Nat) (c : Int32), hcL_ring k = some c → HOK RL cL_ring 7 hhL_ring 6 k c := by
  intro k c h
  unfold hcL_ring at h
  by_cases e0 : k = 0
  · subst e0
    cases h
    exact ⟨[], ⟨0, 12, 15, 34⟩, [⟨0, 12, 19, 13⟩], rfl, (fun z hz => nomatch hz), by decide, by decide, clL_34, cas_0, ⟨1, by decide, Or.inr ⟨5, by decide, dL_ring_15, dL_ring_17, dL_ring_18⟩⟩⟩
  rw [if_neg e0] at h
  by_cases e1 : k = 1
  · subst e1
    cases h
    exact ⟨[⟨0, 12, 15, 34⟩], ⟨0, 12, 19, 13⟩, [], rfl, (List.forall_mem_cons.mpr ⟨Or.inr ⟨by decide, 0, clL_34, by decide⟩, (fun z hz => nomatch hz)⟩), by decide, by decide, clL_13, cas_1, ⟨2, by decide, Or.inr ⟨5, by decide, dL_ring_19, dL_ring_21, dL_ring_22⟩⟩⟩
  rw [if_neg e1] at h
  cases h
theorem ctL_ring  (l0 : Nat) (l1 : Int32) (l2 : Int32) (l3 : Int32) (l4 : Nat) (μ : Mem) : ∀ (r : Int32) (μ' : Mem), LL_ring l0 l1 l2 l3 l4 μ = some (r, μ') → CtH yL_ring cL_ring 6 (some .int) hhL_ring 11 [.ref l0, .int l1, .int l2, .int l3, .ref l4] μ (encI r) μ' := by
  refine ct_enterH plL (Nat.le_of_ble_eq_true rfl) (fun F hF hD => ?_)
  unfold LL_ring
  refine sim_gd (fun f0 => ?_)
  refine sim_gd (fun f4 => ?_)
  refine s_aload hF dL_ring_0 4 rfl ?_
  refine s_iconst (v := (0 : Int32)) hF dL_ring_2 kI_0 ?_
  refine s_aload_n hF dL_ring_3 rfl 0 rfl ?_
  refine s_iload_n hF dL_ring_4 rfl 1 rfl ?_
  refine s_iload_n hF dL_ring_5 rfl 2 rfl ?_
  refine s_iload_n hF dL_ring_6 rfl 3 rfl ?_
  refine s_hVi (st := [.int (0 : Int32), .ref l4]) (ci := 11) (hc := hcL_ring) [.int l1, .int l2, .int l3] hF hD dL_ring_7 cwL_88 (Nat.le_of_ble_eq_true rfl) (Nat.le_of_ble_eq_true rfl) rfl rfl (Nat.le_of_ble_eq_true rfl) f0 rfl rfl (Nat.le_of_ble_eq_true rfl) (ctX11_ring l0 l1 l2 l3 _) hokL_ring (fun r1 m2 hl3 hm4 => ?_)
  refine s_i2l hF dL_ring_10 ?_
  refine sim_gd (fun g5 => ?_)
  refine s_lastore hF dL_ring_11 g5 ?_
  refine s_goto (tgt := 23) hF dL_ring_12 rfl ?_
  refine s_iconst (v := (0 : Int32)) hF dL_ring_23 kI_0 ?_
  exact s_iretH hF hD dL_ring_24 rfl
theorem hokL_look : ∀ (k : Nat) (c : Int32), hcL_look k = some c → HOK RL cL_look 4 hhL_look 4 k c := by
  intro k c h
  unfold hcL_look at h
  by_cases e0 : k = 1
  · subst e0
    cases h
    exact ⟨[], ⟨0, 9, 12, 13⟩, [], rfl, (fun z hz => nomatch hz), by decide, by decide, clL_13, cas_1, ⟨1, by decide, Or.inl ⟨3, by decide, dL_look_12, dL_look_13, dL_look_14⟩⟩⟩
  rw [if_neg e0] at h
  cases h
theorem ctL_look  (l0 : Nat) (l1 : Int32) (l2 : Nat) (μ : Mem) : ∀ (r : Int32) (μ' : Mem), LL_look l0 l1 l2 μ = some (r, μ') → CtH yL_look cL_look 4 (some .int) hhL_look 11 [.ref l0, .int l1, .ref l2] μ (encI r) μ' := by
  refine ct_enterH plL (Nat.le_of_ble_eq_true rfl) (fun F hF hD => ?_)
  unfold LL_look
  refine sim_gd (fun f0 => ?_)
  refine sim_gd (fun f2 => ?_)
  refine s_aload_n hF dL_look_0 rfl 2 rfl ?_
  refine s_iconst (v := (0 : Int32)) hF dL_look_1 kI_0 ?_
  refine s_aload_n hF dL_look_2 rfl 0 rfl ?_
  refine s_iload_n hF dL_look_3 rfl 1 rfl ?_
  refine s_hVi (st := [.int (0 : Int32), .ref l2]) (ci := 11) (hc := hcL_look) [.int l1] hF hD dL_look_4 cwL_91 (Nat.le_of_ble_eq_true rfl) (Nat.le_of_ble_eq_true rfl) rfl rfl (Nat.le_of_ble_eq_true rfl) f0 rfl rfl (Nat.le_of_ble_eq_true rfl) (ctX11_look l0 l1 _) hokL_look (fun r1 m2 hl3 hm4 => ?_)
  refine s_i2l hF dL_look_7 ?_
  refine sim_gd (fun g5 => ?_)
  refine s_lastore hF dL_look_8 g5 ?_
  refine s_goto (tgt := 15) hF dL_look_9 rfl ?_
  refine s_iconst (v := (0 : Int32)) hF dL_look_15 kI_0 ?_
  exact s_iretH hF hD dL_look_16 rfl
theorem hokL_alike : ∀ (k : Nat) (c : Int32), hcL_alike k = some c → HOK RL cL_alike 5 hhL_alike 5 k c := by
  intro k c h
  unfold hcL_alike at h
  by_cases e0 : k = 0
  · subst e0
    cases h
    exact ⟨[], ⟨0, 17, 20, 34⟩, [], rfl, (fun z hz => nomatch hz), by decide, by decide, clL_34, cas_0, ⟨1, by decide, Or.inr ⟨4, by decide, dL_alike_20, dL_alike_22, dL_alike_23⟩⟩⟩
  rw [if_neg e0] at h
  cases h
theorem ctL_alike  (l0 : Nat) (l1 : Int32) (l2 : Int32) (l3 : Nat) (μ : Mem) : ∀ (r : Int32) (μ' : Mem), LL_alike l0 l1 l2 l3 μ = some (r, μ') → CtH yL_alike cL_alike 5 (some .int) hhL_alike 11 [.ref l0, .int l1, .int l2, .ref l3] μ (encI r) μ' := by
  refine ct_enterH plL (Nat.le_of_ble_eq_true rfl) (fun F hF hD => ?_)
  unfold LL_alike
  refine sim_gd (fun f0 => ?_)
  refine sim_gd (fun f3 => ?_)
  refine s_aload_n hF dL_alike_0 rfl 3 rfl ?_
  refine s_iconst (v := (0 : Int32)) hF dL_alike_1 kI_0 ?_
  refine s_aload_n hF dL_alike_2 rfl 0 rfl ?_
  refine s_iload_n hF dL_alike_3 rfl 1 rfl ?_
  refine s_iload_n hF dL_alike_4 rfl 2 rfl ?_
  refine s_hVi (st := [.int (0 : Int32), .ref l3]) (ci := 11) (hc := hcL_alike) [.int l1, .int l2] hF hD dL_alike_5 cwL_99 (Nat.le_of_ble_eq_true rfl) (Nat.le_of_ble_eq_true rfl) rfl rfl (Nat.le_of_ble_eq_true rfl) f0 rfl rfl (Nat.le_of_ble_eq_true rfl) (ctX11_alike l0 l1 l2 _) hokL_alike (fun r1 m2 hl3 hm4 => ?_)
  refine s_if_eq (tgt := 15) hF dL_alike_8 rfl (fun c5 => ?_) (fun c5 => ?_)
  · refine s_lconst (v := (0 : Int64)) hF dL_alike_15 kL_0 ?_
    refine sim_gd (fun g6 => ?_)
    refine s_lastore hF dL_alike_16 g6 ?_
    refine s_goto (tgt := 24) hF dL_alike_17 rfl ?_
    refine s_iconst (v := (0 : Int32)) hF dL_alike_24 kI_0 ?_
    exact s_iretH hF hD dL_alike_25 rfl
  · refine s_lconst (v := (1 : Int64)) hF dL_alike_11 kL_1 ?_
    refine s_goto (tgt := 16) hF dL_alike_12 rfl ?_
    refine sim_gd (fun g7 => ?_)
    refine s_lastore hF dL_alike_16 g7 ?_
    refine s_goto (tgt := 24) hF dL_alike_17 rfl ?_
    refine s_iconst (v := (0 : Int32)) hF dL_alike_24 kI_0 ?_
    exact s_iretH hF hD dL_alike_25 rfl
theorem hokL_chained : ∀ (k : Nat) (c : Int32), hcL_chained k = some c → HOK RL cL_chained 4 hhL_chained 4 k c := by
  intro k c h
  unfold hcL_chained at h
  by_cases e0 : k = 1
  · subst e0
    cases h
    exact ⟨[], ⟨0, 9, 12, 13⟩, [], rfl, (fun z hz => nomatch hz), by decide, by decide, clL_13, cas_1, ⟨1, by decide, Or.inl ⟨3, by decide, dL_chained_12, dL_chained_13, dL_chained_14⟩⟩⟩
  rw [if_neg e0] at h
  cases h
theorem ctL_chained  (l0 : Nat) (l1 : Int32) (l2 : Nat) (μ : Mem) : ∀ (r : Int32) (μ' : Mem), LL_chained l0 l1 l2 μ = some (r, μ') → CtH yL_chained cL_chained 4 (some .int) hhL_chained 11 [.ref l0, .int l1, .ref l2] μ (encI r) μ' := by
  refine ct_enterH plL (Nat.le_of_ble_eq_true rfl) (fun F hF hD => ?_)
  unfold LL_chained
  refine sim_gd (fun f0 => ?_)
  refine sim_gd (fun f2 => ?_)
  refine s_aload_n hF dL_chained_0 rfl 2 rfl ?_
  refine s_iconst (v := (0 : Int32)) hF dL_chained_1 kI_0 ?_
  refine s_aload_n hF dL_chained_2 rfl 0 rfl ?_
  refine s_iload_n hF dL_chained_3 rfl 1 rfl ?_
  refine s_hVi (st := [.int (0 : Int32), .ref l2]) (ci := 11) (hc := hcL_chained) [.int l1] hF hD dL_chained_4 cwL_103 (Nat.le_of_ble_eq_true rfl) (Nat.le_of_ble_eq_true rfl) rfl rfl (Nat.le_of_ble_eq_true rfl) f0 rfl rfl (Nat.le_of_ble_eq_true rfl) (ctX11_chained l0 l1 _) hokL_chained (fun r1 m2 hl3 hm4 => ?_)
  refine s_i2l hF dL_chained_7 ?_
  refine sim_gd (fun g5 => ?_)
  refine s_lastore hF dL_chained_8 g5 ?_
  refine s_goto (tgt := 15) hF dL_chained_9 rfl ?_
  refine s_iconst (v := (0 : Int32)) hF dL_chained_15 kI_0 ?_
  exact s_iretH hF hD dL_chained_16 rfl
theorem hokL_liar : ∀ (k : Nat) (c : Int32), hcL_liar k = some c → HOK RL cL_liar 5 hhL_liar 5 k c := by
  intro k c h
  unfold hcL_liar at h
  by_cases e0 : k = 1
  · subst e0
    cases h
    exact ⟨[], ⟨0, 10, 13, 13⟩, [], rfl, (fun z hz => nomatch hz), by decide, by decide, clL_13, cas_1, ⟨1, by decide, Or.inr ⟨4, by decide, dL_liar_13, dL_liar_15, dL_liar_16⟩⟩⟩
  rw [if_neg e0] at h
  cases h
theorem ctL_liar  (l0 : Nat) (l1 : Int32) (l2 : Int32) (l3 : Nat) (μ : Mem) : ∀ (r : Int32) (μ' : Mem), LL_liar l0 l1 l2 l3 μ = some (r, μ') → CtH yL_liar cL_liar 5 (some .int) hhL_liar 11 [.ref l0, .int l1, .int l2, .ref l3] μ (encI r) μ' := by
  refine ct_enterH plL (Nat.le_of_ble_eq_true rfl) (fun F hF hD => ?_)
  unfold LL_liar
  refine sim_gd (fun f0 => ?_)
  refine sim_gd (fun f3 => ?_)
  refine s_aload_n hF dL_liar_0 rfl 3 rfl ?_
  refine s_iconst (v := (0 : Int32)) hF dL_liar_1 kI_0 ?_
  refine s_aload_n hF dL_liar_2 rfl 0 rfl ?_
  refine s_iload_n hF dL_liar_3 rfl 1 rfl ?_
  refine s_iload_n hF dL_liar_4 rfl 2 rfl ?_
  refine s_hVi (st := [.int (0 : Int32), .ref l3]) (ci := 11) (hc := hcL_liar) [.int l1, .int l2] hF hD dL_liar_5 cwL_106 (Nat.le_of_ble_eq_true rfl) (Nat.le_of_ble_eq_true rfl) rfl rfl (Nat.le_of_ble_eq_true rfl) f0 rfl rfl (Nat.le_of_ble_eq_true rfl) (ctX11_liar l0 l1 l2 _) hokL_liar (fun r1 m2 hl3 hm4 => ?_)
  refine s_i2l hF dL_liar_8 ?_
  refine sim_gd (fun g5 => ?_)
  refine s_lastore hF dL_liar_9 g5 ?_
  refine s_goto (tgt := 17) hF dL_liar_10 rfl ?_
  refine s_iconst (v := (0 : Int32)) hF dL_liar_17 kI_0 ?_
  exact s_iretH hF hD dL_liar_18 rfl
theorem hokL_reach : ∀ (k : Nat) (c : Int32), hcL_reach k = some c → HOK RL cL_reach 4 hhL_reach 4 k c := by
  intro k c h
  unfold hcL_reach at h
  by_cases e0 : k = 0
  · subst e0
    cases h
    exact ⟨[], ⟨0, 9, 12, 34⟩, [], rfl, (fun z hz => nomatch hz), by decide, by decide, clL_34, cas_0, ⟨1, by decide, Or.inl ⟨3, by decide, dL_reach_12, dL_reach_13, dL_reach_14⟩⟩⟩
  rw [if_neg e0] at h
  cases h
theorem ctL_reach  (l0 : Nat) (l1 : Int32) (l2 : Nat) (μ : Mem) : ∀ (r : Int32) (μ' : Mem), LL_reach l0 l1 l2 μ = some (r, μ') → CtH yL_reach cL_reach 4 (some .int) hhL_reach 11 [.ref l0, .int l1, .ref l2] μ (encI r) μ' := by
  refine ct_enterH plL (Nat.le_of_ble_eq_true rfl) (fun F hF hD => ?_)
  unfold LL_reach
  refine sim_gd (fun f0 => ?_)
  refine sim_gd (fun f2 => ?_)
  refine s_aload_n hF dL_reach_0 rfl 2 rfl ?_
  refine s_iconst (v := (0 : Int32)) hF dL_reach_1 kI_0 ?_
  refine s_aload_n hF dL_reach_2 rfl 0 rfl ?_
  refine s_iload_n hF dL_reach_3 rfl 1 rfl ?_
  refine s_hVi (st := [.int (0 : Int32), .ref l2]) (ci := 11) (hc := hcL_reach) [.int l1] hF hD dL_reach_4 cwL_109 (Nat.le_of_ble_eq_true rfl) (Nat.le_of_ble_eq_true rfl) rfl rfl (Nat.le_of_ble_eq_true rfl) f0 rfl rfl (Nat.le_of_ble_eq_true rfl) (ctX11_reach l0 l1 _) hokL_reach (fun r1 m2 hl3 hm4 => ?_)
  refine s_i2l hF dL_reach_7 ?_
  refine sim_gd (fun g5 => ?_)
  refine s_lastore hF dL_reach_8 g5 ?_
  refine s_goto (tgt := 15) hF dL_reach_9 rfl ?_
  refine s_iconst (v := (0 : Int32)) hF dL_reach_15 kI_0 ?_
  exact s_iretH hF hD dL_reach_16 rfl
theorem hokL_season : ∀ (k : Nat) (c : Int32), hcL_season k = some c → HOK RL cL_season 9 hhL_season 7 k c := by
  intro k c h
  unfold hcL_season at h
  by_cases e0 : k = 1
  · subst e0
    cases h
    exact ⟨[], ⟨0, 14, 17, 13⟩, [], rfl, (fun z hz => nomatch hz), by decide, by decide, clL_13, cas_1, ⟨1, by decide, Or.inr ⟨6, by decide, dL_season_17, dL_season_19, dL_season_20⟩⟩⟩
  rw [if_neg e0] at h
  cases h
theorem ctL_season  (l0 : Nat) (l1 : Int32) (l2 : Int32) (l3 : Int32) (l4 : Int32) (l5 : Nat) (μ : Mem) : ∀ (r : Int32) (μ' : Mem), LL_season l0 l1 l2 l3 l4 l5 μ = some (r, μ') → CtH yL_season cL_season 7 (some .int) hhL_season 11 [.ref l0, .int l1, .int l2, .int l3, .int l4, .ref l5] μ (encI r) μ' := by
  refine ct_enterH plL (Nat.le_of_ble_eq_true rfl) (fun F hF hD => ?_)
  unfold LL_season
  refine sim_gd (fun f0 => ?_)
  refine sim_gd (fun f5 => ?_)
  refine s_aload hF dL_season_0 5 rfl ?_
  refine s_iconst (v := (0 : Int32)) hF dL_season_2 kI_0 ?_
  refine s_aload_n hF dL_season_3 rfl 0 rfl ?_
  refine s_iload_n hF dL_season_4 rfl 1 rfl ?_
  refine s_iload_n hF dL_season_5 rfl 2 rfl ?_
  refine s_iload_n hF dL_season_6 rfl 3 rfl ?_
  refine s_iload hF dL_season_7 4 rfl ?_
  refine s_hVi (st := [.int (0 : Int32), .ref l5]) (ci := 11) (hc := hcL_season) [.int l1, .int l2, .int l3, .int l4] hF hD dL_season_9 cwL_112 (Nat.le_of_ble_eq_true rfl) (Nat.le_of_ble_eq_true rfl) rfl rfl (Nat.le_of_ble_eq_true rfl) f0 rfl rfl (Nat.le_of_ble_eq_true rfl) (ctX11_season l0 l1 l2 l3 l4 _) hokL_season (fun r1 m2 hl3 hm4 => ?_)
  refine s_i2l hF dL_season_12 ?_
  refine sim_gd (fun g5 => ?_)
  refine s_lastore hF dL_season_13 g5 ?_
  refine s_goto (tgt := 21) hF dL_season_14 rfl ?_
  refine s_iconst (v := (0 : Int32)) hF dL_season_21 kI_0 ?_
  exact s_iretH hF hD dL_season_22 rfl
theorem hokL_span : ∀ (k : Nat) (c : Int32), hcL_span k = some c → HOK RL cL_span 13 hhL_span 9 k c := by
  intro k c h
  unfold hcL_span at h
  by_cases e0 : k = 1
  · subst e0
    cases h
    exact ⟨[], ⟨0, 18, 21, 13⟩, [], rfl, (fun z hz => nomatch hz), by decide, by decide, clL_13, cas_1, ⟨1, by decide, Or.inr ⟨8, by decide, dL_span_21, dL_span_23, dL_span_24⟩⟩⟩
  rw [if_neg e0] at h
  cases h
theorem ctL_span  (l0 : Nat) (l1 : Int32) (l2 : Int32) (l3 : Int32) (l4 : Int32) (l5 : Int32) (l6 : Int32) (l7 : Nat) (μ : Mem) : ∀ (r : Int32) (μ' : Mem), LL_span l0 l1 l2 l3 l4 l5 l6 l7 μ = some (r, μ') → CtH yL_span cL_span 9 (some .int) hhL_span 11 [.ref l0, .int l1, .int l2, .int l3, .int l4, .int l5, .int l6, .ref l7] μ (encI r) μ' := by
  refine ct_enterH plL (Nat.le_of_ble_eq_true rfl) (fun F hF hD => ?_)
  unfold LL_span
  refine sim_gd (fun f0 => ?_)
  refine sim_gd (fun f7 => ?_)
  refine s_aload hF dL_span_0 7 rfl ?_
  refine s_iconst (v := (0 : Int32)) hF dL_span_2 kI_0 ?_
  refine s_aload_n hF dL_span_3 rfl 0 rfl ?_
  refine s_iload_n hF dL_span_4 rfl 1 rfl ?_
  refine s_iload_n hF dL_span_5 rfl 2 rfl ?_
  refine s_iload_n hF dL_span_6 rfl 3 rfl ?_
  refine s_iload hF dL_span_7 4 rfl ?_
  refine s_iload hF dL_span_9 5 rfl ?_
  refine s_iload hF dL_span_11 6 rfl ?_
  refine s_hVi (st := [.int (0 : Int32), .ref l7]) (ci := 11) (hc := hcL_span) [.int l1, .int l2, .int l3, .int l4, .int l5, .int l6] hF hD dL_span_13 cwL_115 (Nat.le_of_ble_eq_true rfl) (Nat.le_of_ble_eq_true rfl) rfl rfl (Nat.le_of_ble_eq_true rfl) f0 rfl rfl (Nat.le_of_ble_eq_true rfl) (ctX11_span l0 l1 l2 l3 l4 l5 l6 _) hokL_span (fun r1 m2 hl3 hm4 => ?_)
  refine s_i2l hF dL_span_16 ?_
  refine sim_gd (fun g5 => ?_)
  refine s_lastore hF dL_span_17 g5 ?_
  refine s_goto (tgt := 25) hF dL_span_18 rfl ?_
  refine s_iconst (v := (0 : Int32)) hF dL_span_25 kI_0 ?_
  exact s_iretH hF hD dL_span_26 rfl
theorem sxX12_lays_10 {F : Option Fx} (q2 : Nat → Nat → Int32 → Int32 → Mem → Option (Unit × Mem)) (hF : FxO F RX12 cX12_lays 5 0) (hD : FxXO F none) (hq2 : ∀ (l0 : Nat) (l1 : Nat) (l2 : Int32) (l3 : Int32) (μ : Mem) (_ : isK μ l0 19 = true) (_ : isK μ l1 19 = true), Sim F encV 2 [(0, .ref l0), (1, .ref l1), (2, .int l2), (3, .int l3)] [] μ (q2 l0 l1 l2 l3 μ)) : ∀ (fu : Nat) (l0 : Nat) (l1 : Nat) (l2 : Int32) (l3 : Int32) (l4 : Int32) (μ : Mem) (f0 : isK μ l0 19 = true) (f1 : isK μ l1 19 = true), Sim F encV 10 [(0, .ref l0), (1, .ref l1), (2, .int l2), (3, .int l3), (4, .int l4)] [] μ (mX12_lays_10 q2 fu l0 l1 l2 l3 l4 μ) := by
  intro fu
  induction fu with
  | zero =>
    intro l0 l1 l2 l3 l4 μ f0 f1
    exact sim_none
  | succ fu ih =>
    intro l0 l1 l2 l3 l4 μ f0 f1
    rw [mX12_lays_10]
    refine s_iload hF dX12_lays_10 4 rfl ?_
    refine s_aload_n hF dX12_lays_12 rfl 1 rfl ?_
    refine s_iload_n hF dX12_lays_13 rfl 3 rfl ?_
    refine sim_gd (fun g2 => ?_)
    refine sim_gd (fun g3 => ?_)
    refine s_aaload (x := (g_R μ l1 l3.toNatClampNeg)) hF dX12_lays_14 (by decide) (by decide) g2 g3 rfl ?_
    refine sim_gd (fun g4 => ?_)
    refine s_alenI hF dX12_lays_15 g4 ?_
    refine s_icmp_ge (tgt := 37) hF dX12_lays_16 rfl (fun c5 => ?_) (fun c5 => ?_)
    · refine s_iinc (v := (l3 + (1 : Int32))) (pls' := [(3, .int (l3 + (1 : Int32))), (0, .ref l0), (1, .ref l1), (2, .int l2), (4, .int l4)]) hF dX12_lays_37 3 rfl rfl (by decide) rfl ?_
      refine s_goto (tgt := 2) hF dX12_lays_40 rfl ?_
      refine s_sub [1, 2, 3, 0] rfl ?_
      exact hq2 l0 l1 l2 (l3 + (1 : Int32)) _ f0 f1
    · refine s_aload_n hF dX12_lays_19 rfl 1 rfl ?_
      refine s_iload_n hF dX12_lays_20 rfl 3 rfl ?_
      refine s_aaload (x := (g_R μ l1 l3.toNatClampNeg)) hF dX12_lays_21 (by decide) (by decide) g2 g3 rfl ?_
      refine s_iload hF dX12_lays_22 4 rfl ?_
      refine s_aload_n hF dX12_lays_24 rfl 0 rfl ?_
      refine s_iload_n hF dX12_lays_25 rfl 3 rfl ?_
      refine sim_gd (fun g6 => ?_)
      refine sim_gd (fun g7 => ?_)
      refine s_aaload (x := (g_R μ l0 l3.toNatClampNeg)) hF dX12_lays_26 (by decide) (by decide) g6 g7 rfl ?_
      refine s_iload hF dX12_lays_27 4 rfl ?_
      refine sim_gd (fun g8 => ?_)
      refine s_iaload (x := (g_I μ (g_R μ l0 l3.toNatClampNeg) l4.toNatClampNeg)) hF dX12_lays_29 g8 rfl ?_
      refine sim_gd (fun g9 => ?_)
      refine s_iastore hF dX12_lays_30 g9 ?_
      refine s_iinc (v := (l4 + (1 : Int32))) (pls' := [(4, .int (l4 + (1 : Int32))), (0, .ref l0), (1, .ref l1), (2, .int l2), (3, .int l3)]) hF dX12_lays_31 4 rfl rfl (by decide) rfl ?_
      refine s_goto (tgt := 10) hF dX12_lays_34 rfl ?_
      refine s_sub [1, 2, 3, 4, 0] rfl ?_
      exact ih l0 l1 l2 l3 (l4 + (1 : Int32)) _ f0 f1
theorem sxX12_lays_2 {F : Option Fx} (hF : FxO F RX12 cX12_lays 5 0) (hD : FxXO F none) : ∀ (fu : Nat) (l0 : Nat) (l1 : Nat) (l2 : Int32) (l3 : Int32) (μ : Mem) (f0 : isK μ l0 19 = true) (f1 : isK μ l1 19 = true), Sim F encV 2 [(0, .ref l0), (1, .ref l1), (2, .int l2), (3, .int l3)] [] μ (mX12_lays_2 fu l0 l1 l2 l3 μ) := by
  intro fu
  induction fu with
  | zero =>
    intro l0 l1 l2 l3 μ f0 f1
    exact sim_none
  | succ fu ih =>
    intro l0 l1 l2 l3 μ f0 f1
    rw [mX12_lays_2]
    refine s_iload_n hF dX12_lays_2 rfl 3 rfl ?_
    refine s_iload_n hF dX12_lays_3 rfl 2 rfl ?_
    refine s_icmp_ge (tgt := 43) hF dX12_lays_4 rfl (fun c1 => ?_) (fun c1 => ?_)
    · exact s_vretX hF hD dX12_lays_43 rfl
    · refine s_iconst (v := (0 : Int32)) hF dX12_lays_7 kI_0 ?_
      refine s_istore (pls' := [(4, .int (0 : Int32)), (0, .ref l0), (1, .ref l1), (2, .int l2), (3, .int l3)]) hF dX12_lays_8 (by decide) rfl ?_
      refine s_sub [1, 2, 3, 4, 0] rfl ?_
      exact sxX12_lays_10 (fun l0 l1 l2 l3 μ => mX12_lays_2 fu l0 l1 l2 l3 μ) hF hD ih 100000 l0 l1 l2 l3 (0 : Int32) _ f0 f1
theorem ctxX12_lays  (l0 : Nat) (l1 : Nat) (l2 : Int32) (μ : Mem) : ∀ (r : Unit) (μ' : Mem), LX12_lays l0 l1 l2 μ = some (r, μ') → CtX yX12_lays cX12_lays 5 none 0 [.ref l0, .ref l1, .int l2] μ (encV r) μ' := by
  refine ct_enterX plX12 (Nat.le_of_ble_eq_true rfl) (fun F hF hD hI => ?_)
  unfold LX12_lays
  refine sim_gd (fun f0 => ?_)
  refine sim_gd (fun f1 => ?_)
  refine s_iconst (v := (0 : Int32)) hF dX12_lays_0 kI_0 ?_
  refine s_istore_n (pls' := [(3, .int (0 : Int32)), (0, .ref l0), (1, .ref l1), (2, .int l2)]) hF dX12_lays_1 rfl (by decide) rfl ?_
  refine s_sub [1, 2, 3, 0] rfl ?_
  exact sxX12_lays_2 hF hD 100000 l0 l1 l2 (0 : Int32) _ f0 f1
theorem ctxX12_tellsNothing  (l0 : Nat) (μ : Mem) : ∀ (r : Unit) (μ' : Mem), LX12_tellsNothing l0 μ = some (r, μ') → CtX yX12_tellsNothing cX12_tellsNothing 1 none 0 [.ref l0] μ (encV r) μ' := by
  refine ct_enterX plX12 (Nat.le_of_ble_eq_true rfl) (fun F hF hD hI => ?_)
  unfold LX12_tellsNothing
  refine sim_gd (fun f0 => ?_)
  refine s_aload_n hF dX12_tellsNothing_0 rfl 0 rfl ?_
  refine sim_gd (fun g1 => ?_)
  refine s_getR (x := (g_R μ l0 11)) hF dX12_tellsNothing_1 flX12_20 f0 g1 rfl ?_
  refine s_iconst (v := (0 : Int32)) hF dX12_tellsNothing_4 kI_0 ?_
  refine s_iconst (v := (0 : Int32)) hF dX12_tellsNothing_5 kI_0 ?_
  refine sim_gd (fun g2 => ?_)
  refine s_iastore hF dX12_tellsNothing_6 g2 ?_
  refine s_aload_n hF dX12_tellsNothing_7 rfl 0 rfl ?_
  refine s_getR (x := (g_R μ l0 11)) hF dX12_tellsNothing_8 flX12_20 f0 g1 rfl ?_
  refine s_iconst (v := (1 : Int32)) hF dX12_tellsNothing_11 kI_1 ?_
  refine s_iconst (v := (0 : Int32)) hF dX12_tellsNothing_12 kI_0 ?_
  refine sim_gd (fun g3 => ?_)
  refine s_iastore hF dX12_tellsNothing_13 g3 ?_
  refine s_aload_n hF dX12_tellsNothing_14 rfl 0 rfl ?_
  refine s_getR (x := (g_R μ l0 11)) hF dX12_tellsNothing_15 flX12_20 f0 g1 rfl ?_
  refine s_iconst (v := (2 : Int32)) hF dX12_tellsNothing_18 kI_2 ?_
  refine s_bipush (v := (8 : Int32)) hF dX12_tellsNothing_19 kB_8 ?_
  refine sim_gd (fun g4 => ?_)
  refine s_iastore hF dX12_tellsNothing_21 g4 ?_
  exact s_vretX hF hD dX12_tellsNothing_22 rfl
theorem sxX12_beginsAnew_159 {F : Option Fx} (q93 : Nat → Int32 → Mem → Option (Unit × Mem)) (hF : FxO F RX12 cX12_beginsAnew 2 1) (hD : FxXO F none) (hq93 : ∀ (l0 : Nat) (l1 : Int32) (μ : Mem) (_ : isK μ l0 12 = true), Sim F encV 93 [(0, .ref l0), (1, .int l1)] [] μ (q93 l0 l1 μ)) (l0 : Nat) (l1 : Int32) (k0 : Int32) (k1 : Int32) (k2 : Nat) (μ : Mem) (f0 : isK μ l0 12 = true) : Sim F encV 159 [(0, .ref l0), (1, .int l1)] [.int k0, .int k1, .ref k2] μ (mX12_beginsAnew_159 q93 l0 l1 k0 k1 k2 μ) := by
  unfold mX12_beginsAnew_159
  refine sim_gd (fun g49 => ?_)
  refine s_iastore hF dX12_beginsAnew_159 g49 ?_
  refine s_aload_n hF dX12_beginsAnew_160 rfl 0 rfl ?_
  refine sim_gd (fun g50 => ?_)
  refine s_getR (x := (g_R μ l0 29)) hF dX12_beginsAnew_161 flX12_67 f0 g50 rfl ?_
  refine s_bipush (v := (16 : Int32)) hF dX12_beginsAnew_164 kB_16 ?_
  refine s_iload_n hF dX12_beginsAnew_166 rfl 1 rfl ?_
  refine s_iadd hF dX12_beginsAnew_167 ?_
  refine s_iload_n hF dX12_beginsAnew_168 rfl 1 rfl ?_
  refine s_aload_n hF dX12_beginsAnew_169 rfl 0 rfl ?_
  refine sim_gd (fun g51 => ?_)
  refine s_getR (x := (g_R μ l0 12)) hF dX12_beginsAnew_170 flX12_23 f0 g51 rfl ?_
  refine s_iconst (v := (0 : Int32)) hF dX12_beginsAnew_173 kI_0 ?_
  refine sim_gd (fun g52 => ?_)
  refine s_iaload (x := (g_I (p_I μ k2 k1.toNatClampNeg k0) (g_R μ l0 12) (0 : Int32).toNatClampNeg)) hF dX12_beginsAnew_174 g52 rfl ?_
  refine s_icmp_ge (tgt := 187) hF dX12_beginsAnew_175 rfl (fun c53 => ?_) (fun c53 => ?_)
  · refine s_iconst (v := (-1 : Int32)) hF dX12_beginsAnew_187 kI_m1 ?_
    refine sim_gd (fun g54 => ?_)
    refine s_iastore hF dX12_beginsAnew_188 g54 ?_
    refine s_iinc (v := (l1 + (1 : Int32))) (pls' := [(1, .int (l1 + (1 : Int32))), (0, .ref l0)]) hF dX12_beginsAnew_189 1 rfl rfl (by decide) rfl ?_
    refine s_goto (tgt := 93) hF dX12_beginsAnew_192 rfl ?_
    refine s_sub [1, 0] rfl ?_
    exact hq93 l0 (l1 + (1 : Int32)) _ f0
  · refine s_aload_n hF dX12_beginsAnew_178 rfl 0 rfl ?_
    refine s_getR (x := (g_R μ l0 12)) hF dX12_beginsAnew_179 flX12_23 f0 g51 rfl ?_
    refine s_iconst (v := (2 : Int32)) hF dX12_beginsAnew_182 kI_2 ?_
    refine sim_gd (fun g55 => ?_)
    refine s_iaload (x := (g_I (p_I μ k2 k1.toNatClampNeg k0) (g_R μ l0 12) (2 : Int32).toNatClampNeg)) hF dX12_beginsAnew_183 g55 rfl ?_
    refine s_goto (tgt := 188) hF dX12_beginsAnew_184 rfl ?_
    refine sim_gd (fun g56 => ?_)
    refine s_iastore hF dX12_beginsAnew_188 g56 ?_
    refine s_iinc (v := (l1 + (1 : Int32))) (pls' := [(1, .int (l1 + (1 : Int32))), (0, .ref l0)]) hF dX12_beginsAnew_189 1 rfl rfl (by decide) rfl ?_
    refine s_goto (tgt := 93) hF dX12_beginsAnew_192 rfl ?_
    refine s_sub [1, 0] rfl ?_
    exact hq93 l0 (l1 + (1 : Int32)) _ f0
theorem sxX12_beginsAnew_128 {F : Option Fx} (q93 : Nat → Int32 → Mem → Option (Unit × Mem)) (hF : FxO F RX12 cX12_beginsAnew 2 1) (hD : FxXO F none) (hq93 : ∀ (l0 : Nat) (l1 : Int32) (μ : Mem) (_ : isK μ l0 12 = true), Sim F encV 93 [(0, .ref l0), (1, .int l1)] [] μ (q93 l0 l1 μ)) (l0 : Nat) (l1 : Int32) (k0 : Int32) (k1 : Int32) (k2 : Nat) (μ : Mem) (f0 : isK μ l0 12 = true) : Sim F encV 128 [(0, .ref l0), (1, .int l1)] [.int k0, .int k1, .ref k2] μ (mX12_beginsAnew_128 q93 l0 l1 k0 k1 k2 μ) := by
  unfold mX12_beginsAnew_128
  refine sim_gd (fun g40 => ?_)
  refine s_iastore hF dX12_beginsAnew_128 g40 ?_
  refine s_aload_n hF dX12_beginsAnew_129 rfl 0 rfl ?_
  refine sim_gd (fun g41 => ?_)
  refine s_getR (x := (g_R μ l0 29)) hF dX12_beginsAnew_130 flX12_67 f0 g41 rfl ?_
  refine s_bipush (v := (8 : Int32)) hF dX12_beginsAnew_133 kB_8 ?_
  refine s_iload_n hF dX12_beginsAnew_135 rfl 1 rfl ?_
  refine s_iadd hF dX12_beginsAnew_136 ?_
  refine s_iload_n hF dX12_beginsAnew_137 rfl 1 rfl ?_
  refine s_aload_n hF dX12_beginsAnew_138 rfl 0 rfl ?_
  refine sim_gd (fun g42 => ?_)
  refine s_getR (x := (g_R μ l0 12)) hF dX12_beginsAnew_139 flX12_23 f0 g42 rfl ?_
  refine s_iconst (v := (0 : Int32)) hF dX12_beginsAnew_142 kI_0 ?_
  refine sim_gd (fun g43 => ?_)
  refine s_iaload (x := (g_I (p_I μ k2 k1.toNatClampNeg k0) (g_R μ l0 12) (0 : Int32).toNatClampNeg)) hF dX12_beginsAnew_143 g43 rfl ?_
  refine s_icmp_ge (tgt := 158) hF dX12_beginsAnew_144 rfl (fun c44 => ?_) (fun c44 => ?_)
  · refine s_iconst (v := (0 : Int32)) hF dX12_beginsAnew_158 kI_0 ?_
    exact sxX12_beginsAnew_159 q93 hF hD hq93 l0 l1 (0 : Int32) ((8 : Int32) + l1) (g_R μ l0 29) _ f0
  · refine s_aload_n hF dX12_beginsAnew_147 rfl 0 rfl ?_
    refine sim_gd (fun g45 => ?_)
    refine s_getR (x := (g_R μ l0 14)) hF dX12_beginsAnew_148 flX12_31 f0 g45 rfl ?_
    refine s_iload_n hF dX12_beginsAnew_151 rfl 1 rfl ?_
    refine sim_gd (fun g46 => ?_)
    refine sim_gd (fun g47 => ?_)
    refine s_aaload (x := (g_R μ (g_R μ l0 14) l1.toNatClampNeg)) hF dX12_beginsAnew_152 (by decide) (by decide) g46 g47 rfl ?_
    refine s_iconst (v := (2 : Int32)) hF dX12_beginsAnew_153 kI_2 ?_
    refine sim_gd (fun g48 => ?_)
    refine s_iaload (x := (g_I (p_I μ k2 k1.toNatClampNeg k0) (g_R μ (g_R μ l0 14) l1.toNatClampNeg) (2 : Int32).toNatClampNeg)) hF dX12_beginsAnew_154 g48 rfl ?_
    refine s_goto (tgt := 159) hF dX12_beginsAnew_155 rfl ?_
    exact sxX12_beginsAnew_159 q93 hF hD hq93 l0 l1 (g_I (p_I μ k2 k1.toNatClampNeg k0) (g_R μ (g_R μ l0 14) l1.toNatClampNeg) (2 : Int32).toNatClampNeg) ((8 : Int32) + l1) (g_R μ l0 29) _ f0
theorem sxX12_beginsAnew_93 {F : Option Fx} (hF : FxO F RX12 cX12_beginsAnew 2 1) (hD : FxXO F none) : ∀ (fu : Nat) (l0 : Nat) (l1 : Int32) (μ : Mem) (f0 : isK μ l0 12 = true), Sim F encV 93 [(0, .ref l0), (1, .int l1)] [] μ (mX12_beginsAnew_93 fu l0 l1 μ) := by
  intro fu
  induction fu with
  | zero =>
    intro l0 l1 μ f0
    exact sim_none
  | succ fu ih =>
    intro l0 l1 μ f0
    rw [mX12_beginsAnew_93]
    refine s_iload_n hF dX12_beginsAnew_93 rfl 1 rfl ?_
    refine s_bipush (v := (8 : Int32)) hF dX12_beginsAnew_94 kB_8 ?_
    refine s_icmp_ge (tgt := 195) hF dX12_beginsAnew_96 rfl (fun c31 => ?_) (fun c31 => ?_)
    · refine s_aload_n hF dX12_beginsAnew_195 rfl 0 rfl ?_
      refine s_iconst (v := (0 : Int32)) hF dX12_beginsAnew_196 kI_0 ?_
      refine s_putI hF dX12_beginsAnew_197 flX12_184 f0 ?_
      refine s_aload_n hF dX12_beginsAnew_200 rfl 0 rfl ?_
      refine s_iconst (v := (0 : Int32)) hF dX12_beginsAnew_201 kI_0 ?_
      refine s_putI hF dX12_beginsAnew_202 flX12_187 f0 ?_
      refine s_aload_n hF dX12_beginsAnew_205 rfl 0 rfl ?_
      refine s_iconst (v := (0 : Int32)) hF dX12_beginsAnew_206 kI_0 ?_
      refine s_putI hF dX12_beginsAnew_207 flX12_190 f0 ?_
      refine s_aload_n hF dX12_beginsAnew_210 rfl 0 rfl ?_
      refine s_iconst (v := (0 : Int32)) hF dX12_beginsAnew_211 kI_0 ?_
      refine s_putI hF dX12_beginsAnew_212 flX12_193 f0 ?_
      refine s_aload_n hF dX12_beginsAnew_215 rfl 0 rfl ?_
      refine s_iconst (v := (0 : Int32)) hF dX12_beginsAnew_216 kI_0 ?_
      refine s_putI hF dX12_beginsAnew_217 flX12_196 f0 ?_
      refine s_aload_n hF dX12_beginsAnew_220 rfl 0 rfl ?_
      refine s_iconst (v := (0 : Int32)) hF dX12_beginsAnew_221 kI_0 ?_
      refine s_putI hF dX12_beginsAnew_222 flX12_199 f0 ?_
      exact s_vretX hF hD dX12_beginsAnew_225 rfl
    · refine s_aload_n hF dX12_beginsAnew_99 rfl 0 rfl ?_
      refine sim_gd (fun g32 => ?_)
      refine s_getR (x := (g_R μ l0 29)) hF dX12_beginsAnew_100 flX12_67 f0 g32 rfl ?_
      refine s_iconst (v := (0 : Int32)) hF dX12_beginsAnew_103 kI_0 ?_
      refine s_iload_n hF dX12_beginsAnew_104 rfl 1 rfl ?_
      refine s_iadd hF dX12_beginsAnew_105 ?_
      refine s_iload_n hF dX12_beginsAnew_106 rfl 1 rfl ?_
      refine s_aload_n hF dX12_beginsAnew_107 rfl 0 rfl ?_
      refine sim_gd (fun g33 => ?_)
      refine s_getR (x := (g_R μ l0 12)) hF dX12_beginsAnew_108 flX12_23 f0 g33 rfl ?_
      refine s_iconst (v := (0 : Int32)) hF dX12_beginsAnew_111 kI_0 ?_
      refine sim_gd (fun g34 => ?_)
      refine s_iaload (x := (g_I μ (g_R μ l0 12) (0 : Int32).toNatClampNeg)) hF dX12_beginsAnew_112 g34 rfl ?_
      refine s_icmp_ge (tgt := 127) hF dX12_beginsAnew_113 rfl (fun c35 => ?_) (fun c35 => ?_)
      · refine s_iconst (v := (0 : Int32)) hF dX12_beginsAnew_127 kI_0 ?_
        exact sxX12_beginsAnew_128 (fun l0 l1 μ => mX12_beginsAnew_93 fu l0 l1 μ) hF hD ih l0 l1 (0 : Int32) ((0 : Int32) + l1) (g_R μ l0 29) _ f0
      · refine s_aload_n hF dX12_beginsAnew_116 rfl 0 rfl ?_
        refine sim_gd (fun g36 => ?_)
        refine s_getR (x := (g_R μ l0 14)) hF dX12_beginsAnew_117 flX12_31 f0 g36 rfl ?_
        refine s_iload_n hF dX12_beginsAnew_120 rfl 1 rfl ?_
        refine sim_gd (fun g37 => ?_)
        refine sim_gd (fun g38 => ?_)
        refine s_aaload (x := (g_R μ (g_R μ l0 14) l1.toNatClampNeg)) hF dX12_beginsAnew_121 (by decide) (by decide) g37 g38 rfl ?_
        refine s_iconst (v := (1 : Int32)) hF dX12_beginsAnew_122 kI_1 ?_
        refine sim_gd (fun g39 => ?_)
        refine s_iaload (x := (g_I μ (g_R μ (g_R μ l0 14) l1.toNatClampNeg) (1 : Int32).toNatClampNeg)) hF dX12_beginsAnew_123 g39 rfl ?_
        refine s_goto (tgt := 128) hF dX12_beginsAnew_124 rfl ?_
        exact sxX12_beginsAnew_128 (fun l0 l1 μ => mX12_beginsAnew_93 fu l0 l1 μ) hF hD ih l0 l1 (g_I μ (g_R μ (g_R μ l0 14) l1.toNatClampNeg) (1 : Int32).toNatClampNeg) ((0 : Int32) + l1) (g_R μ l0 29) _ f0
theorem sxX12_beginsAnew_61 {F : Option Fx} (hF : FxO F RX12 cX12_beginsAnew 2 1) (hD : FxXO F none) : ∀ (fu : Nat) (l0 : Nat) (l1 : Int32) (μ : Mem) (f0 : isK μ l0 12 = true), Sim F encV 61 [(0, .ref l0), (1, .int l1)] [] μ (mX12_beginsAnew_61 fu l0 l1 μ) := by
  intro fu
  induction fu with
  | zero =>
    intro l0 l1 μ f0
    exact sim_none
  | succ fu ih =>
    intro l0 l1 μ f0
    rw [mX12_beginsAnew_61]
    refine s_iload_n hF dX12_beginsAnew_61 rfl 1 rfl ?_
    refine s_sipush (v := (419 : Int32)) hF dX12_beginsAnew_62 kS_419 ?_
    refine s_icmp_ge (tgt := 91) hF dX12_beginsAnew_65 rfl (fun c26 => ?_) (fun c26 => ?_)
    · refine s_iconst (v := (0 : Int32)) hF dX12_beginsAnew_91 kI_0 ?_
      refine s_istore_n (pls' := [(1, .int (0 : Int32)), (0, .ref l0)]) hF dX12_beginsAnew_92 rfl (by decide) rfl ?_
      refine s_sub [1, 0] rfl ?_
      exact sxX12_beginsAnew_93 hF hD 100000 l0 (0 : Int32) _ f0
    · refine s_aload_n hF dX12_beginsAnew_68 rfl 0 rfl ?_
      refine sim_gd (fun g27 => ?_)
      refine s_getR (x := (g_R μ l0 29)) hF dX12_beginsAnew_69 flX12_67 f0 g27 rfl ?_
      refine s_iload_n hF dX12_beginsAnew_72 rfl 1 rfl ?_
      refine s_iload_n hF dX12_beginsAnew_73 rfl 1 rfl ?_
      refine s_bipush (v := (35 : Int32)) hF dX12_beginsAnew_74 kB_35 ?_
      refine s_icmp_ge (tgt := 83) hF dX12_beginsAnew_76 rfl (fun c28 => ?_) (fun c28 => ?_)
      · refine s_iconst (v := (-1 : Int32)) hF dX12_beginsAnew_83 kI_m1 ?_
        refine sim_gd (fun g29 => ?_)
        refine s_iastore hF dX12_beginsAnew_84 g29 ?_
        refine s_iinc (v := (l1 + (1 : Int32))) (pls' := [(1, .int (l1 + (1 : Int32))), (0, .ref l0)]) hF dX12_beginsAnew_85 1 rfl rfl (by decide) rfl ?_
        refine s_goto (tgt := 61) hF dX12_beginsAnew_88 rfl ?_
        refine s_sub [1, 0] rfl ?_
        exact ih l0 (l1 + (1 : Int32)) _ f0
      · refine s_iconst (v := (0 : Int32)) hF dX12_beginsAnew_79 kI_0 ?_
        refine s_goto (tgt := 84) hF dX12_beginsAnew_80 rfl ?_
        refine sim_gd (fun g30 => ?_)
        refine s_iastore hF dX12_beginsAnew_84 g30 ?_
        refine s_iinc (v := (l1 + (1 : Int32))) (pls' := [(1, .int (l1 + (1 : Int32))), (0, .ref l0)]) hF dX12_beginsAnew_85 1 rfl rfl (by decide) rfl ?_
        refine s_goto (tgt := 61) hF dX12_beginsAnew_88 rfl ?_
        refine s_sub [1, 0] rfl ?_
        exact ih l0 (l1 + (1 : Int32)) _ f0
theorem sxX12_beginsAnew_2 {F : Option Fx} (hF : FxO F RX12 cX12_beginsAnew 2 1) (hD : FxXO F none) : ∀ (fu : Nat) (l0 : Nat) (l1 : Int32) (μ : Mem) (f0 : isK μ l0 12 = true), Sim F encV 2 [(0, .ref l0), (1, .int l1)] [] μ (mX12_beginsAnew_2 fu l0 l1 μ) := by
  intro fu
  induction fu with
  | zero =>
    intro l0 l1 μ f0
    exact sim_none
  | succ fu ih =>
    intro l0 l1 μ f0
    rw [mX12_beginsAnew_2]
    refine s_iload_n hF dX12_beginsAnew_2 rfl 1 rfl ?_
    refine s_iconst (v := (3 : Int32)) hF dX12_beginsAnew_3 kI_3 ?_
    refine s_icmp_ge (tgt := 25) hF dX12_beginsAnew_4 rfl (fun c1 => ?_) (fun c1 => ?_)
    · refine s_aload_n hF dX12_beginsAnew_25 rfl 0 rfl ?_
      refine sim_gd (fun g2 => ?_)
      refine s_getR (x := (g_R μ l0 13)) hF dX12_beginsAnew_26 flX12_28 f0 g2 rfl ?_
      refine s_aload_n hF dX12_beginsAnew_29 rfl 0 rfl ?_
      refine sim_gd (fun g3 => ?_)
      refine s_getR (x := (g_R μ l0 14)) hF dX12_beginsAnew_30 flX12_31 f0 g3 rfl ?_
      refine s_aload_n hF dX12_beginsAnew_33 rfl 0 rfl ?_
      refine sim_gd (fun g4 => ?_)
      refine s_getR (x := (g_R μ l0 12)) hF dX12_beginsAnew_34 flX12_23 f0 g4 rfl ?_
      refine s_iconst (v := (0 : Int32)) hF dX12_beginsAnew_37 kI_0 ?_
      refine sim_gd (fun g5 => ?_)
      refine s_iaload (x := (g_I μ (g_R μ l0 12) (0 : Int32).toNatClampNeg)) hF dX12_beginsAnew_38 g5 rfl ?_
      refine s_xSv (st := []) [.ref (g_R μ l0 13), .ref (g_R μ l0 14), .int (g_I μ (g_R μ l0 12) (0 : Int32).toNatClampNeg)] hF hD dX12_beginsAnew_39 cwX12_180 (Nat.le_of_ble_eq_true rfl) (Nat.le_of_ble_eq_true rfl) rfl rfl (Nat.le_of_ble_eq_true rfl) (ctxX12_lays (g_R μ l0 13) (g_R μ l0 14) (g_I μ (g_R μ l0 12) (0 : Int32).toNatClampNeg) _) (fun r6 m7 hl8 hm9 => ?_)
      refine s_aload_n hF dX12_beginsAnew_42 rfl 0 rfl ?_
      refine sim_gd (fun g12 => ?_)
      refine s_getR (x := (g_R m7 l0 15)) hF dX12_beginsAnew_43 flX12_34 (isK.mo f0 hm9) g12 rfl ?_
      refine s_aload_n hF dX12_beginsAnew_46 rfl 0 rfl ?_
      refine sim_gd (fun g13 => ?_)
      refine s_getR (x := (g_R m7 l0 16)) hF dX12_beginsAnew_47 flX12_37 (isK.mo f0 hm9) g13 rfl ?_
      refine s_aload_n hF dX12_beginsAnew_50 rfl 0 rfl ?_
      refine sim_gd (fun g14 => ?_)
      refine s_getR (x := (g_R m7 l0 12)) hF dX12_beginsAnew_51 flX12_23 (isK.mo f0 hm9) g14 rfl ?_
      refine s_iconst (v := (1 : Int32)) hF dX12_beginsAnew_54 kI_1 ?_
      refine sim_gd (fun g15 => ?_)
      refine s_iaload (x := (g_I m7 (g_R m7 l0 12) (1 : Int32).toNatClampNeg)) hF dX12_beginsAnew_55 g15 rfl ?_
      refine s_xSv (st := []) [.ref (g_R m7 l0 15), .ref (g_R m7 l0 16), .int (g_I m7 (g_R m7 l0 12) (1 : Int32).toNatClampNeg)] hF hD dX12_beginsAnew_56 cwX12_180 (Nat.le_of_ble_eq_true rfl) (Nat.le_of_ble_eq_true rfl) rfl rfl (Nat.le_of_ble_eq_true rfl) (ctxX12_lays (g_R m7 l0 15) (g_R m7 l0 16) (g_I m7 (g_R m7 l0 12) (1 : Int32).toNatClampNeg) _) (fun r16 m17 hl18 hm19 => ?_)
      refine s_iconst (v := (0 : Int32)) hF dX12_beginsAnew_59 kI_0 ?_
      refine s_istore_n (pls' := [(1, .int (0 : Int32)), (0, .ref l0)]) hF dX12_beginsAnew_60 rfl (by decide) rfl ?_
      refine s_sub [1, 0] rfl ?_
      exact sxX12_beginsAnew_61 hF hD 100000 l0 (0 : Int32) _ (isK.mo (isK.mo f0 hm9) hm19)
    · refine s_aload_n hF dX12_beginsAnew_7 rfl 0 rfl ?_
      refine sim_gd (fun g22 => ?_)
      refine s_getR (x := (g_R μ l0 12)) hF dX12_beginsAnew_8 flX12_23 f0 g22 rfl ?_
      refine s_iload_n hF dX12_beginsAnew_11 rfl 1 rfl ?_
      refine s_aload_n hF dX12_beginsAnew_12 rfl 0 rfl ?_
      refine sim_gd (fun g23 => ?_)
      refine s_getR (x := (g_R μ l0 11)) hF dX12_beginsAnew_13 flX12_20 f0 g23 rfl ?_
      refine s_iload_n hF dX12_beginsAnew_16 rfl 1 rfl ?_
      refine sim_gd (fun g24 => ?_)
      refine s_iaload (x := (g_I μ (g_R μ l0 11) l1.toNatClampNeg)) hF dX12_beginsAnew_17 g24 rfl ?_
      refine sim_gd (fun g25 => ?_)
      refine s_iastore hF dX12_beginsAnew_18 g25 ?_
      refine s_iinc (v := (l1 + (1 : Int32))) (pls' := [(1, .int (l1 + (1 : Int32))), (0, .ref l0)]) hF dX12_beginsAnew_19 1 rfl rfl (by decide) rfl ?_
      refine s_goto (tgt := 2) hF dX12_beginsAnew_22 rfl ?_
      refine s_sub [1, 0] rfl ?_
      exact ih l0 (l1 + (1 : Int32)) _ f0
theorem ctxX12_beginsAnew  (l0 : Nat) (μ : Mem) : ∀ (r : Unit) (μ' : Mem), LX12_beginsAnew l0 μ = some (r, μ') → CtX yX12_beginsAnew cX12_beginsAnew 2 none 1 [.ref l0] μ (encV r) μ' := by
  refine ct_enterX plX12 (Nat.le_of_ble_eq_true rfl) (fun F hF hD hI => ?_)
  unfold LX12_beginsAnew
  refine sim_gd (fun f0 => ?_)
  refine s_iconst (v := (0 : Int32)) hF dX12_beginsAnew_0 kI_0 ?_
  refine s_istore_n (pls' := [(1, .int (0 : Int32)), (0, .ref l0)]) hF dX12_beginsAnew_1 rfl (by decide) rfl ?_
  refine s_sub [1, 0] rfl ?_
  exact sxX12_beginsAnew_2 hF hD 100000 l0 (0 : Int32) _ f0
theorem ctxX12_init  (l0 : Nat) (μ : Mem) : ∀ (r : Unit) (μ' : Mem), LX12_init l0 μ = some (r, μ') → CtX yX12_init cX12_init 1 none 2 [.ref l0] μ (encV r) μ' := by
  refine ct_enterX plX12 (Nat.le_of_ble_eq_true rfl) (fun F hF hD hI => ?_)
  unfold LX12_init
  refine sim_gd (fun f0 => ?_)
  refine s_aload_n hF dX12_init_0 rfl 0 rfl ?_
  refine s_objInit hF dX12_init_1 mlX12_1 obi obc (Nat.le_of_ble_eq_true rfl) (Nat.le_of_ble_eq_true rfl) ?_
  refine s_aload_n hF dX12_init_4 rfl 0 rfl ?_
  refine s_iconst (v := (-1 : Int32)) hF dX12_init_5 kI_m1 ?_
  refine s_putI hF dX12_init_6 flX12_9 f0 ?_
  refine s_aload_n hF dX12_init_9 rfl 0 rfl ?_
  refine s_sipush (v := (600 : Int32)) hF dX12_init_10 kS_600 ?_
  refine s_newIN (600) hF dX12_init_13 ac_int (by decide) rfl (Nat.le_of_ble_eq_true rfl) (fun r1 m2 hk3 hm4 => ?_)
  refine s_putRF hF (hI rfl) dX12_init_15 flX12_13 (isK.mo f0 hm4) ((isK_iff.mp hk3).1) ?_
  refine s_aload_n hF dX12_init_18 rfl 0 rfl ?_
  refine s_iconst (v := (5 : Int32)) hF dX12_init_19 kI_5 ?_
  refine s_newIN (5) hF dX12_init_20 ac_int (by decide) rfl (Nat.le_of_ble_eq_true rfl) (fun r5 m6 hk7 hm8 => ?_)
  refine s_putRF hF (hI rfl) dX12_init_22 flX12_17 (isK.mo (isK.mo f0 hm4) hm8) ((isK_iff.mp hk7).1) ?_
  refine s_aload_n hF dX12_init_25 rfl 0 rfl ?_
  refine s_iconst (v := (3 : Int32)) hF dX12_init_26 kI_3 ?_
  refine s_newIN (3) hF dX12_init_27 ac_int (by decide) rfl (Nat.le_of_ble_eq_true rfl) (fun r9 m10 hk11 hm12 => ?_)
  refine s_putRF hF (hI rfl) dX12_init_29 flX12_20 (isK.mo (isK.mo (isK.mo f0 hm4) hm8) hm12) ((isK_iff.mp hk11).1) ?_
  refine s_aload_n hF dX12_init_32 rfl 0 rfl ?_
  refine s_iconst (v := (3 : Int32)) hF dX12_init_33 kI_3 ?_
  refine s_newIN (3) hF dX12_init_34 ac_int (by decide) rfl (Nat.le_of_ble_eq_true rfl) (fun r13 m14 hk15 hm16 => ?_)
  refine s_putRF hF (hI rfl) dX12_init_36 flX12_23 (isK.mo (isK.mo (isK.mo (isK.mo f0 hm4) hm8) hm12) hm16) ((isK_iff.mp hk15).1) ?_
  refine s_aload_n hF dX12_init_39 rfl 0 rfl ?_
  refine s_bipush (v := (8 : Int32)) hF dX12_init_40 kB_8 ?_
  refine s_iconst (v := (3 : Int32)) hF dX12_init_42 kI_3 ?_
  refine s_mna 8 3 hF hD dX12_init_43 clX12_26 ov_I ac_int (by decide) (by decide) rfl rfl (Nat.le_of_ble_eq_true rfl) (Nat.le_of_ble_eq_true rfl) (Nat.le_of_ble_eq_true rfl) (fun r17 m18 hk19 hm20 => ?_)
  refine s_putRF hF (hI rfl) dX12_init_47 flX12_28 (isK.mo (isK.mo (isK.mo (isK.mo (isK.mo f0 hm4) hm8) hm12) hm16) hm20) ((isK_iff.mp hk19).1) ?_
  refine s_aload_n hF dX12_init_50 rfl 0 rfl ?_
  refine s_bipush (v := (8 : Int32)) hF dX12_init_51 kB_8 ?_
  refine s_iconst (v := (3 : Int32)) hF dX12_init_53 kI_3 ?_
  refine s_mna 8 3 hF hD dX12_init_54 clX12_26 ov_I ac_int (by decide) (by decide) rfl rfl (Nat.le_of_ble_eq_true rfl) (Nat.le_of_ble_eq_true rfl) (Nat.le_of_ble_eq_true rfl) (fun r21 m22 hk23 hm24 => ?_)
  refine s_putRF hF (hI rfl) dX12_init_58 flX12_31 (isK.mo (isK.mo (isK.mo (isK.mo (isK.mo (isK.mo f0 hm4) hm8) hm12) hm16) hm20) hm24) ((isK_iff.mp hk23).1) ?_
  refine s_aload_n hF dX12_init_61 rfl 0 rfl ?_
  refine s_bipush (v := (16 : Int32)) hF dX12_init_62 kB_16 ?_
  refine s_iconst (v := (2 : Int32)) hF dX12_init_64 kI_2 ?_
  refine s_mna 16 2 hF hD dX12_init_65 clX12_26 ov_I ac_int (by decide) (by decide) rfl rfl (Nat.le_of_ble_eq_true rfl) (Nat.le_of_ble_eq_true rfl) (Nat.le_of_ble_eq_true rfl) (fun r25 m26 hk27 hm28 => ?_)
  refine s_putRF hF (hI rfl) dX12_init_69 flX12_34 (isK.mo (isK.mo (isK.mo (isK.mo (isK.mo (isK.mo (isK.mo f0 hm4) hm8) hm12) hm16) hm20) hm24) hm28) ((isK_iff.mp hk27).1) ?_
  refine s_aload_n hF dX12_init_72 rfl 0 rfl ?_
  refine s_bipush (v := (16 : Int32)) hF dX12_init_73 kB_16 ?_
  refine s_iconst (v := (2 : Int32)) hF dX12_init_75 kI_2 ?_
  refine s_mna 16 2 hF hD dX12_init_76 clX12_26 ov_I ac_int (by decide) (by decide) rfl rfl (Nat.le_of_ble_eq_true rfl) (Nat.le_of_ble_eq_true rfl) (Nat.le_of_ble_eq_true rfl) (fun r29 m30 hk31 hm32 => ?_)
  refine s_putRF hF (hI rfl) dX12_init_80 flX12_37 (isK.mo (isK.mo (isK.mo (isK.mo (isK.mo (isK.mo (isK.mo (isK.mo f0 hm4) hm8) hm12) hm16) hm20) hm24) hm28) hm32) ((isK_iff.mp hk31).1) ?_
  refine s_aload_n hF dX12_init_83 rfl 0 rfl ?_
  refine s_sipush (v := (160 : Int32)) hF dX12_init_84 kS_160 ?_
  refine s_iconst (v := (2 : Int32)) hF dX12_init_87 kI_2 ?_
  refine s_mna 160 2 hF hD dX12_init_88 clX12_26 ov_I ac_int (by decide) (by decide) rfl rfl (Nat.le_of_ble_eq_true rfl) (Nat.le_of_ble_eq_true rfl) (Nat.le_of_ble_eq_true rfl) (fun r33 m34 hk35 hm36 => ?_)
  refine s_putRF hF (hI rfl) dX12_init_92 flX12_40 (isK.mo (isK.mo (isK.mo (isK.mo (isK.mo (isK.mo (isK.mo (isK.mo (isK.mo f0 hm4) hm8) hm12) hm16) hm20) hm24) hm28) hm32) hm36) ((isK_iff.mp hk35).1) ?_
  refine s_aload_n hF dX12_init_95 rfl 0 rfl ?_
  refine s_sipush (v := (160 : Int32)) hF dX12_init_96 kS_160 ?_
  refine s_iconst (v := (2 : Int32)) hF dX12_init_99 kI_2 ?_
  refine s_mna 160 2 hF hD dX12_init_100 clX12_26 ov_I ac_int (by decide) (by decide) rfl rfl (Nat.le_of_ble_eq_true rfl) (Nat.le_of_ble_eq_true rfl) (Nat.le_of_ble_eq_true rfl) (fun r37 m38 hk39 hm40 => ?_)
  refine s_putRF hF (hI rfl) dX12_init_104 flX12_43 (isK.mo (isK.mo (isK.mo (isK.mo (isK.mo (isK.mo (isK.mo (isK.mo (isK.mo (isK.mo f0 hm4) hm8) hm12) hm16) hm20) hm24) hm28) hm32) hm36) hm40) ((isK_iff.mp hk39).1) ?_
  refine s_aload_n hF dX12_init_107 rfl 0 rfl ?_
  refine s_bipush (v := (6 : Int32)) hF dX12_init_108 kB_6 ?_
  refine s_iconst (v := (2 : Int32)) hF dX12_init_110 kI_2 ?_
  refine s_mna 6 2 hF hD dX12_init_111 clX12_26 ov_I ac_int (by decide) (by decide) rfl rfl (Nat.le_of_ble_eq_true rfl) (Nat.le_of_ble_eq_true rfl) (Nat.le_of_ble_eq_true rfl) (fun r41 m42 hk43 hm44 => ?_)
  refine s_putRF hF (hI rfl) dX12_init_115 flX12_46 (isK.mo (isK.mo (isK.mo (isK.mo (isK.mo (isK.mo (isK.mo (isK.mo (isK.mo (isK.mo (isK.mo f0 hm4) hm8) hm12) hm16) hm20) hm24) hm28) hm32) hm36) hm40) hm44) ((isK_iff.mp hk43).1) ?_
  refine s_aload_n hF dX12_init_118 rfl 0 rfl ?_
  refine s_bipush (v := (6 : Int32)) hF dX12_init_119 kB_6 ?_
  refine s_iconst (v := (2 : Int32)) hF dX12_init_121 kI_2 ?_
  refine s_mna 6 2 hF hD dX12_init_122 clX12_26 ov_I ac_int (by decide) (by decide) rfl rfl (Nat.le_of_ble_eq_true rfl) (Nat.le_of_ble_eq_true rfl) (Nat.le_of_ble_eq_true rfl) (fun r45 m46 hk47 hm48 => ?_)
  refine s_putRF hF (hI rfl) dX12_init_126 flX12_49 (isK.mo (isK.mo (isK.mo (isK.mo (isK.mo (isK.mo (isK.mo (isK.mo (isK.mo (isK.mo (isK.mo (isK.mo f0 hm4) hm8) hm12) hm16) hm20) hm24) hm28) hm32) hm36) hm40) hm44) hm48) ((isK_iff.mp hk47).1) ?_
  refine s_aload_n hF dX12_init_129 rfl 0 rfl ?_
  refine s_sipush (v := (160 : Int32)) hF dX12_init_130 kS_160 ?_
  refine s_newIN (160) hF dX12_init_133 ac_int (by decide) rfl (Nat.le_of_ble_eq_true rfl) (fun r49 m50 hk51 hm52 => ?_)
  refine s_putRF hF (hI rfl) dX12_init_135 flX12_52 (isK.mo (isK.mo (isK.mo (isK.mo (isK.mo (isK.mo (isK.mo (isK.mo (isK.mo (isK.mo (isK.mo (isK.mo (isK.mo f0 hm4) hm8) hm12) hm16) hm20) hm24) hm28) hm32) hm36) hm40) hm44) hm48) hm52) ((isK_iff.mp hk51).1) ?_
  refine s_aload_n hF dX12_init_138 rfl 0 rfl ?_
  refine s_bipush (v := (8 : Int32)) hF dX12_init_139 kB_8 ?_
  refine s_newIN (8) hF dX12_init_141 ac_int (by decide) rfl (Nat.le_of_ble_eq_true rfl) (fun r53 m54 hk55 hm56 => ?_)
  refine s_putRF hF (hI rfl) dX12_init_143 flX12_55 (isK.mo (isK.mo (isK.mo (isK.mo (isK.mo (isK.mo (isK.mo (isK.mo (isK.mo (isK.mo (isK.mo (isK.mo (isK.mo (isK.mo f0 hm4) hm8) hm12) hm16) hm20) hm24) hm28) hm32) hm36) hm40) hm44) hm48) hm52) hm56) ((isK_iff.mp hk55).1) ?_
  refine s_aload_n hF dX12_init_146 rfl 0 rfl ?_
  refine s_bipush (v := (12 : Int32)) hF dX12_init_147 kB_12 ?_
  refine s_newIN (12) hF dX12_init_149 ac_int (by decide) rfl (Nat.le_of_ble_eq_true rfl) (fun r57 m58 hk59 hm60 => ?_)
  refine s_putRF hF (hI rfl) dX12_init_151 flX12_58 (isK.mo (isK.mo (isK.mo (isK.mo (isK.mo (isK.mo (isK.mo (isK.mo (isK.mo (isK.mo (isK.mo (isK.mo (isK.mo (isK.mo (isK.mo f0 hm4) hm8) hm12) hm16) hm20) hm24) hm28) hm32) hm36) hm40) hm44) hm48) hm52) hm56) hm60) ((isK_iff.mp hk59).1) ?_
  refine s_aload_n hF dX12_init_154 rfl 0 rfl ?_
  refine s_bipush (v := (12 : Int32)) hF dX12_init_155 kB_12 ?_
  refine s_newIN (12) hF dX12_init_157 ac_int (by decide) rfl (Nat.le_of_ble_eq_true rfl) (fun r61 m62 hk63 hm64 => ?_)
  refine s_putRF hF (hI rfl) dX12_init_159 flX12_61 (isK.mo (isK.mo (isK.mo (isK.mo (isK.mo (isK.mo (isK.mo (isK.mo (isK.mo (isK.mo (isK.mo (isK.mo (isK.mo (isK.mo (isK.mo (isK.mo f0 hm4) hm8) hm12) hm16) hm20) hm24) hm28) hm32) hm36) hm40) hm44) hm48) hm52) hm56) hm60) hm64) ((isK_iff.mp hk63).1) ?_
  refine s_aload_n hF dX12_init_162 rfl 0 rfl ?_
  refine s_bipush (v := (80 : Int32)) hF dX12_init_163 kB_80 ?_
  refine s_iconst (v := (5 : Int32)) hF dX12_init_165 kI_5 ?_
  refine s_mna 80 5 hF hD dX12_init_166 clX12_26 ov_I ac_int (by decide) (by decide) rfl rfl (Nat.le_of_ble_eq_true rfl) (Nat.le_of_ble_eq_true rfl) (Nat.le_of_ble_eq_true rfl) (fun r65 m66 hk67 hm68 => ?_)
  refine s_putRF hF (hI rfl) dX12_init_170 flX12_64 (isK.mo (isK.mo (isK.mo (isK.mo (isK.mo (isK.mo (isK.mo (isK.mo (isK.mo (isK.mo (isK.mo (isK.mo (isK.mo (isK.mo (isK.mo (isK.mo (isK.mo f0 hm4) hm8) hm12) hm16) hm20) hm24) hm28) hm32) hm36) hm40) hm44) hm48) hm52) hm56) hm60) hm64) hm68) ((isK_iff.mp hk67).1) ?_
  refine s_aload_n hF dX12_init_173 rfl 0 rfl ?_
  refine s_sipush (v := (419 : Int32)) hF dX12_init_174 kS_419 ?_
  refine s_newIN (419) hF dX12_init_177 ac_int (by decide) rfl (Nat.le_of_ble_eq_true rfl) (fun r69 m70 hk71 hm72 => ?_)
  refine s_putRF hF (hI rfl) dX12_init_179 flX12_67 (isK.mo (isK.mo (isK.mo (isK.mo (isK.mo (isK.mo (isK.mo (isK.mo (isK.mo (isK.mo (isK.mo (isK.mo (isK.mo (isK.mo (isK.mo (isK.mo (isK.mo (isK.mo f0 hm4) hm8) hm12) hm16) hm20) hm24) hm28) hm32) hm36) hm40) hm44) hm48) hm52) hm56) hm60) hm64) hm68) hm72) ((isK_iff.mp hk71).1) ?_
  refine s_aload_n hF dX12_init_182 rfl 0 rfl ?_
  refine s_sipush (v := (419 : Int32)) hF dX12_init_183 kS_419 ?_
  refine s_newIN (419) hF dX12_init_186 ac_int (by decide) rfl (Nat.le_of_ble_eq_true rfl) (fun r73 m74 hk75 hm76 => ?_)
  refine s_putRF hF (hI rfl) dX12_init_188 flX12_70 (isK.mo (isK.mo (isK.mo (isK.mo (isK.mo (isK.mo (isK.mo (isK.mo (isK.mo (isK.mo (isK.mo (isK.mo (isK.mo (isK.mo (isK.mo (isK.mo (isK.mo (isK.mo (isK.mo f0 hm4) hm8) hm12) hm16) hm20) hm24) hm28) hm32) hm36) hm40) hm44) hm48) hm52) hm56) hm60) hm64) hm68) hm72) hm76) ((isK_iff.mp hk75).1) ?_
  refine s_aload_n hF dX12_init_191 rfl 0 rfl ?_
  refine s_bipush (v := (16 : Int32)) hF dX12_init_192 kB_16 ?_
  refine s_sipush (v := (419 : Int32)) hF dX12_init_194 kS_419 ?_
  refine s_mna 16 419 hF hD dX12_init_197 clX12_26 ov_I ac_int (by decide) (by decide) rfl rfl (Nat.le_of_ble_eq_true rfl) (Nat.le_of_ble_eq_true rfl) (Nat.le_of_ble_eq_true rfl) (fun r77 m78 hk79 hm80 => ?_)
  refine s_putRF hF (hI rfl) dX12_init_201 flX12_73 (isK.mo (isK.mo (isK.mo (isK.mo (isK.mo (isK.mo (isK.mo (isK.mo (isK.mo (isK.mo (isK.mo (isK.mo (isK.mo (isK.mo (isK.mo (isK.mo (isK.mo (isK.mo (isK.mo (isK.mo f0 hm4) hm8) hm12) hm16) hm20) hm24) hm28) hm32) hm36) hm40) hm44) hm48) hm52) hm56) hm60) hm64) hm68) hm72) hm76) hm80) ((isK_iff.mp hk79).1) ?_
  refine s_aload_n hF dX12_init_204 rfl 0 rfl ?_
  refine s_iconst (v := (3 : Int32)) hF dX12_init_205 kI_3 ?_
  refine s_sipush (v := (7124 : Int32)) hF dX12_init_206 kS_7124 ?_
  refine s_mna 3 7124 hF hD dX12_init_209 clX12_26 ov_I ac_int (by decide) (by decide) rfl rfl (Nat.le_of_ble_eq_true rfl) (Nat.le_of_ble_eq_true rfl) (Nat.le_of_ble_eq_true rfl) (fun r81 m82 hk83 hm84 => ?_)
  refine s_putRF hF (hI rfl) dX12_init_213 flX12_76 (isK.mo (isK.mo (isK.mo (isK.mo (isK.mo (isK.mo (isK.mo (isK.mo (isK.mo (isK.mo (isK.mo (isK.mo (isK.mo (isK.mo (isK.mo (isK.mo (isK.mo (isK.mo (isK.mo (isK.mo (isK.mo f0 hm4) hm8) hm12) hm16) hm20) hm24) hm28) hm32) hm36) hm40) hm44) hm48) hm52) hm56) hm60) hm64) hm68) hm72) hm76) hm80) hm84) ((isK_iff.mp hk83).1) ?_
  refine s_aload_n hF dX12_init_216 rfl 0 rfl ?_
  refine s_bipush (v := (8 : Int32)) hF dX12_init_217 kB_8 ?_
  refine s_newIN (8) hF dX12_init_219 ac_int (by decide) rfl (Nat.le_of_ble_eq_true rfl) (fun r85 m86 hk87 hm88 => ?_)
  refine s_putRF hF (hI rfl) dX12_init_221 flX12_79 (isK.mo (isK.mo (isK.mo (isK.mo (isK.mo (isK.mo (isK.mo (isK.mo (isK.mo (isK.mo (isK.mo (isK.mo (isK.mo (isK.mo (isK.mo (isK.mo (isK.mo (isK.mo (isK.mo (isK.mo (isK.mo (isK.mo f0 hm4) hm8) hm12) hm16) hm20) hm24) hm28) hm32) hm36) hm40) hm44) hm48) hm52) hm56) hm60) hm64) hm68) hm72) hm76) hm80) hm84) hm88) ((isK_iff.mp hk87).1) ?_
  refine s_aload_n hF dX12_init_224 rfl 0 rfl ?_
  refine s_bipush (v := (8 : Int32)) hF dX12_init_225 kB_8 ?_
  refine s_newIN (8) hF dX12_init_227 ac_int (by decide) rfl (Nat.le_of_ble_eq_true rfl) (fun r89 m90 hk91 hm92 => ?_)
  refine s_putRF hF (hI rfl) dX12_init_229 flX12_82 (isK.mo (isK.mo (isK.mo (isK.mo (isK.mo (isK.mo (isK.mo (isK.mo (isK.mo (isK.mo (isK.mo (isK.mo (isK.mo (isK.mo (isK.mo (isK.mo (isK.mo (isK.mo (isK.mo (isK.mo (isK.mo (isK.mo (isK.mo f0 hm4) hm8) hm12) hm16) hm20) hm24) hm28) hm32) hm36) hm40) hm44) hm48) hm52) hm56) hm60) hm64) hm68) hm72) hm76) hm80) hm84) hm88) hm92) ((isK_iff.mp hk91).1) ?_
  refine s_aload_n hF dX12_init_232 rfl 0 rfl ?_
  refine s_sipush (v := (1001 : Int32)) hF dX12_init_233 kS_1001 ?_
  refine s_newIN (1001) hF dX12_init_236 ac_int (by decide) rfl (Nat.le_of_ble_eq_true rfl) (fun r93 m94 hk95 hm96 => ?_)
  refine s_putRF hF (hI rfl) dX12_init_238 flX12_85 (isK.mo (isK.mo (isK.mo (isK.mo (isK.mo (isK.mo (isK.mo (isK.mo (isK.mo (isK.mo (isK.mo (isK.mo (isK.mo (isK.mo (isK.mo (isK.mo (isK.mo (isK.mo (isK.mo (isK.mo (isK.mo (isK.mo (isK.mo (isK.mo f0 hm4) hm8) hm12) hm16) hm20) hm24) hm28) hm32) hm36) hm40) hm44) hm48) hm52) hm56) hm60) hm64) hm68) hm72) hm76) hm80) hm84) hm88) hm92) hm96) ((isK_iff.mp hk95).1) ?_
  refine s_aload_n hF dX12_init_241 rfl 0 rfl ?_
  refine s_xVv (st := []) (ci := 12) [] hF hD dX12_init_242 cwX12_88 (Nat.le_of_ble_eq_true rfl) (Nat.le_of_ble_eq_true rfl) rfl rfl (Nat.le_of_ble_eq_true rfl) (isK.mo (isK.mo (isK.mo (isK.mo (isK.mo (isK.mo (isK.mo (isK.mo (isK.mo (isK.mo (isK.mo (isK.mo (isK.mo (isK.mo (isK.mo (isK.mo (isK.mo (isK.mo (isK.mo (isK.mo (isK.mo (isK.mo (isK.mo (isK.mo f0 hm4) hm8) hm12) hm16) hm20) hm24) hm28) hm32) hm36) hm40) hm44) hm48) hm52) hm56) hm60) hm64) hm68) hm72) hm76) hm80) hm84) hm88) hm92) hm96) rfl rfl (Nat.le_of_ble_eq_true rfl) (ctxX12_tellsNothing l0 _) (fun r97 m98 hl99 hm100 => ?_)
  refine s_aload_n hF dX12_init_245 rfl 0 rfl ?_
  refine s_xVv (st := []) (ci := 12) [] hF hD dX12_init_246 cwX12_91 (Nat.le_of_ble_eq_true rfl) (Nat.le_of_ble_eq_true rfl) rfl rfl (Nat.le_of_ble_eq_true rfl) (isK.mo (isK.mo (isK.mo (isK.mo (isK.mo (isK.mo (isK.mo (isK.mo (isK.mo (isK.mo (isK.mo (isK.mo (isK.mo (isK.mo (isK.mo (isK.mo (isK.mo (isK.mo (isK.mo (isK.mo (isK.mo (isK.mo (isK.mo (isK.mo (isK.mo f0 hm4) hm8) hm12) hm16) hm20) hm24) hm28) hm32) hm36) hm40) hm44) hm48) hm52) hm56) hm60) hm64) hm68) hm72) hm76) hm80) hm84) hm88) hm92) hm96) hm100) rfl rfl (Nat.le_of_ble_eq_true rfl) (ctxX12_beginsAnew l0 _) (fun r103 m104 hl105 hm106 => ?_)
  exact s_vretX hF hD dX12_init_249 rfl
