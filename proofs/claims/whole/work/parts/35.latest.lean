/-! ===== latest ===== -/
theorem wcX11_latest : Cond.code yX11_latest cX11_latest 3 (some .int) ∈ WA := wa_of 1463 (by decide +kernel) rfl
theorem wiX11_latest : Cond.instanceMethod yX11_latest ∈ WA := wa_of 1461 (by decide +kernel) rfl
theorem wsX11_latest : Cond.selects yX11_latest.cls yX11_latest yX11_latest ∈ WA := wa_of 1462 (by decide +kernel) rfl
theorem wpX11_latest : yX11_latest.cls ≠ "java/lang/invoke/MethodHandle" ∧ yX11_latest.cls ≠ "java/lang/invoke/VarHandle" ∧ (parseMethodDescriptor yX11_latest.desc).map (fun d => d.parameters.length) = some 1 := by decide +kernel
theorem cwL_94 : CWV RL 94 yX11_latest cX11_latest 3 (some .int) 1 := ⟨goodV (wa_of 1460 (by decide +kernel) rfl) wiX11_latest wsX11_latest wnX11 wcX11_latest, wpX11_latest⟩
theorem cas_2 : Cond.castable (exN 2) (exN 2) ∈ WX := wx_of 1457 (by decide +kernel) rfl
theorem clL_97 : Cond.classLink RL 97 "java/lang/NullPointerException" ∈ WA := wa_of 1435 (by decide +kernel) rfl
theorem xi_2 : Cond.initialized (exN 2) ∈ WA := wa_of 130 (by decide +kernel) rfl
theorem thX11_338 {α : Type} {F : Option Fx} {enc : α → Outc} {cc : ByteArray} {nL v pc : Nat} {pls : List (Nat × Value)} {st : List Value} {μ : Mem} {ret : Option FieldType} {r : α} (hF : FxO F RX11 cc nL v) (hD : FxXO F ret) (hv : 8 ≤ v) (he : enc r = .inr 2) (d0 : decode cc pc = .ok (.new 338, 3)) (d3 : decode cc (pc + 3) = .ok (.dup, 1)) (d4 : decode cc (pc + 4) = .ok (.ldc_w 340, 3)) (d7 : decode cc (pc + 7) = .ok (.invokespecial 342, 3)) (d10 : decode cc (pc + 10) = .ok (.athrow, 1)) (hcat : (st.map fun v => v.category).sum ≤ 8) : Sim F enc pc pls st μ (some (r, p_lost μ 1 8)) :=
  s_throwNN (names := ["java/lang/Exception"]) (Y1 := "java/lang/RuntimeException") (i0 := 7) (b0 := prog_24_method_2_code) hF hD (Nat.le_trans (by decide) hv) he d0 d3 d4 d7 d10 (by decide +kernel) (by decide +kernel) (by decide +kernel) (by decide +kernel) (wa_of 1464 (by decide +kernel) rfl) xi_2 (by decide +kernel) (by decide +kernel) (by decide +kernel) ⟨9, rfl⟩ (wsa (by decide +kernel)) (wsx (by decide +kernel)) (by decide +kernel) hcat
def LX11_latest (l0 : Nat) (l1 : Int32) (μ : Mem) : Option ((Nat ⊕ Int32) × Mem) := if isK μ l0 11 = true then (obindX (LX11_needPen l0 l1 μ) (fun (r1 : Unit) (m2 : Mem) => if 0 < (g_R m2 l0 3) then (if isK m2 (g_R m2 l0 3) 8 = true then (if 0 < (g_R m2 (g_R m2 l0 3) 0) then (if inA m2 (g_R m2 (g_R m2 l0 3) 0) 17 l1 = true then (if 0 < (g_R m2 (g_R m2 (g_R m2 l0 3) 0) l1.toNatClampNeg) then (if isK m2 (g_R m2 (g_R m2 (g_R m2 l0 3) 0) l1.toNatClampNeg) 5 = true then (if (g_I m2 (g_R m2 (g_R m2 (g_R m2 l0 3) 0) l1.toNatClampNeg) 3) = (-1 : Int32) then (if 0 < (g_R m2 l0 8) then (if inA m2 (g_R m2 l0 8) 15 (2 : Int32) = true then (some (.inl 2, (p_lost (p_I m2 (g_R m2 l0 8) (2 : Int32).toNatClampNeg ((g_I m2 (g_R m2 l0 8) (2 : Int32).toNatClampNeg) + (1 : Int32))) 1 8))) else none) else none) else (obindX (LX11_needRecord l0 l1 ((g_I m2 (g_R m2 (g_R m2 (g_R m2 l0 3) 0) l1.toNatClampNeg) 4) - (1 : Int32)) m2) (fun (r16 : Unit) (m17 : Mem) => obind (LX5_readAt (g_R m2 (g_R m2 (g_R m2 l0 3) 0) l1.toNatClampNeg) ((g_I m17 (g_R m2 (g_R m2 (g_R m2 l0 3) 0) l1.toNatClampNeg) 4) - (1 : Int32)) m17) (fun (r22 : Int32) (m23 : Mem) => some (.inr r22, m23))))) else none) else none) else none) else none) else none) else none)) else none
def hhL_latest : List (Nat × Nat × Nat × Nat) := [(0, 9, 12, 34), (0, 9, 15, 97), (0, 9, 18, 42)]
def hcL_latest : Nat → Option Int32 := fun k => if k = 0 then some 1 else if k = 2 then some 2 else if k = 3 then some 3 else none
def LL_latest (l0 : Nat) (l1 : Int32) (l2 : Nat) (μ : Mem) : Option (Int32 × Mem) := if isK μ l0 11 = true then (if isK μ l2 16 = true then (obindH hcL_latest (LX11_latest l0 l1 μ) (fun (r1 : Int32) (m2 : Mem) => if inA m2 l2 16 (0 : Int32) = true then (some ((0 : Int32), (p_L m2 l2 (0 : Int32).toNatClampNeg r1.toInt64))) else none)) else none) else none
theorem ctX11_latest  (l0 : Nat) (l1 : Int32) (μ : Mem) : ∀ (r : (Nat ⊕ Int32)) (μ' : Mem), LX11_latest l0 l1 μ = some (r, μ') → CtX yX11_latest cX11_latest 3 (some .int) 10 [.ref l0, .int l1] μ ((encX encI) r) μ' := by
  refine ct_enterX plX11 (Nat.le_of_ble_eq_true rfl) (fun F hF hD hI => ?_)
  unfold LX11_latest
  refine sim_gd (fun f0 => ?_)
  refine s_aload_n hF dX11_latest_0 rfl 0 rfl ?_
  refine s_iload_n hF dX11_latest_1 rfl 1 rfl ?_
  refine s_tVv (st := []) (ci := 11) [.int l1] hF hD dX11_latest_2 cwX11_215 (Nat.le_of_ble_eq_true rfl) (Nat.le_of_ble_eq_true rfl) rfl rfl (Nat.le_of_ble_eq_true rfl) f0 rfl rfl (Nat.le_of_ble_eq_true rfl) (ctX11_needPen l0 l1 _) (fun r1 m2 hl3 hm4 => ?_)
  refine s_aload_n hF dX11_latest_5 rfl 0 rfl ?_
  refine sim_gd (fun g7 => ?_)
  refine s_getR (x := (g_R m2 l0 3)) hF dX11_latest_6 flX11_33 (isK.mo f0 hm4) g7 rfl ?_
  refine sim_gd (fun g8 => ?_)
  refine sim_gd (fun g9 => ?_)
  refine s_getRq (x := (g_R m2 (g_R m2 l0 3) 0)) hF dX11_latest_9 fqX11_218 g8 g9 rfl ?_
  refine s_iload_n hF dX11_latest_12 rfl 1 rfl ?_
  refine sim_gd (fun g10 => ?_)
  refine sim_gd (fun g11 => ?_)
  refine s_aaload (x := (g_R m2 (g_R m2 (g_R m2 l0 3) 0) l1.toNatClampNeg)) hF dX11_latest_13 (by decide) (by decide) g10 g11 rfl ?_
  refine sim_gd (fun g12 => ?_)
  refine s_astore_n (pls' := [(2, .ref (g_R m2 (g_R m2 (g_R m2 l0 3) 0) l1.toNatClampNeg)), (0, .ref l0), (1, .int l1)]) hF dX11_latest_14 rfl (by decide) rfl ?_
  refine s_aload_n hF dX11_latest_15 rfl 0 rfl ?_
  refine s_getIq (x := (g_I m2 (g_R m2 (g_R m2 (g_R m2 l0 3) 0) l1.toNatClampNeg) 3)) hF dX11_latest_16 fqX11_230 g12 rfl ?_
  refine s_iconst (v := (-1 : Int32)) hF dX11_latest_19 kI_m1 ?_
  refine s_icmp_ne (tgt := 44) hF dX11_latest_20 rfl (fun c13 => ?_) (fun c13 => ?_)
  · refine s_aload_n hF dX11_latest_23 rfl 1 rfl ?_
    refine sim_gd (fun g14 => ?_)
    refine s_getR (x := (g_R m2 l0 8)) hF dX11_latest_24 flX11_62 (isK.mo f0 hm4) g14 rfl ?_
    refine s_iconst (v := (2 : Int32)) hF dX11_latest_27 kI_2 ?_
    refine s_dup2 hF dX11_latest_28 rfl rfl ?_
    refine sim_gd (fun g15 => ?_)
    refine s_iaload (x := (g_I m2 (g_R m2 l0 8) (2 : Int32).toNatClampNeg)) hF dX11_latest_29 g15 rfl ?_
    refine s_iconst (v := (1 : Int32)) hF dX11_latest_30 kI_1 ?_
    refine s_iadd hF dX11_latest_31 ?_
    refine s_iastore hF dX11_latest_32 g15 ?_
    exact thX11_338 hF hD (Nat.le_of_ble_eq_true rfl) rfl dX11_latest_33 dX11_latest_36 dX11_latest_37 dX11_latest_40 dX11_latest_43 (Nat.le_of_ble_eq_true rfl)
  · refine s_aload_n hF dX11_latest_44 rfl 1 rfl ?_
    refine s_iload_n hF dX11_latest_45 rfl 2 rfl ?_
    refine s_aload_n hF dX11_latest_46 rfl 0 rfl ?_
    refine s_getIq (x := (g_I m2 (g_R m2 (g_R m2 (g_R m2 l0 3) 0) l1.toNatClampNeg) 4)) hF dX11_latest_47 fqX11_233 g12 rfl ?_
    refine s_iconst (v := (1 : Int32)) hF dX11_latest_50 kI_1 ?_
    refine s_isub hF dX11_latest_51 ?_
    refine s_tVv (st := []) (ci := 11) [.int l1, .int ((g_I m2 (g_R m2 (g_R m2 (g_R m2 l0 3) 0) l1.toNatClampNeg) 4) - (1 : Int32))] hF hD dX11_latest_52 cwX11_250 (Nat.le_of_ble_eq_true rfl) (Nat.le_of_ble_eq_true rfl) rfl rfl (Nat.le_of_ble_eq_true rfl) (isK.mo f0 hm4) rfl rfl (Nat.le_of_ble_eq_true rfl) (ctX11_needRecord l0 l1 ((g_I m2 (g_R m2 (g_R m2 (g_R m2 l0 3) 0) l1.toNatClampNeg) 4) - (1 : Int32)) _) (fun r16 m17 hl18 hm19 => ?_)
    refine s_aload_n hF dX11_latest_55 rfl 0 rfl ?_
    refine s_aload_n hF dX11_latest_56 rfl 0 rfl ?_
    refine s_getIq (x := (g_I m17 (g_R m2 (g_R m2 (g_R m2 l0 3) 0) l1.toNatClampNeg) 4)) hF dX11_latest_57 fqX11_233 (isK.mo g12 hm19) rfl ?_
    refine s_iconst (v := (1 : Int32)) hF dX11_latest_60 kI_1 ?_
    refine s_isub hF dX11_latest_61 ?_
    refine s_xVi (st := []) (ci := 5) [.int ((g_I m17 (g_R m2 (g_R m2 (g_R m2 l0 3) 0) l1.toNatClampNeg) 4) - (1 : Int32))] hF hD dX11_latest_62 cwX11_253 (Nat.le_of_ble_eq_true rfl) (Nat.le_of_ble_eq_true rfl) rfl rfl (Nat.le_of_ble_eq_true rfl) (isK.mo g12 hm19) rfl rfl (Nat.le_of_ble_eq_true rfl) (ctX5_readAt (g_R m2 (g_R m2 (g_R m2 l0 3) 0) l1.toNatClampNeg) ((g_I m17 (g_R m2 (g_R m2 (g_R m2 l0 3) 0) l1.toNatClampNeg) 4) - (1 : Int32)) _) (fun r22 m23 hl24 hm25 => ?_)
    exact s_iretX hF hD dX11_latest_65 rfl
theorem hokL_latest : ∀ (k : Nat) (c : Int32), hcL_latest k = some c → HOK RL cL_latest 4 hhL_latest 4 k c := by
  intro k c h
  unfold hcL_latest at h
  by_cases e0 : k = 0
  · subst e0
    cases h
    exact ⟨[], ⟨0, 9, 12, 34⟩, [⟨0, 9, 15, 97⟩, ⟨0, 9, 18, 42⟩], rfl, (fun z hz => nomatch hz), by decide, by decide, clL_34, cas_0, ⟨1, by decide, Or.inl ⟨3, by decide, dL_latest_12, dL_latest_13, dL_latest_14⟩⟩⟩
  rw [if_neg e0] at h
  by_cases e1 : k = 2
  · subst e1
    cases h
    exact ⟨[⟨0, 9, 12, 34⟩], ⟨0, 9, 15, 97⟩, [⟨0, 9, 18, 42⟩], rfl, (List.forall_mem_cons.mpr ⟨Or.inr ⟨by decide, 0, clL_34, by decide⟩, (fun z hz => nomatch hz)⟩), by decide, by decide, clL_97, cas_2, ⟨2, by decide, Or.inl ⟨3, by decide, dL_latest_15, dL_latest_16, dL_latest_17⟩⟩⟩
  rw [if_neg e1] at h
  by_cases e2 : k = 3
  · subst e2
    cases h
    exact ⟨[⟨0, 9, 12, 34⟩, ⟨0, 9, 15, 97⟩], ⟨0, 9, 18, 42⟩, [], rfl, (List.forall_mem_cons.mpr ⟨Or.inr ⟨by decide, 0, clL_34, by decide⟩, (List.forall_mem_cons.mpr ⟨Or.inr ⟨by decide, 2, clL_97, by decide⟩, (fun z hz => nomatch hz)⟩)⟩), by decide, by decide, clL_42, cas_3, ⟨3, by decide, Or.inl ⟨3, by decide, dL_latest_18, dL_latest_19, dL_latest_20⟩⟩⟩
  rw [if_neg e2] at h
  cases h
theorem ctL_latest  (l0 : Nat) (l1 : Int32) (l2 : Nat) (μ : Mem) : ∀ (r : Int32) (μ' : Mem), LL_latest l0 l1 l2 μ = some (r, μ') → CtH yL_latest cL_latest 4 (some .int) hhL_latest 11 [.ref l0, .int l1, .ref l2] μ (encI r) μ' := by
  refine ct_enterH plL (Nat.le_of_ble_eq_true rfl) (fun F hF hD => ?_)
  unfold LL_latest
  refine sim_gd (fun f0 => ?_)
  refine sim_gd (fun f2 => ?_)
  refine s_aload_n hF dL_latest_0 rfl 2 rfl ?_
  refine s_iconst (v := (0 : Int32)) hF dL_latest_1 kI_0 ?_
  refine s_aload_n hF dL_latest_2 rfl 0 rfl ?_
  refine s_iload_n hF dL_latest_3 rfl 1 rfl ?_
  refine s_hVi (st := [.int (0 : Int32), .ref l2]) (ci := 11) (hc := hcL_latest) [.int l1] hF hD dL_latest_4 cwL_94 (Nat.le_of_ble_eq_true rfl) (Nat.le_of_ble_eq_true rfl) rfl rfl (Nat.le_of_ble_eq_true rfl) f0 rfl rfl (Nat.le_of_ble_eq_true rfl) (ctX11_latest l0 l1 _) hokL_latest (fun r1 m2 hl3 hm4 => ?_)
  refine s_i2l hF dL_latest_7 ?_
  refine sim_gd (fun g5 => ?_)
  refine s_lastore hF dL_latest_8 g5 ?_
  refine s_goto (tgt := 21) hF dL_latest_9 rfl ?_
  refine s_iconst (v := (0 : Int32)) hF dL_latest_21 kI_0 ?_
  exact s_iretH hF hD dL_latest_22 rfl
