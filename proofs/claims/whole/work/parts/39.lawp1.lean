/-! ===== the walk of the law ===== -/
theorem sL_law__220 {F : Option Fx} {Ls : Nat} {xs : Nat → Int32} (q23 : Nat → Nat → Nat → Int32 → Mem → Option (Unit × Mem)) (hF : FxO F RL cL_law_ 7 100) (hD : FxLO F) (hDr : DrO F) (hSc : FxS F Ls xs) (hQ : FxLQ F) (hq23 : ∀ (l1 : Nat) (l2 : Nat) (l3 : Nat) (l4 : Int32) (μ : Mem) (_ : isK μ l1 11 = true) (_ : isK μ l2 12 = true) (_ : isK μ l3 16 = true), Sim F encV 23 [(0, .retAddr 300), (1, .ref l1), (2, .ref l2), (3, .ref l3), (4, .int l4)] [] μ (q23 l1 l2 l3 l4 μ)) (l1 : Nat) (l2 : Nat) (l3 : Nat) (l4 : Int32) (μ : Mem) (f1 : isK μ l1 11 = true) (f2 : isK μ l2 12 = true) (f3 : isK μ l3 16 = true) : Sim F encV 220 [(0, .retAddr 300), (1, .ref l1), (2, .ref l2), (3, .ref l3), (4, .int l4)] [] μ (mL_law__220 Ls xs q23 l1 l2 l3 l4 μ) := by
  unfold mL_law__220
  refine s_aload_n hF dL_law__220 rfl 1 rfl ?_
  refine s_sload_n hF dL_law__221 rfl 0 rfl ?_
  refine s_iload hF dL_law__222 4 rfl ?_
  refine s_iconst (v := (1 : Int32)) hF dL_law__224 kI_1 ?_
  refine s_iadd hF dL_law__225 ?_
  refine sim_gd (fun g789 => ?_)
  refine s_sca (x := (xs (l4 + (1 : Int32)).toNatClampNeg)) hF hSc dL_law__226 g789 rfl ?_
  refine s_sload_n hF dL_law__227 rfl 0 rfl ?_
  refine s_iload hF dL_law__228 4 rfl ?_
  refine s_iconst (v := (2 : Int32)) hF dL_law__230 kI_2 ?_
  refine s_iadd hF dL_law__231 ?_
  refine sim_gd (fun g790 => ?_)
  refine s_sca (x := (xs (l4 + (2 : Int32)).toNatClampNeg)) hF hSc dL_law__232 g790 rfl ?_
  refine s_sload_n hF dL_law__233 rfl 0 rfl ?_
  refine s_iload hF dL_law__234 4 rfl ?_
  refine s_iconst (v := (3 : Int32)) hF dL_law__236 kI_3 ?_
  refine s_iadd hF dL_law__237 ?_
  refine sim_gd (fun g791 => ?_)
  refine s_sca (x := (xs (l4 + (3 : Int32)).toNatClampNeg)) hF hSc dL_law__238 g791 rfl ?_
  refine s_sload_n hF dL_law__239 rfl 0 rfl ?_
  refine s_iload hF dL_law__240 4 rfl ?_
  refine s_iconst (v := (4 : Int32)) hF dL_law__242 kI_4 ?_
  refine s_iadd hF dL_law__243 ?_
  refine sim_gd (fun g792 => ?_)
  refine s_sca (x := (xs (l4 + (4 : Int32)).toNatClampNeg)) hF hSc dL_law__244 g792 rfl ?_
  refine s_sload_n hF dL_law__245 rfl 0 rfl ?_
  refine s_iload hF dL_law__246 4 rfl ?_
  refine s_iconst (v := (5 : Int32)) hF dL_law__248 kI_5 ?_
  refine s_iadd hF dL_law__249 ?_
  refine sim_gd (fun g793 => ?_)
  refine s_sca (x := (xs (l4 + (5 : Int32)).toNatClampNeg)) hF hSc dL_law__250 g793 rfl ?_
  refine s_lVi (st := []) (ci := 11) [.int (xs (l4 + (1 : Int32)).toNatClampNeg), .int (xs (l4 + (2 : Int32)).toNatClampNeg), .int (xs (l4 + (3 : Int32)).toNatClampNeg), .int (xs (l4 + (4 : Int32)).toNatClampNeg), .int (xs (l4 + (5 : Int32)).toNatClampNeg)] hF hD dL_law__251 cwL_123 (Nat.le_of_ble_eq_true rfl) (Nat.le_of_ble_eq_true rfl) rfl rfl (Nat.le_of_ble_eq_true rfl) f1 rfl rfl (Nat.le_of_ble_eq_true rfl) (ctX11_feed l1 (xs (l4 + (1 : Int32)).toNatClampNeg) (xs (l4 + (2 : Int32)).toNatClampNeg) (xs (l4 + (3 : Int32)).toNatClampNeg) (xs (l4 + (4 : Int32)).toNatClampNeg) (xs (l4 + (5 : Int32)).toNatClampNeg) _) (fun r794 m795 hl796 hm797 => ?_)
  refine s_aload_n hF dL_law__254 rfl 2 rfl ?_
  refine s_sload_n hF dL_law__255 rfl 0 rfl ?_
  refine s_iload hF dL_law__256 4 rfl ?_
  refine s_iconst (v := (1 : Int32)) hF dL_law__258 kI_1 ?_
  refine s_iadd hF dL_law__259 ?_
  refine sim_gd (fun g798 => ?_)
  refine s_sca (x := (xs (l4 + (1 : Int32)).toNatClampNeg)) hF hSc dL_law__260 g798 rfl ?_
  refine s_sload_n hF dL_law__261 rfl 0 rfl ?_
  refine s_iload hF dL_law__262 4 rfl ?_
  refine s_iconst (v := (2 : Int32)) hF dL_law__264 kI_2 ?_
  refine s_iadd hF dL_law__265 ?_
  refine sim_gd (fun g799 => ?_)
  refine s_sca (x := (xs (l4 + (2 : Int32)).toNatClampNeg)) hF hSc dL_law__266 g799 rfl ?_
  refine s_sload_n hF dL_law__267 rfl 0 rfl ?_
  refine s_iload hF dL_law__268 4 rfl ?_
  refine s_iconst (v := (3 : Int32)) hF dL_law__270 kI_3 ?_
  refine s_iadd hF dL_law__271 ?_
  refine sim_gd (fun g800 => ?_)
  refine s_sca (x := (xs (l4 + (3 : Int32)).toNatClampNeg)) hF hSc dL_law__272 g800 rfl ?_
  refine s_sload_n hF dL_law__273 rfl 0 rfl ?_
  refine s_iload hF dL_law__274 4 rfl ?_
  refine s_iconst (v := (4 : Int32)) hF dL_law__276 kI_4 ?_
  refine s_iadd hF dL_law__277 ?_
  refine sim_gd (fun g801 => ?_)
  refine s_sca (x := (xs (l4 + (4 : Int32)).toNatClampNeg)) hF hSc dL_law__278 g801 rfl ?_
  refine s_sload_n hF dL_law__279 rfl 0 rfl ?_
  refine s_iload hF dL_law__280 4 rfl ?_
  refine s_iconst (v := (5 : Int32)) hF dL_law__282 kI_5 ?_
  refine s_iadd hF dL_law__283 ?_
  refine sim_gd (fun g802 => ?_)
  refine s_sca (x := (xs (l4 + (5 : Int32)).toNatClampNeg)) hF hSc dL_law__284 g802 rfl ?_
  refine s_cVi (st := [.int r794]) (ci := 12) [.int (xs (l4 + (1 : Int32)).toNatClampNeg), .int (xs (l4 + (2 : Int32)).toNatClampNeg), .int (xs (l4 + (3 : Int32)).toNatClampNeg), .int (xs (l4 + (4 : Int32)).toNatClampNeg), .int (xs (l4 + (5 : Int32)).toNatClampNeg)] hF hDr dL_law__285 cwL_127 (Nat.le_of_ble_eq_true rfl) (Nat.le_of_ble_eq_true rfl) rfl rfl (Nat.le_of_ble_eq_true rfl) (isK.mo f2 hm797) rfl rfl (Nat.le_of_ble_eq_true rfl) (ctX12_feed l2 (xs (l4 + (1 : Int32)).toNatClampNeg) (xs (l4 + (2 : Int32)).toNatClampNeg) (xs (l4 + (3 : Int32)).toNatClampNeg) (xs (l4 + (4 : Int32)).toNatClampNeg) (xs (l4 + (5 : Int32)).toNatClampNeg) _) (fun r803 m804 hl805 hm806 => ?_)
  refine s_icmp_eq (tgt := 2665) hF dL_law__288 rfl (fun c807 => ?_) (fun c807 => ?_)
  · refine s_iinc (v := (l4 + (9 : Int32))) (pls' := [(4, .int (l4 + (9 : Int32))), (0, .retAddr 300), (1, .ref l1), (2, .ref l2), (3, .ref l3)]) hF dL_law__2665 4 rfl rfl (by decide) rfl ?_
    refine s_goto (tgt := 23) hF dL_law__2668 rfl ?_
    refine s_sub [1, 2, 3, 4, 0] rfl ?_
    exact hq23 l1 l2 l3 (l4 + (9 : Int32)) _ (isK.mo (isK.mo f1 hm797) hm806) (isK.mo (isK.mo f2 hm797) hm806) (isK.mo (isK.mo f3 hm797) hm806)
  · refine s_iconst (v := (0 : Int32)) hF dL_law__291 kI_0 ?_
    exact sim_none
theorem sL_law__293 {F : Option Fx} {Ls : Nat} {xs : Nat → Int32} (q23 : Nat → Nat → Nat → Int32 → Mem → Option (Unit × Mem)) (hF : FxO F RL cL_law_ 7 100) (hD : FxLO F) (hDr : DrO F) (hSc : FxS F Ls xs) (hQ : FxLQ F) (hq23 : ∀ (l1 : Nat) (l2 : Nat) (l3 : Nat) (l4 : Int32) (μ : Mem) (_ : isK μ l1 11 = true) (_ : isK μ l2 12 = true) (_ : isK μ l3 16 = true), Sim F encV 23 [(0, .retAddr 300), (1, .ref l1), (2, .ref l2), (3, .ref l3), (4, .int l4)] [] μ (q23 l1 l2 l3 l4 μ)) (l1 : Nat) (l2 : Nat) (l3 : Nat) (l4 : Int32) (μ : Mem) (f1 : isK μ l1 11 = true) (f2 : isK μ l2 12 = true) (f3 : isK μ l3 16 = true) : Sim F encV 293 [(0, .retAddr 300), (1, .ref l1), (2, .ref l2), (3, .ref l3), (4, .int l4)] [] μ (mL_law__293 Ls xs q23 l1 l2 l3 l4 μ) := by
  unfold mL_law__293
  refine s_aload_n hF dL_law__293 rfl 1 rfl ?_
  refine s_sload_n hF dL_law__294 rfl 0 rfl ?_
  refine s_iload hF dL_law__295 4 rfl ?_
  refine s_iconst (v := (1 : Int32)) hF dL_law__297 kI_1 ?_
  refine s_iadd hF dL_law__298 ?_
  refine sim_gd (fun g771 => ?_)
  refine s_sca (x := (xs (l4 + (1 : Int32)).toNatClampNeg)) hF hSc dL_law__299 g771 rfl ?_
  refine s_aload_n hF dL_law__300 rfl 3 rfl ?_
  refine s_lSi (st := []) [.ref l1, .int (xs (l4 + (1 : Int32)).toNatClampNeg), .ref l3] hF hD dL_law__301 cwL_128 (Nat.le_of_ble_eq_true rfl) (Nat.le_of_ble_eq_true rfl) rfl rfl (Nat.le_of_ble_eq_true rfl) (ctL_hut l1 (xs (l4 + (1 : Int32)).toNatClampNeg) l3 _) (fun r772 m773 hl774 hm775 => ?_)
  refine s_istore (pls' := [(5, .int r772), (0, .retAddr 300), (1, .ref l1), (2, .ref l2), (3, .ref l3), (4, .int l4)]) hF dL_law__304 (by decide) rfl ?_
  refine s_aload_n hF dL_law__306 rfl 3 rfl ?_
  refine s_sload_n hF dL_law__307 rfl 1 rfl ?_
  refine s_iload hF dL_law__308 5 rfl ?_
  refine s_iconst (v := (1 : Int32)) hF dL_law__310 kI_1 ?_
  refine s_iadd hF dL_law__311 ?_
  refine sim_gd (fun g776 => ?_)
  refine s_sca (x := (xs (l4 + (1 : Int32)).toNatClampNeg)) hF hSc dL_law__312 g776 rfl ?_
  refine s_cVi (st := []) (ci := 12) [.int (xs (l4 + (1 : Int32)).toNatClampNeg)] hF hDr dL_law__313 cwL_133 (Nat.le_of_ble_eq_true rfl) (Nat.le_of_ble_eq_true rfl) rfl rfl (Nat.le_of_ble_eq_true rfl) (isK.mo f2 hm775) rfl rfl (Nat.le_of_ble_eq_true rfl) (ctX12_hut l2 (xs (l4 + (1 : Int32)).toNatClampNeg) _) (fun r777 m778 hl779 hm780 => ?_)
  refine s_istore (pls' := [(6, .int r777), (5, .int r772), (0, .retAddr 300), (1, .ref l1), (2, .ref l2), (3, .ref l3), (4, .int l4)]) hF dL_law__316 (by decide) rfl ?_
  refine s_aload_n hF dL_law__318 rfl 4 rfl ?_
  refine s_cVi (st := []) (ci := 12) [] hF hDr dL_law__319 cwL_134 (Nat.le_of_ble_eq_true rfl) (Nat.le_of_ble_eq_true rfl) rfl rfl (Nat.le_of_ble_eq_true rfl) (isK.mo (isK.mo f2 hm775) hm780) rfl rfl (Nat.le_of_ble_eq_true rfl) (ctX12_thrown l2 _) (fun r781 m782 hl783 hm784 => ?_)
  refine s_iload hF dL_law__322 1 rfl ?_
  refine s_icmp_eq (tgt := 329) hF dL_law__324 rfl (fun c785 => ?_) (fun c785 => ?_)
  · refine s_iload hF dL_law__329 1 rfl ?_
    refine s_if_ne (tgt := 346) hF dL_law__331 rfl (fun c786 => ?_) (fun c786 => ?_)
    · refine s_aload_n hF dL_law__334 rfl 5 rfl ?_
      refine s_iconst (v := (0 : Int32)) hF dL_law__335 kI_0 ?_
      refine sim_gd (fun g787 => ?_)
      refine s_laload (x := (g_L m782 l3 (0 : Int32).toNatClampNeg)) hF dL_law__336 g787 rfl ?_
      refine s_iload hF dL_law__337 0 rfl ?_
      refine s_i2l hF dL_law__339 ?_
      refine s_lcmp hF dL_law__340 ?_
      refine s_if_eq (tgt := 346) hF dL_law__341 rfl (fun c788 => ?_) (fun c788 => ?_)
      · refine s_goto (tgt := 2665) hF dL_law__346 rfl ?_
        refine s_iinc (v := (l4 + (9 : Int32))) (pls' := [(4, .int (l4 + (9 : Int32))), (6, .int r777), (5, .int r772), (0, .retAddr 300), (1, .ref l1), (2, .ref l2), (3, .ref l3)]) hF dL_law__2665 6 rfl rfl (by decide) rfl ?_
        refine s_goto (tgt := 23) hF dL_law__2668 rfl ?_
        refine s_sub [3, 4, 5, 6, 0] rfl ?_
        exact hq23 l1 l2 l3 (l4 + (9 : Int32)) _ (isK.mo (isK.mo (isK.mo f1 hm775) hm780) hm784) (isK.mo (isK.mo (isK.mo f2 hm775) hm780) hm784) (isK.mo (isK.mo (isK.mo f3 hm775) hm780) hm784)
      · refine s_iconst (v := (0 : Int32)) hF dL_law__344 kI_0 ?_
        exact sim_none
    · refine s_goto (tgt := 2665) hF dL_law__346 rfl ?_
      refine s_iinc (v := (l4 + (9 : Int32))) (pls' := [(4, .int (l4 + (9 : Int32))), (6, .int r777), (5, .int r772), (0, .retAddr 300), (1, .ref l1), (2, .ref l2), (3, .ref l3)]) hF dL_law__2665 6 rfl rfl (by decide) rfl ?_
      refine s_goto (tgt := 23) hF dL_law__2668 rfl ?_
      refine s_sub [3, 4, 5, 6, 0] rfl ?_
      exact hq23 l1 l2 l3 (l4 + (9 : Int32)) _ (isK.mo (isK.mo (isK.mo f1 hm775) hm780) hm784) (isK.mo (isK.mo (isK.mo f2 hm775) hm780) hm784) (isK.mo (isK.mo (isK.mo f3 hm775) hm780) hm784)
  · refine s_iconst (v := (0 : Int32)) hF dL_law__327 kI_0 ?_
    exact sim_none
theorem sL_law__349 {F : Option Fx} {Ls : Nat} {xs : Nat → Int32} (q23 : Nat → Nat → Nat → Int32 → Mem → Option (Unit × Mem)) (hF : FxO F RL cL_law_ 7 100) (hD : FxLO F) (hDr : DrO F) (hSc : FxS F Ls xs) (hQ : FxLQ F) (hq23 : ∀ (l1 : Nat) (l2 : Nat) (l3 : Nat) (l4 : Int32) (μ : Mem) (_ : isK μ l1 11 = true) (_ : isK μ l2 12 = true) (_ : isK μ l3 16 = true), Sim F encV 23 [(0, .retAddr 300), (1, .ref l1), (2, .ref l2), (3, .ref l3), (4, .int l4)] [] μ (q23 l1 l2 l3 l4 μ)) (l1 : Nat) (l2 : Nat) (l3 : Nat) (l4 : Int32) (μ : Mem) (f1 : isK μ l1 11 = true) (f2 : isK μ l2 12 = true) (f3 : isK μ l3 16 = true) : Sim F encV 349 [(0, .retAddr 300), (1, .ref l1), (2, .ref l2), (3, .ref l3), (4, .int l4)] [] μ (mL_law__349 Ls xs q23 l1 l2 l3 l4 μ) := by
  unfold mL_law__349
  refine s_aload_n hF dL_law__349 rfl 1 rfl ?_
  refine s_sload_n hF dL_law__350 rfl 0 rfl ?_
  refine s_iload hF dL_law__351 4 rfl ?_
  refine s_iconst (v := (1 : Int32)) hF dL_law__353 kI_1 ?_
  refine s_iadd hF dL_law__354 ?_
  refine sim_gd (fun g753 => ?_)
  refine s_sca (x := (xs (l4 + (1 : Int32)).toNatClampNeg)) hF hSc dL_law__355 g753 rfl ?_
  refine s_aload_n hF dL_law__356 rfl 3 rfl ?_
  refine s_lSi (st := []) [.ref l1, .int (xs (l4 + (1 : Int32)).toNatClampNeg), .ref l3] hF hD dL_law__357 cwL_138 (Nat.le_of_ble_eq_true rfl) (Nat.le_of_ble_eq_true rfl) rfl rfl (Nat.le_of_ble_eq_true rfl) (ctL_law l1 (xs (l4 + (1 : Int32)).toNatClampNeg) l3 _) (fun r754 m755 hl756 hm757 => ?_)
  refine s_istore (pls' := [(5, .int r754), (0, .retAddr 300), (1, .ref l1), (2, .ref l2), (3, .ref l3), (4, .int l4)]) hF dL_law__360 (by decide) rfl ?_
  refine s_aload_n hF dL_law__362 rfl 3 rfl ?_
  refine s_sload_n hF dL_law__363 rfl 1 rfl ?_
  refine s_iload hF dL_law__364 5 rfl ?_
  refine s_iconst (v := (1 : Int32)) hF dL_law__366 kI_1 ?_
  refine s_iadd hF dL_law__367 ?_
  refine sim_gd (fun g758 => ?_)
  refine s_sca (x := (xs (l4 + (1 : Int32)).toNatClampNeg)) hF hSc dL_law__368 g758 rfl ?_
  refine s_cVi (st := []) (ci := 12) [.int (xs (l4 + (1 : Int32)).toNatClampNeg)] hF hDr dL_law__369 cwL_140 (Nat.le_of_ble_eq_true rfl) (Nat.le_of_ble_eq_true rfl) rfl rfl (Nat.le_of_ble_eq_true rfl) (isK.mo f2 hm757) rfl rfl (Nat.le_of_ble_eq_true rfl) (ctX12_law l2 (xs (l4 + (1 : Int32)).toNatClampNeg) _) (fun r759 m760 hl761 hm762 => ?_)
  refine s_istore (pls' := [(6, .int r759), (5, .int r754), (0, .retAddr 300), (1, .ref l1), (2, .ref l2), (3, .ref l3), (4, .int l4)]) hF dL_law__372 (by decide) rfl ?_
  refine s_aload_n hF dL_law__374 rfl 4 rfl ?_
  refine s_cVi (st := []) (ci := 12) [] hF hDr dL_law__375 cwL_134 (Nat.le_of_ble_eq_true rfl) (Nat.le_of_ble_eq_true rfl) rfl rfl (Nat.le_of_ble_eq_true rfl) (isK.mo (isK.mo f2 hm757) hm762) rfl rfl (Nat.le_of_ble_eq_true rfl) (ctX12_thrown l2 _) (fun r763 m764 hl765 hm766 => ?_)
  refine s_iload hF dL_law__378 1 rfl ?_
  refine s_icmp_eq (tgt := 385) hF dL_law__380 rfl (fun c767 => ?_) (fun c767 => ?_)
  · refine s_iload hF dL_law__385 1 rfl ?_
    refine s_if_ne (tgt := 402) hF dL_law__387 rfl (fun c768 => ?_) (fun c768 => ?_)
    · refine s_aload_n hF dL_law__390 rfl 5 rfl ?_
      refine s_iconst (v := (0 : Int32)) hF dL_law__391 kI_0 ?_
      refine sim_gd (fun g769 => ?_)
      refine s_laload (x := (g_L m764 l3 (0 : Int32).toNatClampNeg)) hF dL_law__392 g769 rfl ?_
      refine s_iload hF dL_law__393 0 rfl ?_
      refine s_i2l hF dL_law__395 ?_
      refine s_lcmp hF dL_law__396 ?_
      refine s_if_eq (tgt := 402) hF dL_law__397 rfl (fun c770 => ?_) (fun c770 => ?_)
      · refine s_goto (tgt := 2665) hF dL_law__402 rfl ?_
        refine s_iinc (v := (l4 + (9 : Int32))) (pls' := [(4, .int (l4 + (9 : Int32))), (6, .int r759), (5, .int r754), (0, .retAddr 300), (1, .ref l1), (2, .ref l2), (3, .ref l3)]) hF dL_law__2665 6 rfl rfl (by decide) rfl ?_
        refine s_goto (tgt := 23) hF dL_law__2668 rfl ?_
        refine s_sub [3, 4, 5, 6, 0] rfl ?_
        exact hq23 l1 l2 l3 (l4 + (9 : Int32)) _ (isK.mo (isK.mo (isK.mo f1 hm757) hm762) hm766) (isK.mo (isK.mo (isK.mo f2 hm757) hm762) hm766) (isK.mo (isK.mo (isK.mo f3 hm757) hm762) hm766)
      · refine s_iconst (v := (0 : Int32)) hF dL_law__400 kI_0 ?_
        exact sim_none
    · refine s_goto (tgt := 2665) hF dL_law__402 rfl ?_
      refine s_iinc (v := (l4 + (9 : Int32))) (pls' := [(4, .int (l4 + (9 : Int32))), (6, .int r759), (5, .int r754), (0, .retAddr 300), (1, .ref l1), (2, .ref l2), (3, .ref l3)]) hF dL_law__2665 6 rfl rfl (by decide) rfl ?_
      refine s_goto (tgt := 23) hF dL_law__2668 rfl ?_
      refine s_sub [3, 4, 5, 6, 0] rfl ?_
      exact hq23 l1 l2 l3 (l4 + (9 : Int32)) _ (isK.mo (isK.mo (isK.mo f1 hm757) hm762) hm766) (isK.mo (isK.mo (isK.mo f2 hm757) hm762) hm766) (isK.mo (isK.mo (isK.mo f3 hm757) hm762) hm766)
  · refine s_iconst (v := (0 : Int32)) hF dL_law__383 kI_0 ?_
    exact sim_none
theorem sL_law__405 {F : Option Fx} {Ls : Nat} {xs : Nat → Int32} (q23 : Nat → Nat → Nat → Int32 → Mem → Option (Unit × Mem)) (hF : FxO F RL cL_law_ 7 100) (hD : FxLO F) (hDr : DrO F) (hSc : FxS F Ls xs) (hQ : FxLQ F) (hq23 : ∀ (l1 : Nat) (l2 : Nat) (l3 : Nat) (l4 : Int32) (μ : Mem) (_ : isK μ l1 11 = true) (_ : isK μ l2 12 = true) (_ : isK μ l3 16 = true), Sim F encV 23 [(0, .retAddr 300), (1, .ref l1), (2, .ref l2), (3, .ref l3), (4, .int l4)] [] μ (q23 l1 l2 l3 l4 μ)) (l1 : Nat) (l2 : Nat) (l3 : Nat) (l4 : Int32) (μ : Mem) (f1 : isK μ l1 11 = true) (f2 : isK μ l2 12 = true) (f3 : isK μ l3 16 = true) : Sim F encV 405 [(0, .retAddr 300), (1, .ref l1), (2, .ref l2), (3, .ref l3), (4, .int l4)] [] μ (mL_law__405 Ls xs q23 l1 l2 l3 l4 μ) := by
  unfold mL_law__405
  refine s_aload_n hF dL_law__405 rfl 1 rfl ?_
  refine s_sload_n hF dL_law__406 rfl 0 rfl ?_
  refine s_iload hF dL_law__407 4 rfl ?_
  refine s_iconst (v := (1 : Int32)) hF dL_law__409 kI_1 ?_
  refine s_iadd hF dL_law__410 ?_
  refine sim_gd (fun g735 => ?_)
  refine s_sca (x := (xs (l4 + (1 : Int32)).toNatClampNeg)) hF hSc dL_law__411 g735 rfl ?_
  refine s_aload_n hF dL_law__412 rfl 3 rfl ?_
  refine s_lSi (st := []) [.ref l1, .int (xs (l4 + (1 : Int32)).toNatClampNeg), .ref l3] hF hD dL_law__413 cwL_141 (Nat.le_of_ble_eq_true rfl) (Nat.le_of_ble_eq_true rfl) rfl rfl (Nat.le_of_ble_eq_true rfl) (ctL_work l1 (xs (l4 + (1 : Int32)).toNatClampNeg) l3 _) (fun r736 m737 hl738 hm739 => ?_)
  refine s_istore (pls' := [(5, .int r736), (0, .retAddr 300), (1, .ref l1), (2, .ref l2), (3, .ref l3), (4, .int l4)]) hF dL_law__416 (by decide) rfl ?_
  refine s_aload_n hF dL_law__418 rfl 3 rfl ?_
  refine s_sload_n hF dL_law__419 rfl 1 rfl ?_
  refine s_iload hF dL_law__420 5 rfl ?_
  refine s_iconst (v := (1 : Int32)) hF dL_law__422 kI_1 ?_
  refine s_iadd hF dL_law__423 ?_
  refine sim_gd (fun g740 => ?_)
  refine s_sca (x := (xs (l4 + (1 : Int32)).toNatClampNeg)) hF hSc dL_law__424 g740 rfl ?_
  refine s_cVi (st := []) (ci := 12) [.int (xs (l4 + (1 : Int32)).toNatClampNeg)] hF hDr dL_law__425 cwL_143 (Nat.le_of_ble_eq_true rfl) (Nat.le_of_ble_eq_true rfl) rfl rfl (Nat.le_of_ble_eq_true rfl) (isK.mo f2 hm739) rfl rfl (Nat.le_of_ble_eq_true rfl) (ctX12_work l2 (xs (l4 + (1 : Int32)).toNatClampNeg) _) (fun r741 m742 hl743 hm744 => ?_)
  refine s_istore (pls' := [(6, .int r741), (5, .int r736), (0, .retAddr 300), (1, .ref l1), (2, .ref l2), (3, .ref l3), (4, .int l4)]) hF dL_law__428 (by decide) rfl ?_
  refine s_aload_n hF dL_law__430 rfl 4 rfl ?_
  refine s_cVi (st := []) (ci := 12) [] hF hDr dL_law__431 cwL_134 (Nat.le_of_ble_eq_true rfl) (Nat.le_of_ble_eq_true rfl) rfl rfl (Nat.le_of_ble_eq_true rfl) (isK.mo (isK.mo f2 hm739) hm744) rfl rfl (Nat.le_of_ble_eq_true rfl) (ctX12_thrown l2 _) (fun r745 m746 hl747 hm748 => ?_)
  refine s_iload hF dL_law__434 1 rfl ?_
  refine s_icmp_eq (tgt := 441) hF dL_law__436 rfl (fun c749 => ?_) (fun c749 => ?_)
  · refine s_iload hF dL_law__441 1 rfl ?_
    refine s_if_ne (tgt := 458) hF dL_law__443 rfl (fun c750 => ?_) (fun c750 => ?_)
    · refine s_aload_n hF dL_law__446 rfl 5 rfl ?_
      refine s_iconst (v := (0 : Int32)) hF dL_law__447 kI_0 ?_
      refine sim_gd (fun g751 => ?_)
      refine s_laload (x := (g_L m746 l3 (0 : Int32).toNatClampNeg)) hF dL_law__448 g751 rfl ?_
      refine s_iload hF dL_law__449 0 rfl ?_
      refine s_i2l hF dL_law__451 ?_
      refine s_lcmp hF dL_law__452 ?_
      refine s_if_eq (tgt := 458) hF dL_law__453 rfl (fun c752 => ?_) (fun c752 => ?_)
      · refine s_goto (tgt := 2665) hF dL_law__458 rfl ?_
        refine s_iinc (v := (l4 + (9 : Int32))) (pls' := [(4, .int (l4 + (9 : Int32))), (6, .int r741), (5, .int r736), (0, .retAddr 300), (1, .ref l1), (2, .ref l2), (3, .ref l3)]) hF dL_law__2665 6 rfl rfl (by decide) rfl ?_
        refine s_goto (tgt := 23) hF dL_law__2668 rfl ?_
        refine s_sub [3, 4, 5, 6, 0] rfl ?_
        exact hq23 l1 l2 l3 (l4 + (9 : Int32)) _ (isK.mo (isK.mo (isK.mo f1 hm739) hm744) hm748) (isK.mo (isK.mo (isK.mo f2 hm739) hm744) hm748) (isK.mo (isK.mo (isK.mo f3 hm739) hm744) hm748)
      · refine s_iconst (v := (0 : Int32)) hF dL_law__456 kI_0 ?_
        exact sim_none
    · refine s_goto (tgt := 2665) hF dL_law__458 rfl ?_
      refine s_iinc (v := (l4 + (9 : Int32))) (pls' := [(4, .int (l4 + (9 : Int32))), (6, .int r741), (5, .int r736), (0, .retAddr 300), (1, .ref l1), (2, .ref l2), (3, .ref l3)]) hF dL_law__2665 6 rfl rfl (by decide) rfl ?_
      refine s_goto (tgt := 23) hF dL_law__2668 rfl ?_
      refine s_sub [3, 4, 5, 6, 0] rfl ?_
      exact hq23 l1 l2 l3 (l4 + (9 : Int32)) _ (isK.mo (isK.mo (isK.mo f1 hm739) hm744) hm748) (isK.mo (isK.mo (isK.mo f2 hm739) hm744) hm748) (isK.mo (isK.mo (isK.mo f3 hm739) hm744) hm748)
  · refine s_iconst (v := (0 : Int32)) hF dL_law__439 kI_0 ?_
    exact sim_none
theorem sL_law__461 {F : Option Fx} {Ls : Nat} {xs : Nat → Int32} (q23 : Nat → Nat → Nat → Int32 → Mem → Option (Unit × Mem)) (hF : FxO F RL cL_law_ 7 100) (hD : FxLO F) (hDr : DrO F) (hSc : FxS F Ls xs) (hQ : FxLQ F) (hq23 : ∀ (l1 : Nat) (l2 : Nat) (l3 : Nat) (l4 : Int32) (μ : Mem) (_ : isK μ l1 11 = true) (_ : isK μ l2 12 = true) (_ : isK μ l3 16 = true), Sim F encV 23 [(0, .retAddr 300), (1, .ref l1), (2, .ref l2), (3, .ref l3), (4, .int l4)] [] μ (q23 l1 l2 l3 l4 μ)) (l1 : Nat) (l2 : Nat) (l3 : Nat) (l4 : Int32) (μ : Mem) (f1 : isK μ l1 11 = true) (f2 : isK μ l2 12 = true) (f3 : isK μ l3 16 = true) : Sim F encV 461 [(0, .retAddr 300), (1, .ref l1), (2, .ref l2), (3, .ref l3), (4, .int l4)] [] μ (mL_law__461 Ls xs q23 l1 l2 l3 l4 μ) := by
  unfold mL_law__461
  refine s_aload_n hF dL_law__461 rfl 1 rfl ?_
  refine s_sload_n hF dL_law__462 rfl 0 rfl ?_
  refine s_iload hF dL_law__463 4 rfl ?_
  refine s_iconst (v := (1 : Int32)) hF dL_law__465 kI_1 ?_
  refine s_iadd hF dL_law__466 ?_
  refine sim_gd (fun g717 => ?_)
  refine s_sca (x := (xs (l4 + (1 : Int32)).toNatClampNeg)) hF hSc dL_law__467 g717 rfl ?_
  refine s_aload_n hF dL_law__468 rfl 3 rfl ?_
  refine s_lSi (st := []) [.ref l1, .int (xs (l4 + (1 : Int32)).toNatClampNeg), .ref l3] hF hD dL_law__469 cwL_144 (Nat.le_of_ble_eq_true rfl) (Nat.le_of_ble_eq_true rfl) rfl rfl (Nat.le_of_ble_eq_true rfl) (ctL_chain l1 (xs (l4 + (1 : Int32)).toNatClampNeg) l3 _) (fun r718 m719 hl720 hm721 => ?_)
  refine s_istore (pls' := [(5, .int r718), (0, .retAddr 300), (1, .ref l1), (2, .ref l2), (3, .ref l3), (4, .int l4)]) hF dL_law__472 (by decide) rfl ?_
  refine s_aload_n hF dL_law__474 rfl 3 rfl ?_
  refine s_sload_n hF dL_law__475 rfl 1 rfl ?_
  refine s_iload hF dL_law__476 5 rfl ?_
  refine s_iconst (v := (1 : Int32)) hF dL_law__478 kI_1 ?_
  refine s_iadd hF dL_law__479 ?_
  refine sim_gd (fun g722 => ?_)
  refine s_sca (x := (xs (l4 + (1 : Int32)).toNatClampNeg)) hF hSc dL_law__480 g722 rfl ?_
  refine s_cVi (st := []) (ci := 12) [.int (xs (l4 + (1 : Int32)).toNatClampNeg)] hF hDr dL_law__481 cwL_146 (Nat.le_of_ble_eq_true rfl) (Nat.le_of_ble_eq_true rfl) rfl rfl (Nat.le_of_ble_eq_true rfl) (isK.mo f2 hm721) rfl rfl (Nat.le_of_ble_eq_true rfl) (ctX12_chain l2 (xs (l4 + (1 : Int32)).toNatClampNeg) _) (fun r723 m724 hl725 hm726 => ?_)
  refine s_istore (pls' := [(6, .int r723), (5, .int r718), (0, .retAddr 300), (1, .ref l1), (2, .ref l2), (3, .ref l3), (4, .int l4)]) hF dL_law__484 (by decide) rfl ?_
  refine s_aload_n hF dL_law__486 rfl 4 rfl ?_
  refine s_cVi (st := []) (ci := 12) [] hF hDr dL_law__487 cwL_134 (Nat.le_of_ble_eq_true rfl) (Nat.le_of_ble_eq_true rfl) rfl rfl (Nat.le_of_ble_eq_true rfl) (isK.mo (isK.mo f2 hm721) hm726) rfl rfl (Nat.le_of_ble_eq_true rfl) (ctX12_thrown l2 _) (fun r727 m728 hl729 hm730 => ?_)
  refine s_iload hF dL_law__490 1 rfl ?_
  refine s_icmp_eq (tgt := 497) hF dL_law__492 rfl (fun c731 => ?_) (fun c731 => ?_)
  · refine s_iload hF dL_law__497 1 rfl ?_
    refine s_if_ne (tgt := 514) hF dL_law__499 rfl (fun c732 => ?_) (fun c732 => ?_)
    · refine s_aload_n hF dL_law__502 rfl 5 rfl ?_
      refine s_iconst (v := (0 : Int32)) hF dL_law__503 kI_0 ?_
      refine sim_gd (fun g733 => ?_)
      refine s_laload (x := (g_L m728 l3 (0 : Int32).toNatClampNeg)) hF dL_law__504 g733 rfl ?_
      refine s_iload hF dL_law__505 0 rfl ?_
      refine s_i2l hF dL_law__507 ?_
      refine s_lcmp hF dL_law__508 ?_
      refine s_if_eq (tgt := 514) hF dL_law__509 rfl (fun c734 => ?_) (fun c734 => ?_)
      · refine s_goto (tgt := 2665) hF dL_law__514 rfl ?_
        refine s_iinc (v := (l4 + (9 : Int32))) (pls' := [(4, .int (l4 + (9 : Int32))), (6, .int r723), (5, .int r718), (0, .retAddr 300), (1, .ref l1), (2, .ref l2), (3, .ref l3)]) hF dL_law__2665 6 rfl rfl (by decide) rfl ?_
        refine s_goto (tgt := 23) hF dL_law__2668 rfl ?_
        refine s_sub [3, 4, 5, 6, 0] rfl ?_
        exact hq23 l1 l2 l3 (l4 + (9 : Int32)) _ (isK.mo (isK.mo (isK.mo f1 hm721) hm726) hm730) (isK.mo (isK.mo (isK.mo f2 hm721) hm726) hm730) (isK.mo (isK.mo (isK.mo f3 hm721) hm726) hm730)
      · refine s_iconst (v := (0 : Int32)) hF dL_law__512 kI_0 ?_
        exact sim_none
    · refine s_goto (tgt := 2665) hF dL_law__514 rfl ?_
      refine s_iinc (v := (l4 + (9 : Int32))) (pls' := [(4, .int (l4 + (9 : Int32))), (6, .int r723), (5, .int r718), (0, .retAddr 300), (1, .ref l1), (2, .ref l2), (3, .ref l3)]) hF dL_law__2665 6 rfl rfl (by decide) rfl ?_
      refine s_goto (tgt := 23) hF dL_law__2668 rfl ?_
      refine s_sub [3, 4, 5, 6, 0] rfl ?_
      exact hq23 l1 l2 l3 (l4 + (9 : Int32)) _ (isK.mo (isK.mo (isK.mo f1 hm721) hm726) hm730) (isK.mo (isK.mo (isK.mo f2 hm721) hm726) hm730) (isK.mo (isK.mo (isK.mo f3 hm721) hm726) hm730)
  · refine s_iconst (v := (0 : Int32)) hF dL_law__495 kI_0 ?_
    exact sim_none
theorem sL_law__517 {F : Option Fx} {Ls : Nat} {xs : Nat → Int32} (q23 : Nat → Nat → Nat → Int32 → Mem → Option (Unit × Mem)) (hF : FxO F RL cL_law_ 7 100) (hD : FxLO F) (hDr : DrO F) (hSc : FxS F Ls xs) (hQ : FxLQ F) (hq23 : ∀ (l1 : Nat) (l2 : Nat) (l3 : Nat) (l4 : Int32) (μ : Mem) (_ : isK μ l1 11 = true) (_ : isK μ l2 12 = true) (_ : isK μ l3 16 = true), Sim F encV 23 [(0, .retAddr 300), (1, .ref l1), (2, .ref l2), (3, .ref l3), (4, .int l4)] [] μ (q23 l1 l2 l3 l4 μ)) (l1 : Nat) (l2 : Nat) (l3 : Nat) (l4 : Int32) (μ : Mem) (f1 : isK μ l1 11 = true) (f2 : isK μ l2 12 = true) (f3 : isK μ l3 16 = true) : Sim F encV 517 [(0, .retAddr 300), (1, .ref l1), (2, .ref l2), (3, .ref l3), (4, .int l4)] [] μ (mL_law__517 Ls xs q23 l1 l2 l3 l4 μ) := by
  unfold mL_law__517
  refine s_aload_n hF dL_law__517 rfl 1 rfl ?_
  refine s_sload_n hF dL_law__518 rfl 0 rfl ?_
  refine s_iload hF dL_law__519 4 rfl ?_
  refine s_iconst (v := (1 : Int32)) hF dL_law__521 kI_1 ?_
  refine s_iadd hF dL_law__522 ?_
  refine sim_gd (fun g699 => ?_)
  refine s_sca (x := (xs (l4 + (1 : Int32)).toNatClampNeg)) hF hSc dL_law__523 g699 rfl ?_
  refine s_aload_n hF dL_law__524 rfl 3 rfl ?_
  refine s_lSi (st := []) [.ref l1, .int (xs (l4 + (1 : Int32)).toNatClampNeg), .ref l3] hF hD dL_law__525 cwL_147 (Nat.le_of_ble_eq_true rfl) (Nat.le_of_ble_eq_true rfl) rfl rfl (Nat.le_of_ble_eq_true rfl) (ctL_book l1 (xs (l4 + (1 : Int32)).toNatClampNeg) l3 _) (fun r700 m701 hl702 hm703 => ?_)
  refine s_istore (pls' := [(5, .int r700), (0, .retAddr 300), (1, .ref l1), (2, .ref l2), (3, .ref l3), (4, .int l4)]) hF dL_law__528 (by decide) rfl ?_
  refine s_aload_n hF dL_law__530 rfl 3 rfl ?_
  refine s_sload_n hF dL_law__531 rfl 1 rfl ?_
  refine s_iload hF dL_law__532 5 rfl ?_
  refine s_iconst (v := (1 : Int32)) hF dL_law__534 kI_1 ?_
  refine s_iadd hF dL_law__535 ?_
  refine sim_gd (fun g704 => ?_)
  refine s_sca (x := (xs (l4 + (1 : Int32)).toNatClampNeg)) hF hSc dL_law__536 g704 rfl ?_
  refine s_cVi (st := []) (ci := 12) [.int (xs (l4 + (1 : Int32)).toNatClampNeg)] hF hDr dL_law__537 cwL_149 (Nat.le_of_ble_eq_true rfl) (Nat.le_of_ble_eq_true rfl) rfl rfl (Nat.le_of_ble_eq_true rfl) (isK.mo f2 hm703) rfl rfl (Nat.le_of_ble_eq_true rfl) (ctX12_book l2 (xs (l4 + (1 : Int32)).toNatClampNeg) _) (fun r705 m706 hl707 hm708 => ?_)
  refine s_istore (pls' := [(6, .int r705), (5, .int r700), (0, .retAddr 300), (1, .ref l1), (2, .ref l2), (3, .ref l3), (4, .int l4)]) hF dL_law__540 (by decide) rfl ?_
  refine s_aload_n hF dL_law__542 rfl 4 rfl ?_
  refine s_cVi (st := []) (ci := 12) [] hF hDr dL_law__543 cwL_134 (Nat.le_of_ble_eq_true rfl) (Nat.le_of_ble_eq_true rfl) rfl rfl (Nat.le_of_ble_eq_true rfl) (isK.mo (isK.mo f2 hm703) hm708) rfl rfl (Nat.le_of_ble_eq_true rfl) (ctX12_thrown l2 _) (fun r709 m710 hl711 hm712 => ?_)
  refine s_iload hF dL_law__546 1 rfl ?_
  refine s_icmp_eq (tgt := 553) hF dL_law__548 rfl (fun c713 => ?_) (fun c713 => ?_)
  · refine s_iload hF dL_law__553 1 rfl ?_
    refine s_if_ne (tgt := 570) hF dL_law__555 rfl (fun c714 => ?_) (fun c714 => ?_)
    · refine s_aload_n hF dL_law__558 rfl 5 rfl ?_
      refine s_iconst (v := (0 : Int32)) hF dL_law__559 kI_0 ?_
      refine sim_gd (fun g715 => ?_)
      refine s_laload (x := (g_L m710 l3 (0 : Int32).toNatClampNeg)) hF dL_law__560 g715 rfl ?_
      refine s_iload hF dL_law__561 0 rfl ?_
      refine s_i2l hF dL_law__563 ?_
      refine s_lcmp hF dL_law__564 ?_
      refine s_if_eq (tgt := 570) hF dL_law__565 rfl (fun c716 => ?_) (fun c716 => ?_)
      · refine s_goto (tgt := 2665) hF dL_law__570 rfl ?_
        refine s_iinc (v := (l4 + (9 : Int32))) (pls' := [(4, .int (l4 + (9 : Int32))), (6, .int r705), (5, .int r700), (0, .retAddr 300), (1, .ref l1), (2, .ref l2), (3, .ref l3)]) hF dL_law__2665 6 rfl rfl (by decide) rfl ?_
        refine s_goto (tgt := 23) hF dL_law__2668 rfl ?_
        refine s_sub [3, 4, 5, 6, 0] rfl ?_
        exact hq23 l1 l2 l3 (l4 + (9 : Int32)) _ (isK.mo (isK.mo (isK.mo f1 hm703) hm708) hm712) (isK.mo (isK.mo (isK.mo f2 hm703) hm708) hm712) (isK.mo (isK.mo (isK.mo f3 hm703) hm708) hm712)
      · refine s_iconst (v := (0 : Int32)) hF dL_law__568 kI_0 ?_
        exact sim_none
    · refine s_goto (tgt := 2665) hF dL_law__570 rfl ?_
      refine s_iinc (v := (l4 + (9 : Int32))) (pls' := [(4, .int (l4 + (9 : Int32))), (6, .int r705), (5, .int r700), (0, .retAddr 300), (1, .ref l1), (2, .ref l2), (3, .ref l3)]) hF dL_law__2665 6 rfl rfl (by decide) rfl ?_
      refine s_goto (tgt := 23) hF dL_law__2668 rfl ?_
      refine s_sub [3, 4, 5, 6, 0] rfl ?_
      exact hq23 l1 l2 l3 (l4 + (9 : Int32)) _ (isK.mo (isK.mo (isK.mo f1 hm703) hm708) hm712) (isK.mo (isK.mo (isK.mo f2 hm703) hm708) hm712) (isK.mo (isK.mo (isK.mo f3 hm703) hm708) hm712)
  · refine s_iconst (v := (0 : Int32)) hF dL_law__551 kI_0 ?_
    exact sim_none
theorem sL_law__573 {F : Option Fx} {Ls : Nat} {xs : Nat → Int32} (q23 : Nat → Nat → Nat → Int32 → Mem → Option (Unit × Mem)) (hF : FxO F RL cL_law_ 7 100) (hD : FxLO F) (hDr : DrO F) (hSc : FxS F Ls xs) (hQ : FxLQ F) (hq23 : ∀ (l1 : Nat) (l2 : Nat) (l3 : Nat) (l4 : Int32) (μ : Mem) (_ : isK μ l1 11 = true) (_ : isK μ l2 12 = true) (_ : isK μ l3 16 = true), Sim F encV 23 [(0, .retAddr 300), (1, .ref l1), (2, .ref l2), (3, .ref l3), (4, .int l4)] [] μ (q23 l1 l2 l3 l4 μ)) (l1 : Nat) (l2 : Nat) (l3 : Nat) (l4 : Int32) (μ : Mem) (f1 : isK μ l1 11 = true) (f2 : isK μ l2 12 = true) (f3 : isK μ l3 16 = true) : Sim F encV 573 [(0, .retAddr 300), (1, .ref l1), (2, .ref l2), (3, .ref l3), (4, .int l4)] [] μ (mL_law__573 Ls xs q23 l1 l2 l3 l4 μ) := by
  unfold mL_law__573
  refine s_aload_n hF dL_law__573 rfl 1 rfl ?_
  refine s_lVi (st := []) (ci := 11) [] hF hD dL_law__574 cwL_150 (Nat.le_of_ble_eq_true rfl) (Nat.le_of_ble_eq_true rfl) rfl rfl (Nat.le_of_ble_eq_true rfl) f1 rfl rfl (Nat.le_of_ble_eq_true rfl) (ctX11_fault l1 _) (fun r690 m691 hl692 hm693 => ?_)
  refine s_aload_n hF dL_law__577 rfl 2 rfl ?_
  refine s_cVi (st := [.int r690]) (ci := 12) [] hF hDr dL_law__578 cwL_153 (Nat.le_of_ble_eq_true rfl) (Nat.le_of_ble_eq_true rfl) rfl rfl (Nat.le_of_ble_eq_true rfl) (isK.mo f2 hm693) rfl rfl (Nat.le_of_ble_eq_true rfl) (ctX12_fault l2 _) (fun r694 m695 hl696 hm697 => ?_)
  refine s_icmp_eq (tgt := 2665) hF dL_law__581 rfl (fun c698 => ?_) (fun c698 => ?_)
  · refine s_iinc (v := (l4 + (9 : Int32))) (pls' := [(4, .int (l4 + (9 : Int32))), (0, .retAddr 300), (1, .ref l1), (2, .ref l2), (3, .ref l3)]) hF dL_law__2665 4 rfl rfl (by decide) rfl ?_
    refine s_goto (tgt := 23) hF dL_law__2668 rfl ?_
    refine s_sub [1, 2, 3, 4, 0] rfl ?_
    exact hq23 l1 l2 l3 (l4 + (9 : Int32)) _ (isK.mo (isK.mo f1 hm693) hm697) (isK.mo (isK.mo f2 hm693) hm697) (isK.mo (isK.mo f3 hm693) hm697)
  · refine s_iconst (v := (0 : Int32)) hF dL_law__584 kI_0 ?_
    exact sim_none
theorem sL_law__586 {F : Option Fx} {Ls : Nat} {xs : Nat → Int32} (q23 : Nat → Nat → Nat → Int32 → Mem → Option (Unit × Mem)) (hF : FxO F RL cL_law_ 7 100) (hD : FxLO F) (hDr : DrO F) (hSc : FxS F Ls xs) (hQ : FxLQ F) (hq23 : ∀ (l1 : Nat) (l2 : Nat) (l3 : Nat) (l4 : Int32) (μ : Mem) (_ : isK μ l1 11 = true) (_ : isK μ l2 12 = true) (_ : isK μ l3 16 = true), Sim F encV 23 [(0, .retAddr 300), (1, .ref l1), (2, .ref l2), (3, .ref l3), (4, .int l4)] [] μ (q23 l1 l2 l3 l4 μ)) (l1 : Nat) (l2 : Nat) (l3 : Nat) (l4 : Int32) (μ : Mem) (f1 : isK μ l1 11 = true) (f2 : isK μ l2 12 = true) (f3 : isK μ l3 16 = true) : Sim F encV 586 [(0, .retAddr 300), (1, .ref l1), (2, .ref l2), (3, .ref l3), (4, .int l4)] [] μ (mL_law__586 Ls xs q23 l1 l2 l3 l4 μ) := by
  unfold mL_law__586
  refine s_aload_n hF dL_law__586 rfl 1 rfl ?_
  refine s_lVi (st := []) (ci := 11) [] hF hD dL_law__587 cwL_154 (Nat.le_of_ble_eq_true rfl) (Nat.le_of_ble_eq_true rfl) rfl rfl (Nat.le_of_ble_eq_true rfl) f1 rfl rfl (Nat.le_of_ble_eq_true rfl) (ctX11_undo l1 _) (fun r681 m682 hl683 hm684 => ?_)
  refine s_aload_n hF dL_law__590 rfl 2 rfl ?_
  refine s_cVi (st := [.int r681]) (ci := 12) [] hF hDr dL_law__591 cwL_157 (Nat.le_of_ble_eq_true rfl) (Nat.le_of_ble_eq_true rfl) rfl rfl (Nat.le_of_ble_eq_true rfl) (isK.mo f2 hm684) rfl rfl (Nat.le_of_ble_eq_true rfl) (ctX12_undo l2 _) (fun r685 m686 hl687 hm688 => ?_)
  refine s_icmp_eq (tgt := 2665) hF dL_law__594 rfl (fun c689 => ?_) (fun c689 => ?_)
  · refine s_iinc (v := (l4 + (9 : Int32))) (pls' := [(4, .int (l4 + (9 : Int32))), (0, .retAddr 300), (1, .ref l1), (2, .ref l2), (3, .ref l3)]) hF dL_law__2665 4 rfl rfl (by decide) rfl ?_
    refine s_goto (tgt := 23) hF dL_law__2668 rfl ?_
    refine s_sub [1, 2, 3, 4, 0] rfl ?_
    exact hq23 l1 l2 l3 (l4 + (9 : Int32)) _ (isK.mo (isK.mo f1 hm684) hm688) (isK.mo (isK.mo f2 hm684) hm688) (isK.mo (isK.mo f3 hm684) hm688)
  · refine s_iconst (v := (0 : Int32)) hF dL_law__597 kI_0 ?_
    exact sim_none
theorem sL_law__599 {F : Option Fx} {Ls : Nat} {xs : Nat → Int32} (q23 : Nat → Nat → Nat → Int32 → Mem → Option (Unit × Mem)) (hF : FxO F RL cL_law_ 7 100) (hD : FxLO F) (hDr : DrO F) (hSc : FxS F Ls xs) (hQ : FxLQ F) (hq23 : ∀ (l1 : Nat) (l2 : Nat) (l3 : Nat) (l4 : Int32) (μ : Mem) (_ : isK μ l1 11 = true) (_ : isK μ l2 12 = true) (_ : isK μ l3 16 = true), Sim F encV 23 [(0, .retAddr 300), (1, .ref l1), (2, .ref l2), (3, .ref l3), (4, .int l4)] [] μ (q23 l1 l2 l3 l4 μ)) (l1 : Nat) (l2 : Nat) (l3 : Nat) (l4 : Int32) (μ : Mem) (f1 : isK μ l1 11 = true) (f2 : isK μ l2 12 = true) (f3 : isK μ l3 16 = true) : Sim F encV 599 [(0, .retAddr 300), (1, .ref l1), (2, .ref l2), (3, .ref l3), (4, .int l4)] [] μ (mL_law__599 Ls xs q23 l1 l2 l3 l4 μ) := by
  unfold mL_law__599
  refine s_aload_n hF dL_law__599 rfl 1 rfl ?_
  refine s_sload_n hF dL_law__600 rfl 0 rfl ?_
  refine s_iload hF dL_law__601 4 rfl ?_
  refine s_iconst (v := (1 : Int32)) hF dL_law__603 kI_1 ?_
  refine s_iadd hF dL_law__604 ?_
  refine sim_gd (fun g663 => ?_)
  refine s_sca (x := (xs (l4 + (1 : Int32)).toNatClampNeg)) hF hSc dL_law__605 g663 rfl ?_
  refine s_aload_n hF dL_law__606 rfl 3 rfl ?_
  refine s_lSi (st := []) [.ref l1, .int (xs (l4 + (1 : Int32)).toNatClampNeg), .ref l3] hF hD dL_law__607 cwL_158 (Nat.le_of_ble_eq_true rfl) (Nat.le_of_ble_eq_true rfl) rfl rfl (Nat.le_of_ble_eq_true rfl) (ctL_told l1 (xs (l4 + (1 : Int32)).toNatClampNeg) l3 _) (fun r664 m665 hl666 hm667 => ?_)
  refine s_istore (pls' := [(5, .int r664), (0, .retAddr 300), (1, .ref l1), (2, .ref l2), (3, .ref l3), (4, .int l4)]) hF dL_law__610 (by decide) rfl ?_
  refine s_aload_n hF dL_law__612 rfl 3 rfl ?_
  refine s_sload_n hF dL_law__613 rfl 1 rfl ?_
  refine s_iload hF dL_law__614 5 rfl ?_
  refine s_iconst (v := (1 : Int32)) hF dL_law__616 kI_1 ?_
  refine s_iadd hF dL_law__617 ?_
  refine sim_gd (fun g668 => ?_)
  refine s_sca (x := (xs (l4 + (1 : Int32)).toNatClampNeg)) hF hSc dL_law__618 g668 rfl ?_
  refine s_cVi (st := []) (ci := 12) [.int (xs (l4 + (1 : Int32)).toNatClampNeg)] hF hDr dL_law__619 cwL_160 (Nat.le_of_ble_eq_true rfl) (Nat.le_of_ble_eq_true rfl) rfl rfl (Nat.le_of_ble_eq_true rfl) (isK.mo f2 hm667) rfl rfl (Nat.le_of_ble_eq_true rfl) (ctX12_told l2 (xs (l4 + (1 : Int32)).toNatClampNeg) _) (fun r669 m670 hl671 hm672 => ?_)
  refine s_istore (pls' := [(6, .int r669), (5, .int r664), (0, .retAddr 300), (1, .ref l1), (2, .ref l2), (3, .ref l3), (4, .int l4)]) hF dL_law__622 (by decide) rfl ?_
  refine s_aload_n hF dL_law__624 rfl 4 rfl ?_
  refine s_cVi (st := []) (ci := 12) [] hF hDr dL_law__625 cwL_134 (Nat.le_of_ble_eq_true rfl) (Nat.le_of_ble_eq_true rfl) rfl rfl (Nat.le_of_ble_eq_true rfl) (isK.mo (isK.mo f2 hm667) hm672) rfl rfl (Nat.le_of_ble_eq_true rfl) (ctX12_thrown l2 _) (fun r673 m674 hl675 hm676 => ?_)
  refine s_iload hF dL_law__628 1 rfl ?_
  refine s_icmp_eq (tgt := 635) hF dL_law__630 rfl (fun c677 => ?_) (fun c677 => ?_)
  · refine s_iload hF dL_law__635 1 rfl ?_
    refine s_if_ne (tgt := 652) hF dL_law__637 rfl (fun c678 => ?_) (fun c678 => ?_)
    · refine s_aload_n hF dL_law__640 rfl 5 rfl ?_
      refine s_iconst (v := (0 : Int32)) hF dL_law__641 kI_0 ?_
      refine sim_gd (fun g679 => ?_)
      refine s_laload (x := (g_L m674 l3 (0 : Int32).toNatClampNeg)) hF dL_law__642 g679 rfl ?_
      refine s_iload hF dL_law__643 0 rfl ?_
      refine s_i2l hF dL_law__645 ?_
      refine s_lcmp hF dL_law__646 ?_
      refine s_if_eq (tgt := 652) hF dL_law__647 rfl (fun c680 => ?_) (fun c680 => ?_)
      · refine s_goto (tgt := 2665) hF dL_law__652 rfl ?_
        refine s_iinc (v := (l4 + (9 : Int32))) (pls' := [(4, .int (l4 + (9 : Int32))), (6, .int r669), (5, .int r664), (0, .retAddr 300), (1, .ref l1), (2, .ref l2), (3, .ref l3)]) hF dL_law__2665 6 rfl rfl (by decide) rfl ?_
        refine s_goto (tgt := 23) hF dL_law__2668 rfl ?_
        refine s_sub [3, 4, 5, 6, 0] rfl ?_
        exact hq23 l1 l2 l3 (l4 + (9 : Int32)) _ (isK.mo (isK.mo (isK.mo f1 hm667) hm672) hm676) (isK.mo (isK.mo (isK.mo f2 hm667) hm672) hm676) (isK.mo (isK.mo (isK.mo f3 hm667) hm672) hm676)
      · refine s_iconst (v := (0 : Int32)) hF dL_law__650 kI_0 ?_
        exact sim_none
    · refine s_goto (tgt := 2665) hF dL_law__652 rfl ?_
      refine s_iinc (v := (l4 + (9 : Int32))) (pls' := [(4, .int (l4 + (9 : Int32))), (6, .int r669), (5, .int r664), (0, .retAddr 300), (1, .ref l1), (2, .ref l2), (3, .ref l3)]) hF dL_law__2665 6 rfl rfl (by decide) rfl ?_
      refine s_goto (tgt := 23) hF dL_law__2668 rfl ?_
      refine s_sub [3, 4, 5, 6, 0] rfl ?_
      exact hq23 l1 l2 l3 (l4 + (9 : Int32)) _ (isK.mo (isK.mo (isK.mo f1 hm667) hm672) hm676) (isK.mo (isK.mo (isK.mo f2 hm667) hm672) hm676) (isK.mo (isK.mo (isK.mo f3 hm667) hm672) hm676)
  · refine s_iconst (v := (0 : Int32)) hF dL_law__633 kI_0 ?_
    exact sim_none
theorem sL_law__655 {F : Option Fx} {Ls : Nat} {xs : Nat → Int32} (q23 : Nat → Nat → Nat → Int32 → Mem → Option (Unit × Mem)) (hF : FxO F RL cL_law_ 7 100) (hD : FxLO F) (hDr : DrO F) (hSc : FxS F Ls xs) (hQ : FxLQ F) (hq23 : ∀ (l1 : Nat) (l2 : Nat) (l3 : Nat) (l4 : Int32) (μ : Mem) (_ : isK μ l1 11 = true) (_ : isK μ l2 12 = true) (_ : isK μ l3 16 = true), Sim F encV 23 [(0, .retAddr 300), (1, .ref l1), (2, .ref l2), (3, .ref l3), (4, .int l4)] [] μ (q23 l1 l2 l3 l4 μ)) (l1 : Nat) (l2 : Nat) (l3 : Nat) (l4 : Int32) (μ : Mem) (f1 : isK μ l1 11 = true) (f2 : isK μ l2 12 = true) (f3 : isK μ l3 16 = true) : Sim F encV 655 [(0, .retAddr 300), (1, .ref l1), (2, .ref l2), (3, .ref l3), (4, .int l4)] [] μ (mL_law__655 Ls xs q23 l1 l2 l3 l4 μ) := by
  unfold mL_law__655
  refine s_aload_n hF dL_law__655 rfl 1 rfl ?_
  refine s_sload_n hF dL_law__656 rfl 0 rfl ?_
  refine s_iload hF dL_law__657 4 rfl ?_
  refine s_iconst (v := (1 : Int32)) hF dL_law__659 kI_1 ?_
  refine s_iadd hF dL_law__660 ?_
  refine sim_gd (fun g643 => ?_)
  refine s_sca (x := (xs (l4 + (1 : Int32)).toNatClampNeg)) hF hSc dL_law__661 g643 rfl ?_
  refine s_sload_n hF dL_law__662 rfl 0 rfl ?_
  refine s_iload hF dL_law__663 4 rfl ?_
  refine s_iconst (v := (2 : Int32)) hF dL_law__665 kI_2 ?_
  refine s_iadd hF dL_law__666 ?_
  refine sim_gd (fun g644 => ?_)
  refine s_sca (x := (xs (l4 + (2 : Int32)).toNatClampNeg)) hF hSc dL_law__667 g644 rfl ?_
  refine s_aload_n hF dL_law__668 rfl 3 rfl ?_
  refine s_lSi (st := []) [.ref l1, .int (xs (l4 + (1 : Int32)).toNatClampNeg), .int (xs (l4 + (2 : Int32)).toNatClampNeg), .ref l3] hF hD dL_law__669 cwL_161 (Nat.le_of_ble_eq_true rfl) (Nat.le_of_ble_eq_true rfl) rfl rfl (Nat.le_of_ble_eq_true rfl) (ctL_pen l1 (xs (l4 + (1 : Int32)).toNatClampNeg) (xs (l4 + (2 : Int32)).toNatClampNeg) l3 _) (fun r645 m646 hl647 hm648 => ?_)
  refine s_istore (pls' := [(5, .int r645), (0, .retAddr 300), (1, .ref l1), (2, .ref l2), (3, .ref l3), (4, .int l4)]) hF dL_law__672 (by decide) rfl ?_
  refine s_aload_n hF dL_law__674 rfl 3 rfl ?_
  refine s_sload_n hF dL_law__675 rfl 1 rfl ?_
  refine s_iload hF dL_law__676 5 rfl ?_
  refine s_iconst (v := (1 : Int32)) hF dL_law__678 kI_1 ?_
  refine s_iadd hF dL_law__679 ?_
  refine sim_gd (fun g649 => ?_)
  refine s_sca (x := (xs (l4 + (1 : Int32)).toNatClampNeg)) hF hSc dL_law__680 g649 rfl ?_
  refine s_sload_n hF dL_law__681 rfl 1 rfl ?_
  refine s_iload hF dL_law__682 5 rfl ?_
  refine s_iconst (v := (2 : Int32)) hF dL_law__684 kI_2 ?_
  refine s_iadd hF dL_law__685 ?_
  refine sim_gd (fun g650 => ?_)
  refine s_sca (x := (xs (l4 + (2 : Int32)).toNatClampNeg)) hF hSc dL_law__686 g650 rfl ?_
  refine s_cVi (st := []) (ci := 12) [.int (xs (l4 + (1 : Int32)).toNatClampNeg), .int (xs (l4 + (2 : Int32)).toNatClampNeg)] hF hDr dL_law__687 cwL_164 (Nat.le_of_ble_eq_true rfl) (Nat.le_of_ble_eq_true rfl) rfl rfl (Nat.le_of_ble_eq_true rfl) (isK.mo f2 hm648) rfl rfl (Nat.le_of_ble_eq_true rfl) (ctX12_pen l2 (xs (l4 + (1 : Int32)).toNatClampNeg) (xs (l4 + (2 : Int32)).toNatClampNeg) _) (fun r651 m652 hl653 hm654 => ?_)
  refine s_istore (pls' := [(6, .int r651), (5, .int r645), (0, .retAddr 300), (1, .ref l1), (2, .ref l2), (3, .ref l3), (4, .int l4)]) hF dL_law__690 (by decide) rfl ?_
  refine s_aload_n hF dL_law__692 rfl 4 rfl ?_
  refine s_cVi (st := []) (ci := 12) [] hF hDr dL_law__693 cwL_134 (Nat.le_of_ble_eq_true rfl) (Nat.le_of_ble_eq_true rfl) rfl rfl (Nat.le_of_ble_eq_true rfl) (isK.mo (isK.mo f2 hm648) hm654) rfl rfl (Nat.le_of_ble_eq_true rfl) (ctX12_thrown l2 _) (fun r655 m656 hl657 hm658 => ?_)
  refine s_iload hF dL_law__696 1 rfl ?_
  refine s_icmp_eq (tgt := 703) hF dL_law__698 rfl (fun c659 => ?_) (fun c659 => ?_)
  · refine s_iload hF dL_law__703 1 rfl ?_
    refine s_if_ne (tgt := 720) hF dL_law__705 rfl (fun c660 => ?_) (fun c660 => ?_)
    · refine s_aload_n hF dL_law__708 rfl 5 rfl ?_
      refine s_iconst (v := (0 : Int32)) hF dL_law__709 kI_0 ?_
      refine sim_gd (fun g661 => ?_)
      refine s_laload (x := (g_L m656 l3 (0 : Int32).toNatClampNeg)) hF dL_law__710 g661 rfl ?_
      refine s_iload hF dL_law__711 0 rfl ?_
      refine s_i2l hF dL_law__713 ?_
      refine s_lcmp hF dL_law__714 ?_
      refine s_if_eq (tgt := 720) hF dL_law__715 rfl (fun c662 => ?_) (fun c662 => ?_)
      · refine s_goto (tgt := 2665) hF dL_law__720 rfl ?_
        refine s_iinc (v := (l4 + (9 : Int32))) (pls' := [(4, .int (l4 + (9 : Int32))), (6, .int r651), (5, .int r645), (0, .retAddr 300), (1, .ref l1), (2, .ref l2), (3, .ref l3)]) hF dL_law__2665 6 rfl rfl (by decide) rfl ?_
        refine s_goto (tgt := 23) hF dL_law__2668 rfl ?_
        refine s_sub [3, 4, 5, 6, 0] rfl ?_
        exact hq23 l1 l2 l3 (l4 + (9 : Int32)) _ (isK.mo (isK.mo (isK.mo f1 hm648) hm654) hm658) (isK.mo (isK.mo (isK.mo f2 hm648) hm654) hm658) (isK.mo (isK.mo (isK.mo f3 hm648) hm654) hm658)
      · refine s_iconst (v := (0 : Int32)) hF dL_law__718 kI_0 ?_
        exact sim_none
    · refine s_goto (tgt := 2665) hF dL_law__720 rfl ?_
      refine s_iinc (v := (l4 + (9 : Int32))) (pls' := [(4, .int (l4 + (9 : Int32))), (6, .int r651), (5, .int r645), (0, .retAddr 300), (1, .ref l1), (2, .ref l2), (3, .ref l3)]) hF dL_law__2665 6 rfl rfl (by decide) rfl ?_
      refine s_goto (tgt := 23) hF dL_law__2668 rfl ?_
      refine s_sub [3, 4, 5, 6, 0] rfl ?_
      exact hq23 l1 l2 l3 (l4 + (9 : Int32)) _ (isK.mo (isK.mo (isK.mo f1 hm648) hm654) hm658) (isK.mo (isK.mo (isK.mo f2 hm648) hm654) hm658) (isK.mo (isK.mo (isK.mo f3 hm648) hm654) hm658)
  · refine s_iconst (v := (0 : Int32)) hF dL_law__701 kI_0 ?_
    exact sim_none
theorem sL_law__723 {F : Option Fx} {Ls : Nat} {xs : Nat → Int32} (q23 : Nat → Nat → Nat → Int32 → Mem → Option (Unit × Mem)) (hF : FxO F RL cL_law_ 7 100) (hD : FxLO F) (hDr : DrO F) (hSc : FxS F Ls xs) (hQ : FxLQ F) (hq23 : ∀ (l1 : Nat) (l2 : Nat) (l3 : Nat) (l4 : Int32) (μ : Mem) (_ : isK μ l1 11 = true) (_ : isK μ l2 12 = true) (_ : isK μ l3 16 = true), Sim F encV 23 [(0, .retAddr 300), (1, .ref l1), (2, .ref l2), (3, .ref l3), (4, .int l4)] [] μ (q23 l1 l2 l3 l4 μ)) (l1 : Nat) (l2 : Nat) (l3 : Nat) (l4 : Int32) (μ : Mem) (f1 : isK μ l1 11 = true) (f2 : isK μ l2 12 = true) (f3 : isK μ l3 16 = true) : Sim F encV 723 [(0, .retAddr 300), (1, .ref l1), (2, .ref l2), (3, .ref l3), (4, .int l4)] [] μ (mL_law__723 Ls xs q23 l1 l2 l3 l4 μ) := by
  unfold mL_law__723
  refine s_aload_n hF dL_law__723 rfl 1 rfl ?_
  refine s_sload_n hF dL_law__724 rfl 0 rfl ?_
  refine s_iload hF dL_law__725 4 rfl ?_
  refine s_iconst (v := (1 : Int32)) hF dL_law__727 kI_1 ?_
  refine s_iadd hF dL_law__728 ?_
  refine sim_gd (fun g623 => ?_)
  refine s_sca (x := (xs (l4 + (1 : Int32)).toNatClampNeg)) hF hSc dL_law__729 g623 rfl ?_
  refine s_sload_n hF dL_law__730 rfl 0 rfl ?_
  refine s_iload hF dL_law__731 4 rfl ?_
  refine s_iconst (v := (2 : Int32)) hF dL_law__733 kI_2 ?_
  refine s_iadd hF dL_law__734 ?_
  refine sim_gd (fun g624 => ?_)
  refine s_sca (x := (xs (l4 + (2 : Int32)).toNatClampNeg)) hF hSc dL_law__735 g624 rfl ?_
  refine s_aload_n hF dL_law__736 rfl 3 rfl ?_
  refine s_lSi (st := []) [.ref l1, .int (xs (l4 + (1 : Int32)).toNatClampNeg), .int (xs (l4 + (2 : Int32)).toNatClampNeg), .ref l3] hF hD dL_law__737 cwL_165 (Nat.le_of_ble_eq_true rfl) (Nat.le_of_ble_eq_true rfl) rfl rfl (Nat.le_of_ble_eq_true rfl) (ctL_wire l1 (xs (l4 + (1 : Int32)).toNatClampNeg) (xs (l4 + (2 : Int32)).toNatClampNeg) l3 _) (fun r625 m626 hl627 hm628 => ?_)
  refine s_istore (pls' := [(5, .int r625), (0, .retAddr 300), (1, .ref l1), (2, .ref l2), (3, .ref l3), (4, .int l4)]) hF dL_law__740 (by decide) rfl ?_
  refine s_aload_n hF dL_law__742 rfl 3 rfl ?_
  refine s_sload_n hF dL_law__743 rfl 1 rfl ?_
  refine s_iload hF dL_law__744 5 rfl ?_
  refine s_iconst (v := (1 : Int32)) hF dL_law__746 kI_1 ?_
  refine s_iadd hF dL_law__747 ?_
  refine sim_gd (fun g629 => ?_)
  refine s_sca (x := (xs (l4 + (1 : Int32)).toNatClampNeg)) hF hSc dL_law__748 g629 rfl ?_
  refine s_sload_n hF dL_law__749 rfl 1 rfl ?_
  refine s_iload hF dL_law__750 5 rfl ?_
  refine s_iconst (v := (2 : Int32)) hF dL_law__752 kI_2 ?_
  refine s_iadd hF dL_law__753 ?_
  refine sim_gd (fun g630 => ?_)
  refine s_sca (x := (xs (l4 + (2 : Int32)).toNatClampNeg)) hF hSc dL_law__754 g630 rfl ?_
  refine s_cVi (st := []) (ci := 12) [.int (xs (l4 + (1 : Int32)).toNatClampNeg), .int (xs (l4 + (2 : Int32)).toNatClampNeg)] hF hDr dL_law__755 cwL_167 (Nat.le_of_ble_eq_true rfl) (Nat.le_of_ble_eq_true rfl) rfl rfl (Nat.le_of_ble_eq_true rfl) (isK.mo f2 hm628) rfl rfl (Nat.le_of_ble_eq_true rfl) (ctX12_wire l2 (xs (l4 + (1 : Int32)).toNatClampNeg) (xs (l4 + (2 : Int32)).toNatClampNeg) _) (fun r631 m632 hl633 hm634 => ?_)
  refine s_istore (pls' := [(6, .int r631), (5, .int r625), (0, .retAddr 300), (1, .ref l1), (2, .ref l2), (3, .ref l3), (4, .int l4)]) hF dL_law__758 (by decide) rfl ?_
  refine s_aload_n hF dL_law__760 rfl 4 rfl ?_
  refine s_cVi (st := []) (ci := 12) [] hF hDr dL_law__761 cwL_134 (Nat.le_of_ble_eq_true rfl) (Nat.le_of_ble_eq_true rfl) rfl rfl (Nat.le_of_ble_eq_true rfl) (isK.mo (isK.mo f2 hm628) hm634) rfl rfl (Nat.le_of_ble_eq_true rfl) (ctX12_thrown l2 _) (fun r635 m636 hl637 hm638 => ?_)
  refine s_iload hF dL_law__764 1 rfl ?_
  refine s_icmp_eq (tgt := 771) hF dL_law__766 rfl (fun c639 => ?_) (fun c639 => ?_)
  · refine s_iload hF dL_law__771 1 rfl ?_
    refine s_if_ne (tgt := 788) hF dL_law__773 rfl (fun c640 => ?_) (fun c640 => ?_)
    · refine s_aload_n hF dL_law__776 rfl 5 rfl ?_
      refine s_iconst (v := (0 : Int32)) hF dL_law__777 kI_0 ?_
      refine sim_gd (fun g641 => ?_)
      refine s_laload (x := (g_L m636 l3 (0 : Int32).toNatClampNeg)) hF dL_law__778 g641 rfl ?_
      refine s_iload hF dL_law__779 0 rfl ?_
      refine s_i2l hF dL_law__781 ?_
      refine s_lcmp hF dL_law__782 ?_
      refine s_if_eq (tgt := 788) hF dL_law__783 rfl (fun c642 => ?_) (fun c642 => ?_)
      · refine s_goto (tgt := 2665) hF dL_law__788 rfl ?_
        refine s_iinc (v := (l4 + (9 : Int32))) (pls' := [(4, .int (l4 + (9 : Int32))), (6, .int r631), (5, .int r625), (0, .retAddr 300), (1, .ref l1), (2, .ref l2), (3, .ref l3)]) hF dL_law__2665 6 rfl rfl (by decide) rfl ?_
        refine s_goto (tgt := 23) hF dL_law__2668 rfl ?_
        refine s_sub [3, 4, 5, 6, 0] rfl ?_
        exact hq23 l1 l2 l3 (l4 + (9 : Int32)) _ (isK.mo (isK.mo (isK.mo f1 hm628) hm634) hm638) (isK.mo (isK.mo (isK.mo f2 hm628) hm634) hm638) (isK.mo (isK.mo (isK.mo f3 hm628) hm634) hm638)
      · refine s_iconst (v := (0 : Int32)) hF dL_law__786 kI_0 ?_
        exact sim_none
    · refine s_goto (tgt := 2665) hF dL_law__788 rfl ?_
      refine s_iinc (v := (l4 + (9 : Int32))) (pls' := [(4, .int (l4 + (9 : Int32))), (6, .int r631), (5, .int r625), (0, .retAddr 300), (1, .ref l1), (2, .ref l2), (3, .ref l3)]) hF dL_law__2665 6 rfl rfl (by decide) rfl ?_
      refine s_goto (tgt := 23) hF dL_law__2668 rfl ?_
      refine s_sub [3, 4, 5, 6, 0] rfl ?_
      exact hq23 l1 l2 l3 (l4 + (9 : Int32)) _ (isK.mo (isK.mo (isK.mo f1 hm628) hm634) hm638) (isK.mo (isK.mo (isK.mo f2 hm628) hm634) hm638) (isK.mo (isK.mo (isK.mo f3 hm628) hm634) hm638)
  · refine s_iconst (v := (0 : Int32)) hF dL_law__769 kI_0 ?_
    exact sim_none
theorem sL_law__791 {F : Option Fx} {Ls : Nat} {xs : Nat → Int32} (q23 : Nat → Nat → Nat → Int32 → Mem → Option (Unit × Mem)) (hF : FxO F RL cL_law_ 7 100) (hD : FxLO F) (hDr : DrO F) (hSc : FxS F Ls xs) (hQ : FxLQ F) (hq23 : ∀ (l1 : Nat) (l2 : Nat) (l3 : Nat) (l4 : Int32) (μ : Mem) (_ : isK μ l1 11 = true) (_ : isK μ l2 12 = true) (_ : isK μ l3 16 = true), Sim F encV 23 [(0, .retAddr 300), (1, .ref l1), (2, .ref l2), (3, .ref l3), (4, .int l4)] [] μ (q23 l1 l2 l3 l4 μ)) (l1 : Nat) (l2 : Nat) (l3 : Nat) (l4 : Int32) (μ : Mem) (f1 : isK μ l1 11 = true) (f2 : isK μ l2 12 = true) (f3 : isK μ l3 16 = true) : Sim F encV 791 [(0, .retAddr 300), (1, .ref l1), (2, .ref l2), (3, .ref l3), (4, .int l4)] [] μ (mL_law__791 Ls xs q23 l1 l2 l3 l4 μ) := by
  unfold mL_law__791
  refine s_aload_n hF dL_law__791 rfl 1 rfl ?_
  refine s_sload_n hF dL_law__792 rfl 0 rfl ?_
  refine s_iload hF dL_law__793 4 rfl ?_
  refine s_iconst (v := (1 : Int32)) hF dL_law__795 kI_1 ?_
  refine s_iadd hF dL_law__796 ?_
  refine sim_gd (fun g603 => ?_)
  refine s_sca (x := (xs (l4 + (1 : Int32)).toNatClampNeg)) hF hSc dL_law__797 g603 rfl ?_
  refine s_sload_n hF dL_law__798 rfl 0 rfl ?_
  refine s_iload hF dL_law__799 4 rfl ?_
  refine s_iconst (v := (2 : Int32)) hF dL_law__801 kI_2 ?_
  refine s_iadd hF dL_law__802 ?_
  refine sim_gd (fun g604 => ?_)
  refine s_sca (x := (xs (l4 + (2 : Int32)).toNatClampNeg)) hF hSc dL_law__803 g604 rfl ?_
  refine s_aload_n hF dL_law__804 rfl 3 rfl ?_
  refine s_lSi (st := []) [.ref l1, .int (xs (l4 + (1 : Int32)).toNatClampNeg), .int (xs (l4 + (2 : Int32)).toNatClampNeg), .ref l3] hF hD dL_law__805 cwL_168 (Nat.le_of_ble_eq_true rfl) (Nat.le_of_ble_eq_true rfl) rfl rfl (Nat.le_of_ble_eq_true rfl) (ctL_record l1 (xs (l4 + (1 : Int32)).toNatClampNeg) (xs (l4 + (2 : Int32)).toNatClampNeg) l3 _) (fun r605 m606 hl607 hm608 => ?_)
  refine s_istore (pls' := [(5, .int r605), (0, .retAddr 300), (1, .ref l1), (2, .ref l2), (3, .ref l3), (4, .int l4)]) hF dL_law__808 (by decide) rfl ?_
  refine s_aload_n hF dL_law__810 rfl 3 rfl ?_
  refine s_sload_n hF dL_law__811 rfl 1 rfl ?_
  refine s_iload hF dL_law__812 5 rfl ?_
  refine s_iconst (v := (1 : Int32)) hF dL_law__814 kI_1 ?_
  refine s_iadd hF dL_law__815 ?_
  refine sim_gd (fun g609 => ?_)
  refine s_sca (x := (xs (l4 + (1 : Int32)).toNatClampNeg)) hF hSc dL_law__816 g609 rfl ?_
  refine s_sload_n hF dL_law__817 rfl 1 rfl ?_
  refine s_iload hF dL_law__818 5 rfl ?_
  refine s_iconst (v := (2 : Int32)) hF dL_law__820 kI_2 ?_
  refine s_iadd hF dL_law__821 ?_
  refine sim_gd (fun g610 => ?_)
  refine s_sca (x := (xs (l4 + (2 : Int32)).toNatClampNeg)) hF hSc dL_law__822 g610 rfl ?_
  refine s_cVi (st := []) (ci := 12) [.int (xs (l4 + (1 : Int32)).toNatClampNeg), .int (xs (l4 + (2 : Int32)).toNatClampNeg)] hF hDr dL_law__823 cwL_170 (Nat.le_of_ble_eq_true rfl) (Nat.le_of_ble_eq_true rfl) rfl rfl (Nat.le_of_ble_eq_true rfl) (isK.mo f2 hm608) rfl rfl (Nat.le_of_ble_eq_true rfl) (ctX12_record l2 (xs (l4 + (1 : Int32)).toNatClampNeg) (xs (l4 + (2 : Int32)).toNatClampNeg) _) (fun r611 m612 hl613 hm614 => ?_)
  refine s_istore (pls' := [(6, .int r611), (5, .int r605), (0, .retAddr 300), (1, .ref l1), (2, .ref l2), (3, .ref l3), (4, .int l4)]) hF dL_law__826 (by decide) rfl ?_
  refine s_aload_n hF dL_law__828 rfl 4 rfl ?_
  refine s_cVi (st := []) (ci := 12) [] hF hDr dL_law__829 cwL_134 (Nat.le_of_ble_eq_true rfl) (Nat.le_of_ble_eq_true rfl) rfl rfl (Nat.le_of_ble_eq_true rfl) (isK.mo (isK.mo f2 hm608) hm614) rfl rfl (Nat.le_of_ble_eq_true rfl) (ctX12_thrown l2 _) (fun r615 m616 hl617 hm618 => ?_)
  refine s_iload hF dL_law__832 1 rfl ?_
  refine s_icmp_eq (tgt := 839) hF dL_law__834 rfl (fun c619 => ?_) (fun c619 => ?_)
  · refine s_iload hF dL_law__839 1 rfl ?_
    refine s_if_ne (tgt := 856) hF dL_law__841 rfl (fun c620 => ?_) (fun c620 => ?_)
    · refine s_aload_n hF dL_law__844 rfl 5 rfl ?_
      refine s_iconst (v := (0 : Int32)) hF dL_law__845 kI_0 ?_
      refine sim_gd (fun g621 => ?_)
      refine s_laload (x := (g_L m616 l3 (0 : Int32).toNatClampNeg)) hF dL_law__846 g621 rfl ?_
      refine s_iload hF dL_law__847 0 rfl ?_
      refine s_i2l hF dL_law__849 ?_
      refine s_lcmp hF dL_law__850 ?_
      refine s_if_eq (tgt := 856) hF dL_law__851 rfl (fun c622 => ?_) (fun c622 => ?_)
      · refine s_goto (tgt := 2665) hF dL_law__856 rfl ?_
        refine s_iinc (v := (l4 + (9 : Int32))) (pls' := [(4, .int (l4 + (9 : Int32))), (6, .int r611), (5, .int r605), (0, .retAddr 300), (1, .ref l1), (2, .ref l2), (3, .ref l3)]) hF dL_law__2665 6 rfl rfl (by decide) rfl ?_
        refine s_goto (tgt := 23) hF dL_law__2668 rfl ?_
        refine s_sub [3, 4, 5, 6, 0] rfl ?_
        exact hq23 l1 l2 l3 (l4 + (9 : Int32)) _ (isK.mo (isK.mo (isK.mo f1 hm608) hm614) hm618) (isK.mo (isK.mo (isK.mo f2 hm608) hm614) hm618) (isK.mo (isK.mo (isK.mo f3 hm608) hm614) hm618)
      · refine s_iconst (v := (0 : Int32)) hF dL_law__854 kI_0 ?_
        exact sim_none
    · refine s_goto (tgt := 2665) hF dL_law__856 rfl ?_
      refine s_iinc (v := (l4 + (9 : Int32))) (pls' := [(4, .int (l4 + (9 : Int32))), (6, .int r611), (5, .int r605), (0, .retAddr 300), (1, .ref l1), (2, .ref l2), (3, .ref l3)]) hF dL_law__2665 6 rfl rfl (by decide) rfl ?_
      refine s_goto (tgt := 23) hF dL_law__2668 rfl ?_
      refine s_sub [3, 4, 5, 6, 0] rfl ?_
      exact hq23 l1 l2 l3 (l4 + (9 : Int32)) _ (isK.mo (isK.mo (isK.mo f1 hm608) hm614) hm618) (isK.mo (isK.mo (isK.mo f2 hm608) hm614) hm618) (isK.mo (isK.mo (isK.mo f3 hm608) hm614) hm618)
  · refine s_iconst (v := (0 : Int32)) hF dL_law__837 kI_0 ?_
    exact sim_none
theorem sL_law__859 {F : Option Fx} {Ls : Nat} {xs : Nat → Int32} (q23 : Nat → Nat → Nat → Int32 → Mem → Option (Unit × Mem)) (hF : FxO F RL cL_law_ 7 100) (hD : FxLO F) (hDr : DrO F) (hSc : FxS F Ls xs) (hQ : FxLQ F) (hq23 : ∀ (l1 : Nat) (l2 : Nat) (l3 : Nat) (l4 : Int32) (μ : Mem) (_ : isK μ l1 11 = true) (_ : isK μ l2 12 = true) (_ : isK μ l3 16 = true), Sim F encV 23 [(0, .retAddr 300), (1, .ref l1), (2, .ref l2), (3, .ref l3), (4, .int l4)] [] μ (q23 l1 l2 l3 l4 μ)) (l1 : Nat) (l2 : Nat) (l3 : Nat) (l4 : Int32) (μ : Mem) (f1 : isK μ l1 11 = true) (f2 : isK μ l2 12 = true) (f3 : isK μ l3 16 = true) : Sim F encV 859 [(0, .retAddr 300), (1, .ref l1), (2, .ref l2), (3, .ref l3), (4, .int l4)] [] μ (mL_law__859 Ls xs q23 l1 l2 l3 l4 μ) := by
  unfold mL_law__859
  refine s_aload_n hF dL_law__859 rfl 1 rfl ?_
  refine s_sload_n hF dL_law__860 rfl 0 rfl ?_
  refine s_iload hF dL_law__861 4 rfl ?_
  refine s_iconst (v := (1 : Int32)) hF dL_law__863 kI_1 ?_
  refine s_iadd hF dL_law__864 ?_
  refine sim_gd (fun g583 => ?_)
  refine s_sca (x := (xs (l4 + (1 : Int32)).toNatClampNeg)) hF hSc dL_law__865 g583 rfl ?_
  refine s_sload_n hF dL_law__866 rfl 0 rfl ?_
  refine s_iload hF dL_law__867 4 rfl ?_
  refine s_iconst (v := (2 : Int32)) hF dL_law__869 kI_2 ?_
  refine s_iadd hF dL_law__870 ?_
  refine sim_gd (fun g584 => ?_)
  refine s_sca (x := (xs (l4 + (2 : Int32)).toNatClampNeg)) hF hSc dL_law__871 g584 rfl ?_
  refine s_aload_n hF dL_law__872 rfl 3 rfl ?_
  refine s_lSi (st := []) [.ref l1, .int (xs (l4 + (1 : Int32)).toNatClampNeg), .int (xs (l4 + (2 : Int32)).toNatClampNeg), .ref l3] hF hD dL_law__873 cwL_171 (Nat.le_of_ble_eq_true rfl) (Nat.le_of_ble_eq_true rfl) rfl rfl (Nat.le_of_ble_eq_true rfl) (ctL_out l1 (xs (l4 + (1 : Int32)).toNatClampNeg) (xs (l4 + (2 : Int32)).toNatClampNeg) l3 _) (fun r585 m586 hl587 hm588 => ?_)
  refine s_istore (pls' := [(5, .int r585), (0, .retAddr 300), (1, .ref l1), (2, .ref l2), (3, .ref l3), (4, .int l4)]) hF dL_law__876 (by decide) rfl ?_
  refine s_aload_n hF dL_law__878 rfl 3 rfl ?_
  refine s_sload_n hF dL_law__879 rfl 1 rfl ?_
  refine s_iload hF dL_law__880 5 rfl ?_
  refine s_iconst (v := (1 : Int32)) hF dL_law__882 kI_1 ?_
  refine s_iadd hF dL_law__883 ?_
  refine sim_gd (fun g589 => ?_)
  refine s_sca (x := (xs (l4 + (1 : Int32)).toNatClampNeg)) hF hSc dL_law__884 g589 rfl ?_
  refine s_sload_n hF dL_law__885 rfl 1 rfl ?_
  refine s_iload hF dL_law__886 5 rfl ?_
  refine s_iconst (v := (2 : Int32)) hF dL_law__888 kI_2 ?_
  refine s_iadd hF dL_law__889 ?_
  refine sim_gd (fun g590 => ?_)
  refine s_sca (x := (xs (l4 + (2 : Int32)).toNatClampNeg)) hF hSc dL_law__890 g590 rfl ?_
  refine s_cVi (st := []) (ci := 12) [.int (xs (l4 + (1 : Int32)).toNatClampNeg), .int (xs (l4 + (2 : Int32)).toNatClampNeg)] hF hDr dL_law__891 cwL_173 (Nat.le_of_ble_eq_true rfl) (Nat.le_of_ble_eq_true rfl) rfl rfl (Nat.le_of_ble_eq_true rfl) (isK.mo f2 hm588) rfl rfl (Nat.le_of_ble_eq_true rfl) (ctX12_out l2 (xs (l4 + (1 : Int32)).toNatClampNeg) (xs (l4 + (2 : Int32)).toNatClampNeg) _) (fun r591 m592 hl593 hm594 => ?_)
  refine s_istore (pls' := [(6, .int r591), (5, .int r585), (0, .retAddr 300), (1, .ref l1), (2, .ref l2), (3, .ref l3), (4, .int l4)]) hF dL_law__894 (by decide) rfl ?_
  refine s_aload_n hF dL_law__896 rfl 4 rfl ?_
  refine s_cVi (st := []) (ci := 12) [] hF hDr dL_law__897 cwL_134 (Nat.le_of_ble_eq_true rfl) (Nat.le_of_ble_eq_true rfl) rfl rfl (Nat.le_of_ble_eq_true rfl) (isK.mo (isK.mo f2 hm588) hm594) rfl rfl (Nat.le_of_ble_eq_true rfl) (ctX12_thrown l2 _) (fun r595 m596 hl597 hm598 => ?_)
  refine s_iload hF dL_law__900 1 rfl ?_
  refine s_icmp_eq (tgt := 907) hF dL_law__902 rfl (fun c599 => ?_) (fun c599 => ?_)
  · refine s_iload hF dL_law__907 1 rfl ?_
    refine s_if_ne (tgt := 924) hF dL_law__909 rfl (fun c600 => ?_) (fun c600 => ?_)
    · refine s_aload_n hF dL_law__912 rfl 5 rfl ?_
      refine s_iconst (v := (0 : Int32)) hF dL_law__913 kI_0 ?_
      refine sim_gd (fun g601 => ?_)
      refine s_laload (x := (g_L m596 l3 (0 : Int32).toNatClampNeg)) hF dL_law__914 g601 rfl ?_
      refine s_iload hF dL_law__915 0 rfl ?_
      refine s_i2l hF dL_law__917 ?_
      refine s_lcmp hF dL_law__918 ?_
      refine s_if_eq (tgt := 924) hF dL_law__919 rfl (fun c602 => ?_) (fun c602 => ?_)
      · refine s_goto (tgt := 2665) hF dL_law__924 rfl ?_
        refine s_iinc (v := (l4 + (9 : Int32))) (pls' := [(4, .int (l4 + (9 : Int32))), (6, .int r591), (5, .int r585), (0, .retAddr 300), (1, .ref l1), (2, .ref l2), (3, .ref l3)]) hF dL_law__2665 6 rfl rfl (by decide) rfl ?_
        refine s_goto (tgt := 23) hF dL_law__2668 rfl ?_
        refine s_sub [3, 4, 5, 6, 0] rfl ?_
        exact hq23 l1 l2 l3 (l4 + (9 : Int32)) _ (isK.mo (isK.mo (isK.mo f1 hm588) hm594) hm598) (isK.mo (isK.mo (isK.mo f2 hm588) hm594) hm598) (isK.mo (isK.mo (isK.mo f3 hm588) hm594) hm598)
      · refine s_iconst (v := (0 : Int32)) hF dL_law__922 kI_0 ?_
        exact sim_none
    · refine s_goto (tgt := 2665) hF dL_law__924 rfl ?_
      refine s_iinc (v := (l4 + (9 : Int32))) (pls' := [(4, .int (l4 + (9 : Int32))), (6, .int r591), (5, .int r585), (0, .retAddr 300), (1, .ref l1), (2, .ref l2), (3, .ref l3)]) hF dL_law__2665 6 rfl rfl (by decide) rfl ?_
      refine s_goto (tgt := 23) hF dL_law__2668 rfl ?_
      refine s_sub [3, 4, 5, 6, 0] rfl ?_
      exact hq23 l1 l2 l3 (l4 + (9 : Int32)) _ (isK.mo (isK.mo (isK.mo f1 hm588) hm594) hm598) (isK.mo (isK.mo (isK.mo f2 hm588) hm594) hm598) (isK.mo (isK.mo (isK.mo f3 hm588) hm594) hm598)
  · refine s_iconst (v := (0 : Int32)) hF dL_law__905 kI_0 ?_
    exact sim_none
theorem sL_law__927 {F : Option Fx} {Ls : Nat} {xs : Nat → Int32} (q23 : Nat → Nat → Nat → Int32 → Mem → Option (Unit × Mem)) (hF : FxO F RL cL_law_ 7 100) (hD : FxLO F) (hDr : DrO F) (hSc : FxS F Ls xs) (hQ : FxLQ F) (hq23 : ∀ (l1 : Nat) (l2 : Nat) (l3 : Nat) (l4 : Int32) (μ : Mem) (_ : isK μ l1 11 = true) (_ : isK μ l2 12 = true) (_ : isK μ l3 16 = true), Sim F encV 23 [(0, .retAddr 300), (1, .ref l1), (2, .ref l2), (3, .ref l3), (4, .int l4)] [] μ (q23 l1 l2 l3 l4 μ)) (l1 : Nat) (l2 : Nat) (l3 : Nat) (l4 : Int32) (μ : Mem) (f1 : isK μ l1 11 = true) (f2 : isK μ l2 12 = true) (f3 : isK μ l3 16 = true) : Sim F encV 927 [(0, .retAddr 300), (1, .ref l1), (2, .ref l2), (3, .ref l3), (4, .int l4)] [] μ (mL_law__927 Ls xs q23 l1 l2 l3 l4 μ) := by
  unfold mL_law__927
  refine s_aload_n hF dL_law__927 rfl 1 rfl ?_
  refine s_sload_n hF dL_law__928 rfl 0 rfl ?_
  refine s_iload hF dL_law__929 4 rfl ?_
  refine s_iconst (v := (1 : Int32)) hF dL_law__931 kI_1 ?_
  refine s_iadd hF dL_law__932 ?_
  refine sim_gd (fun g563 => ?_)
  refine s_sca (x := (xs (l4 + (1 : Int32)).toNatClampNeg)) hF hSc dL_law__933 g563 rfl ?_
  refine s_sload_n hF dL_law__934 rfl 0 rfl ?_
  refine s_iload hF dL_law__935 4 rfl ?_
  refine s_iconst (v := (2 : Int32)) hF dL_law__937 kI_2 ?_
  refine s_iadd hF dL_law__938 ?_
  refine sim_gd (fun g564 => ?_)
  refine s_sca (x := (xs (l4 + (2 : Int32)).toNatClampNeg)) hF hSc dL_law__939 g564 rfl ?_
  refine s_aload_n hF dL_law__940 rfl 3 rfl ?_
  refine s_lSi (st := []) [.ref l1, .int (xs (l4 + (1 : Int32)).toNatClampNeg), .int (xs (l4 + (2 : Int32)).toNatClampNeg), .ref l3] hF hD dL_law__941 cwL_174 (Nat.le_of_ble_eq_true rfl) (Nat.le_of_ble_eq_true rfl) rfl rfl (Nat.le_of_ble_eq_true rfl) (ctL_level l1 (xs (l4 + (1 : Int32)).toNatClampNeg) (xs (l4 + (2 : Int32)).toNatClampNeg) l3 _) (fun r565 m566 hl567 hm568 => ?_)
  refine s_istore (pls' := [(5, .int r565), (0, .retAddr 300), (1, .ref l1), (2, .ref l2), (3, .ref l3), (4, .int l4)]) hF dL_law__944 (by decide) rfl ?_
  refine s_aload_n hF dL_law__946 rfl 3 rfl ?_
  refine s_sload_n hF dL_law__947 rfl 1 rfl ?_
  refine s_iload hF dL_law__948 5 rfl ?_
  refine s_iconst (v := (1 : Int32)) hF dL_law__950 kI_1 ?_
  refine s_iadd hF dL_law__951 ?_
  refine sim_gd (fun g569 => ?_)
  refine s_sca (x := (xs (l4 + (1 : Int32)).toNatClampNeg)) hF hSc dL_law__952 g569 rfl ?_
  refine s_sload_n hF dL_law__953 rfl 1 rfl ?_
  refine s_iload hF dL_law__954 5 rfl ?_
  refine s_iconst (v := (2 : Int32)) hF dL_law__956 kI_2 ?_
  refine s_iadd hF dL_law__957 ?_
  refine sim_gd (fun g570 => ?_)
  refine s_sca (x := (xs (l4 + (2 : Int32)).toNatClampNeg)) hF hSc dL_law__958 g570 rfl ?_
  refine s_cVi (st := []) (ci := 12) [.int (xs (l4 + (1 : Int32)).toNatClampNeg), .int (xs (l4 + (2 : Int32)).toNatClampNeg)] hF hDr dL_law__959 cwL_176 (Nat.le_of_ble_eq_true rfl) (Nat.le_of_ble_eq_true rfl) rfl rfl (Nat.le_of_ble_eq_true rfl) (isK.mo f2 hm568) rfl rfl (Nat.le_of_ble_eq_true rfl) (ctX12_level l2 (xs (l4 + (1 : Int32)).toNatClampNeg) (xs (l4 + (2 : Int32)).toNatClampNeg) _) (fun r571 m572 hl573 hm574 => ?_)
  refine s_istore (pls' := [(6, .int r571), (5, .int r565), (0, .retAddr 300), (1, .ref l1), (2, .ref l2), (3, .ref l3), (4, .int l4)]) hF dL_law__962 (by decide) rfl ?_
  refine s_aload_n hF dL_law__964 rfl 4 rfl ?_
  refine s_cVi (st := []) (ci := 12) [] hF hDr dL_law__965 cwL_134 (Nat.le_of_ble_eq_true rfl) (Nat.le_of_ble_eq_true rfl) rfl rfl (Nat.le_of_ble_eq_true rfl) (isK.mo (isK.mo f2 hm568) hm574) rfl rfl (Nat.le_of_ble_eq_true rfl) (ctX12_thrown l2 _) (fun r575 m576 hl577 hm578 => ?_)
  refine s_iload hF dL_law__968 1 rfl ?_
  refine s_icmp_eq (tgt := 975) hF dL_law__970 rfl (fun c579 => ?_) (fun c579 => ?_)
  · refine s_iload hF dL_law__975 1 rfl ?_
    refine s_if_ne (tgt := 992) hF dL_law__977 rfl (fun c580 => ?_) (fun c580 => ?_)
    · refine s_aload_n hF dL_law__980 rfl 5 rfl ?_
      refine s_iconst (v := (0 : Int32)) hF dL_law__981 kI_0 ?_
      refine sim_gd (fun g581 => ?_)
      refine s_laload (x := (g_L m576 l3 (0 : Int32).toNatClampNeg)) hF dL_law__982 g581 rfl ?_
      refine s_iload hF dL_law__983 0 rfl ?_
      refine s_i2l hF dL_law__985 ?_
      refine s_lcmp hF dL_law__986 ?_
      refine s_if_eq (tgt := 992) hF dL_law__987 rfl (fun c582 => ?_) (fun c582 => ?_)
      · refine s_goto (tgt := 2665) hF dL_law__992 rfl ?_
        refine s_iinc (v := (l4 + (9 : Int32))) (pls' := [(4, .int (l4 + (9 : Int32))), (6, .int r571), (5, .int r565), (0, .retAddr 300), (1, .ref l1), (2, .ref l2), (3, .ref l3)]) hF dL_law__2665 6 rfl rfl (by decide) rfl ?_
        refine s_goto (tgt := 23) hF dL_law__2668 rfl ?_
        refine s_sub [3, 4, 5, 6, 0] rfl ?_
        exact hq23 l1 l2 l3 (l4 + (9 : Int32)) _ (isK.mo (isK.mo (isK.mo f1 hm568) hm574) hm578) (isK.mo (isK.mo (isK.mo f2 hm568) hm574) hm578) (isK.mo (isK.mo (isK.mo f3 hm568) hm574) hm578)
      · refine s_iconst (v := (0 : Int32)) hF dL_law__990 kI_0 ?_
        exact sim_none
    · refine s_goto (tgt := 2665) hF dL_law__992 rfl ?_
      refine s_iinc (v := (l4 + (9 : Int32))) (pls' := [(4, .int (l4 + (9 : Int32))), (6, .int r571), (5, .int r565), (0, .retAddr 300), (1, .ref l1), (2, .ref l2), (3, .ref l3)]) hF dL_law__2665 6 rfl rfl (by decide) rfl ?_
      refine s_goto (tgt := 23) hF dL_law__2668 rfl ?_
      refine s_sub [3, 4, 5, 6, 0] rfl ?_
      exact hq23 l1 l2 l3 (l4 + (9 : Int32)) _ (isK.mo (isK.mo (isK.mo f1 hm568) hm574) hm578) (isK.mo (isK.mo (isK.mo f2 hm568) hm574) hm578) (isK.mo (isK.mo (isK.mo f3 hm568) hm574) hm578)
  · refine s_iconst (v := (0 : Int32)) hF dL_law__973 kI_0 ?_
    exact sim_none
theorem sL_law__995 {F : Option Fx} {Ls : Nat} {xs : Nat → Int32} (q23 : Nat → Nat → Nat → Int32 → Mem → Option (Unit × Mem)) (hF : FxO F RL cL_law_ 7 100) (hD : FxLO F) (hDr : DrO F) (hSc : FxS F Ls xs) (hQ : FxLQ F) (hq23 : ∀ (l1 : Nat) (l2 : Nat) (l3 : Nat) (l4 : Int32) (μ : Mem) (_ : isK μ l1 11 = true) (_ : isK μ l2 12 = true) (_ : isK μ l3 16 = true), Sim F encV 23 [(0, .retAddr 300), (1, .ref l1), (2, .ref l2), (3, .ref l3), (4, .int l4)] [] μ (q23 l1 l2 l3 l4 μ)) (l1 : Nat) (l2 : Nat) (l3 : Nat) (l4 : Int32) (μ : Mem) (f1 : isK μ l1 11 = true) (f2 : isK μ l2 12 = true) (f3 : isK μ l3 16 = true) : Sim F encV 995 [(0, .retAddr 300), (1, .ref l1), (2, .ref l2), (3, .ref l3), (4, .int l4)] [] μ (mL_law__995 Ls xs q23 l1 l2 l3 l4 μ) := by
  unfold mL_law__995
  refine s_aload_n hF dL_law__995 rfl 1 rfl ?_
  refine s_sload_n hF dL_law__996 rfl 0 rfl ?_
  refine s_iload hF dL_law__997 4 rfl ?_
  refine s_iconst (v := (1 : Int32)) hF dL_law__999 kI_1 ?_
  refine s_iadd hF dL_law__1000 ?_
  refine sim_gd (fun g531 => ?_)
  refine s_sca (x := (xs (l4 + (1 : Int32)).toNatClampNeg)) hF hSc dL_law__1001 g531 rfl ?_
  refine s_sload_n hF dL_law__1002 rfl 0 rfl ?_
  refine s_iload hF dL_law__1003 4 rfl ?_
  refine s_iconst (v := (2 : Int32)) hF dL_law__1005 kI_2 ?_
  refine s_iadd hF dL_law__1006 ?_
  refine sim_gd (fun g532 => ?_)
  refine s_sca (x := (xs (l4 + (2 : Int32)).toNatClampNeg)) hF hSc dL_law__1007 g532 rfl ?_
  refine s_sload_n hF dL_law__1008 rfl 0 rfl ?_
  refine s_iload hF dL_law__1009 4 rfl ?_
  refine s_iconst (v := (3 : Int32)) hF dL_law__1011 kI_3 ?_
  refine s_iadd hF dL_law__1012 ?_
  refine sim_gd (fun g533 => ?_)
  refine s_sca (x := (xs (l4 + (3 : Int32)).toNatClampNeg)) hF hSc dL_law__1013 g533 rfl ?_
  refine s_sload_n hF dL_law__1014 rfl 0 rfl ?_
  refine s_iload hF dL_law__1015 4 rfl ?_
  refine s_iconst (v := (4 : Int32)) hF dL_law__1017 kI_4 ?_
  refine s_iadd hF dL_law__1018 ?_
  refine sim_gd (fun g534 => ?_)
  refine s_sca (x := (xs (l4 + (4 : Int32)).toNatClampNeg)) hF hSc dL_law__1019 g534 rfl ?_
  refine s_sload_n hF dL_law__1020 rfl 0 rfl ?_
  refine s_iload hF dL_law__1021 4 rfl ?_
  refine s_iconst (v := (5 : Int32)) hF dL_law__1023 kI_5 ?_
  refine s_iadd hF dL_law__1024 ?_
  refine sim_gd (fun g535 => ?_)
  refine s_sca (x := (xs (l4 + (5 : Int32)).toNatClampNeg)) hF hSc dL_law__1025 g535 rfl ?_
  refine s_sload_n hF dL_law__1026 rfl 0 rfl ?_
  refine s_iload hF dL_law__1027 4 rfl ?_
  refine s_bipush (v := (6 : Int32)) hF dL_law__1029 kB_6 ?_
  refine s_iadd hF dL_law__1031 ?_
  refine sim_gd (fun g536 => ?_)
  refine s_sca (x := (xs (l4 + (6 : Int32)).toNatClampNeg)) hF hSc dL_law__1032 g536 rfl ?_
  refine s_sload_n hF dL_law__1033 rfl 0 rfl ?_
  refine s_iload hF dL_law__1034 4 rfl ?_
  refine s_bipush (v := (7 : Int32)) hF dL_law__1036 kB_7 ?_
  refine s_iadd hF dL_law__1038 ?_
  refine sim_gd (fun g537 => ?_)
  refine s_sca (x := (xs (l4 + (7 : Int32)).toNatClampNeg)) hF hSc dL_law__1039 g537 rfl ?_
  refine s_sload_n hF dL_law__1040 rfl 0 rfl ?_
  refine s_iload hF dL_law__1041 4 rfl ?_
  refine s_bipush (v := (8 : Int32)) hF dL_law__1043 kB_8 ?_
  refine s_iadd hF dL_law__1045 ?_
  refine sim_gd (fun g538 => ?_)
  refine s_sca (x := (xs (l4 + (8 : Int32)).toNatClampNeg)) hF hSc dL_law__1046 g538 rfl ?_
  refine s_aload_n hF dL_law__1047 rfl 3 rfl ?_
  refine s_lSi (st := []) [.ref l1, .int (xs (l4 + (1 : Int32)).toNatClampNeg), .int (xs (l4 + (2 : Int32)).toNatClampNeg), .int (xs (l4 + (3 : Int32)).toNatClampNeg), .int (xs (l4 + (4 : Int32)).toNatClampNeg), .int (xs (l4 + (5 : Int32)).toNatClampNeg), .int (xs (l4 + (6 : Int32)).toNatClampNeg), .int (xs (l4 + (7 : Int32)).toNatClampNeg), .int (xs (l4 + (8 : Int32)).toNatClampNeg), .ref l3] hF hD dL_law__1048 cwL_177 (Nat.le_of_ble_eq_true rfl) (Nat.le_of_ble_eq_true rfl) rfl rfl (Nat.le_of_ble_eq_true rfl) (ctL_would l1 (xs (l4 + (1 : Int32)).toNatClampNeg) (xs (l4 + (2 : Int32)).toNatClampNeg) (xs (l4 + (3 : Int32)).toNatClampNeg) (xs (l4 + (4 : Int32)).toNatClampNeg) (xs (l4 + (5 : Int32)).toNatClampNeg) (xs (l4 + (6 : Int32)).toNatClampNeg) (xs (l4 + (7 : Int32)).toNatClampNeg) (xs (l4 + (8 : Int32)).toNatClampNeg) l3 _) (fun r539 m540 hl541 hm542 => ?_)
  refine s_istore (pls' := [(5, .int r539), (0, .retAddr 300), (1, .ref l1), (2, .ref l2), (3, .ref l3), (4, .int l4)]) hF dL_law__1051 (by decide) rfl ?_
  refine s_aload_n hF dL_law__1053 rfl 3 rfl ?_
  refine s_sload_n hF dL_law__1054 rfl 1 rfl ?_
  refine s_iload hF dL_law__1055 5 rfl ?_
  refine s_iconst (v := (1 : Int32)) hF dL_law__1057 kI_1 ?_
  refine s_iadd hF dL_law__1058 ?_
  refine sim_gd (fun g543 => ?_)
  refine s_sca (x := (xs (l4 + (1 : Int32)).toNatClampNeg)) hF hSc dL_law__1059 g543 rfl ?_
  refine s_sload_n hF dL_law__1060 rfl 1 rfl ?_
  refine s_iload hF dL_law__1061 5 rfl ?_
  refine s_iconst (v := (2 : Int32)) hF dL_law__1063 kI_2 ?_
  refine s_iadd hF dL_law__1064 ?_
  refine sim_gd (fun g544 => ?_)
  refine s_sca (x := (xs (l4 + (2 : Int32)).toNatClampNeg)) hF hSc dL_law__1065 g544 rfl ?_
  refine s_sload_n hF dL_law__1066 rfl 1 rfl ?_
  refine s_iload hF dL_law__1067 5 rfl ?_
  refine s_iconst (v := (3 : Int32)) hF dL_law__1069 kI_3 ?_
  refine s_iadd hF dL_law__1070 ?_
  refine sim_gd (fun g545 => ?_)
  refine s_sca (x := (xs (l4 + (3 : Int32)).toNatClampNeg)) hF hSc dL_law__1071 g545 rfl ?_
  refine s_sload_n hF dL_law__1072 rfl 1 rfl ?_
  refine s_iload hF dL_law__1073 5 rfl ?_
  refine s_iconst (v := (4 : Int32)) hF dL_law__1075 kI_4 ?_
  refine s_iadd hF dL_law__1076 ?_
  refine sim_gd (fun g546 => ?_)
  refine s_sca (x := (xs (l4 + (4 : Int32)).toNatClampNeg)) hF hSc dL_law__1077 g546 rfl ?_
  refine s_sload_n hF dL_law__1078 rfl 1 rfl ?_
  refine s_iload hF dL_law__1079 5 rfl ?_
  refine s_iconst (v := (5 : Int32)) hF dL_law__1081 kI_5 ?_
  refine s_iadd hF dL_law__1082 ?_
  refine sim_gd (fun g547 => ?_)
  refine s_sca (x := (xs (l4 + (5 : Int32)).toNatClampNeg)) hF hSc dL_law__1083 g547 rfl ?_
  refine s_sload_n hF dL_law__1084 rfl 1 rfl ?_
  refine s_iload hF dL_law__1085 5 rfl ?_
  refine s_bipush (v := (6 : Int32)) hF dL_law__1087 kB_6 ?_
  refine s_iadd hF dL_law__1089 ?_
  refine sim_gd (fun g548 => ?_)
  refine s_sca (x := (xs (l4 + (6 : Int32)).toNatClampNeg)) hF hSc dL_law__1090 g548 rfl ?_
  refine s_sload_n hF dL_law__1091 rfl 1 rfl ?_
  refine s_iload hF dL_law__1092 5 rfl ?_
  refine s_bipush (v := (7 : Int32)) hF dL_law__1094 kB_7 ?_
  refine s_iadd hF dL_law__1096 ?_
  refine sim_gd (fun g549 => ?_)
  refine s_sca (x := (xs (l4 + (7 : Int32)).toNatClampNeg)) hF hSc dL_law__1097 g549 rfl ?_
  refine s_sload_n hF dL_law__1098 rfl 1 rfl ?_
  refine s_iload hF dL_law__1099 5 rfl ?_
  refine s_bipush (v := (8 : Int32)) hF dL_law__1101 kB_8 ?_
  refine s_iadd hF dL_law__1103 ?_
  refine sim_gd (fun g550 => ?_)
  refine s_sca (x := (xs (l4 + (8 : Int32)).toNatClampNeg)) hF hSc dL_law__1104 g550 rfl ?_
  refine s_cVi (st := []) (ci := 12) [.int (xs (l4 + (1 : Int32)).toNatClampNeg), .int (xs (l4 + (2 : Int32)).toNatClampNeg), .int (xs (l4 + (3 : Int32)).toNatClampNeg), .int (xs (l4 + (4 : Int32)).toNatClampNeg), .int (xs (l4 + (5 : Int32)).toNatClampNeg), .int (xs (l4 + (6 : Int32)).toNatClampNeg), .int (xs (l4 + (7 : Int32)).toNatClampNeg), .int (xs (l4 + (8 : Int32)).toNatClampNeg)] hF hDr dL_law__1105 cwL_180 (Nat.le_of_ble_eq_true rfl) (Nat.le_of_ble_eq_true rfl) rfl rfl (Nat.le_of_ble_eq_true rfl) (isK.mo f2 hm542) rfl rfl (Nat.le_of_ble_eq_true rfl) (ctX12_would l2 (xs (l4 + (1 : Int32)).toNatClampNeg) (xs (l4 + (2 : Int32)).toNatClampNeg) (xs (l4 + (3 : Int32)).toNatClampNeg) (xs (l4 + (4 : Int32)).toNatClampNeg) (xs (l4 + (5 : Int32)).toNatClampNeg) (xs (l4 + (6 : Int32)).toNatClampNeg) (xs (l4 + (7 : Int32)).toNatClampNeg) (xs (l4 + (8 : Int32)).toNatClampNeg) _) (fun r551 m552 hl553 hm554 => ?_)
  refine s_istore (pls' := [(6, .int r551), (5, .int r539), (0, .retAddr 300), (1, .ref l1), (2, .ref l2), (3, .ref l3), (4, .int l4)]) hF dL_law__1108 (by decide) rfl ?_
  refine s_aload_n hF dL_law__1110 rfl 4 rfl ?_
  refine s_cVi (st := []) (ci := 12) [] hF hDr dL_law__1111 cwL_134 (Nat.le_of_ble_eq_true rfl) (Nat.le_of_ble_eq_true rfl) rfl rfl (Nat.le_of_ble_eq_true rfl) (isK.mo (isK.mo f2 hm542) hm554) rfl rfl (Nat.le_of_ble_eq_true rfl) (ctX12_thrown l2 _) (fun r555 m556 hl557 hm558 => ?_)
  refine s_iload hF dL_law__1114 1 rfl ?_
  refine s_icmp_eq (tgt := 1121) hF dL_law__1116 rfl (fun c559 => ?_) (fun c559 => ?_)
  · refine s_iload hF dL_law__1121 1 rfl ?_
    refine s_if_ne (tgt := 1138) hF dL_law__1123 rfl (fun c560 => ?_) (fun c560 => ?_)
    · refine s_aload_n hF dL_law__1126 rfl 5 rfl ?_
      refine s_iconst (v := (0 : Int32)) hF dL_law__1127 kI_0 ?_
      refine sim_gd (fun g561 => ?_)
      refine s_laload (x := (g_L m556 l3 (0 : Int32).toNatClampNeg)) hF dL_law__1128 g561 rfl ?_
      refine s_iload hF dL_law__1129 0 rfl ?_
      refine s_i2l hF dL_law__1131 ?_
      refine s_lcmp hF dL_law__1132 ?_
      refine s_if_eq (tgt := 1138) hF dL_law__1133 rfl (fun c562 => ?_) (fun c562 => ?_)
      · refine s_goto (tgt := 2665) hF dL_law__1138 rfl ?_
        refine s_iinc (v := (l4 + (9 : Int32))) (pls' := [(4, .int (l4 + (9 : Int32))), (6, .int r551), (5, .int r539), (0, .retAddr 300), (1, .ref l1), (2, .ref l2), (3, .ref l3)]) hF dL_law__2665 6 rfl rfl (by decide) rfl ?_
        refine s_goto (tgt := 23) hF dL_law__2668 rfl ?_
        refine s_sub [3, 4, 5, 6, 0] rfl ?_
        exact hq23 l1 l2 l3 (l4 + (9 : Int32)) _ (isK.mo (isK.mo (isK.mo f1 hm542) hm554) hm558) (isK.mo (isK.mo (isK.mo f2 hm542) hm554) hm558) (isK.mo (isK.mo (isK.mo f3 hm542) hm554) hm558)
      · refine s_iconst (v := (0 : Int32)) hF dL_law__1136 kI_0 ?_
        exact sim_none
    · refine s_goto (tgt := 2665) hF dL_law__1138 rfl ?_
      refine s_iinc (v := (l4 + (9 : Int32))) (pls' := [(4, .int (l4 + (9 : Int32))), (6, .int r551), (5, .int r539), (0, .retAddr 300), (1, .ref l1), (2, .ref l2), (3, .ref l3)]) hF dL_law__2665 6 rfl rfl (by decide) rfl ?_
      refine s_goto (tgt := 23) hF dL_law__2668 rfl ?_
      refine s_sub [3, 4, 5, 6, 0] rfl ?_
      exact hq23 l1 l2 l3 (l4 + (9 : Int32)) _ (isK.mo (isK.mo (isK.mo f1 hm542) hm554) hm558) (isK.mo (isK.mo (isK.mo f2 hm542) hm554) hm558) (isK.mo (isK.mo (isK.mo f3 hm542) hm554) hm558)
  · refine s_iconst (v := (0 : Int32)) hF dL_law__1119 kI_0 ?_
    exact sim_none
theorem sL_law__1141 {F : Option Fx} {Ls : Nat} {xs : Nat → Int32} (q23 : Nat → Nat → Nat → Int32 → Mem → Option (Unit × Mem)) (hF : FxO F RL cL_law_ 7 100) (hD : FxLO F) (hDr : DrO F) (hSc : FxS F Ls xs) (hQ : FxLQ F) (hq23 : ∀ (l1 : Nat) (l2 : Nat) (l3 : Nat) (l4 : Int32) (μ : Mem) (_ : isK μ l1 11 = true) (_ : isK μ l2 12 = true) (_ : isK μ l3 16 = true), Sim F encV 23 [(0, .retAddr 300), (1, .ref l1), (2, .ref l2), (3, .ref l3), (4, .int l4)] [] μ (q23 l1 l2 l3 l4 μ)) (l1 : Nat) (l2 : Nat) (l3 : Nat) (l4 : Int32) (μ : Mem) (f1 : isK μ l1 11 = true) (f2 : isK μ l2 12 = true) (f3 : isK μ l3 16 = true) : Sim F encV 1141 [(0, .retAddr 300), (1, .ref l1), (2, .ref l2), (3, .ref l3), (4, .int l4)] [] μ (mL_law__1141 Ls xs q23 l1 l2 l3 l4 μ) := by
  unfold mL_law__1141
  refine s_aload_n hF dL_law__1141 rfl 1 rfl ?_
  refine s_sload_n hF dL_law__1142 rfl 0 rfl ?_
  refine s_iload hF dL_law__1143 4 rfl ?_
  refine s_iconst (v := (1 : Int32)) hF dL_law__1145 kI_1 ?_
  refine s_iadd hF dL_law__1146 ?_
  refine sim_gd (fun g513 => ?_)
  refine s_sca (x := (xs (l4 + (1 : Int32)).toNatClampNeg)) hF hSc dL_law__1147 g513 rfl ?_
  refine s_aload_n hF dL_law__1148 rfl 3 rfl ?_
  refine s_lSi (st := []) [.ref l1, .int (xs (l4 + (1 : Int32)).toNatClampNeg), .ref l3] hF hD dL_law__1149 cwL_181 (Nat.le_of_ble_eq_true rfl) (Nat.le_of_ble_eq_true rfl) rfl rfl (Nat.le_of_ble_eq_true rfl) (ctL_total l1 (xs (l4 + (1 : Int32)).toNatClampNeg) l3 _) (fun r514 m515 hl516 hm517 => ?_)
  refine s_istore (pls' := [(5, .int r514), (0, .retAddr 300), (1, .ref l1), (2, .ref l2), (3, .ref l3), (4, .int l4)]) hF dL_law__1152 (by decide) rfl ?_
  refine s_aload_n hF dL_law__1154 rfl 3 rfl ?_
  refine s_sload_n hF dL_law__1155 rfl 1 rfl ?_
  refine s_iload hF dL_law__1156 5 rfl ?_
  refine s_iconst (v := (1 : Int32)) hF dL_law__1158 kI_1 ?_
  refine s_iadd hF dL_law__1159 ?_
  refine sim_gd (fun g518 => ?_)
  refine s_sca (x := (xs (l4 + (1 : Int32)).toNatClampNeg)) hF hSc dL_law__1160 g518 rfl ?_
  refine s_cVi (st := []) (ci := 12) [.int (xs (l4 + (1 : Int32)).toNatClampNeg)] hF hDr dL_law__1161 cwL_183 (Nat.le_of_ble_eq_true rfl) (Nat.le_of_ble_eq_true rfl) rfl rfl (Nat.le_of_ble_eq_true rfl) (isK.mo f2 hm517) rfl rfl (Nat.le_of_ble_eq_true rfl) (ctX12_total l2 (xs (l4 + (1 : Int32)).toNatClampNeg) _) (fun r519 m520 hl521 hm522 => ?_)
  refine s_istore (pls' := [(6, .int r519), (5, .int r514), (0, .retAddr 300), (1, .ref l1), (2, .ref l2), (3, .ref l3), (4, .int l4)]) hF dL_law__1164 (by decide) rfl ?_
  refine s_aload_n hF dL_law__1166 rfl 4 rfl ?_
  refine s_cVi (st := []) (ci := 12) [] hF hDr dL_law__1167 cwL_134 (Nat.le_of_ble_eq_true rfl) (Nat.le_of_ble_eq_true rfl) rfl rfl (Nat.le_of_ble_eq_true rfl) (isK.mo (isK.mo f2 hm517) hm522) rfl rfl (Nat.le_of_ble_eq_true rfl) (ctX12_thrown l2 _) (fun r523 m524 hl525 hm526 => ?_)
  refine s_iload hF dL_law__1170 1 rfl ?_
  refine s_icmp_eq (tgt := 1177) hF dL_law__1172 rfl (fun c527 => ?_) (fun c527 => ?_)
  · refine s_iload hF dL_law__1177 1 rfl ?_
    refine s_if_ne (tgt := 1194) hF dL_law__1179 rfl (fun c528 => ?_) (fun c528 => ?_)
    · refine s_aload_n hF dL_law__1182 rfl 5 rfl ?_
      refine s_iconst (v := (0 : Int32)) hF dL_law__1183 kI_0 ?_
      refine sim_gd (fun g529 => ?_)
      refine s_laload (x := (g_L m524 l3 (0 : Int32).toNatClampNeg)) hF dL_law__1184 g529 rfl ?_
      refine s_iload hF dL_law__1185 0 rfl ?_
      refine s_i2l hF dL_law__1187 ?_
      refine s_lcmp hF dL_law__1188 ?_
      refine s_if_eq (tgt := 1194) hF dL_law__1189 rfl (fun c530 => ?_) (fun c530 => ?_)
      · refine s_goto (tgt := 2665) hF dL_law__1194 rfl ?_
        refine s_iinc (v := (l4 + (9 : Int32))) (pls' := [(4, .int (l4 + (9 : Int32))), (6, .int r519), (5, .int r514), (0, .retAddr 300), (1, .ref l1), (2, .ref l2), (3, .ref l3)]) hF dL_law__2665 6 rfl rfl (by decide) rfl ?_
        refine s_goto (tgt := 23) hF dL_law__2668 rfl ?_
        refine s_sub [3, 4, 5, 6, 0] rfl ?_
        exact hq23 l1 l2 l3 (l4 + (9 : Int32)) _ (isK.mo (isK.mo (isK.mo f1 hm517) hm522) hm526) (isK.mo (isK.mo (isK.mo f2 hm517) hm522) hm526) (isK.mo (isK.mo (isK.mo f3 hm517) hm522) hm526)
      · refine s_iconst (v := (0 : Int32)) hF dL_law__1192 kI_0 ?_
        exact sim_none
    · refine s_goto (tgt := 2665) hF dL_law__1194 rfl ?_
      refine s_iinc (v := (l4 + (9 : Int32))) (pls' := [(4, .int (l4 + (9 : Int32))), (6, .int r519), (5, .int r514), (0, .retAddr 300), (1, .ref l1), (2, .ref l2), (3, .ref l3)]) hF dL_law__2665 6 rfl rfl (by decide) rfl ?_
      refine s_goto (tgt := 23) hF dL_law__2668 rfl ?_
      refine s_sub [3, 4, 5, 6, 0] rfl ?_
      exact hq23 l1 l2 l3 (l4 + (9 : Int32)) _ (isK.mo (isK.mo (isK.mo f1 hm517) hm522) hm526) (isK.mo (isK.mo (isK.mo f2 hm517) hm522) hm526) (isK.mo (isK.mo (isK.mo f3 hm517) hm522) hm526)
  · refine s_iconst (v := (0 : Int32)) hF dL_law__1175 kI_0 ?_
    exact sim_none
theorem sL_law__1197 {F : Option Fx} {Ls : Nat} {xs : Nat → Int32} (q23 : Nat → Nat → Nat → Int32 → Mem → Option (Unit × Mem)) (hF : FxO F RL cL_law_ 7 100) (hD : FxLO F) (hDr : DrO F) (hSc : FxS F Ls xs) (hQ : FxLQ F) (hq23 : ∀ (l1 : Nat) (l2 : Nat) (l3 : Nat) (l4 : Int32) (μ : Mem) (_ : isK μ l1 11 = true) (_ : isK μ l2 12 = true) (_ : isK μ l3 16 = true), Sim F encV 23 [(0, .retAddr 300), (1, .ref l1), (2, .ref l2), (3, .ref l3), (4, .int l4)] [] μ (q23 l1 l2 l3 l4 μ)) (l1 : Nat) (l2 : Nat) (l3 : Nat) (l4 : Int32) (μ : Mem) (f1 : isK μ l1 11 = true) (f2 : isK μ l2 12 = true) (f3 : isK μ l3 16 = true) : Sim F encV 1197 [(0, .retAddr 300), (1, .ref l1), (2, .ref l2), (3, .ref l3), (4, .int l4)] [] μ (mL_law__1197 Ls xs q23 l1 l2 l3 l4 μ) := by
  unfold mL_law__1197
  refine s_aload_n hF dL_law__1197 rfl 1 rfl ?_
  refine s_sload_n hF dL_law__1198 rfl 0 rfl ?_
  refine s_iload hF dL_law__1199 4 rfl ?_
  refine s_iconst (v := (1 : Int32)) hF dL_law__1201 kI_1 ?_
  refine s_iadd hF dL_law__1202 ?_
  refine sim_gd (fun g493 => ?_)
  refine s_sca (x := (xs (l4 + (1 : Int32)).toNatClampNeg)) hF hSc dL_law__1203 g493 rfl ?_
  refine s_sload_n hF dL_law__1204 rfl 0 rfl ?_
  refine s_iload hF dL_law__1205 4 rfl ?_
  refine s_iconst (v := (2 : Int32)) hF dL_law__1207 kI_2 ?_
  refine s_iadd hF dL_law__1208 ?_
  refine sim_gd (fun g494 => ?_)
  refine s_sca (x := (xs (l4 + (2 : Int32)).toNatClampNeg)) hF hSc dL_law__1209 g494 rfl ?_
  refine s_aload_n hF dL_law__1210 rfl 3 rfl ?_
  refine s_lSi (st := []) [.ref l1, .int (xs (l4 + (1 : Int32)).toNatClampNeg), .int (xs (l4 + (2 : Int32)).toNatClampNeg), .ref l3] hF hD dL_law__1211 cwL_184 (Nat.le_of_ble_eq_true rfl) (Nat.le_of_ble_eq_true rfl) rfl rfl (Nat.le_of_ble_eq_true rfl) (ctL_strange l1 (xs (l4 + (1 : Int32)).toNatClampNeg) (xs (l4 + (2 : Int32)).toNatClampNeg) l3 _) (fun r495 m496 hl497 hm498 => ?_)
  refine s_istore (pls' := [(5, .int r495), (0, .retAddr 300), (1, .ref l1), (2, .ref l2), (3, .ref l3), (4, .int l4)]) hF dL_law__1214 (by decide) rfl ?_
  refine s_aload_n hF dL_law__1216 rfl 3 rfl ?_
  refine s_sload_n hF dL_law__1217 rfl 1 rfl ?_
  refine s_iload hF dL_law__1218 5 rfl ?_
  refine s_iconst (v := (1 : Int32)) hF dL_law__1220 kI_1 ?_
  refine s_iadd hF dL_law__1221 ?_
  refine sim_gd (fun g499 => ?_)
  refine s_sca (x := (xs (l4 + (1 : Int32)).toNatClampNeg)) hF hSc dL_law__1222 g499 rfl ?_
  refine s_sload_n hF dL_law__1223 rfl 1 rfl ?_
  refine s_iload hF dL_law__1224 5 rfl ?_
  refine s_iconst (v := (2 : Int32)) hF dL_law__1226 kI_2 ?_
  refine s_iadd hF dL_law__1227 ?_
  refine sim_gd (fun g500 => ?_)
  refine s_sca (x := (xs (l4 + (2 : Int32)).toNatClampNeg)) hF hSc dL_law__1228 g500 rfl ?_
  refine s_cVi (st := []) (ci := 12) [.int (xs (l4 + (1 : Int32)).toNatClampNeg), .int (xs (l4 + (2 : Int32)).toNatClampNeg)] hF hDr dL_law__1229 cwL_186 (Nat.le_of_ble_eq_true rfl) (Nat.le_of_ble_eq_true rfl) rfl rfl (Nat.le_of_ble_eq_true rfl) (isK.mo f2 hm498) rfl rfl (Nat.le_of_ble_eq_true rfl) (ctX12_strange l2 (xs (l4 + (1 : Int32)).toNatClampNeg) (xs (l4 + (2 : Int32)).toNatClampNeg) _) (fun r501 m502 hl503 hm504 => ?_)
  refine s_istore (pls' := [(6, .int r501), (5, .int r495), (0, .retAddr 300), (1, .ref l1), (2, .ref l2), (3, .ref l3), (4, .int l4)]) hF dL_law__1232 (by decide) rfl ?_
  refine s_aload_n hF dL_law__1234 rfl 4 rfl ?_
  refine s_cVi (st := []) (ci := 12) [] hF hDr dL_law__1235 cwL_134 (Nat.le_of_ble_eq_true rfl) (Nat.le_of_ble_eq_true rfl) rfl rfl (Nat.le_of_ble_eq_true rfl) (isK.mo (isK.mo f2 hm498) hm504) rfl rfl (Nat.le_of_ble_eq_true rfl) (ctX12_thrown l2 _) (fun r505 m506 hl507 hm508 => ?_)
  refine s_iload hF dL_law__1238 1 rfl ?_
  refine s_icmp_eq (tgt := 1245) hF dL_law__1240 rfl (fun c509 => ?_) (fun c509 => ?_)
  · refine s_iload hF dL_law__1245 1 rfl ?_
    refine s_if_ne (tgt := 1262) hF dL_law__1247 rfl (fun c510 => ?_) (fun c510 => ?_)
    · refine s_aload_n hF dL_law__1250 rfl 5 rfl ?_
      refine s_iconst (v := (0 : Int32)) hF dL_law__1251 kI_0 ?_
      refine sim_gd (fun g511 => ?_)
      refine s_laload (x := (g_L m506 l3 (0 : Int32).toNatClampNeg)) hF dL_law__1252 g511 rfl ?_
      refine s_iload hF dL_law__1253 0 rfl ?_
      refine s_i2l hF dL_law__1255 ?_
      refine s_lcmp hF dL_law__1256 ?_
      refine s_if_eq (tgt := 1262) hF dL_law__1257 rfl (fun c512 => ?_) (fun c512 => ?_)
      · refine s_goto (tgt := 2665) hF dL_law__1262 rfl ?_
        refine s_iinc (v := (l4 + (9 : Int32))) (pls' := [(4, .int (l4 + (9 : Int32))), (6, .int r501), (5, .int r495), (0, .retAddr 300), (1, .ref l1), (2, .ref l2), (3, .ref l3)]) hF dL_law__2665 6 rfl rfl (by decide) rfl ?_
        refine s_goto (tgt := 23) hF dL_law__2668 rfl ?_
        refine s_sub [3, 4, 5, 6, 0] rfl ?_
        exact hq23 l1 l2 l3 (l4 + (9 : Int32)) _ (isK.mo (isK.mo (isK.mo f1 hm498) hm504) hm508) (isK.mo (isK.mo (isK.mo f2 hm498) hm504) hm508) (isK.mo (isK.mo (isK.mo f3 hm498) hm504) hm508)
      · refine s_iconst (v := (0 : Int32)) hF dL_law__1260 kI_0 ?_
        exact sim_none
    · refine s_goto (tgt := 2665) hF dL_law__1262 rfl ?_
      refine s_iinc (v := (l4 + (9 : Int32))) (pls' := [(4, .int (l4 + (9 : Int32))), (6, .int r501), (5, .int r495), (0, .retAddr 300), (1, .ref l1), (2, .ref l2), (3, .ref l3)]) hF dL_law__2665 6 rfl rfl (by decide) rfl ?_
      refine s_goto (tgt := 23) hF dL_law__2668 rfl ?_
      refine s_sub [3, 4, 5, 6, 0] rfl ?_
      exact hq23 l1 l2 l3 (l4 + (9 : Int32)) _ (isK.mo (isK.mo (isK.mo f1 hm498) hm504) hm508) (isK.mo (isK.mo (isK.mo f2 hm498) hm504) hm508) (isK.mo (isK.mo (isK.mo f3 hm498) hm504) hm508)
  · refine s_iconst (v := (0 : Int32)) hF dL_law__1243 kI_0 ?_
    exact sim_none
theorem sL_law__1265 {F : Option Fx} {Ls : Nat} {xs : Nat → Int32} (q23 : Nat → Nat → Nat → Int32 → Mem → Option (Unit × Mem)) (hF : FxO F RL cL_law_ 7 100) (hD : FxLO F) (hDr : DrO F) (hSc : FxS F Ls xs) (hQ : FxLQ F) (hq23 : ∀ (l1 : Nat) (l2 : Nat) (l3 : Nat) (l4 : Int32) (μ : Mem) (_ : isK μ l1 11 = true) (_ : isK μ l2 12 = true) (_ : isK μ l3 16 = true), Sim F encV 23 [(0, .retAddr 300), (1, .ref l1), (2, .ref l2), (3, .ref l3), (4, .int l4)] [] μ (q23 l1 l2 l3 l4 μ)) (l1 : Nat) (l2 : Nat) (l3 : Nat) (l4 : Int32) (μ : Mem) (f1 : isK μ l1 11 = true) (f2 : isK μ l2 12 = true) (f3 : isK μ l3 16 = true) : Sim F encV 1265 [(0, .retAddr 300), (1, .ref l1), (2, .ref l2), (3, .ref l3), (4, .int l4)] [] μ (mL_law__1265 Ls xs q23 l1 l2 l3 l4 μ) := by
  unfold mL_law__1265
  refine s_aload_n hF dL_law__1265 rfl 1 rfl ?_
  refine s_sload_n hF dL_law__1266 rfl 0 rfl ?_
  refine s_iload hF dL_law__1267 4 rfl ?_
  refine s_iconst (v := (1 : Int32)) hF dL_law__1269 kI_1 ?_
  refine s_iadd hF dL_law__1270 ?_
  refine sim_gd (fun g473 => ?_)
  refine s_sca (x := (xs (l4 + (1 : Int32)).toNatClampNeg)) hF hSc dL_law__1271 g473 rfl ?_
  refine s_sload_n hF dL_law__1272 rfl 0 rfl ?_
  refine s_iload hF dL_law__1273 4 rfl ?_
  refine s_iconst (v := (2 : Int32)) hF dL_law__1275 kI_2 ?_
  refine s_iadd hF dL_law__1276 ?_
  refine sim_gd (fun g474 => ?_)
  refine s_sca (x := (xs (l4 + (2 : Int32)).toNatClampNeg)) hF hSc dL_law__1277 g474 rfl ?_
  refine s_aload_n hF dL_law__1278 rfl 3 rfl ?_
  refine s_lSi (st := []) [.ref l1, .int (xs (l4 + (1 : Int32)).toNatClampNeg), .int (xs (l4 + (2 : Int32)).toNatClampNeg), .ref l3] hF hD dL_law__1279 cwL_187 (Nat.le_of_ble_eq_true rfl) (Nat.le_of_ble_eq_true rfl) rfl rfl (Nat.le_of_ble_eq_true rfl) (ctL_extreme l1 (xs (l4 + (1 : Int32)).toNatClampNeg) (xs (l4 + (2 : Int32)).toNatClampNeg) l3 _) (fun r475 m476 hl477 hm478 => ?_)
  refine s_istore (pls' := [(5, .int r475), (0, .retAddr 300), (1, .ref l1), (2, .ref l2), (3, .ref l3), (4, .int l4)]) hF dL_law__1282 (by decide) rfl ?_
  refine s_aload_n hF dL_law__1284 rfl 3 rfl ?_
  refine s_sload_n hF dL_law__1285 rfl 1 rfl ?_
  refine s_iload hF dL_law__1286 5 rfl ?_
  refine s_iconst (v := (1 : Int32)) hF dL_law__1288 kI_1 ?_
  refine s_iadd hF dL_law__1289 ?_
  refine sim_gd (fun g479 => ?_)
  refine s_sca (x := (xs (l4 + (1 : Int32)).toNatClampNeg)) hF hSc dL_law__1290 g479 rfl ?_
  refine s_sload_n hF dL_law__1291 rfl 1 rfl ?_
  refine s_iload hF dL_law__1292 5 rfl ?_
  refine s_iconst (v := (2 : Int32)) hF dL_law__1294 kI_2 ?_
  refine s_iadd hF dL_law__1295 ?_
  refine sim_gd (fun g480 => ?_)
  refine s_sca (x := (xs (l4 + (2 : Int32)).toNatClampNeg)) hF hSc dL_law__1296 g480 rfl ?_
  refine s_cVi (st := []) (ci := 12) [.int (xs (l4 + (1 : Int32)).toNatClampNeg), .int (xs (l4 + (2 : Int32)).toNatClampNeg)] hF hDr dL_law__1297 cwL_189 (Nat.le_of_ble_eq_true rfl) (Nat.le_of_ble_eq_true rfl) rfl rfl (Nat.le_of_ble_eq_true rfl) (isK.mo f2 hm478) rfl rfl (Nat.le_of_ble_eq_true rfl) (ctX12_extreme l2 (xs (l4 + (1 : Int32)).toNatClampNeg) (xs (l4 + (2 : Int32)).toNatClampNeg) _) (fun r481 m482 hl483 hm484 => ?_)
  refine s_istore (pls' := [(6, .int r481), (5, .int r475), (0, .retAddr 300), (1, .ref l1), (2, .ref l2), (3, .ref l3), (4, .int l4)]) hF dL_law__1300 (by decide) rfl ?_
  refine s_aload_n hF dL_law__1302 rfl 4 rfl ?_
  refine s_cVi (st := []) (ci := 12) [] hF hDr dL_law__1303 cwL_134 (Nat.le_of_ble_eq_true rfl) (Nat.le_of_ble_eq_true rfl) rfl rfl (Nat.le_of_ble_eq_true rfl) (isK.mo (isK.mo f2 hm478) hm484) rfl rfl (Nat.le_of_ble_eq_true rfl) (ctX12_thrown l2 _) (fun r485 m486 hl487 hm488 => ?_)
  refine s_iload hF dL_law__1306 1 rfl ?_
  refine s_icmp_eq (tgt := 1313) hF dL_law__1308 rfl (fun c489 => ?_) (fun c489 => ?_)
  · refine s_iload hF dL_law__1313 1 rfl ?_
    refine s_if_ne (tgt := 1330) hF dL_law__1315 rfl (fun c490 => ?_) (fun c490 => ?_)
    · refine s_aload_n hF dL_law__1318 rfl 5 rfl ?_
      refine s_iconst (v := (0 : Int32)) hF dL_law__1319 kI_0 ?_
      refine sim_gd (fun g491 => ?_)
      refine s_laload (x := (g_L m486 l3 (0 : Int32).toNatClampNeg)) hF dL_law__1320 g491 rfl ?_
      refine s_iload hF dL_law__1321 0 rfl ?_
      refine s_i2l hF dL_law__1323 ?_
      refine s_lcmp hF dL_law__1324 ?_
      refine s_if_eq (tgt := 1330) hF dL_law__1325 rfl (fun c492 => ?_) (fun c492 => ?_)
      · refine s_goto (tgt := 2665) hF dL_law__1330 rfl ?_
        refine s_iinc (v := (l4 + (9 : Int32))) (pls' := [(4, .int (l4 + (9 : Int32))), (6, .int r481), (5, .int r475), (0, .retAddr 300), (1, .ref l1), (2, .ref l2), (3, .ref l3)]) hF dL_law__2665 6 rfl rfl (by decide) rfl ?_
        refine s_goto (tgt := 23) hF dL_law__2668 rfl ?_
        refine s_sub [3, 4, 5, 6, 0] rfl ?_
        exact hq23 l1 l2 l3 (l4 + (9 : Int32)) _ (isK.mo (isK.mo (isK.mo f1 hm478) hm484) hm488) (isK.mo (isK.mo (isK.mo f2 hm478) hm484) hm488) (isK.mo (isK.mo (isK.mo f3 hm478) hm484) hm488)
      · refine s_iconst (v := (0 : Int32)) hF dL_law__1328 kI_0 ?_
        exact sim_none
    · refine s_goto (tgt := 2665) hF dL_law__1330 rfl ?_
      refine s_iinc (v := (l4 + (9 : Int32))) (pls' := [(4, .int (l4 + (9 : Int32))), (6, .int r481), (5, .int r475), (0, .retAddr 300), (1, .ref l1), (2, .ref l2), (3, .ref l3)]) hF dL_law__2665 6 rfl rfl (by decide) rfl ?_
      refine s_goto (tgt := 23) hF dL_law__2668 rfl ?_
      refine s_sub [3, 4, 5, 6, 0] rfl ?_
      exact hq23 l1 l2 l3 (l4 + (9 : Int32)) _ (isK.mo (isK.mo (isK.mo f1 hm478) hm484) hm488) (isK.mo (isK.mo (isK.mo f2 hm478) hm484) hm488) (isK.mo (isK.mo (isK.mo f3 hm478) hm484) hm488)
  · refine s_iconst (v := (0 : Int32)) hF dL_law__1311 kI_0 ?_
    exact sim_none
theorem sL_law__1333 {F : Option Fx} {Ls : Nat} {xs : Nat → Int32} (q23 : Nat → Nat → Nat → Int32 → Mem → Option (Unit × Mem)) (hF : FxO F RL cL_law_ 7 100) (hD : FxLO F) (hDr : DrO F) (hSc : FxS F Ls xs) (hQ : FxLQ F) (hq23 : ∀ (l1 : Nat) (l2 : Nat) (l3 : Nat) (l4 : Int32) (μ : Mem) (_ : isK μ l1 11 = true) (_ : isK μ l2 12 = true) (_ : isK μ l3 16 = true), Sim F encV 23 [(0, .retAddr 300), (1, .ref l1), (2, .ref l2), (3, .ref l3), (4, .int l4)] [] μ (q23 l1 l2 l3 l4 μ)) (l1 : Nat) (l2 : Nat) (l3 : Nat) (l4 : Int32) (μ : Mem) (f1 : isK μ l1 11 = true) (f2 : isK μ l2 12 = true) (f3 : isK μ l3 16 = true) : Sim F encV 1333 [(0, .retAddr 300), (1, .ref l1), (2, .ref l2), (3, .ref l3), (4, .int l4)] [] μ (mL_law__1333 Ls xs q23 l1 l2 l3 l4 μ) := by
  unfold mL_law__1333
  refine s_aload_n hF dL_law__1333 rfl 1 rfl ?_
  refine s_sload_n hF dL_law__1334 rfl 0 rfl ?_
  refine s_iload hF dL_law__1335 4 rfl ?_
  refine s_iconst (v := (1 : Int32)) hF dL_law__1337 kI_1 ?_
  refine s_iadd hF dL_law__1338 ?_
  refine sim_gd (fun g455 => ?_)
  refine s_sca (x := (xs (l4 + (1 : Int32)).toNatClampNeg)) hF hSc dL_law__1339 g455 rfl ?_
  refine s_aload_n hF dL_law__1340 rfl 3 rfl ?_
  refine s_lSi (st := []) [.ref l1, .int (xs (l4 + (1 : Int32)).toNatClampNeg), .ref l3] hF hD dL_law__1341 cwL_190 (Nat.le_of_ble_eq_true rfl) (Nat.le_of_ble_eq_true rfl) rfl rfl (Nat.le_of_ble_eq_true rfl) (ctL_through l1 (xs (l4 + (1 : Int32)).toNatClampNeg) l3 _) (fun r456 m457 hl458 hm459 => ?_)
  refine s_istore (pls' := [(5, .int r456), (0, .retAddr 300), (1, .ref l1), (2, .ref l2), (3, .ref l3), (4, .int l4)]) hF dL_law__1344 (by decide) rfl ?_
  refine s_aload_n hF dL_law__1346 rfl 3 rfl ?_
  refine s_sload_n hF dL_law__1347 rfl 1 rfl ?_
  refine s_iload hF dL_law__1348 5 rfl ?_
  refine s_iconst (v := (1 : Int32)) hF dL_law__1350 kI_1 ?_
  refine s_iadd hF dL_law__1351 ?_
  refine sim_gd (fun g460 => ?_)
  refine s_sca (x := (xs (l4 + (1 : Int32)).toNatClampNeg)) hF hSc dL_law__1352 g460 rfl ?_
  refine s_cVi (st := []) (ci := 12) [.int (xs (l4 + (1 : Int32)).toNatClampNeg)] hF hDr dL_law__1353 cwL_192 (Nat.le_of_ble_eq_true rfl) (Nat.le_of_ble_eq_true rfl) rfl rfl (Nat.le_of_ble_eq_true rfl) (isK.mo f2 hm459) rfl rfl (Nat.le_of_ble_eq_true rfl) (ctX12_through l2 (xs (l4 + (1 : Int32)).toNatClampNeg) _) (fun r461 m462 hl463 hm464 => ?_)
  refine s_istore (pls' := [(6, .int r461), (5, .int r456), (0, .retAddr 300), (1, .ref l1), (2, .ref l2), (3, .ref l3), (4, .int l4)]) hF dL_law__1356 (by decide) rfl ?_
  refine s_aload_n hF dL_law__1358 rfl 4 rfl ?_
  refine s_cVi (st := []) (ci := 12) [] hF hDr dL_law__1359 cwL_134 (Nat.le_of_ble_eq_true rfl) (Nat.le_of_ble_eq_true rfl) rfl rfl (Nat.le_of_ble_eq_true rfl) (isK.mo (isK.mo f2 hm459) hm464) rfl rfl (Nat.le_of_ble_eq_true rfl) (ctX12_thrown l2 _) (fun r465 m466 hl467 hm468 => ?_)
  refine s_iload hF dL_law__1362 1 rfl ?_
  refine s_icmp_eq (tgt := 1369) hF dL_law__1364 rfl (fun c469 => ?_) (fun c469 => ?_)
  · refine s_iload hF dL_law__1369 1 rfl ?_
    refine s_if_ne (tgt := 1386) hF dL_law__1371 rfl (fun c470 => ?_) (fun c470 => ?_)
    · refine s_aload_n hF dL_law__1374 rfl 5 rfl ?_
      refine s_iconst (v := (0 : Int32)) hF dL_law__1375 kI_0 ?_
      refine sim_gd (fun g471 => ?_)
      refine s_laload (x := (g_L m466 l3 (0 : Int32).toNatClampNeg)) hF dL_law__1376 g471 rfl ?_
      refine s_iload hF dL_law__1377 0 rfl ?_
      refine s_i2l hF dL_law__1379 ?_
      refine s_lcmp hF dL_law__1380 ?_
      refine s_if_eq (tgt := 1386) hF dL_law__1381 rfl (fun c472 => ?_) (fun c472 => ?_)
      · refine s_goto (tgt := 2665) hF dL_law__1386 rfl ?_
        refine s_iinc (v := (l4 + (9 : Int32))) (pls' := [(4, .int (l4 + (9 : Int32))), (6, .int r461), (5, .int r456), (0, .retAddr 300), (1, .ref l1), (2, .ref l2), (3, .ref l3)]) hF dL_law__2665 6 rfl rfl (by decide) rfl ?_
        refine s_goto (tgt := 23) hF dL_law__2668 rfl ?_
        refine s_sub [3, 4, 5, 6, 0] rfl ?_
        exact hq23 l1 l2 l3 (l4 + (9 : Int32)) _ (isK.mo (isK.mo (isK.mo f1 hm459) hm464) hm468) (isK.mo (isK.mo (isK.mo f2 hm459) hm464) hm468) (isK.mo (isK.mo (isK.mo f3 hm459) hm464) hm468)
      · refine s_iconst (v := (0 : Int32)) hF dL_law__1384 kI_0 ?_
        exact sim_none
    · refine s_goto (tgt := 2665) hF dL_law__1386 rfl ?_
      refine s_iinc (v := (l4 + (9 : Int32))) (pls' := [(4, .int (l4 + (9 : Int32))), (6, .int r461), (5, .int r456), (0, .retAddr 300), (1, .ref l1), (2, .ref l2), (3, .ref l3)]) hF dL_law__2665 6 rfl rfl (by decide) rfl ?_
      refine s_goto (tgt := 23) hF dL_law__2668 rfl ?_
      refine s_sub [3, 4, 5, 6, 0] rfl ?_
      exact hq23 l1 l2 l3 (l4 + (9 : Int32)) _ (isK.mo (isK.mo (isK.mo f1 hm459) hm464) hm468) (isK.mo (isK.mo (isK.mo f2 hm459) hm464) hm468) (isK.mo (isK.mo (isK.mo f3 hm459) hm464) hm468)
  · refine s_iconst (v := (0 : Int32)) hF dL_law__1367 kI_0 ?_
    exact sim_none
theorem sL_law__1389 {F : Option Fx} {Ls : Nat} {xs : Nat → Int32} (q23 : Nat → Nat → Nat → Int32 → Mem → Option (Unit × Mem)) (hF : FxO F RL cL_law_ 7 100) (hD : FxLO F) (hDr : DrO F) (hSc : FxS F Ls xs) (hQ : FxLQ F) (hq23 : ∀ (l1 : Nat) (l2 : Nat) (l3 : Nat) (l4 : Int32) (μ : Mem) (_ : isK μ l1 11 = true) (_ : isK μ l2 12 = true) (_ : isK μ l3 16 = true), Sim F encV 23 [(0, .retAddr 300), (1, .ref l1), (2, .ref l2), (3, .ref l3), (4, .int l4)] [] μ (q23 l1 l2 l3 l4 μ)) (l1 : Nat) (l2 : Nat) (l3 : Nat) (l4 : Int32) (μ : Mem) (f1 : isK μ l1 11 = true) (f2 : isK μ l2 12 = true) (f3 : isK μ l3 16 = true) : Sim F encV 1389 [(0, .retAddr 300), (1, .ref l1), (2, .ref l2), (3, .ref l3), (4, .int l4)] [] μ (mL_law__1389 Ls xs q23 l1 l2 l3 l4 μ) := by
  unfold mL_law__1389
  refine s_aload_n hF dL_law__1389 rfl 1 rfl ?_
  refine s_sload_n hF dL_law__1390 rfl 0 rfl ?_
  refine s_iload hF dL_law__1391 4 rfl ?_
  refine s_iconst (v := (1 : Int32)) hF dL_law__1393 kI_1 ?_
  refine s_iadd hF dL_law__1394 ?_
  refine sim_gd (fun g435 => ?_)
  refine s_sca (x := (xs (l4 + (1 : Int32)).toNatClampNeg)) hF hSc dL_law__1395 g435 rfl ?_
  refine s_sload_n hF dL_law__1396 rfl 0 rfl ?_
  refine s_iload hF dL_law__1397 4 rfl ?_
  refine s_iconst (v := (2 : Int32)) hF dL_law__1399 kI_2 ?_
  refine s_iadd hF dL_law__1400 ?_
  refine sim_gd (fun g436 => ?_)
  refine s_sca (x := (xs (l4 + (2 : Int32)).toNatClampNeg)) hF hSc dL_law__1401 g436 rfl ?_
  refine s_aload_n hF dL_law__1402 rfl 3 rfl ?_
  refine s_lSi (st := []) [.ref l1, .int (xs (l4 + (1 : Int32)).toNatClampNeg), .int (xs (l4 + (2 : Int32)).toNatClampNeg), .ref l3] hF hD dL_law__1403 cwL_193 (Nat.le_of_ble_eq_true rfl) (Nat.le_of_ble_eq_true rfl) rfl rfl (Nat.le_of_ble_eq_true rfl) (ctL_kept l1 (xs (l4 + (1 : Int32)).toNatClampNeg) (xs (l4 + (2 : Int32)).toNatClampNeg) l3 _) (fun r437 m438 hl439 hm440 => ?_)
  refine s_istore (pls' := [(5, .int r437), (0, .retAddr 300), (1, .ref l1), (2, .ref l2), (3, .ref l3), (4, .int l4)]) hF dL_law__1406 (by decide) rfl ?_
  refine s_aload_n hF dL_law__1408 rfl 3 rfl ?_
  refine s_sload_n hF dL_law__1409 rfl 1 rfl ?_
  refine s_iload hF dL_law__1410 5 rfl ?_
  refine s_iconst (v := (1 : Int32)) hF dL_law__1412 kI_1 ?_
  refine s_iadd hF dL_law__1413 ?_
  refine sim_gd (fun g441 => ?_)
  refine s_sca (x := (xs (l4 + (1 : Int32)).toNatClampNeg)) hF hSc dL_law__1414 g441 rfl ?_
  refine s_sload_n hF dL_law__1415 rfl 1 rfl ?_
  refine s_iload hF dL_law__1416 5 rfl ?_
  refine s_iconst (v := (2 : Int32)) hF dL_law__1418 kI_2 ?_
  refine s_iadd hF dL_law__1419 ?_
  refine sim_gd (fun g442 => ?_)
  refine s_sca (x := (xs (l4 + (2 : Int32)).toNatClampNeg)) hF hSc dL_law__1420 g442 rfl ?_
  refine s_cVi (st := []) (ci := 12) [.int (xs (l4 + (1 : Int32)).toNatClampNeg), .int (xs (l4 + (2 : Int32)).toNatClampNeg)] hF hDr dL_law__1421 cwL_195 (Nat.le_of_ble_eq_true rfl) (Nat.le_of_ble_eq_true rfl) rfl rfl (Nat.le_of_ble_eq_true rfl) (isK.mo f2 hm440) rfl rfl (Nat.le_of_ble_eq_true rfl) (ctX12_kept l2 (xs (l4 + (1 : Int32)).toNatClampNeg) (xs (l4 + (2 : Int32)).toNatClampNeg) _) (fun r443 m444 hl445 hm446 => ?_)
  refine s_istore (pls' := [(6, .int r443), (5, .int r437), (0, .retAddr 300), (1, .ref l1), (2, .ref l2), (3, .ref l3), (4, .int l4)]) hF dL_law__1424 (by decide) rfl ?_
  refine s_aload_n hF dL_law__1426 rfl 4 rfl ?_
  refine s_cVi (st := []) (ci := 12) [] hF hDr dL_law__1427 cwL_134 (Nat.le_of_ble_eq_true rfl) (Nat.le_of_ble_eq_true rfl) rfl rfl (Nat.le_of_ble_eq_true rfl) (isK.mo (isK.mo f2 hm440) hm446) rfl rfl (Nat.le_of_ble_eq_true rfl) (ctX12_thrown l2 _) (fun r447 m448 hl449 hm450 => ?_)
  refine s_iload hF dL_law__1430 1 rfl ?_
  refine s_icmp_eq (tgt := 1437) hF dL_law__1432 rfl (fun c451 => ?_) (fun c451 => ?_)
  · refine s_iload hF dL_law__1437 1 rfl ?_
    refine s_if_ne (tgt := 1454) hF dL_law__1439 rfl (fun c452 => ?_) (fun c452 => ?_)
    · refine s_aload_n hF dL_law__1442 rfl 5 rfl ?_
      refine s_iconst (v := (0 : Int32)) hF dL_law__1443 kI_0 ?_
      refine sim_gd (fun g453 => ?_)
      refine s_laload (x := (g_L m448 l3 (0 : Int32).toNatClampNeg)) hF dL_law__1444 g453 rfl ?_
      refine s_iload hF dL_law__1445 0 rfl ?_
      refine s_i2l hF dL_law__1447 ?_
      refine s_lcmp hF dL_law__1448 ?_
      refine s_if_eq (tgt := 1454) hF dL_law__1449 rfl (fun c454 => ?_) (fun c454 => ?_)
      · refine s_goto (tgt := 2665) hF dL_law__1454 rfl ?_
        refine s_iinc (v := (l4 + (9 : Int32))) (pls' := [(4, .int (l4 + (9 : Int32))), (6, .int r443), (5, .int r437), (0, .retAddr 300), (1, .ref l1), (2, .ref l2), (3, .ref l3)]) hF dL_law__2665 6 rfl rfl (by decide) rfl ?_
        refine s_goto (tgt := 23) hF dL_law__2668 rfl ?_
        refine s_sub [3, 4, 5, 6, 0] rfl ?_
        exact hq23 l1 l2 l3 (l4 + (9 : Int32)) _ (isK.mo (isK.mo (isK.mo f1 hm440) hm446) hm450) (isK.mo (isK.mo (isK.mo f2 hm440) hm446) hm450) (isK.mo (isK.mo (isK.mo f3 hm440) hm446) hm450)
      · refine s_iconst (v := (0 : Int32)) hF dL_law__1452 kI_0 ?_
        exact sim_none
    · refine s_goto (tgt := 2665) hF dL_law__1454 rfl ?_
      refine s_iinc (v := (l4 + (9 : Int32))) (pls' := [(4, .int (l4 + (9 : Int32))), (6, .int r443), (5, .int r437), (0, .retAddr 300), (1, .ref l1), (2, .ref l2), (3, .ref l3)]) hF dL_law__2665 6 rfl rfl (by decide) rfl ?_
      refine s_goto (tgt := 23) hF dL_law__2668 rfl ?_
      refine s_sub [3, 4, 5, 6, 0] rfl ?_
      exact hq23 l1 l2 l3 (l4 + (9 : Int32)) _ (isK.mo (isK.mo (isK.mo f1 hm440) hm446) hm450) (isK.mo (isK.mo (isK.mo f2 hm440) hm446) hm450) (isK.mo (isK.mo (isK.mo f3 hm440) hm446) hm450)
  · refine s_iconst (v := (0 : Int32)) hF dL_law__1435 kI_0 ?_
    exact sim_none
theorem sL_law__1457 {F : Option Fx} {Ls : Nat} {xs : Nat → Int32} (q23 : Nat → Nat → Nat → Int32 → Mem → Option (Unit × Mem)) (hF : FxO F RL cL_law_ 7 100) (hD : FxLO F) (hDr : DrO F) (hSc : FxS F Ls xs) (hQ : FxLQ F) (hq23 : ∀ (l1 : Nat) (l2 : Nat) (l3 : Nat) (l4 : Int32) (μ : Mem) (_ : isK μ l1 11 = true) (_ : isK μ l2 12 = true) (_ : isK μ l3 16 = true), Sim F encV 23 [(0, .retAddr 300), (1, .ref l1), (2, .ref l2), (3, .ref l3), (4, .int l4)] [] μ (q23 l1 l2 l3 l4 μ)) (l1 : Nat) (l2 : Nat) (l3 : Nat) (l4 : Int32) (μ : Mem) (f1 : isK μ l1 11 = true) (f2 : isK μ l2 12 = true) (f3 : isK μ l3 16 = true) : Sim F encV 1457 [(0, .retAddr 300), (1, .ref l1), (2, .ref l2), (3, .ref l3), (4, .int l4)] [] μ (mL_law__1457 Ls xs q23 l1 l2 l3 l4 μ) := by
  unfold mL_law__1457
  refine s_aload_n hF dL_law__1457 rfl 1 rfl ?_
  refine s_sload_n hF dL_law__1458 rfl 0 rfl ?_
  refine s_iload hF dL_law__1459 4 rfl ?_
  refine s_iconst (v := (1 : Int32)) hF dL_law__1461 kI_1 ?_
  refine s_iadd hF dL_law__1462 ?_
  refine sim_gd (fun g413 => ?_)
  refine s_sca (x := (xs (l4 + (1 : Int32)).toNatClampNeg)) hF hSc dL_law__1463 g413 rfl ?_
  refine s_sload_n hF dL_law__1464 rfl 0 rfl ?_
  refine s_iload hF dL_law__1465 4 rfl ?_
  refine s_iconst (v := (2 : Int32)) hF dL_law__1467 kI_2 ?_
  refine s_iadd hF dL_law__1468 ?_
  refine sim_gd (fun g414 => ?_)
  refine s_sca (x := (xs (l4 + (2 : Int32)).toNatClampNeg)) hF hSc dL_law__1469 g414 rfl ?_
  refine s_sload_n hF dL_law__1470 rfl 0 rfl ?_
  refine s_iload hF dL_law__1471 4 rfl ?_
  refine s_iconst (v := (3 : Int32)) hF dL_law__1473 kI_3 ?_
  refine s_iadd hF dL_law__1474 ?_
  refine sim_gd (fun g415 => ?_)
  refine s_sca (x := (xs (l4 + (3 : Int32)).toNatClampNeg)) hF hSc dL_law__1475 g415 rfl ?_
  refine s_aload_n hF dL_law__1476 rfl 3 rfl ?_
  refine s_lSi (st := []) [.ref l1, .int (xs (l4 + (1 : Int32)).toNatClampNeg), .int (xs (l4 + (2 : Int32)).toNatClampNeg), .int (xs (l4 + (3 : Int32)).toNatClampNeg), .ref l3] hF hD dL_law__1477 cwL_196 (Nat.le_of_ble_eq_true rfl) (Nat.le_of_ble_eq_true rfl) rfl rfl (Nat.le_of_ble_eq_true rfl) (ctL_gives l1 (xs (l4 + (1 : Int32)).toNatClampNeg) (xs (l4 + (2 : Int32)).toNatClampNeg) (xs (l4 + (3 : Int32)).toNatClampNeg) l3 _) (fun r416 m417 hl418 hm419 => ?_)
  refine s_istore (pls' := [(5, .int r416), (0, .retAddr 300), (1, .ref l1), (2, .ref l2), (3, .ref l3), (4, .int l4)]) hF dL_law__1480 (by decide) rfl ?_
  refine s_aload_n hF dL_law__1482 rfl 3 rfl ?_
  refine s_sload_n hF dL_law__1483 rfl 1 rfl ?_
  refine s_iload hF dL_law__1484 5 rfl ?_
  refine s_iconst (v := (1 : Int32)) hF dL_law__1486 kI_1 ?_
  refine s_iadd hF dL_law__1487 ?_
  refine sim_gd (fun g420 => ?_)
  refine s_sca (x := (xs (l4 + (1 : Int32)).toNatClampNeg)) hF hSc dL_law__1488 g420 rfl ?_
  refine s_sload_n hF dL_law__1489 rfl 1 rfl ?_
  refine s_iload hF dL_law__1490 5 rfl ?_
  refine s_iconst (v := (2 : Int32)) hF dL_law__1492 kI_2 ?_
  refine s_iadd hF dL_law__1493 ?_
  refine sim_gd (fun g421 => ?_)
  refine s_sca (x := (xs (l4 + (2 : Int32)).toNatClampNeg)) hF hSc dL_law__1494 g421 rfl ?_
  refine s_sload_n hF dL_law__1495 rfl 1 rfl ?_
  refine s_iload hF dL_law__1496 5 rfl ?_
  refine s_iconst (v := (3 : Int32)) hF dL_law__1498 kI_3 ?_
  refine s_iadd hF dL_law__1499 ?_
  refine sim_gd (fun g422 => ?_)
  refine s_sca (x := (xs (l4 + (3 : Int32)).toNatClampNeg)) hF hSc dL_law__1500 g422 rfl ?_
  refine s_cVi (st := []) (ci := 12) [.int (xs (l4 + (1 : Int32)).toNatClampNeg), .int (xs (l4 + (2 : Int32)).toNatClampNeg), .int (xs (l4 + (3 : Int32)).toNatClampNeg)] hF hDr dL_law__1501 cwL_199 (Nat.le_of_ble_eq_true rfl) (Nat.le_of_ble_eq_true rfl) rfl rfl (Nat.le_of_ble_eq_true rfl) (isK.mo f2 hm419) rfl rfl (Nat.le_of_ble_eq_true rfl) (ctX12_gives l2 (xs (l4 + (1 : Int32)).toNatClampNeg) (xs (l4 + (2 : Int32)).toNatClampNeg) (xs (l4 + (3 : Int32)).toNatClampNeg) _) (fun r423 m424 hl425 hm426 => ?_)
  refine s_istore (pls' := [(6, .int r423), (5, .int r416), (0, .retAddr 300), (1, .ref l1), (2, .ref l2), (3, .ref l3), (4, .int l4)]) hF dL_law__1504 (by decide) rfl ?_
  refine s_aload_n hF dL_law__1506 rfl 4 rfl ?_
  refine s_cVi (st := []) (ci := 12) [] hF hDr dL_law__1507 cwL_134 (Nat.le_of_ble_eq_true rfl) (Nat.le_of_ble_eq_true rfl) rfl rfl (Nat.le_of_ble_eq_true rfl) (isK.mo (isK.mo f2 hm419) hm426) rfl rfl (Nat.le_of_ble_eq_true rfl) (ctX12_thrown l2 _) (fun r427 m428 hl429 hm430 => ?_)
  refine s_iload hF dL_law__1510 1 rfl ?_
  refine s_icmp_eq (tgt := 1517) hF dL_law__1512 rfl (fun c431 => ?_) (fun c431 => ?_)
  · refine s_iload hF dL_law__1517 1 rfl ?_
    refine s_if_ne (tgt := 1534) hF dL_law__1519 rfl (fun c432 => ?_) (fun c432 => ?_)
    · refine s_aload_n hF dL_law__1522 rfl 5 rfl ?_
      refine s_iconst (v := (0 : Int32)) hF dL_law__1523 kI_0 ?_
      refine sim_gd (fun g433 => ?_)
      refine s_laload (x := (g_L m428 l3 (0 : Int32).toNatClampNeg)) hF dL_law__1524 g433 rfl ?_
      refine s_iload hF dL_law__1525 0 rfl ?_
      refine s_i2l hF dL_law__1527 ?_
      refine s_lcmp hF dL_law__1528 ?_
      refine s_if_eq (tgt := 1534) hF dL_law__1529 rfl (fun c434 => ?_) (fun c434 => ?_)
      · refine s_goto (tgt := 2665) hF dL_law__1534 rfl ?_
        refine s_iinc (v := (l4 + (9 : Int32))) (pls' := [(4, .int (l4 + (9 : Int32))), (6, .int r423), (5, .int r416), (0, .retAddr 300), (1, .ref l1), (2, .ref l2), (3, .ref l3)]) hF dL_law__2665 6 rfl rfl (by decide) rfl ?_
        refine s_goto (tgt := 23) hF dL_law__2668 rfl ?_
        refine s_sub [3, 4, 5, 6, 0] rfl ?_
        exact hq23 l1 l2 l3 (l4 + (9 : Int32)) _ (isK.mo (isK.mo (isK.mo f1 hm419) hm426) hm430) (isK.mo (isK.mo (isK.mo f2 hm419) hm426) hm430) (isK.mo (isK.mo (isK.mo f3 hm419) hm426) hm430)
      · refine s_iconst (v := (0 : Int32)) hF dL_law__1532 kI_0 ?_
        exact sim_none
    · refine s_goto (tgt := 2665) hF dL_law__1534 rfl ?_
      refine s_iinc (v := (l4 + (9 : Int32))) (pls' := [(4, .int (l4 + (9 : Int32))), (6, .int r423), (5, .int r416), (0, .retAddr 300), (1, .ref l1), (2, .ref l2), (3, .ref l3)]) hF dL_law__2665 6 rfl rfl (by decide) rfl ?_
      refine s_goto (tgt := 23) hF dL_law__2668 rfl ?_
      refine s_sub [3, 4, 5, 6, 0] rfl ?_
      exact hq23 l1 l2 l3 (l4 + (9 : Int32)) _ (isK.mo (isK.mo (isK.mo f1 hm419) hm426) hm430) (isK.mo (isK.mo (isK.mo f2 hm419) hm426) hm430) (isK.mo (isK.mo (isK.mo f3 hm419) hm426) hm430)
  · refine s_iconst (v := (0 : Int32)) hF dL_law__1515 kI_0 ?_
    exact sim_none
theorem sL_law__1537 {F : Option Fx} {Ls : Nat} {xs : Nat → Int32} (q23 : Nat → Nat → Nat → Int32 → Mem → Option (Unit × Mem)) (hF : FxO F RL cL_law_ 7 100) (hD : FxLO F) (hDr : DrO F) (hSc : FxS F Ls xs) (hQ : FxLQ F) (hq23 : ∀ (l1 : Nat) (l2 : Nat) (l3 : Nat) (l4 : Int32) (μ : Mem) (_ : isK μ l1 11 = true) (_ : isK μ l2 12 = true) (_ : isK μ l3 16 = true), Sim F encV 23 [(0, .retAddr 300), (1, .ref l1), (2, .ref l2), (3, .ref l3), (4, .int l4)] [] μ (q23 l1 l2 l3 l4 μ)) (l1 : Nat) (l2 : Nat) (l3 : Nat) (l4 : Int32) (μ : Mem) (f1 : isK μ l1 11 = true) (f2 : isK μ l2 12 = true) (f3 : isK μ l3 16 = true) : Sim F encV 1537 [(0, .retAddr 300), (1, .ref l1), (2, .ref l2), (3, .ref l3), (4, .int l4)] [] μ (mL_law__1537 Ls xs q23 l1 l2 l3 l4 μ) := by
  unfold mL_law__1537
  refine s_aload_n hF dL_law__1537 rfl 1 rfl ?_
  refine s_sload_n hF dL_law__1538 rfl 0 rfl ?_
  refine s_iload hF dL_law__1539 4 rfl ?_
  refine s_iconst (v := (1 : Int32)) hF dL_law__1541 kI_1 ?_
  refine s_iadd hF dL_law__1542 ?_
  refine sim_gd (fun g391 => ?_)
  refine s_sca (x := (xs (l4 + (1 : Int32)).toNatClampNeg)) hF hSc dL_law__1543 g391 rfl ?_
  refine s_sload_n hF dL_law__1544 rfl 0 rfl ?_
  refine s_iload hF dL_law__1545 4 rfl ?_
  refine s_iconst (v := (2 : Int32)) hF dL_law__1547 kI_2 ?_
  refine s_iadd hF dL_law__1548 ?_
  refine sim_gd (fun g392 => ?_)
  refine s_sca (x := (xs (l4 + (2 : Int32)).toNatClampNeg)) hF hSc dL_law__1549 g392 rfl ?_
  refine s_sload_n hF dL_law__1550 rfl 0 rfl ?_
  refine s_iload hF dL_law__1551 4 rfl ?_
  refine s_iconst (v := (3 : Int32)) hF dL_law__1553 kI_3 ?_
  refine s_iadd hF dL_law__1554 ?_
  refine sim_gd (fun g393 => ?_)
  refine s_sca (x := (xs (l4 + (3 : Int32)).toNatClampNeg)) hF hSc dL_law__1555 g393 rfl ?_
  refine s_aload_n hF dL_law__1556 rfl 3 rfl ?_
  refine s_lSi (st := []) [.ref l1, .int (xs (l4 + (1 : Int32)).toNatClampNeg), .int (xs (l4 + (2 : Int32)).toNatClampNeg), .int (xs (l4 + (3 : Int32)).toNatClampNeg), .ref l3] hF hD dL_law__1557 cwL_200 (Nat.le_of_ble_eq_true rfl) (Nat.le_of_ble_eq_true rfl) rfl rfl (Nat.le_of_ble_eq_true rfl) (ctL_worst l1 (xs (l4 + (1 : Int32)).toNatClampNeg) (xs (l4 + (2 : Int32)).toNatClampNeg) (xs (l4 + (3 : Int32)).toNatClampNeg) l3 _) (fun r394 m395 hl396 hm397 => ?_)
  refine s_istore (pls' := [(5, .int r394), (0, .retAddr 300), (1, .ref l1), (2, .ref l2), (3, .ref l3), (4, .int l4)]) hF dL_law__1560 (by decide) rfl ?_
  refine s_aload_n hF dL_law__1562 rfl 3 rfl ?_
  refine s_sload_n hF dL_law__1563 rfl 1 rfl ?_
  refine s_iload hF dL_law__1564 5 rfl ?_
  refine s_iconst (v := (1 : Int32)) hF dL_law__1566 kI_1 ?_
  refine s_iadd hF dL_law__1567 ?_
  refine sim_gd (fun g398 => ?_)
  refine s_sca (x := (xs (l4 + (1 : Int32)).toNatClampNeg)) hF hSc dL_law__1568 g398 rfl ?_
  refine s_sload_n hF dL_law__1569 rfl 1 rfl ?_
  refine s_iload hF dL_law__1570 5 rfl ?_
  refine s_iconst (v := (2 : Int32)) hF dL_law__1572 kI_2 ?_
  refine s_iadd hF dL_law__1573 ?_
  refine sim_gd (fun g399 => ?_)
  refine s_sca (x := (xs (l4 + (2 : Int32)).toNatClampNeg)) hF hSc dL_law__1574 g399 rfl ?_
  refine s_sload_n hF dL_law__1575 rfl 1 rfl ?_
  refine s_iload hF dL_law__1576 5 rfl ?_
  refine s_iconst (v := (3 : Int32)) hF dL_law__1578 kI_3 ?_
  refine s_iadd hF dL_law__1579 ?_
  refine sim_gd (fun g400 => ?_)
  refine s_sca (x := (xs (l4 + (3 : Int32)).toNatClampNeg)) hF hSc dL_law__1580 g400 rfl ?_
  refine s_cVi (st := []) (ci := 12) [.int (xs (l4 + (1 : Int32)).toNatClampNeg), .int (xs (l4 + (2 : Int32)).toNatClampNeg), .int (xs (l4 + (3 : Int32)).toNatClampNeg)] hF hDr dL_law__1581 cwL_202 (Nat.le_of_ble_eq_true rfl) (Nat.le_of_ble_eq_true rfl) rfl rfl (Nat.le_of_ble_eq_true rfl) (isK.mo f2 hm397) rfl rfl (Nat.le_of_ble_eq_true rfl) (ctX12_worst l2 (xs (l4 + (1 : Int32)).toNatClampNeg) (xs (l4 + (2 : Int32)).toNatClampNeg) (xs (l4 + (3 : Int32)).toNatClampNeg) _) (fun r401 m402 hl403 hm404 => ?_)
  refine s_istore (pls' := [(6, .int r401), (5, .int r394), (0, .retAddr 300), (1, .ref l1), (2, .ref l2), (3, .ref l3), (4, .int l4)]) hF dL_law__1584 (by decide) rfl ?_
  refine s_aload_n hF dL_law__1586 rfl 4 rfl ?_
  refine s_cVi (st := []) (ci := 12) [] hF hDr dL_law__1587 cwL_134 (Nat.le_of_ble_eq_true rfl) (Nat.le_of_ble_eq_true rfl) rfl rfl (Nat.le_of_ble_eq_true rfl) (isK.mo (isK.mo f2 hm397) hm404) rfl rfl (Nat.le_of_ble_eq_true rfl) (ctX12_thrown l2 _) (fun r405 m406 hl407 hm408 => ?_)
  refine s_iload hF dL_law__1590 1 rfl ?_
  refine s_icmp_eq (tgt := 1597) hF dL_law__1592 rfl (fun c409 => ?_) (fun c409 => ?_)
  · refine s_iload hF dL_law__1597 1 rfl ?_
    refine s_if_ne (tgt := 1614) hF dL_law__1599 rfl (fun c410 => ?_) (fun c410 => ?_)
    · refine s_aload_n hF dL_law__1602 rfl 5 rfl ?_
      refine s_iconst (v := (0 : Int32)) hF dL_law__1603 kI_0 ?_
      refine sim_gd (fun g411 => ?_)
      refine s_laload (x := (g_L m406 l3 (0 : Int32).toNatClampNeg)) hF dL_law__1604 g411 rfl ?_
      refine s_iload hF dL_law__1605 0 rfl ?_
      refine s_i2l hF dL_law__1607 ?_
      refine s_lcmp hF dL_law__1608 ?_
      refine s_if_eq (tgt := 1614) hF dL_law__1609 rfl (fun c412 => ?_) (fun c412 => ?_)
      · refine s_goto (tgt := 2665) hF dL_law__1614 rfl ?_
        refine s_iinc (v := (l4 + (9 : Int32))) (pls' := [(4, .int (l4 + (9 : Int32))), (6, .int r401), (5, .int r394), (0, .retAddr 300), (1, .ref l1), (2, .ref l2), (3, .ref l3)]) hF dL_law__2665 6 rfl rfl (by decide) rfl ?_
        refine s_goto (tgt := 23) hF dL_law__2668 rfl ?_
        refine s_sub [3, 4, 5, 6, 0] rfl ?_
        exact hq23 l1 l2 l3 (l4 + (9 : Int32)) _ (isK.mo (isK.mo (isK.mo f1 hm397) hm404) hm408) (isK.mo (isK.mo (isK.mo f2 hm397) hm404) hm408) (isK.mo (isK.mo (isK.mo f3 hm397) hm404) hm408)
      · refine s_iconst (v := (0 : Int32)) hF dL_law__1612 kI_0 ?_
        exact sim_none
    · refine s_goto (tgt := 2665) hF dL_law__1614 rfl ?_
      refine s_iinc (v := (l4 + (9 : Int32))) (pls' := [(4, .int (l4 + (9 : Int32))), (6, .int r401), (5, .int r394), (0, .retAddr 300), (1, .ref l1), (2, .ref l2), (3, .ref l3)]) hF dL_law__2665 6 rfl rfl (by decide) rfl ?_
      refine s_goto (tgt := 23) hF dL_law__2668 rfl ?_
      refine s_sub [3, 4, 5, 6, 0] rfl ?_
      exact hq23 l1 l2 l3 (l4 + (9 : Int32)) _ (isK.mo (isK.mo (isK.mo f1 hm397) hm404) hm408) (isK.mo (isK.mo (isK.mo f2 hm397) hm404) hm408) (isK.mo (isK.mo (isK.mo f3 hm397) hm404) hm408)
  · refine s_iconst (v := (0 : Int32)) hF dL_law__1595 kI_0 ?_
    exact sim_none
