/-! ===== the walk of the law ===== -/
theorem sL_law__1617 {F : Option Fx} {Ls : Nat} {xs : Nat → Int32} (q23 : Nat → Nat → Nat → Int32 → Mem → Option (Unit × Mem)) (hF : FxO F RL cL_law_ 7 100) (hD : FxLO F) (hDr : DrO F) (hSc : FxS F Ls xs) (hQ : FxLQ F) (hq23 : ∀ (l1 : Nat) (l2 : Nat) (l3 : Nat) (l4 : Int32) (μ : Mem) (_ : isK μ l1 11 = true) (_ : isK μ l2 12 = true) (_ : isK μ l3 16 = true), Sim F encV 23 [(0, .retAddr 300), (1, .ref l1), (2, .ref l2), (3, .ref l3), (4, .int l4)] [] μ (q23 l1 l2 l3 l4 μ)) (l1 : Nat) (l2 : Nat) (l3 : Nat) (l4 : Int32) (μ : Mem) (f1 : isK μ l1 11 = true) (f2 : isK μ l2 12 = true) (f3 : isK μ l3 16 = true) : Sim F encV 1617 [(0, .retAddr 300), (1, .ref l1), (2, .ref l2), (3, .ref l3), (4, .int l4)] [] μ (mL_law__1617 Ls xs q23 l1 l2 l3 l4 μ) := by
  unfold mL_law__1617
  refine s_aload_n hF dL_law__1617 rfl 1 rfl ?_
  refine s_sload_n hF dL_law__1618 rfl 0 rfl ?_
  refine s_iload hF dL_law__1619 4 rfl ?_
  refine s_iconst (v := (1 : Int32)) hF dL_law__1621 kI_1 ?_
  refine s_iadd hF dL_law__1622 ?_
  refine sim_gd (fun g367 => ?_)
  refine s_sca (x := (xs (l4 + (1 : Int32)).toNatClampNeg)) hF hSc dL_law__1623 g367 rfl ?_
  refine s_sload_n hF dL_law__1624 rfl 0 rfl ?_
  refine s_iload hF dL_law__1625 4 rfl ?_
  refine s_iconst (v := (2 : Int32)) hF dL_law__1627 kI_2 ?_
  refine s_iadd hF dL_law__1628 ?_
  refine sim_gd (fun g368 => ?_)
  refine s_sca (x := (xs (l4 + (2 : Int32)).toNatClampNeg)) hF hSc dL_law__1629 g368 rfl ?_
  refine s_sload_n hF dL_law__1630 rfl 0 rfl ?_
  refine s_iload hF dL_law__1631 4 rfl ?_
  refine s_iconst (v := (3 : Int32)) hF dL_law__1633 kI_3 ?_
  refine s_iadd hF dL_law__1634 ?_
  refine sim_gd (fun g369 => ?_)
  refine s_sca (x := (xs (l4 + (3 : Int32)).toNatClampNeg)) hF hSc dL_law__1635 g369 rfl ?_
  refine s_sload_n hF dL_law__1636 rfl 0 rfl ?_
  refine s_iload hF dL_law__1637 4 rfl ?_
  refine s_iconst (v := (4 : Int32)) hF dL_law__1639 kI_4 ?_
  refine s_iadd hF dL_law__1640 ?_
  refine sim_gd (fun g370 => ?_)
  refine s_sca (x := (xs (l4 + (4 : Int32)).toNatClampNeg)) hF hSc dL_law__1641 g370 rfl ?_
  refine s_aload_n hF dL_law__1642 rfl 3 rfl ?_
  refine s_lSi (st := []) [.ref l1, .int (xs (l4 + (1 : Int32)).toNatClampNeg), .int (xs (l4 + (2 : Int32)).toNatClampNeg), .int (xs (l4 + (3 : Int32)).toNatClampNeg), .int (xs (l4 + (4 : Int32)).toNatClampNeg), .ref l3] hF hD dL_law__1643 cwL_203 (Nat.le_of_ble_eq_true rfl) (Nat.le_of_ble_eq_true rfl) rfl rfl (Nat.le_of_ble_eq_true rfl) (ctL_best l1 (xs (l4 + (1 : Int32)).toNatClampNeg) (xs (l4 + (2 : Int32)).toNatClampNeg) (xs (l4 + (3 : Int32)).toNatClampNeg) (xs (l4 + (4 : Int32)).toNatClampNeg) l3 _) (fun r371 m372 hl373 hm374 => ?_)
  refine s_istore (pls' := [(5, .int r371), (0, .retAddr 300), (1, .ref l1), (2, .ref l2), (3, .ref l3), (4, .int l4)]) hF dL_law__1646 (by decide) rfl ?_
  refine s_aload_n hF dL_law__1648 rfl 3 rfl ?_
  refine s_sload_n hF dL_law__1649 rfl 1 rfl ?_
  refine s_iload hF dL_law__1650 5 rfl ?_
  refine s_iconst (v := (1 : Int32)) hF dL_law__1652 kI_1 ?_
  refine s_iadd hF dL_law__1653 ?_
  refine sim_gd (fun g375 => ?_)
  refine s_sca (x := (xs (l4 + (1 : Int32)).toNatClampNeg)) hF hSc dL_law__1654 g375 rfl ?_
  refine s_sload_n hF dL_law__1655 rfl 1 rfl ?_
  refine s_iload hF dL_law__1656 5 rfl ?_
  refine s_iconst (v := (2 : Int32)) hF dL_law__1658 kI_2 ?_
  refine s_iadd hF dL_law__1659 ?_
  refine sim_gd (fun g376 => ?_)
  refine s_sca (x := (xs (l4 + (2 : Int32)).toNatClampNeg)) hF hSc dL_law__1660 g376 rfl ?_
  refine s_sload_n hF dL_law__1661 rfl 1 rfl ?_
  refine s_iload hF dL_law__1662 5 rfl ?_
  refine s_iconst (v := (3 : Int32)) hF dL_law__1664 kI_3 ?_
  refine s_iadd hF dL_law__1665 ?_
  refine sim_gd (fun g377 => ?_)
  refine s_sca (x := (xs (l4 + (3 : Int32)).toNatClampNeg)) hF hSc dL_law__1666 g377 rfl ?_
  refine s_sload_n hF dL_law__1667 rfl 1 rfl ?_
  refine s_iload hF dL_law__1668 5 rfl ?_
  refine s_iconst (v := (4 : Int32)) hF dL_law__1670 kI_4 ?_
  refine s_iadd hF dL_law__1671 ?_
  refine sim_gd (fun g378 => ?_)
  refine s_sca (x := (xs (l4 + (4 : Int32)).toNatClampNeg)) hF hSc dL_law__1672 g378 rfl ?_
  refine s_cVi (st := []) (ci := 12) [.int (xs (l4 + (1 : Int32)).toNatClampNeg), .int (xs (l4 + (2 : Int32)).toNatClampNeg), .int (xs (l4 + (3 : Int32)).toNatClampNeg), .int (xs (l4 + (4 : Int32)).toNatClampNeg)] hF hDr dL_law__1673 cwL_206 (Nat.le_of_ble_eq_true rfl) (Nat.le_of_ble_eq_true rfl) rfl rfl (Nat.le_of_ble_eq_true rfl) (isK.mo f2 hm374) rfl rfl (Nat.le_of_ble_eq_true rfl) (ctX12_best l2 (xs (l4 + (1 : Int32)).toNatClampNeg) (xs (l4 + (2 : Int32)).toNatClampNeg) (xs (l4 + (3 : Int32)).toNatClampNeg) (xs (l4 + (4 : Int32)).toNatClampNeg) _) (fun r379 m380 hl381 hm382 => ?_)
  refine s_istore (pls' := [(6, .int r379), (5, .int r371), (0, .retAddr 300), (1, .ref l1), (2, .ref l2), (3, .ref l3), (4, .int l4)]) hF dL_law__1676 (by decide) rfl ?_
  refine s_aload_n hF dL_law__1678 rfl 4 rfl ?_
  refine s_cVi (st := []) (ci := 12) [] hF hDr dL_law__1679 cwL_134 (Nat.le_of_ble_eq_true rfl) (Nat.le_of_ble_eq_true rfl) rfl rfl (Nat.le_of_ble_eq_true rfl) (isK.mo (isK.mo f2 hm374) hm382) rfl rfl (Nat.le_of_ble_eq_true rfl) (ctX12_thrown l2 _) (fun r383 m384 hl385 hm386 => ?_)
  refine s_iload hF dL_law__1682 1 rfl ?_
  refine s_icmp_eq (tgt := 1689) hF dL_law__1684 rfl (fun c387 => ?_) (fun c387 => ?_)
  · refine s_iload hF dL_law__1689 1 rfl ?_
    refine s_if_ne (tgt := 1706) hF dL_law__1691 rfl (fun c388 => ?_) (fun c388 => ?_)
    · refine s_aload_n hF dL_law__1694 rfl 5 rfl ?_
      refine s_iconst (v := (0 : Int32)) hF dL_law__1695 kI_0 ?_
      refine sim_gd (fun g389 => ?_)
      refine s_laload (x := (g_L m384 l3 (0 : Int32).toNatClampNeg)) hF dL_law__1696 g389 rfl ?_
      refine s_iload hF dL_law__1697 0 rfl ?_
      refine s_i2l hF dL_law__1699 ?_
      refine s_lcmp hF dL_law__1700 ?_
      refine s_if_eq (tgt := 1706) hF dL_law__1701 rfl (fun c390 => ?_) (fun c390 => ?_)
      · refine s_goto (tgt := 2665) hF dL_law__1706 rfl ?_
        refine s_iinc (v := (l4 + (9 : Int32))) (pls' := [(4, .int (l4 + (9 : Int32))), (6, .int r379), (5, .int r371), (0, .retAddr 300), (1, .ref l1), (2, .ref l2), (3, .ref l3)]) hF dL_law__2665 6 rfl rfl (by decide) rfl ?_
        refine s_goto (tgt := 23) hF dL_law__2668 rfl ?_
        refine s_sub [3, 4, 5, 6, 0] rfl ?_
        exact hq23 l1 l2 l3 (l4 + (9 : Int32)) _ (isK.mo (isK.mo (isK.mo f1 hm374) hm382) hm386) (isK.mo (isK.mo (isK.mo f2 hm374) hm382) hm386) (isK.mo (isK.mo (isK.mo f3 hm374) hm382) hm386)
      · refine s_iconst (v := (0 : Int32)) hF dL_law__1704 kI_0 ?_
        exact sim_none
    · refine s_goto (tgt := 2665) hF dL_law__1706 rfl ?_
      refine s_iinc (v := (l4 + (9 : Int32))) (pls' := [(4, .int (l4 + (9 : Int32))), (6, .int r379), (5, .int r371), (0, .retAddr 300), (1, .ref l1), (2, .ref l2), (3, .ref l3)]) hF dL_law__2665 6 rfl rfl (by decide) rfl ?_
      refine s_goto (tgt := 23) hF dL_law__2668 rfl ?_
      refine s_sub [3, 4, 5, 6, 0] rfl ?_
      exact hq23 l1 l2 l3 (l4 + (9 : Int32)) _ (isK.mo (isK.mo (isK.mo f1 hm374) hm382) hm386) (isK.mo (isK.mo (isK.mo f2 hm374) hm382) hm386) (isK.mo (isK.mo (isK.mo f3 hm374) hm382) hm386)
  · refine s_iconst (v := (0 : Int32)) hF dL_law__1687 kI_0 ?_
    exact sim_none
theorem sL_law__1709 {F : Option Fx} {Ls : Nat} {xs : Nat → Int32} (q23 : Nat → Nat → Nat → Int32 → Mem → Option (Unit × Mem)) (hF : FxO F RL cL_law_ 7 100) (hD : FxLO F) (hDr : DrO F) (hSc : FxS F Ls xs) (hQ : FxLQ F) (hq23 : ∀ (l1 : Nat) (l2 : Nat) (l3 : Nat) (l4 : Int32) (μ : Mem) (_ : isK μ l1 11 = true) (_ : isK μ l2 12 = true) (_ : isK μ l3 16 = true), Sim F encV 23 [(0, .retAddr 300), (1, .ref l1), (2, .ref l2), (3, .ref l3), (4, .int l4)] [] μ (q23 l1 l2 l3 l4 μ)) (l1 : Nat) (l2 : Nat) (l3 : Nat) (l4 : Int32) (μ : Mem) (f1 : isK μ l1 11 = true) (f2 : isK μ l2 12 = true) (f3 : isK μ l3 16 = true) : Sim F encV 1709 [(0, .retAddr 300), (1, .ref l1), (2, .ref l2), (3, .ref l3), (4, .int l4)] [] μ (mL_law__1709 Ls xs q23 l1 l2 l3 l4 μ) := by
  unfold mL_law__1709
  refine s_aload_n hF dL_law__1709 rfl 1 rfl ?_
  refine s_sload_n hF dL_law__1710 rfl 0 rfl ?_
  refine s_iload hF dL_law__1711 4 rfl ?_
  refine s_iconst (v := (1 : Int32)) hF dL_law__1713 kI_1 ?_
  refine s_iadd hF dL_law__1714 ?_
  refine sim_gd (fun g343 => ?_)
  refine s_sca (x := (xs (l4 + (1 : Int32)).toNatClampNeg)) hF hSc dL_law__1715 g343 rfl ?_
  refine s_sload_n hF dL_law__1716 rfl 0 rfl ?_
  refine s_iload hF dL_law__1717 4 rfl ?_
  refine s_iconst (v := (2 : Int32)) hF dL_law__1719 kI_2 ?_
  refine s_iadd hF dL_law__1720 ?_
  refine sim_gd (fun g344 => ?_)
  refine s_sca (x := (xs (l4 + (2 : Int32)).toNatClampNeg)) hF hSc dL_law__1721 g344 rfl ?_
  refine s_sload_n hF dL_law__1722 rfl 0 rfl ?_
  refine s_iload hF dL_law__1723 4 rfl ?_
  refine s_iconst (v := (3 : Int32)) hF dL_law__1725 kI_3 ?_
  refine s_iadd hF dL_law__1726 ?_
  refine sim_gd (fun g345 => ?_)
  refine s_sca (x := (xs (l4 + (3 : Int32)).toNatClampNeg)) hF hSc dL_law__1727 g345 rfl ?_
  refine s_sload_n hF dL_law__1728 rfl 0 rfl ?_
  refine s_iload hF dL_law__1729 4 rfl ?_
  refine s_iconst (v := (4 : Int32)) hF dL_law__1731 kI_4 ?_
  refine s_iadd hF dL_law__1732 ?_
  refine sim_gd (fun g346 => ?_)
  refine s_sca (x := (xs (l4 + (4 : Int32)).toNatClampNeg)) hF hSc dL_law__1733 g346 rfl ?_
  refine s_aload_n hF dL_law__1734 rfl 3 rfl ?_
  refine s_lSi (st := []) [.ref l1, .int (xs (l4 + (1 : Int32)).toNatClampNeg), .int (xs (l4 + (2 : Int32)).toNatClampNeg), .int (xs (l4 + (3 : Int32)).toNatClampNeg), .int (xs (l4 + (4 : Int32)).toNatClampNeg), .ref l3] hF hD dL_law__1735 cwL_207 (Nat.le_of_ble_eq_true rfl) (Nat.le_of_ble_eq_true rfl) rfl rfl (Nat.le_of_ble_eq_true rfl) (ctL_hop l1 (xs (l4 + (1 : Int32)).toNatClampNeg) (xs (l4 + (2 : Int32)).toNatClampNeg) (xs (l4 + (3 : Int32)).toNatClampNeg) (xs (l4 + (4 : Int32)).toNatClampNeg) l3 _) (fun r347 m348 hl349 hm350 => ?_)
  refine s_istore (pls' := [(5, .int r347), (0, .retAddr 300), (1, .ref l1), (2, .ref l2), (3, .ref l3), (4, .int l4)]) hF dL_law__1738 (by decide) rfl ?_
  refine s_aload_n hF dL_law__1740 rfl 3 rfl ?_
  refine s_sload_n hF dL_law__1741 rfl 1 rfl ?_
  refine s_iload hF dL_law__1742 5 rfl ?_
  refine s_iconst (v := (1 : Int32)) hF dL_law__1744 kI_1 ?_
  refine s_iadd hF dL_law__1745 ?_
  refine sim_gd (fun g351 => ?_)
  refine s_sca (x := (xs (l4 + (1 : Int32)).toNatClampNeg)) hF hSc dL_law__1746 g351 rfl ?_
  refine s_sload_n hF dL_law__1747 rfl 1 rfl ?_
  refine s_iload hF dL_law__1748 5 rfl ?_
  refine s_iconst (v := (2 : Int32)) hF dL_law__1750 kI_2 ?_
  refine s_iadd hF dL_law__1751 ?_
  refine sim_gd (fun g352 => ?_)
  refine s_sca (x := (xs (l4 + (2 : Int32)).toNatClampNeg)) hF hSc dL_law__1752 g352 rfl ?_
  refine s_sload_n hF dL_law__1753 rfl 1 rfl ?_
  refine s_iload hF dL_law__1754 5 rfl ?_
  refine s_iconst (v := (3 : Int32)) hF dL_law__1756 kI_3 ?_
  refine s_iadd hF dL_law__1757 ?_
  refine sim_gd (fun g353 => ?_)
  refine s_sca (x := (xs (l4 + (3 : Int32)).toNatClampNeg)) hF hSc dL_law__1758 g353 rfl ?_
  refine s_sload_n hF dL_law__1759 rfl 1 rfl ?_
  refine s_iload hF dL_law__1760 5 rfl ?_
  refine s_iconst (v := (4 : Int32)) hF dL_law__1762 kI_4 ?_
  refine s_iadd hF dL_law__1763 ?_
  refine sim_gd (fun g354 => ?_)
  refine s_sca (x := (xs (l4 + (4 : Int32)).toNatClampNeg)) hF hSc dL_law__1764 g354 rfl ?_
  refine s_cVi (st := []) (ci := 12) [.int (xs (l4 + (1 : Int32)).toNatClampNeg), .int (xs (l4 + (2 : Int32)).toNatClampNeg), .int (xs (l4 + (3 : Int32)).toNatClampNeg), .int (xs (l4 + (4 : Int32)).toNatClampNeg)] hF hDr dL_law__1765 cwL_209 (Nat.le_of_ble_eq_true rfl) (Nat.le_of_ble_eq_true rfl) rfl rfl (Nat.le_of_ble_eq_true rfl) (isK.mo f2 hm350) rfl rfl (Nat.le_of_ble_eq_true rfl) (ctX12_hop l2 (xs (l4 + (1 : Int32)).toNatClampNeg) (xs (l4 + (2 : Int32)).toNatClampNeg) (xs (l4 + (3 : Int32)).toNatClampNeg) (xs (l4 + (4 : Int32)).toNatClampNeg) _) (fun r355 m356 hl357 hm358 => ?_)
  refine s_istore (pls' := [(6, .int r355), (5, .int r347), (0, .retAddr 300), (1, .ref l1), (2, .ref l2), (3, .ref l3), (4, .int l4)]) hF dL_law__1768 (by decide) rfl ?_
  refine s_aload_n hF dL_law__1770 rfl 4 rfl ?_
  refine s_cVi (st := []) (ci := 12) [] hF hDr dL_law__1771 cwL_134 (Nat.le_of_ble_eq_true rfl) (Nat.le_of_ble_eq_true rfl) rfl rfl (Nat.le_of_ble_eq_true rfl) (isK.mo (isK.mo f2 hm350) hm358) rfl rfl (Nat.le_of_ble_eq_true rfl) (ctX12_thrown l2 _) (fun r359 m360 hl361 hm362 => ?_)
  refine s_iload hF dL_law__1774 1 rfl ?_
  refine s_icmp_eq (tgt := 1781) hF dL_law__1776 rfl (fun c363 => ?_) (fun c363 => ?_)
  · refine s_iload hF dL_law__1781 1 rfl ?_
    refine s_if_ne (tgt := 1798) hF dL_law__1783 rfl (fun c364 => ?_) (fun c364 => ?_)
    · refine s_aload_n hF dL_law__1786 rfl 5 rfl ?_
      refine s_iconst (v := (0 : Int32)) hF dL_law__1787 kI_0 ?_
      refine sim_gd (fun g365 => ?_)
      refine s_laload (x := (g_L m360 l3 (0 : Int32).toNatClampNeg)) hF dL_law__1788 g365 rfl ?_
      refine s_iload hF dL_law__1789 0 rfl ?_
      refine s_i2l hF dL_law__1791 ?_
      refine s_lcmp hF dL_law__1792 ?_
      refine s_if_eq (tgt := 1798) hF dL_law__1793 rfl (fun c366 => ?_) (fun c366 => ?_)
      · refine s_goto (tgt := 2665) hF dL_law__1798 rfl ?_
        refine s_iinc (v := (l4 + (9 : Int32))) (pls' := [(4, .int (l4 + (9 : Int32))), (6, .int r355), (5, .int r347), (0, .retAddr 300), (1, .ref l1), (2, .ref l2), (3, .ref l3)]) hF dL_law__2665 6 rfl rfl (by decide) rfl ?_
        refine s_goto (tgt := 23) hF dL_law__2668 rfl ?_
        refine s_sub [3, 4, 5, 6, 0] rfl ?_
        exact hq23 l1 l2 l3 (l4 + (9 : Int32)) _ (isK.mo (isK.mo (isK.mo f1 hm350) hm358) hm362) (isK.mo (isK.mo (isK.mo f2 hm350) hm358) hm362) (isK.mo (isK.mo (isK.mo f3 hm350) hm358) hm362)
      · refine s_iconst (v := (0 : Int32)) hF dL_law__1796 kI_0 ?_
        exact sim_none
    · refine s_goto (tgt := 2665) hF dL_law__1798 rfl ?_
      refine s_iinc (v := (l4 + (9 : Int32))) (pls' := [(4, .int (l4 + (9 : Int32))), (6, .int r355), (5, .int r347), (0, .retAddr 300), (1, .ref l1), (2, .ref l2), (3, .ref l3)]) hF dL_law__2665 6 rfl rfl (by decide) rfl ?_
      refine s_goto (tgt := 23) hF dL_law__2668 rfl ?_
      refine s_sub [3, 4, 5, 6, 0] rfl ?_
      exact hq23 l1 l2 l3 (l4 + (9 : Int32)) _ (isK.mo (isK.mo (isK.mo f1 hm350) hm358) hm362) (isK.mo (isK.mo (isK.mo f2 hm350) hm358) hm362) (isK.mo (isK.mo (isK.mo f3 hm350) hm358) hm362)
  · refine s_iconst (v := (0 : Int32)) hF dL_law__1779 kI_0 ?_
    exact sim_none
theorem sL_law__1801 {F : Option Fx} {Ls : Nat} {xs : Nat → Int32} (q23 : Nat → Nat → Nat → Int32 → Mem → Option (Unit × Mem)) (hF : FxO F RL cL_law_ 7 100) (hD : FxLO F) (hDr : DrO F) (hSc : FxS F Ls xs) (hQ : FxLQ F) (hq23 : ∀ (l1 : Nat) (l2 : Nat) (l3 : Nat) (l4 : Int32) (μ : Mem) (_ : isK μ l1 11 = true) (_ : isK μ l2 12 = true) (_ : isK μ l3 16 = true), Sim F encV 23 [(0, .retAddr 300), (1, .ref l1), (2, .ref l2), (3, .ref l3), (4, .int l4)] [] μ (q23 l1 l2 l3 l4 μ)) (l1 : Nat) (l2 : Nat) (l3 : Nat) (l4 : Int32) (μ : Mem) (f1 : isK μ l1 11 = true) (f2 : isK μ l2 12 = true) (f3 : isK μ l3 16 = true) : Sim F encV 1801 [(0, .retAddr 300), (1, .ref l1), (2, .ref l2), (3, .ref l3), (4, .int l4)] [] μ (mL_law__1801 Ls xs q23 l1 l2 l3 l4 μ) := by
  unfold mL_law__1801
  refine s_aload_n hF dL_law__1801 rfl 1 rfl ?_
  refine s_sload_n hF dL_law__1802 rfl 0 rfl ?_
  refine s_iload hF dL_law__1803 4 rfl ?_
  refine s_iconst (v := (1 : Int32)) hF dL_law__1805 kI_1 ?_
  refine s_iadd hF dL_law__1806 ?_
  refine sim_gd (fun g321 => ?_)
  refine s_sca (x := (xs (l4 + (1 : Int32)).toNatClampNeg)) hF hSc dL_law__1807 g321 rfl ?_
  refine s_sload_n hF dL_law__1808 rfl 0 rfl ?_
  refine s_iload hF dL_law__1809 4 rfl ?_
  refine s_iconst (v := (2 : Int32)) hF dL_law__1811 kI_2 ?_
  refine s_iadd hF dL_law__1812 ?_
  refine sim_gd (fun g322 => ?_)
  refine s_sca (x := (xs (l4 + (2 : Int32)).toNatClampNeg)) hF hSc dL_law__1813 g322 rfl ?_
  refine s_sload_n hF dL_law__1814 rfl 0 rfl ?_
  refine s_iload hF dL_law__1815 4 rfl ?_
  refine s_iconst (v := (3 : Int32)) hF dL_law__1817 kI_3 ?_
  refine s_iadd hF dL_law__1818 ?_
  refine sim_gd (fun g323 => ?_)
  refine s_sca (x := (xs (l4 + (3 : Int32)).toNatClampNeg)) hF hSc dL_law__1819 g323 rfl ?_
  refine s_aload_n hF dL_law__1820 rfl 3 rfl ?_
  refine s_lSi (st := []) [.ref l1, .int (xs (l4 + (1 : Int32)).toNatClampNeg), .int (xs (l4 + (2 : Int32)).toNatClampNeg), .int (xs (l4 + (3 : Int32)).toNatClampNeg), .ref l3] hF hD dL_law__1821 cwL_210 (Nat.le_of_ble_eq_true rfl) (Nat.le_of_ble_eq_true rfl) rfl rfl (Nat.le_of_ble_eq_true rfl) (ctL_tuning l1 (xs (l4 + (1 : Int32)).toNatClampNeg) (xs (l4 + (2 : Int32)).toNatClampNeg) (xs (l4 + (3 : Int32)).toNatClampNeg) l3 _) (fun r324 m325 hl326 hm327 => ?_)
  refine s_istore (pls' := [(5, .int r324), (0, .retAddr 300), (1, .ref l1), (2, .ref l2), (3, .ref l3), (4, .int l4)]) hF dL_law__1824 (by decide) rfl ?_
  refine s_aload_n hF dL_law__1826 rfl 3 rfl ?_
  refine s_sload_n hF dL_law__1827 rfl 1 rfl ?_
  refine s_iload hF dL_law__1828 5 rfl ?_
  refine s_iconst (v := (1 : Int32)) hF dL_law__1830 kI_1 ?_
  refine s_iadd hF dL_law__1831 ?_
  refine sim_gd (fun g328 => ?_)
  refine s_sca (x := (xs (l4 + (1 : Int32)).toNatClampNeg)) hF hSc dL_law__1832 g328 rfl ?_
  refine s_sload_n hF dL_law__1833 rfl 1 rfl ?_
  refine s_iload hF dL_law__1834 5 rfl ?_
  refine s_iconst (v := (2 : Int32)) hF dL_law__1836 kI_2 ?_
  refine s_iadd hF dL_law__1837 ?_
  refine sim_gd (fun g329 => ?_)
  refine s_sca (x := (xs (l4 + (2 : Int32)).toNatClampNeg)) hF hSc dL_law__1838 g329 rfl ?_
  refine s_sload_n hF dL_law__1839 rfl 1 rfl ?_
  refine s_iload hF dL_law__1840 5 rfl ?_
  refine s_iconst (v := (3 : Int32)) hF dL_law__1842 kI_3 ?_
  refine s_iadd hF dL_law__1843 ?_
  refine sim_gd (fun g330 => ?_)
  refine s_sca (x := (xs (l4 + (3 : Int32)).toNatClampNeg)) hF hSc dL_law__1844 g330 rfl ?_
  refine s_cVi (st := []) (ci := 12) [.int (xs (l4 + (1 : Int32)).toNatClampNeg), .int (xs (l4 + (2 : Int32)).toNatClampNeg), .int (xs (l4 + (3 : Int32)).toNatClampNeg)] hF hDr dL_law__1845 cwL_212 (Nat.le_of_ble_eq_true rfl) (Nat.le_of_ble_eq_true rfl) rfl rfl (Nat.le_of_ble_eq_true rfl) (isK.mo f2 hm327) rfl rfl (Nat.le_of_ble_eq_true rfl) (ctX12_tuning l2 (xs (l4 + (1 : Int32)).toNatClampNeg) (xs (l4 + (2 : Int32)).toNatClampNeg) (xs (l4 + (3 : Int32)).toNatClampNeg) _) (fun r331 m332 hl333 hm334 => ?_)
  refine s_istore (pls' := [(6, .int r331), (5, .int r324), (0, .retAddr 300), (1, .ref l1), (2, .ref l2), (3, .ref l3), (4, .int l4)]) hF dL_law__1848 (by decide) rfl ?_
  refine s_aload_n hF dL_law__1850 rfl 4 rfl ?_
  refine s_cVi (st := []) (ci := 12) [] hF hDr dL_law__1851 cwL_134 (Nat.le_of_ble_eq_true rfl) (Nat.le_of_ble_eq_true rfl) rfl rfl (Nat.le_of_ble_eq_true rfl) (isK.mo (isK.mo f2 hm327) hm334) rfl rfl (Nat.le_of_ble_eq_true rfl) (ctX12_thrown l2 _) (fun r335 m336 hl337 hm338 => ?_)
  refine s_iload hF dL_law__1854 1 rfl ?_
  refine s_icmp_eq (tgt := 1861) hF dL_law__1856 rfl (fun c339 => ?_) (fun c339 => ?_)
  · refine s_iload hF dL_law__1861 1 rfl ?_
    refine s_if_ne (tgt := 1878) hF dL_law__1863 rfl (fun c340 => ?_) (fun c340 => ?_)
    · refine s_aload_n hF dL_law__1866 rfl 5 rfl ?_
      refine s_iconst (v := (0 : Int32)) hF dL_law__1867 kI_0 ?_
      refine sim_gd (fun g341 => ?_)
      refine s_laload (x := (g_L m336 l3 (0 : Int32).toNatClampNeg)) hF dL_law__1868 g341 rfl ?_
      refine s_iload hF dL_law__1869 0 rfl ?_
      refine s_i2l hF dL_law__1871 ?_
      refine s_lcmp hF dL_law__1872 ?_
      refine s_if_eq (tgt := 1878) hF dL_law__1873 rfl (fun c342 => ?_) (fun c342 => ?_)
      · refine s_goto (tgt := 2665) hF dL_law__1878 rfl ?_
        refine s_iinc (v := (l4 + (9 : Int32))) (pls' := [(4, .int (l4 + (9 : Int32))), (6, .int r331), (5, .int r324), (0, .retAddr 300), (1, .ref l1), (2, .ref l2), (3, .ref l3)]) hF dL_law__2665 6 rfl rfl (by decide) rfl ?_
        refine s_goto (tgt := 23) hF dL_law__2668 rfl ?_
        refine s_sub [3, 4, 5, 6, 0] rfl ?_
        exact hq23 l1 l2 l3 (l4 + (9 : Int32)) _ (isK.mo (isK.mo (isK.mo f1 hm327) hm334) hm338) (isK.mo (isK.mo (isK.mo f2 hm327) hm334) hm338) (isK.mo (isK.mo (isK.mo f3 hm327) hm334) hm338)
      · refine s_iconst (v := (0 : Int32)) hF dL_law__1876 kI_0 ?_
        exact sim_none
    · refine s_goto (tgt := 2665) hF dL_law__1878 rfl ?_
      refine s_iinc (v := (l4 + (9 : Int32))) (pls' := [(4, .int (l4 + (9 : Int32))), (6, .int r331), (5, .int r324), (0, .retAddr 300), (1, .ref l1), (2, .ref l2), (3, .ref l3)]) hF dL_law__2665 6 rfl rfl (by decide) rfl ?_
      refine s_goto (tgt := 23) hF dL_law__2668 rfl ?_
      refine s_sub [3, 4, 5, 6, 0] rfl ?_
      exact hq23 l1 l2 l3 (l4 + (9 : Int32)) _ (isK.mo (isK.mo (isK.mo f1 hm327) hm334) hm338) (isK.mo (isK.mo (isK.mo f2 hm327) hm334) hm338) (isK.mo (isK.mo (isK.mo f3 hm327) hm334) hm338)
  · refine s_iconst (v := (0 : Int32)) hF dL_law__1859 kI_0 ?_
    exact sim_none
theorem sL_law__1881 {F : Option Fx} {Ls : Nat} {xs : Nat → Int32} (q23 : Nat → Nat → Nat → Int32 → Mem → Option (Unit × Mem)) (hF : FxO F RL cL_law_ 7 100) (hD : FxLO F) (hDr : DrO F) (hSc : FxS F Ls xs) (hQ : FxLQ F) (hq23 : ∀ (l1 : Nat) (l2 : Nat) (l3 : Nat) (l4 : Int32) (μ : Mem) (_ : isK μ l1 11 = true) (_ : isK μ l2 12 = true) (_ : isK μ l3 16 = true), Sim F encV 23 [(0, .retAddr 300), (1, .ref l1), (2, .ref l2), (3, .ref l3), (4, .int l4)] [] μ (q23 l1 l2 l3 l4 μ)) (l1 : Nat) (l2 : Nat) (l3 : Nat) (l4 : Int32) (μ : Mem) (f1 : isK μ l1 11 = true) (f2 : isK μ l2 12 = true) (f3 : isK μ l3 16 = true) : Sim F encV 1881 [(0, .retAddr 300), (1, .ref l1), (2, .ref l2), (3, .ref l3), (4, .int l4)] [] μ (mL_law__1881 Ls xs q23 l1 l2 l3 l4 μ) := by
  unfold mL_law__1881
  refine s_aload_n hF dL_law__1881 rfl 1 rfl ?_
  refine s_sload_n hF dL_law__1882 rfl 0 rfl ?_
  refine s_iload hF dL_law__1883 4 rfl ?_
  refine s_iconst (v := (1 : Int32)) hF dL_law__1885 kI_1 ?_
  refine s_iadd hF dL_law__1886 ?_
  refine sim_gd (fun g299 => ?_)
  refine s_sca (x := (xs (l4 + (1 : Int32)).toNatClampNeg)) hF hSc dL_law__1887 g299 rfl ?_
  refine s_sload_n hF dL_law__1888 rfl 0 rfl ?_
  refine s_iload hF dL_law__1889 4 rfl ?_
  refine s_iconst (v := (2 : Int32)) hF dL_law__1891 kI_2 ?_
  refine s_iadd hF dL_law__1892 ?_
  refine sim_gd (fun g300 => ?_)
  refine s_sca (x := (xs (l4 + (2 : Int32)).toNatClampNeg)) hF hSc dL_law__1893 g300 rfl ?_
  refine s_sload_n hF dL_law__1894 rfl 0 rfl ?_
  refine s_iload hF dL_law__1895 4 rfl ?_
  refine s_iconst (v := (3 : Int32)) hF dL_law__1897 kI_3 ?_
  refine s_iadd hF dL_law__1898 ?_
  refine sim_gd (fun g301 => ?_)
  refine s_sca (x := (xs (l4 + (3 : Int32)).toNatClampNeg)) hF hSc dL_law__1899 g301 rfl ?_
  refine s_aload_n hF dL_law__1900 rfl 3 rfl ?_
  refine s_lSi (st := []) [.ref l1, .int (xs (l4 + (1 : Int32)).toNatClampNeg), .int (xs (l4 + (2 : Int32)).toNatClampNeg), .int (xs (l4 + (3 : Int32)).toNatClampNeg), .ref l3] hF hD dL_law__1901 cwL_213 (Nat.le_of_ble_eq_true rfl) (Nat.le_of_ble_eq_true rfl) rfl rfl (Nat.le_of_ble_eq_true rfl) (ctL_ring l1 (xs (l4 + (1 : Int32)).toNatClampNeg) (xs (l4 + (2 : Int32)).toNatClampNeg) (xs (l4 + (3 : Int32)).toNatClampNeg) l3 _) (fun r302 m303 hl304 hm305 => ?_)
  refine s_istore (pls' := [(5, .int r302), (0, .retAddr 300), (1, .ref l1), (2, .ref l2), (3, .ref l3), (4, .int l4)]) hF dL_law__1904 (by decide) rfl ?_
  refine s_aload_n hF dL_law__1906 rfl 3 rfl ?_
  refine s_sload_n hF dL_law__1907 rfl 1 rfl ?_
  refine s_iload hF dL_law__1908 5 rfl ?_
  refine s_iconst (v := (1 : Int32)) hF dL_law__1910 kI_1 ?_
  refine s_iadd hF dL_law__1911 ?_
  refine sim_gd (fun g306 => ?_)
  refine s_sca (x := (xs (l4 + (1 : Int32)).toNatClampNeg)) hF hSc dL_law__1912 g306 rfl ?_
  refine s_sload_n hF dL_law__1913 rfl 1 rfl ?_
  refine s_iload hF dL_law__1914 5 rfl ?_
  refine s_iconst (v := (2 : Int32)) hF dL_law__1916 kI_2 ?_
  refine s_iadd hF dL_law__1917 ?_
  refine sim_gd (fun g307 => ?_)
  refine s_sca (x := (xs (l4 + (2 : Int32)).toNatClampNeg)) hF hSc dL_law__1918 g307 rfl ?_
  refine s_sload_n hF dL_law__1919 rfl 1 rfl ?_
  refine s_iload hF dL_law__1920 5 rfl ?_
  refine s_iconst (v := (3 : Int32)) hF dL_law__1922 kI_3 ?_
  refine s_iadd hF dL_law__1923 ?_
  refine sim_gd (fun g308 => ?_)
  refine s_sca (x := (xs (l4 + (3 : Int32)).toNatClampNeg)) hF hSc dL_law__1924 g308 rfl ?_
  refine s_cVi (st := []) (ci := 12) [.int (xs (l4 + (1 : Int32)).toNatClampNeg), .int (xs (l4 + (2 : Int32)).toNatClampNeg), .int (xs (l4 + (3 : Int32)).toNatClampNeg)] hF hDr dL_law__1925 cwL_215 (Nat.le_of_ble_eq_true rfl) (Nat.le_of_ble_eq_true rfl) rfl rfl (Nat.le_of_ble_eq_true rfl) (isK.mo f2 hm305) rfl rfl (Nat.le_of_ble_eq_true rfl) (ctX12_ring l2 (xs (l4 + (1 : Int32)).toNatClampNeg) (xs (l4 + (2 : Int32)).toNatClampNeg) (xs (l4 + (3 : Int32)).toNatClampNeg) _) (fun r309 m310 hl311 hm312 => ?_)
  refine s_istore (pls' := [(6, .int r309), (5, .int r302), (0, .retAddr 300), (1, .ref l1), (2, .ref l2), (3, .ref l3), (4, .int l4)]) hF dL_law__1928 (by decide) rfl ?_
  refine s_aload_n hF dL_law__1930 rfl 4 rfl ?_
  refine s_cVi (st := []) (ci := 12) [] hF hDr dL_law__1931 cwL_134 (Nat.le_of_ble_eq_true rfl) (Nat.le_of_ble_eq_true rfl) rfl rfl (Nat.le_of_ble_eq_true rfl) (isK.mo (isK.mo f2 hm305) hm312) rfl rfl (Nat.le_of_ble_eq_true rfl) (ctX12_thrown l2 _) (fun r313 m314 hl315 hm316 => ?_)
  refine s_iload hF dL_law__1934 1 rfl ?_
  refine s_icmp_eq (tgt := 1941) hF dL_law__1936 rfl (fun c317 => ?_) (fun c317 => ?_)
  · refine s_iload hF dL_law__1941 1 rfl ?_
    refine s_if_ne (tgt := 1958) hF dL_law__1943 rfl (fun c318 => ?_) (fun c318 => ?_)
    · refine s_aload_n hF dL_law__1946 rfl 5 rfl ?_
      refine s_iconst (v := (0 : Int32)) hF dL_law__1947 kI_0 ?_
      refine sim_gd (fun g319 => ?_)
      refine s_laload (x := (g_L m314 l3 (0 : Int32).toNatClampNeg)) hF dL_law__1948 g319 rfl ?_
      refine s_iload hF dL_law__1949 0 rfl ?_
      refine s_i2l hF dL_law__1951 ?_
      refine s_lcmp hF dL_law__1952 ?_
      refine s_if_eq (tgt := 1958) hF dL_law__1953 rfl (fun c320 => ?_) (fun c320 => ?_)
      · refine s_goto (tgt := 2665) hF dL_law__1958 rfl ?_
        refine s_iinc (v := (l4 + (9 : Int32))) (pls' := [(4, .int (l4 + (9 : Int32))), (6, .int r309), (5, .int r302), (0, .retAddr 300), (1, .ref l1), (2, .ref l2), (3, .ref l3)]) hF dL_law__2665 6 rfl rfl (by decide) rfl ?_
        refine s_goto (tgt := 23) hF dL_law__2668 rfl ?_
        refine s_sub [3, 4, 5, 6, 0] rfl ?_
        exact hq23 l1 l2 l3 (l4 + (9 : Int32)) _ (isK.mo (isK.mo (isK.mo f1 hm305) hm312) hm316) (isK.mo (isK.mo (isK.mo f2 hm305) hm312) hm316) (isK.mo (isK.mo (isK.mo f3 hm305) hm312) hm316)
      · refine s_iconst (v := (0 : Int32)) hF dL_law__1956 kI_0 ?_
        exact sim_none
    · refine s_goto (tgt := 2665) hF dL_law__1958 rfl ?_
      refine s_iinc (v := (l4 + (9 : Int32))) (pls' := [(4, .int (l4 + (9 : Int32))), (6, .int r309), (5, .int r302), (0, .retAddr 300), (1, .ref l1), (2, .ref l2), (3, .ref l3)]) hF dL_law__2665 6 rfl rfl (by decide) rfl ?_
      refine s_goto (tgt := 23) hF dL_law__2668 rfl ?_
      refine s_sub [3, 4, 5, 6, 0] rfl ?_
      exact hq23 l1 l2 l3 (l4 + (9 : Int32)) _ (isK.mo (isK.mo (isK.mo f1 hm305) hm312) hm316) (isK.mo (isK.mo (isK.mo f2 hm305) hm312) hm316) (isK.mo (isK.mo (isK.mo f3 hm305) hm312) hm316)
  · refine s_iconst (v := (0 : Int32)) hF dL_law__1939 kI_0 ?_
    exact sim_none
theorem sL_law__1961 {F : Option Fx} {Ls : Nat} {xs : Nat → Int32} (q23 : Nat → Nat → Nat → Int32 → Mem → Option (Unit × Mem)) (hF : FxO F RL cL_law_ 7 100) (hD : FxLO F) (hDr : DrO F) (hSc : FxS F Ls xs) (hQ : FxLQ F) (hq23 : ∀ (l1 : Nat) (l2 : Nat) (l3 : Nat) (l4 : Int32) (μ : Mem) (_ : isK μ l1 11 = true) (_ : isK μ l2 12 = true) (_ : isK μ l3 16 = true), Sim F encV 23 [(0, .retAddr 300), (1, .ref l1), (2, .ref l2), (3, .ref l3), (4, .int l4)] [] μ (q23 l1 l2 l3 l4 μ)) (l1 : Nat) (l2 : Nat) (l3 : Nat) (l4 : Int32) (μ : Mem) (f1 : isK μ l1 11 = true) (f2 : isK μ l2 12 = true) (f3 : isK μ l3 16 = true) : Sim F encV 1961 [(0, .retAddr 300), (1, .ref l1), (2, .ref l2), (3, .ref l3), (4, .int l4)] [] μ (mL_law__1961 Ls xs q23 l1 l2 l3 l4 μ) := by
  unfold mL_law__1961
  refine s_aload_n hF dL_law__1961 rfl 1 rfl ?_
  refine s_lVi (st := []) (ci := 11) [] hF hD dL_law__1962 cwL_216 (Nat.le_of_ble_eq_true rfl) (Nat.le_of_ble_eq_true rfl) rfl rfl (Nat.le_of_ble_eq_true rfl) f1 rfl rfl (Nat.le_of_ble_eq_true rfl) (ctX11_fits l1 _) (fun r290 m291 hl292 hm293 => ?_)
  refine s_aload_n hF dL_law__1965 rfl 2 rfl ?_
  refine s_cVi (st := [.int r290]) (ci := 12) [] hF hDr dL_law__1966 cwL_219 (Nat.le_of_ble_eq_true rfl) (Nat.le_of_ble_eq_true rfl) rfl rfl (Nat.le_of_ble_eq_true rfl) (isK.mo f2 hm293) rfl rfl (Nat.le_of_ble_eq_true rfl) (ctX12_fits l2 _) (fun r294 m295 hl296 hm297 => ?_)
  refine s_icmp_eq (tgt := 2665) hF dL_law__1969 rfl (fun c298 => ?_) (fun c298 => ?_)
  · refine s_iinc (v := (l4 + (9 : Int32))) (pls' := [(4, .int (l4 + (9 : Int32))), (0, .retAddr 300), (1, .ref l1), (2, .ref l2), (3, .ref l3)]) hF dL_law__2665 4 rfl rfl (by decide) rfl ?_
    refine s_goto (tgt := 23) hF dL_law__2668 rfl ?_
    refine s_sub [1, 2, 3, 4, 0] rfl ?_
    exact hq23 l1 l2 l3 (l4 + (9 : Int32)) _ (isK.mo (isK.mo f1 hm293) hm297) (isK.mo (isK.mo f2 hm293) hm297) (isK.mo (isK.mo f3 hm293) hm297)
  · refine s_iconst (v := (0 : Int32)) hF dL_law__1972 kI_0 ?_
    exact sim_none
theorem sL_law__1974 {F : Option Fx} {Ls : Nat} {xs : Nat → Int32} (q23 : Nat → Nat → Nat → Int32 → Mem → Option (Unit × Mem)) (hF : FxO F RL cL_law_ 7 100) (hD : FxLO F) (hDr : DrO F) (hSc : FxS F Ls xs) (hQ : FxLQ F) (hq23 : ∀ (l1 : Nat) (l2 : Nat) (l3 : Nat) (l4 : Int32) (μ : Mem) (_ : isK μ l1 11 = true) (_ : isK μ l2 12 = true) (_ : isK μ l3 16 = true), Sim F encV 23 [(0, .retAddr 300), (1, .ref l1), (2, .ref l2), (3, .ref l3), (4, .int l4)] [] μ (q23 l1 l2 l3 l4 μ)) (l1 : Nat) (l2 : Nat) (l3 : Nat) (l4 : Int32) (μ : Mem) (f1 : isK μ l1 11 = true) (f2 : isK μ l2 12 = true) (f3 : isK μ l3 16 = true) : Sim F encV 1974 [(0, .retAddr 300), (1, .ref l1), (2, .ref l2), (3, .ref l3), (4, .int l4)] [] μ (mL_law__1974 Ls xs q23 l1 l2 l3 l4 μ) := by
  unfold mL_law__1974
  refine s_aload_n hF dL_law__1974 rfl 1 rfl ?_
  refine s_sload_n hF dL_law__1975 rfl 0 rfl ?_
  refine s_iload hF dL_law__1976 4 rfl ?_
  refine s_iconst (v := (1 : Int32)) hF dL_law__1978 kI_1 ?_
  refine s_iadd hF dL_law__1979 ?_
  refine sim_gd (fun g272 => ?_)
  refine s_sca (x := (xs (l4 + (1 : Int32)).toNatClampNeg)) hF hSc dL_law__1980 g272 rfl ?_
  refine s_aload_n hF dL_law__1981 rfl 3 rfl ?_
  refine s_lSi (st := []) [.ref l1, .int (xs (l4 + (1 : Int32)).toNatClampNeg), .ref l3] hF hD dL_law__1982 cwL_220 (Nat.le_of_ble_eq_true rfl) (Nat.le_of_ble_eq_true rfl) rfl rfl (Nat.le_of_ble_eq_true rfl) (ctL_look l1 (xs (l4 + (1 : Int32)).toNatClampNeg) l3 _) (fun r273 m274 hl275 hm276 => ?_)
  refine s_istore (pls' := [(5, .int r273), (0, .retAddr 300), (1, .ref l1), (2, .ref l2), (3, .ref l3), (4, .int l4)]) hF dL_law__1985 (by decide) rfl ?_
  refine s_aload_n hF dL_law__1987 rfl 3 rfl ?_
  refine s_sload_n hF dL_law__1988 rfl 1 rfl ?_
  refine s_iload hF dL_law__1989 5 rfl ?_
  refine s_iconst (v := (1 : Int32)) hF dL_law__1991 kI_1 ?_
  refine s_iadd hF dL_law__1992 ?_
  refine sim_gd (fun g277 => ?_)
  refine s_sca (x := (xs (l4 + (1 : Int32)).toNatClampNeg)) hF hSc dL_law__1993 g277 rfl ?_
  refine s_cVi (st := []) (ci := 12) [.int (xs (l4 + (1 : Int32)).toNatClampNeg)] hF hDr dL_law__1994 cwL_222 (Nat.le_of_ble_eq_true rfl) (Nat.le_of_ble_eq_true rfl) rfl rfl (Nat.le_of_ble_eq_true rfl) (isK.mo f2 hm276) rfl rfl (Nat.le_of_ble_eq_true rfl) (ctX12_look l2 (xs (l4 + (1 : Int32)).toNatClampNeg) _) (fun r278 m279 hl280 hm281 => ?_)
  refine s_istore (pls' := [(6, .int r278), (5, .int r273), (0, .retAddr 300), (1, .ref l1), (2, .ref l2), (3, .ref l3), (4, .int l4)]) hF dL_law__1997 (by decide) rfl ?_
  refine s_aload_n hF dL_law__1999 rfl 4 rfl ?_
  refine s_cVi (st := []) (ci := 12) [] hF hDr dL_law__2000 cwL_134 (Nat.le_of_ble_eq_true rfl) (Nat.le_of_ble_eq_true rfl) rfl rfl (Nat.le_of_ble_eq_true rfl) (isK.mo (isK.mo f2 hm276) hm281) rfl rfl (Nat.le_of_ble_eq_true rfl) (ctX12_thrown l2 _) (fun r282 m283 hl284 hm285 => ?_)
  refine s_iload hF dL_law__2003 1 rfl ?_
  refine s_icmp_eq (tgt := 2010) hF dL_law__2005 rfl (fun c286 => ?_) (fun c286 => ?_)
  · refine s_iload hF dL_law__2010 1 rfl ?_
    refine s_if_ne (tgt := 2027) hF dL_law__2012 rfl (fun c287 => ?_) (fun c287 => ?_)
    · refine s_aload_n hF dL_law__2015 rfl 5 rfl ?_
      refine s_iconst (v := (0 : Int32)) hF dL_law__2016 kI_0 ?_
      refine sim_gd (fun g288 => ?_)
      refine s_laload (x := (g_L m283 l3 (0 : Int32).toNatClampNeg)) hF dL_law__2017 g288 rfl ?_
      refine s_iload hF dL_law__2018 0 rfl ?_
      refine s_i2l hF dL_law__2020 ?_
      refine s_lcmp hF dL_law__2021 ?_
      refine s_if_eq (tgt := 2027) hF dL_law__2022 rfl (fun c289 => ?_) (fun c289 => ?_)
      · refine s_goto (tgt := 2665) hF dL_law__2027 rfl ?_
        refine s_iinc (v := (l4 + (9 : Int32))) (pls' := [(4, .int (l4 + (9 : Int32))), (6, .int r278), (5, .int r273), (0, .retAddr 300), (1, .ref l1), (2, .ref l2), (3, .ref l3)]) hF dL_law__2665 6 rfl rfl (by decide) rfl ?_
        refine s_goto (tgt := 23) hF dL_law__2668 rfl ?_
        refine s_sub [3, 4, 5, 6, 0] rfl ?_
        exact hq23 l1 l2 l3 (l4 + (9 : Int32)) _ (isK.mo (isK.mo (isK.mo f1 hm276) hm281) hm285) (isK.mo (isK.mo (isK.mo f2 hm276) hm281) hm285) (isK.mo (isK.mo (isK.mo f3 hm276) hm281) hm285)
      · refine s_iconst (v := (0 : Int32)) hF dL_law__2025 kI_0 ?_
        exact sim_none
    · refine s_goto (tgt := 2665) hF dL_law__2027 rfl ?_
      refine s_iinc (v := (l4 + (9 : Int32))) (pls' := [(4, .int (l4 + (9 : Int32))), (6, .int r278), (5, .int r273), (0, .retAddr 300), (1, .ref l1), (2, .ref l2), (3, .ref l3)]) hF dL_law__2665 6 rfl rfl (by decide) rfl ?_
      refine s_goto (tgt := 23) hF dL_law__2668 rfl ?_
      refine s_sub [3, 4, 5, 6, 0] rfl ?_
      exact hq23 l1 l2 l3 (l4 + (9 : Int32)) _ (isK.mo (isK.mo (isK.mo f1 hm276) hm281) hm285) (isK.mo (isK.mo (isK.mo f2 hm276) hm281) hm285) (isK.mo (isK.mo (isK.mo f3 hm276) hm281) hm285)
  · refine s_iconst (v := (0 : Int32)) hF dL_law__2008 kI_0 ?_
    exact sim_none
theorem sL_law__2030 {F : Option Fx} {Ls : Nat} {xs : Nat → Int32} (q23 : Nat → Nat → Nat → Int32 → Mem → Option (Unit × Mem)) (hF : FxO F RL cL_law_ 7 100) (hD : FxLO F) (hDr : DrO F) (hSc : FxS F Ls xs) (hQ : FxLQ F) (hq23 : ∀ (l1 : Nat) (l2 : Nat) (l3 : Nat) (l4 : Int32) (μ : Mem) (_ : isK μ l1 11 = true) (_ : isK μ l2 12 = true) (_ : isK μ l3 16 = true), Sim F encV 23 [(0, .retAddr 300), (1, .ref l1), (2, .ref l2), (3, .ref l3), (4, .int l4)] [] μ (q23 l1 l2 l3 l4 μ)) (l1 : Nat) (l2 : Nat) (l3 : Nat) (l4 : Int32) (μ : Mem) (f1 : isK μ l1 11 = true) (f2 : isK μ l2 12 = true) (f3 : isK μ l3 16 = true) : Sim F encV 2030 [(0, .retAddr 300), (1, .ref l1), (2, .ref l2), (3, .ref l3), (4, .int l4)] [] μ (mL_law__2030 Ls xs q23 l1 l2 l3 l4 μ) := by
  unfold mL_law__2030
  refine s_aload_n hF dL_law__2030 rfl 1 rfl ?_
  refine s_sload_n hF dL_law__2031 rfl 0 rfl ?_
  refine s_iload hF dL_law__2032 4 rfl ?_
  refine s_iconst (v := (1 : Int32)) hF dL_law__2034 kI_1 ?_
  refine s_iadd hF dL_law__2035 ?_
  refine sim_gd (fun g261 => ?_)
  refine s_sca (x := (xs (l4 + (1 : Int32)).toNatClampNeg)) hF hSc dL_law__2036 g261 rfl ?_
  refine s_lVi (st := []) (ci := 11) [.int (xs (l4 + (1 : Int32)).toNatClampNeg)] hF hD dL_law__2037 cwL_223 (Nat.le_of_ble_eq_true rfl) (Nat.le_of_ble_eq_true rfl) rfl rfl (Nat.le_of_ble_eq_true rfl) f1 rfl rfl (Nat.le_of_ble_eq_true rfl) (ctX11_ready l1 (xs (l4 + (1 : Int32)).toNatClampNeg) _) (fun r262 m263 hl264 hm265 => ?_)
  refine s_aload_n hF dL_law__2040 rfl 2 rfl ?_
  refine s_sload_n hF dL_law__2041 rfl 0 rfl ?_
  refine s_iload hF dL_law__2042 4 rfl ?_
  refine s_iconst (v := (1 : Int32)) hF dL_law__2044 kI_1 ?_
  refine s_iadd hF dL_law__2045 ?_
  refine sim_gd (fun g266 => ?_)
  refine s_sca (x := (xs (l4 + (1 : Int32)).toNatClampNeg)) hF hSc dL_law__2046 g266 rfl ?_
  refine s_cVi (st := [.int r262]) (ci := 12) [.int (xs (l4 + (1 : Int32)).toNatClampNeg)] hF hDr dL_law__2047 cwL_226 (Nat.le_of_ble_eq_true rfl) (Nat.le_of_ble_eq_true rfl) rfl rfl (Nat.le_of_ble_eq_true rfl) (isK.mo f2 hm265) rfl rfl (Nat.le_of_ble_eq_true rfl) (ctX12_ready l2 (xs (l4 + (1 : Int32)).toNatClampNeg) _) (fun r267 m268 hl269 hm270 => ?_)
  refine s_icmp_eq (tgt := 2665) hF dL_law__2050 rfl (fun c271 => ?_) (fun c271 => ?_)
  · refine s_iinc (v := (l4 + (9 : Int32))) (pls' := [(4, .int (l4 + (9 : Int32))), (0, .retAddr 300), (1, .ref l1), (2, .ref l2), (3, .ref l3)]) hF dL_law__2665 4 rfl rfl (by decide) rfl ?_
    refine s_goto (tgt := 23) hF dL_law__2668 rfl ?_
    refine s_sub [1, 2, 3, 4, 0] rfl ?_
    exact hq23 l1 l2 l3 (l4 + (9 : Int32)) _ (isK.mo (isK.mo f1 hm265) hm270) (isK.mo (isK.mo f2 hm265) hm270) (isK.mo (isK.mo f3 hm265) hm270)
  · refine s_iconst (v := (0 : Int32)) hF dL_law__2053 kI_0 ?_
    exact sim_none
theorem sL_law__2055 {F : Option Fx} {Ls : Nat} {xs : Nat → Int32} (q23 : Nat → Nat → Nat → Int32 → Mem → Option (Unit × Mem)) (hF : FxO F RL cL_law_ 7 100) (hD : FxLO F) (hDr : DrO F) (hSc : FxS F Ls xs) (hQ : FxLQ F) (hq23 : ∀ (l1 : Nat) (l2 : Nat) (l3 : Nat) (l4 : Int32) (μ : Mem) (_ : isK μ l1 11 = true) (_ : isK μ l2 12 = true) (_ : isK μ l3 16 = true), Sim F encV 23 [(0, .retAddr 300), (1, .ref l1), (2, .ref l2), (3, .ref l3), (4, .int l4)] [] μ (q23 l1 l2 l3 l4 μ)) (l1 : Nat) (l2 : Nat) (l3 : Nat) (l4 : Int32) (μ : Mem) (f1 : isK μ l1 11 = true) (f2 : isK μ l2 12 = true) (f3 : isK μ l3 16 = true) : Sim F encV 2055 [(0, .retAddr 300), (1, .ref l1), (2, .ref l2), (3, .ref l3), (4, .int l4)] [] μ (mL_law__2055 Ls xs q23 l1 l2 l3 l4 μ) := by
  unfold mL_law__2055
  refine s_aload_n hF dL_law__2055 rfl 1 rfl ?_
  refine s_sload_n hF dL_law__2056 rfl 0 rfl ?_
  refine s_iload hF dL_law__2057 4 rfl ?_
  refine s_iconst (v := (1 : Int32)) hF dL_law__2059 kI_1 ?_
  refine s_iadd hF dL_law__2060 ?_
  refine sim_gd (fun g243 => ?_)
  refine s_sca (x := (xs (l4 + (1 : Int32)).toNatClampNeg)) hF hSc dL_law__2061 g243 rfl ?_
  refine s_aload_n hF dL_law__2062 rfl 3 rfl ?_
  refine s_lSi (st := []) [.ref l1, .int (xs (l4 + (1 : Int32)).toNatClampNeg), .ref l3] hF hD dL_law__2063 cwL_227 (Nat.le_of_ble_eq_true rfl) (Nat.le_of_ble_eq_true rfl) rfl rfl (Nat.le_of_ble_eq_true rfl) (ctL_latest l1 (xs (l4 + (1 : Int32)).toNatClampNeg) l3 _) (fun r244 m245 hl246 hm247 => ?_)
  refine s_istore (pls' := [(5, .int r244), (0, .retAddr 300), (1, .ref l1), (2, .ref l2), (3, .ref l3), (4, .int l4)]) hF dL_law__2066 (by decide) rfl ?_
  refine s_aload_n hF dL_law__2068 rfl 3 rfl ?_
  refine s_sload_n hF dL_law__2069 rfl 1 rfl ?_
  refine s_iload hF dL_law__2070 5 rfl ?_
  refine s_iconst (v := (1 : Int32)) hF dL_law__2072 kI_1 ?_
  refine s_iadd hF dL_law__2073 ?_
  refine sim_gd (fun g248 => ?_)
  refine s_sca (x := (xs (l4 + (1 : Int32)).toNatClampNeg)) hF hSc dL_law__2074 g248 rfl ?_
  refine s_cVi (st := []) (ci := 12) [.int (xs (l4 + (1 : Int32)).toNatClampNeg)] hF hDr dL_law__2075 cwL_229 (Nat.le_of_ble_eq_true rfl) (Nat.le_of_ble_eq_true rfl) rfl rfl (Nat.le_of_ble_eq_true rfl) (isK.mo f2 hm247) rfl rfl (Nat.le_of_ble_eq_true rfl) (ctX12_latest l2 (xs (l4 + (1 : Int32)).toNatClampNeg) _) (fun r249 m250 hl251 hm252 => ?_)
  refine s_istore (pls' := [(6, .int r249), (5, .int r244), (0, .retAddr 300), (1, .ref l1), (2, .ref l2), (3, .ref l3), (4, .int l4)]) hF dL_law__2078 (by decide) rfl ?_
  refine s_aload_n hF dL_law__2080 rfl 4 rfl ?_
  refine s_cVi (st := []) (ci := 12) [] hF hDr dL_law__2081 cwL_134 (Nat.le_of_ble_eq_true rfl) (Nat.le_of_ble_eq_true rfl) rfl rfl (Nat.le_of_ble_eq_true rfl) (isK.mo (isK.mo f2 hm247) hm252) rfl rfl (Nat.le_of_ble_eq_true rfl) (ctX12_thrown l2 _) (fun r253 m254 hl255 hm256 => ?_)
  refine s_iload hF dL_law__2084 1 rfl ?_
  refine s_icmp_eq (tgt := 2091) hF dL_law__2086 rfl (fun c257 => ?_) (fun c257 => ?_)
  · refine s_iload hF dL_law__2091 1 rfl ?_
    refine s_if_ne (tgt := 2108) hF dL_law__2093 rfl (fun c258 => ?_) (fun c258 => ?_)
    · refine s_aload_n hF dL_law__2096 rfl 5 rfl ?_
      refine s_iconst (v := (0 : Int32)) hF dL_law__2097 kI_0 ?_
      refine sim_gd (fun g259 => ?_)
      refine s_laload (x := (g_L m254 l3 (0 : Int32).toNatClampNeg)) hF dL_law__2098 g259 rfl ?_
      refine s_iload hF dL_law__2099 0 rfl ?_
      refine s_i2l hF dL_law__2101 ?_
      refine s_lcmp hF dL_law__2102 ?_
      refine s_if_eq (tgt := 2108) hF dL_law__2103 rfl (fun c260 => ?_) (fun c260 => ?_)
      · refine s_goto (tgt := 2665) hF dL_law__2108 rfl ?_
        refine s_iinc (v := (l4 + (9 : Int32))) (pls' := [(4, .int (l4 + (9 : Int32))), (6, .int r249), (5, .int r244), (0, .retAddr 300), (1, .ref l1), (2, .ref l2), (3, .ref l3)]) hF dL_law__2665 6 rfl rfl (by decide) rfl ?_
        refine s_goto (tgt := 23) hF dL_law__2668 rfl ?_
        refine s_sub [3, 4, 5, 6, 0] rfl ?_
        exact hq23 l1 l2 l3 (l4 + (9 : Int32)) _ (isK.mo (isK.mo (isK.mo f1 hm247) hm252) hm256) (isK.mo (isK.mo (isK.mo f2 hm247) hm252) hm256) (isK.mo (isK.mo (isK.mo f3 hm247) hm252) hm256)
      · refine s_iconst (v := (0 : Int32)) hF dL_law__2106 kI_0 ?_
        exact sim_none
    · refine s_goto (tgt := 2665) hF dL_law__2108 rfl ?_
      refine s_iinc (v := (l4 + (9 : Int32))) (pls' := [(4, .int (l4 + (9 : Int32))), (6, .int r249), (5, .int r244), (0, .retAddr 300), (1, .ref l1), (2, .ref l2), (3, .ref l3)]) hF dL_law__2665 6 rfl rfl (by decide) rfl ?_
      refine s_goto (tgt := 23) hF dL_law__2668 rfl ?_
      refine s_sub [3, 4, 5, 6, 0] rfl ?_
      exact hq23 l1 l2 l3 (l4 + (9 : Int32)) _ (isK.mo (isK.mo (isK.mo f1 hm247) hm252) hm256) (isK.mo (isK.mo (isK.mo f2 hm247) hm252) hm256) (isK.mo (isK.mo (isK.mo f3 hm247) hm252) hm256)
  · refine s_iconst (v := (0 : Int32)) hF dL_law__2089 kI_0 ?_
    exact sim_none
theorem sL_law__2177 {F : Option Fx} {Ls : Nat} {xs : Nat → Int32} (q23 : Nat → Nat → Nat → Int32 → Mem → Option (Unit × Mem)) (hF : FxO F RL cL_law_ 7 100) (hD : FxLO F) (hDr : DrO F) (hSc : FxS F Ls xs) (hQ : FxLQ F) (hq23 : ∀ (l1 : Nat) (l2 : Nat) (l3 : Nat) (l4 : Int32) (μ : Mem) (_ : isK μ l1 11 = true) (_ : isK μ l2 12 = true) (_ : isK μ l3 16 = true), Sim F encV 23 [(0, .retAddr 300), (1, .ref l1), (2, .ref l2), (3, .ref l3), (4, .int l4)] [] μ (q23 l1 l2 l3 l4 μ)) (l1 : Nat) (l2 : Nat) (l3 : Nat) (l4 : Int32) (k0 : Int64) (k1 : Int64) (μ : Mem) (f1 : isK μ l1 11 = true) (f2 : isK μ l2 12 = true) (f3 : isK μ l3 16 = true) : Sim F encV 2177 [(0, .retAddr 300), (1, .ref l1), (2, .ref l2), (3, .ref l3), (4, .int l4)] [.long k0, .long k1] μ (mL_law__2177 Ls xs q23 l1 l2 l3 l4 k0 k1 μ) := by
  unfold mL_law__2177
  refine s_lcmp hF dL_law__2177 ?_
  refine s_if_eq (tgt := 2183) hF dL_law__2178 rfl (fun c242 => ?_) (fun c242 => ?_)
  · refine s_goto (tgt := 2665) hF dL_law__2183 rfl ?_
    refine s_iinc (v := (l4 + (9 : Int32))) (pls' := [(4, .int (l4 + (9 : Int32))), (0, .retAddr 300), (1, .ref l1), (2, .ref l2), (3, .ref l3)]) hF dL_law__2665 4 rfl rfl (by decide) rfl ?_
    refine s_goto (tgt := 23) hF dL_law__2668 rfl ?_
    refine s_sub [1, 2, 3, 4, 0] rfl ?_
    exact hq23 l1 l2 l3 (l4 + (9 : Int32)) _ f1 f2 f3
  · refine s_iconst (v := (0 : Int32)) hF dL_law__2181 kI_0 ?_
    exact sim_none
theorem sL_law__2111 {F : Option Fx} {Ls : Nat} {xs : Nat → Int32} (q23 : Nat → Nat → Nat → Int32 → Mem → Option (Unit × Mem)) (hF : FxO F RL cL_law_ 7 100) (hD : FxLO F) (hDr : DrO F) (hSc : FxS F Ls xs) (hQ : FxLQ F) (hq23 : ∀ (l1 : Nat) (l2 : Nat) (l3 : Nat) (l4 : Int32) (μ : Mem) (_ : isK μ l1 11 = true) (_ : isK μ l2 12 = true) (_ : isK μ l3 16 = true), Sim F encV 23 [(0, .retAddr 300), (1, .ref l1), (2, .ref l2), (3, .ref l3), (4, .int l4)] [] μ (q23 l1 l2 l3 l4 μ)) (l1 : Nat) (l2 : Nat) (l3 : Nat) (l4 : Int32) (μ : Mem) (f1 : isK μ l1 11 = true) (f2 : isK μ l2 12 = true) (f3 : isK μ l3 16 = true) : Sim F encV 2111 [(0, .retAddr 300), (1, .ref l1), (2, .ref l2), (3, .ref l3), (4, .int l4)] [] μ (mL_law__2111 Ls xs q23 l1 l2 l3 l4 μ) := by
  unfold mL_law__2111
  refine s_aload_n hF dL_law__2111 rfl 1 rfl ?_
  refine s_sload_n hF dL_law__2112 rfl 0 rfl ?_
  refine s_iload hF dL_law__2113 4 rfl ?_
  refine s_iconst (v := (1 : Int32)) hF dL_law__2115 kI_1 ?_
  refine s_iadd hF dL_law__2116 ?_
  refine sim_gd (fun g222 => ?_)
  refine s_sca (x := (xs (l4 + (1 : Int32)).toNatClampNeg)) hF hSc dL_law__2117 g222 rfl ?_
  refine s_sload_n hF dL_law__2118 rfl 0 rfl ?_
  refine s_iload hF dL_law__2119 4 rfl ?_
  refine s_iconst (v := (2 : Int32)) hF dL_law__2121 kI_2 ?_
  refine s_iadd hF dL_law__2122 ?_
  refine sim_gd (fun g223 => ?_)
  refine s_sca (x := (xs (l4 + (2 : Int32)).toNatClampNeg)) hF hSc dL_law__2123 g223 rfl ?_
  refine s_aload_n hF dL_law__2124 rfl 3 rfl ?_
  refine s_lSi (st := []) [.ref l1, .int (xs (l4 + (1 : Int32)).toNatClampNeg), .int (xs (l4 + (2 : Int32)).toNatClampNeg), .ref l3] hF hD dL_law__2125 cwL_230 (Nat.le_of_ble_eq_true rfl) (Nat.le_of_ble_eq_true rfl) rfl rfl (Nat.le_of_ble_eq_true rfl) (ctL_alike l1 (xs (l4 + (1 : Int32)).toNatClampNeg) (xs (l4 + (2 : Int32)).toNatClampNeg) l3 _) (fun r224 m225 hl226 hm227 => ?_)
  refine s_istore (pls' := [(5, .int r224), (0, .retAddr 300), (1, .ref l1), (2, .ref l2), (3, .ref l3), (4, .int l4)]) hF dL_law__2128 (by decide) rfl ?_
  refine s_aload_n hF dL_law__2130 rfl 3 rfl ?_
  refine s_sload_n hF dL_law__2131 rfl 1 rfl ?_
  refine s_iload hF dL_law__2132 5 rfl ?_
  refine s_iconst (v := (1 : Int32)) hF dL_law__2134 kI_1 ?_
  refine s_iadd hF dL_law__2135 ?_
  refine sim_gd (fun g228 => ?_)
  refine s_sca (x := (xs (l4 + (1 : Int32)).toNatClampNeg)) hF hSc dL_law__2136 g228 rfl ?_
  refine s_sload_n hF dL_law__2137 rfl 1 rfl ?_
  refine s_iload hF dL_law__2138 5 rfl ?_
  refine s_iconst (v := (2 : Int32)) hF dL_law__2140 kI_2 ?_
  refine s_iadd hF dL_law__2141 ?_
  refine sim_gd (fun g229 => ?_)
  refine s_sca (x := (xs (l4 + (2 : Int32)).toNatClampNeg)) hF hSc dL_law__2142 g229 rfl ?_
  refine s_cVi (st := []) (ci := 12) [.int (xs (l4 + (1 : Int32)).toNatClampNeg), .int (xs (l4 + (2 : Int32)).toNatClampNeg)] hF hDr dL_law__2143 cwL_232 (Nat.le_of_ble_eq_true rfl) (Nat.le_of_ble_eq_true rfl) rfl rfl (Nat.le_of_ble_eq_true rfl) (isK.mo f2 hm227) rfl rfl (Nat.le_of_ble_eq_true rfl) (ctX12_alike l2 (xs (l4 + (1 : Int32)).toNatClampNeg) (xs (l4 + (2 : Int32)).toNatClampNeg) _) (fun r230 m231 hl232 hm233 => ?_)
  refine s_istore (pls' := [(6, .int r230), (5, .int r224), (0, .retAddr 300), (1, .ref l1), (2, .ref l2), (3, .ref l3), (4, .int l4)]) hF dL_law__2146 (by decide) rfl ?_
  refine s_aload_n hF dL_law__2148 rfl 4 rfl ?_
  refine s_cVi (st := []) (ci := 12) [] hF hDr dL_law__2149 cwL_134 (Nat.le_of_ble_eq_true rfl) (Nat.le_of_ble_eq_true rfl) rfl rfl (Nat.le_of_ble_eq_true rfl) (isK.mo (isK.mo f2 hm227) hm233) rfl rfl (Nat.le_of_ble_eq_true rfl) (ctX12_thrown l2 _) (fun r234 m235 hl236 hm237 => ?_)
  refine s_iload hF dL_law__2152 1 rfl ?_
  refine s_icmp_eq (tgt := 2159) hF dL_law__2154 rfl (fun c238 => ?_) (fun c238 => ?_)
  · refine s_iload hF dL_law__2159 1 rfl ?_
    refine s_if_ne (tgt := 2183) hF dL_law__2161 rfl (fun c239 => ?_) (fun c239 => ?_)
    · refine s_aload_n hF dL_law__2164 rfl 5 rfl ?_
      refine s_iconst (v := (0 : Int32)) hF dL_law__2165 kI_0 ?_
      refine sim_gd (fun g240 => ?_)
      refine s_laload (x := (g_L m235 l3 (0 : Int32).toNatClampNeg)) hF dL_law__2166 g240 rfl ?_
      refine s_iload hF dL_law__2167 0 rfl ?_
      refine s_if_eq (tgt := 2176) hF dL_law__2169 rfl (fun c241 => ?_) (fun c241 => ?_)
      · refine s_lconst (v := (0 : Int64)) hF dL_law__2176 kL_0 ?_
        refine s_sub [2, 3, 4, 5, 6] rfl ?_
        exact sL_law__2177 q23 hF hD hDr hSc hQ hq23 l1 l2 l3 l4 (0 : Int64) (g_L m235 l3 (0 : Int32).toNatClampNeg) _ (isK.mo (isK.mo (isK.mo f1 hm227) hm233) hm237) (isK.mo (isK.mo (isK.mo f2 hm227) hm233) hm237) (isK.mo (isK.mo (isK.mo f3 hm227) hm233) hm237)
      · refine s_lconst (v := (1 : Int64)) hF dL_law__2172 kL_1 ?_
        refine s_goto (tgt := 2177) hF dL_law__2173 rfl ?_
        refine s_sub [2, 3, 4, 5, 6] rfl ?_
        exact sL_law__2177 q23 hF hD hDr hSc hQ hq23 l1 l2 l3 l4 (1 : Int64) (g_L m235 l3 (0 : Int32).toNatClampNeg) _ (isK.mo (isK.mo (isK.mo f1 hm227) hm233) hm237) (isK.mo (isK.mo (isK.mo f2 hm227) hm233) hm237) (isK.mo (isK.mo (isK.mo f3 hm227) hm233) hm237)
    · refine s_goto (tgt := 2665) hF dL_law__2183 rfl ?_
      refine s_iinc (v := (l4 + (9 : Int32))) (pls' := [(4, .int (l4 + (9 : Int32))), (6, .int r230), (5, .int r224), (0, .retAddr 300), (1, .ref l1), (2, .ref l2), (3, .ref l3)]) hF dL_law__2665 6 rfl rfl (by decide) rfl ?_
      refine s_goto (tgt := 23) hF dL_law__2668 rfl ?_
      refine s_sub [3, 4, 5, 6, 0] rfl ?_
      exact hq23 l1 l2 l3 (l4 + (9 : Int32)) _ (isK.mo (isK.mo (isK.mo f1 hm227) hm233) hm237) (isK.mo (isK.mo (isK.mo f2 hm227) hm233) hm237) (isK.mo (isK.mo (isK.mo f3 hm227) hm233) hm237)
  · refine s_iconst (v := (0 : Int32)) hF dL_law__2157 kI_0 ?_
    exact sim_none
theorem sL_law__2186 {F : Option Fx} {Ls : Nat} {xs : Nat → Int32} (q23 : Nat → Nat → Nat → Int32 → Mem → Option (Unit × Mem)) (hF : FxO F RL cL_law_ 7 100) (hD : FxLO F) (hDr : DrO F) (hSc : FxS F Ls xs) (hQ : FxLQ F) (hq23 : ∀ (l1 : Nat) (l2 : Nat) (l3 : Nat) (l4 : Int32) (μ : Mem) (_ : isK μ l1 11 = true) (_ : isK μ l2 12 = true) (_ : isK μ l3 16 = true), Sim F encV 23 [(0, .retAddr 300), (1, .ref l1), (2, .ref l2), (3, .ref l3), (4, .int l4)] [] μ (q23 l1 l2 l3 l4 μ)) (l1 : Nat) (l2 : Nat) (l3 : Nat) (l4 : Int32) (μ : Mem) (f1 : isK μ l1 11 = true) (f2 : isK μ l2 12 = true) (f3 : isK μ l3 16 = true) : Sim F encV 2186 [(0, .retAddr 300), (1, .ref l1), (2, .ref l2), (3, .ref l3), (4, .int l4)] [] μ (mL_law__2186 Ls xs q23 l1 l2 l3 l4 μ) := by
  unfold mL_law__2186
  refine s_aload_n hF dL_law__2186 rfl 1 rfl ?_
  refine s_sload_n hF dL_law__2187 rfl 0 rfl ?_
  refine s_iload hF dL_law__2188 4 rfl ?_
  refine s_iconst (v := (1 : Int32)) hF dL_law__2190 kI_1 ?_
  refine s_iadd hF dL_law__2191 ?_
  refine sim_gd (fun g204 => ?_)
  refine s_sca (x := (xs (l4 + (1 : Int32)).toNatClampNeg)) hF hSc dL_law__2192 g204 rfl ?_
  refine s_aload_n hF dL_law__2193 rfl 3 rfl ?_
  refine s_lSi (st := []) [.ref l1, .int (xs (l4 + (1 : Int32)).toNatClampNeg), .ref l3] hF hD dL_law__2194 cwL_233 (Nat.le_of_ble_eq_true rfl) (Nat.le_of_ble_eq_true rfl) rfl rfl (Nat.le_of_ble_eq_true rfl) (ctL_chained l1 (xs (l4 + (1 : Int32)).toNatClampNeg) l3 _) (fun r205 m206 hl207 hm208 => ?_)
  refine s_istore (pls' := [(5, .int r205), (0, .retAddr 300), (1, .ref l1), (2, .ref l2), (3, .ref l3), (4, .int l4)]) hF dL_law__2197 (by decide) rfl ?_
  refine s_aload_n hF dL_law__2199 rfl 3 rfl ?_
  refine s_sload_n hF dL_law__2200 rfl 1 rfl ?_
  refine s_iload hF dL_law__2201 5 rfl ?_
  refine s_iconst (v := (1 : Int32)) hF dL_law__2203 kI_1 ?_
  refine s_iadd hF dL_law__2204 ?_
  refine sim_gd (fun g209 => ?_)
  refine s_sca (x := (xs (l4 + (1 : Int32)).toNatClampNeg)) hF hSc dL_law__2205 g209 rfl ?_
  refine s_cVi (st := []) (ci := 12) [.int (xs (l4 + (1 : Int32)).toNatClampNeg)] hF hDr dL_law__2206 cwL_235 (Nat.le_of_ble_eq_true rfl) (Nat.le_of_ble_eq_true rfl) rfl rfl (Nat.le_of_ble_eq_true rfl) (isK.mo f2 hm208) rfl rfl (Nat.le_of_ble_eq_true rfl) (ctX12_chained l2 (xs (l4 + (1 : Int32)).toNatClampNeg) _) (fun r210 m211 hl212 hm213 => ?_)
  refine s_istore (pls' := [(6, .int r210), (5, .int r205), (0, .retAddr 300), (1, .ref l1), (2, .ref l2), (3, .ref l3), (4, .int l4)]) hF dL_law__2209 (by decide) rfl ?_
  refine s_aload_n hF dL_law__2211 rfl 4 rfl ?_
  refine s_cVi (st := []) (ci := 12) [] hF hDr dL_law__2212 cwL_134 (Nat.le_of_ble_eq_true rfl) (Nat.le_of_ble_eq_true rfl) rfl rfl (Nat.le_of_ble_eq_true rfl) (isK.mo (isK.mo f2 hm208) hm213) rfl rfl (Nat.le_of_ble_eq_true rfl) (ctX12_thrown l2 _) (fun r214 m215 hl216 hm217 => ?_)
  refine s_iload hF dL_law__2215 1 rfl ?_
  refine s_icmp_eq (tgt := 2222) hF dL_law__2217 rfl (fun c218 => ?_) (fun c218 => ?_)
  · refine s_iload hF dL_law__2222 1 rfl ?_
    refine s_if_ne (tgt := 2239) hF dL_law__2224 rfl (fun c219 => ?_) (fun c219 => ?_)
    · refine s_aload_n hF dL_law__2227 rfl 5 rfl ?_
      refine s_iconst (v := (0 : Int32)) hF dL_law__2228 kI_0 ?_
      refine sim_gd (fun g220 => ?_)
      refine s_laload (x := (g_L m215 l3 (0 : Int32).toNatClampNeg)) hF dL_law__2229 g220 rfl ?_
      refine s_iload hF dL_law__2230 0 rfl ?_
      refine s_i2l hF dL_law__2232 ?_
      refine s_lcmp hF dL_law__2233 ?_
      refine s_if_eq (tgt := 2239) hF dL_law__2234 rfl (fun c221 => ?_) (fun c221 => ?_)
      · refine s_goto (tgt := 2665) hF dL_law__2239 rfl ?_
        refine s_iinc (v := (l4 + (9 : Int32))) (pls' := [(4, .int (l4 + (9 : Int32))), (6, .int r210), (5, .int r205), (0, .retAddr 300), (1, .ref l1), (2, .ref l2), (3, .ref l3)]) hF dL_law__2665 6 rfl rfl (by decide) rfl ?_
        refine s_goto (tgt := 23) hF dL_law__2668 rfl ?_
        refine s_sub [3, 4, 5, 6, 0] rfl ?_
        exact hq23 l1 l2 l3 (l4 + (9 : Int32)) _ (isK.mo (isK.mo (isK.mo f1 hm208) hm213) hm217) (isK.mo (isK.mo (isK.mo f2 hm208) hm213) hm217) (isK.mo (isK.mo (isK.mo f3 hm208) hm213) hm217)
      · refine s_iconst (v := (0 : Int32)) hF dL_law__2237 kI_0 ?_
        exact sim_none
    · refine s_goto (tgt := 2665) hF dL_law__2239 rfl ?_
      refine s_iinc (v := (l4 + (9 : Int32))) (pls' := [(4, .int (l4 + (9 : Int32))), (6, .int r210), (5, .int r205), (0, .retAddr 300), (1, .ref l1), (2, .ref l2), (3, .ref l3)]) hF dL_law__2665 6 rfl rfl (by decide) rfl ?_
      refine s_goto (tgt := 23) hF dL_law__2668 rfl ?_
      refine s_sub [3, 4, 5, 6, 0] rfl ?_
      exact hq23 l1 l2 l3 (l4 + (9 : Int32)) _ (isK.mo (isK.mo (isK.mo f1 hm208) hm213) hm217) (isK.mo (isK.mo (isK.mo f2 hm208) hm213) hm217) (isK.mo (isK.mo (isK.mo f3 hm208) hm213) hm217)
  · refine s_iconst (v := (0 : Int32)) hF dL_law__2220 kI_0 ?_
    exact sim_none
theorem sL_law__2242 {F : Option Fx} {Ls : Nat} {xs : Nat → Int32} (q23 : Nat → Nat → Nat → Int32 → Mem → Option (Unit × Mem)) (hF : FxO F RL cL_law_ 7 100) (hD : FxLO F) (hDr : DrO F) (hSc : FxS F Ls xs) (hQ : FxLQ F) (hq23 : ∀ (l1 : Nat) (l2 : Nat) (l3 : Nat) (l4 : Int32) (μ : Mem) (_ : isK μ l1 11 = true) (_ : isK μ l2 12 = true) (_ : isK μ l3 16 = true), Sim F encV 23 [(0, .retAddr 300), (1, .ref l1), (2, .ref l2), (3, .ref l3), (4, .int l4)] [] μ (q23 l1 l2 l3 l4 μ)) (l1 : Nat) (l2 : Nat) (l3 : Nat) (l4 : Int32) (μ : Mem) (f1 : isK μ l1 11 = true) (f2 : isK μ l2 12 = true) (f3 : isK μ l3 16 = true) : Sim F encV 2242 [(0, .retAddr 300), (1, .ref l1), (2, .ref l2), (3, .ref l3), (4, .int l4)] [] μ (mL_law__2242 Ls xs q23 l1 l2 l3 l4 μ) := by
  unfold mL_law__2242
  refine s_aload_n hF dL_law__2242 rfl 1 rfl ?_
  refine s_sload_n hF dL_law__2243 rfl 0 rfl ?_
  refine s_iload hF dL_law__2244 4 rfl ?_
  refine s_iconst (v := (1 : Int32)) hF dL_law__2246 kI_1 ?_
  refine s_iadd hF dL_law__2247 ?_
  refine sim_gd (fun g184 => ?_)
  refine s_sca (x := (xs (l4 + (1 : Int32)).toNatClampNeg)) hF hSc dL_law__2248 g184 rfl ?_
  refine s_sload_n hF dL_law__2249 rfl 0 rfl ?_
  refine s_iload hF dL_law__2250 4 rfl ?_
  refine s_iconst (v := (2 : Int32)) hF dL_law__2252 kI_2 ?_
  refine s_iadd hF dL_law__2253 ?_
  refine sim_gd (fun g185 => ?_)
  refine s_sca (x := (xs (l4 + (2 : Int32)).toNatClampNeg)) hF hSc dL_law__2254 g185 rfl ?_
  refine s_aload_n hF dL_law__2255 rfl 3 rfl ?_
  refine s_lSi (st := []) [.ref l1, .int (xs (l4 + (1 : Int32)).toNatClampNeg), .int (xs (l4 + (2 : Int32)).toNatClampNeg), .ref l3] hF hD dL_law__2256 cwL_236 (Nat.le_of_ble_eq_true rfl) (Nat.le_of_ble_eq_true rfl) rfl rfl (Nat.le_of_ble_eq_true rfl) (ctL_liar l1 (xs (l4 + (1 : Int32)).toNatClampNeg) (xs (l4 + (2 : Int32)).toNatClampNeg) l3 _) (fun r186 m187 hl188 hm189 => ?_)
  refine s_istore (pls' := [(5, .int r186), (0, .retAddr 300), (1, .ref l1), (2, .ref l2), (3, .ref l3), (4, .int l4)]) hF dL_law__2259 (by decide) rfl ?_
  refine s_aload_n hF dL_law__2261 rfl 3 rfl ?_
  refine s_sload_n hF dL_law__2262 rfl 1 rfl ?_
  refine s_iload hF dL_law__2263 5 rfl ?_
  refine s_iconst (v := (1 : Int32)) hF dL_law__2265 kI_1 ?_
  refine s_iadd hF dL_law__2266 ?_
  refine sim_gd (fun g190 => ?_)
  refine s_sca (x := (xs (l4 + (1 : Int32)).toNatClampNeg)) hF hSc dL_law__2267 g190 rfl ?_
  refine s_sload_n hF dL_law__2268 rfl 1 rfl ?_
  refine s_iload hF dL_law__2269 5 rfl ?_
  refine s_iconst (v := (2 : Int32)) hF dL_law__2271 kI_2 ?_
  refine s_iadd hF dL_law__2272 ?_
  refine sim_gd (fun g191 => ?_)
  refine s_sca (x := (xs (l4 + (2 : Int32)).toNatClampNeg)) hF hSc dL_law__2273 g191 rfl ?_
  refine s_cVi (st := []) (ci := 12) [.int (xs (l4 + (1 : Int32)).toNatClampNeg), .int (xs (l4 + (2 : Int32)).toNatClampNeg)] hF hDr dL_law__2274 cwL_238 (Nat.le_of_ble_eq_true rfl) (Nat.le_of_ble_eq_true rfl) rfl rfl (Nat.le_of_ble_eq_true rfl) (isK.mo f2 hm189) rfl rfl (Nat.le_of_ble_eq_true rfl) (ctX12_liar l2 (xs (l4 + (1 : Int32)).toNatClampNeg) (xs (l4 + (2 : Int32)).toNatClampNeg) _) (fun r192 m193 hl194 hm195 => ?_)
  refine s_istore (pls' := [(6, .int r192), (5, .int r186), (0, .retAddr 300), (1, .ref l1), (2, .ref l2), (3, .ref l3), (4, .int l4)]) hF dL_law__2277 (by decide) rfl ?_
  refine s_aload_n hF dL_law__2279 rfl 4 rfl ?_
  refine s_cVi (st := []) (ci := 12) [] hF hDr dL_law__2280 cwL_134 (Nat.le_of_ble_eq_true rfl) (Nat.le_of_ble_eq_true rfl) rfl rfl (Nat.le_of_ble_eq_true rfl) (isK.mo (isK.mo f2 hm189) hm195) rfl rfl (Nat.le_of_ble_eq_true rfl) (ctX12_thrown l2 _) (fun r196 m197 hl198 hm199 => ?_)
  refine s_iload hF dL_law__2283 1 rfl ?_
  refine s_icmp_eq (tgt := 2290) hF dL_law__2285 rfl (fun c200 => ?_) (fun c200 => ?_)
  · refine s_iload hF dL_law__2290 1 rfl ?_
    refine s_if_ne (tgt := 2307) hF dL_law__2292 rfl (fun c201 => ?_) (fun c201 => ?_)
    · refine s_aload_n hF dL_law__2295 rfl 5 rfl ?_
      refine s_iconst (v := (0 : Int32)) hF dL_law__2296 kI_0 ?_
      refine sim_gd (fun g202 => ?_)
      refine s_laload (x := (g_L m197 l3 (0 : Int32).toNatClampNeg)) hF dL_law__2297 g202 rfl ?_
      refine s_iload hF dL_law__2298 0 rfl ?_
      refine s_i2l hF dL_law__2300 ?_
      refine s_lcmp hF dL_law__2301 ?_
      refine s_if_eq (tgt := 2307) hF dL_law__2302 rfl (fun c203 => ?_) (fun c203 => ?_)
      · refine s_goto (tgt := 2665) hF dL_law__2307 rfl ?_
        refine s_iinc (v := (l4 + (9 : Int32))) (pls' := [(4, .int (l4 + (9 : Int32))), (6, .int r192), (5, .int r186), (0, .retAddr 300), (1, .ref l1), (2, .ref l2), (3, .ref l3)]) hF dL_law__2665 6 rfl rfl (by decide) rfl ?_
        refine s_goto (tgt := 23) hF dL_law__2668 rfl ?_
        refine s_sub [3, 4, 5, 6, 0] rfl ?_
        exact hq23 l1 l2 l3 (l4 + (9 : Int32)) _ (isK.mo (isK.mo (isK.mo f1 hm189) hm195) hm199) (isK.mo (isK.mo (isK.mo f2 hm189) hm195) hm199) (isK.mo (isK.mo (isK.mo f3 hm189) hm195) hm199)
      · refine s_iconst (v := (0 : Int32)) hF dL_law__2305 kI_0 ?_
        exact sim_none
    · refine s_goto (tgt := 2665) hF dL_law__2307 rfl ?_
      refine s_iinc (v := (l4 + (9 : Int32))) (pls' := [(4, .int (l4 + (9 : Int32))), (6, .int r192), (5, .int r186), (0, .retAddr 300), (1, .ref l1), (2, .ref l2), (3, .ref l3)]) hF dL_law__2665 6 rfl rfl (by decide) rfl ?_
      refine s_goto (tgt := 23) hF dL_law__2668 rfl ?_
      refine s_sub [3, 4, 5, 6, 0] rfl ?_
      exact hq23 l1 l2 l3 (l4 + (9 : Int32)) _ (isK.mo (isK.mo (isK.mo f1 hm189) hm195) hm199) (isK.mo (isK.mo (isK.mo f2 hm189) hm195) hm199) (isK.mo (isK.mo (isK.mo f3 hm189) hm195) hm199)
  · refine s_iconst (v := (0 : Int32)) hF dL_law__2288 kI_0 ?_
    exact sim_none
theorem sL_law__2310 {F : Option Fx} {Ls : Nat} {xs : Nat → Int32} (q23 : Nat → Nat → Nat → Int32 → Mem → Option (Unit × Mem)) (hF : FxO F RL cL_law_ 7 100) (hD : FxLO F) (hDr : DrO F) (hSc : FxS F Ls xs) (hQ : FxLQ F) (hq23 : ∀ (l1 : Nat) (l2 : Nat) (l3 : Nat) (l4 : Int32) (μ : Mem) (_ : isK μ l1 11 = true) (_ : isK μ l2 12 = true) (_ : isK μ l3 16 = true), Sim F encV 23 [(0, .retAddr 300), (1, .ref l1), (2, .ref l2), (3, .ref l3), (4, .int l4)] [] μ (q23 l1 l2 l3 l4 μ)) (l1 : Nat) (l2 : Nat) (l3 : Nat) (l4 : Int32) (μ : Mem) (f1 : isK μ l1 11 = true) (f2 : isK μ l2 12 = true) (f3 : isK μ l3 16 = true) : Sim F encV 2310 [(0, .retAddr 300), (1, .ref l1), (2, .ref l2), (3, .ref l3), (4, .int l4)] [] μ (mL_law__2310 Ls xs q23 l1 l2 l3 l4 μ) := by
  unfold mL_law__2310
  refine s_aload_n hF dL_law__2310 rfl 1 rfl ?_
  refine s_sload_n hF dL_law__2311 rfl 0 rfl ?_
  refine s_iload hF dL_law__2312 4 rfl ?_
  refine s_iconst (v := (1 : Int32)) hF dL_law__2314 kI_1 ?_
  refine s_iadd hF dL_law__2315 ?_
  refine sim_gd (fun g166 => ?_)
  refine s_sca (x := (xs (l4 + (1 : Int32)).toNatClampNeg)) hF hSc dL_law__2316 g166 rfl ?_
  refine s_aload_n hF dL_law__2317 rfl 3 rfl ?_
  refine s_lSi (st := []) [.ref l1, .int (xs (l4 + (1 : Int32)).toNatClampNeg), .ref l3] hF hD dL_law__2318 cwL_239 (Nat.le_of_ble_eq_true rfl) (Nat.le_of_ble_eq_true rfl) rfl rfl (Nat.le_of_ble_eq_true rfl) (ctL_reach l1 (xs (l4 + (1 : Int32)).toNatClampNeg) l3 _) (fun r167 m168 hl169 hm170 => ?_)
  refine s_istore (pls' := [(5, .int r167), (0, .retAddr 300), (1, .ref l1), (2, .ref l2), (3, .ref l3), (4, .int l4)]) hF dL_law__2321 (by decide) rfl ?_
  refine s_aload_n hF dL_law__2323 rfl 3 rfl ?_
  refine s_sload_n hF dL_law__2324 rfl 1 rfl ?_
  refine s_iload hF dL_law__2325 5 rfl ?_
  refine s_iconst (v := (1 : Int32)) hF dL_law__2327 kI_1 ?_
  refine s_iadd hF dL_law__2328 ?_
  refine sim_gd (fun g171 => ?_)
  refine s_sca (x := (xs (l4 + (1 : Int32)).toNatClampNeg)) hF hSc dL_law__2329 g171 rfl ?_
  refine s_cVi (st := []) (ci := 12) [.int (xs (l4 + (1 : Int32)).toNatClampNeg)] hF hDr dL_law__2330 cwL_241 (Nat.le_of_ble_eq_true rfl) (Nat.le_of_ble_eq_true rfl) rfl rfl (Nat.le_of_ble_eq_true rfl) (isK.mo f2 hm170) rfl rfl (Nat.le_of_ble_eq_true rfl) (ctX12_reach l2 (xs (l4 + (1 : Int32)).toNatClampNeg) _) (fun r172 m173 hl174 hm175 => ?_)
  refine s_istore (pls' := [(6, .int r172), (5, .int r167), (0, .retAddr 300), (1, .ref l1), (2, .ref l2), (3, .ref l3), (4, .int l4)]) hF dL_law__2333 (by decide) rfl ?_
  refine s_aload_n hF dL_law__2335 rfl 4 rfl ?_
  refine s_cVi (st := []) (ci := 12) [] hF hDr dL_law__2336 cwL_134 (Nat.le_of_ble_eq_true rfl) (Nat.le_of_ble_eq_true rfl) rfl rfl (Nat.le_of_ble_eq_true rfl) (isK.mo (isK.mo f2 hm170) hm175) rfl rfl (Nat.le_of_ble_eq_true rfl) (ctX12_thrown l2 _) (fun r176 m177 hl178 hm179 => ?_)
  refine s_iload hF dL_law__2339 1 rfl ?_
  refine s_icmp_eq (tgt := 2346) hF dL_law__2341 rfl (fun c180 => ?_) (fun c180 => ?_)
  · refine s_iload hF dL_law__2346 1 rfl ?_
    refine s_if_ne (tgt := 2363) hF dL_law__2348 rfl (fun c181 => ?_) (fun c181 => ?_)
    · refine s_aload_n hF dL_law__2351 rfl 5 rfl ?_
      refine s_iconst (v := (0 : Int32)) hF dL_law__2352 kI_0 ?_
      refine sim_gd (fun g182 => ?_)
      refine s_laload (x := (g_L m177 l3 (0 : Int32).toNatClampNeg)) hF dL_law__2353 g182 rfl ?_
      refine s_iload hF dL_law__2354 0 rfl ?_
      refine s_i2l hF dL_law__2356 ?_
      refine s_lcmp hF dL_law__2357 ?_
      refine s_if_eq (tgt := 2363) hF dL_law__2358 rfl (fun c183 => ?_) (fun c183 => ?_)
      · refine s_goto (tgt := 2665) hF dL_law__2363 rfl ?_
        refine s_iinc (v := (l4 + (9 : Int32))) (pls' := [(4, .int (l4 + (9 : Int32))), (6, .int r172), (5, .int r167), (0, .retAddr 300), (1, .ref l1), (2, .ref l2), (3, .ref l3)]) hF dL_law__2665 6 rfl rfl (by decide) rfl ?_
        refine s_goto (tgt := 23) hF dL_law__2668 rfl ?_
        refine s_sub [3, 4, 5, 6, 0] rfl ?_
        exact hq23 l1 l2 l3 (l4 + (9 : Int32)) _ (isK.mo (isK.mo (isK.mo f1 hm170) hm175) hm179) (isK.mo (isK.mo (isK.mo f2 hm170) hm175) hm179) (isK.mo (isK.mo (isK.mo f3 hm170) hm175) hm179)
      · refine s_iconst (v := (0 : Int32)) hF dL_law__2361 kI_0 ?_
        exact sim_none
    · refine s_goto (tgt := 2665) hF dL_law__2363 rfl ?_
      refine s_iinc (v := (l4 + (9 : Int32))) (pls' := [(4, .int (l4 + (9 : Int32))), (6, .int r172), (5, .int r167), (0, .retAddr 300), (1, .ref l1), (2, .ref l2), (3, .ref l3)]) hF dL_law__2665 6 rfl rfl (by decide) rfl ?_
      refine s_goto (tgt := 23) hF dL_law__2668 rfl ?_
      refine s_sub [3, 4, 5, 6, 0] rfl ?_
      exact hq23 l1 l2 l3 (l4 + (9 : Int32)) _ (isK.mo (isK.mo (isK.mo f1 hm170) hm175) hm179) (isK.mo (isK.mo (isK.mo f2 hm170) hm175) hm179) (isK.mo (isK.mo (isK.mo f3 hm170) hm175) hm179)
  · refine s_iconst (v := (0 : Int32)) hF dL_law__2344 kI_0 ?_
    exact sim_none
theorem sL_law__2366 {F : Option Fx} {Ls : Nat} {xs : Nat → Int32} (q23 : Nat → Nat → Nat → Int32 → Mem → Option (Unit × Mem)) (hF : FxO F RL cL_law_ 7 100) (hD : FxLO F) (hDr : DrO F) (hSc : FxS F Ls xs) (hQ : FxLQ F) (hq23 : ∀ (l1 : Nat) (l2 : Nat) (l3 : Nat) (l4 : Int32) (μ : Mem) (_ : isK μ l1 11 = true) (_ : isK μ l2 12 = true) (_ : isK μ l3 16 = true), Sim F encV 23 [(0, .retAddr 300), (1, .ref l1), (2, .ref l2), (3, .ref l3), (4, .int l4)] [] μ (q23 l1 l2 l3 l4 μ)) (l1 : Nat) (l2 : Nat) (l3 : Nat) (l4 : Int32) (μ : Mem) (f1 : isK μ l1 11 = true) (f2 : isK μ l2 12 = true) (f3 : isK μ l3 16 = true) : Sim F encV 2366 [(0, .retAddr 300), (1, .ref l1), (2, .ref l2), (3, .ref l3), (4, .int l4)] [] μ (mL_law__2366 Ls xs q23 l1 l2 l3 l4 μ) := by
  unfold mL_law__2366
  refine s_aload_n hF dL_law__2366 rfl 1 rfl ?_
  refine s_lVi (st := []) (ci := 11) [] hF hD dL_law__2367 cwL_242 (Nat.le_of_ble_eq_true rfl) (Nat.le_of_ble_eq_true rfl) rfl rfl (Nat.le_of_ble_eq_true rfl) f1 rfl rfl (Nat.le_of_ble_eq_true rfl) (ctX11_room l1 _) (fun r157 m158 hl159 hm160 => ?_)
  refine s_aload_n hF dL_law__2370 rfl 2 rfl ?_
  refine s_cVi (st := [.int r157]) (ci := 12) [] hF hDr dL_law__2371 cwL_245 (Nat.le_of_ble_eq_true rfl) (Nat.le_of_ble_eq_true rfl) rfl rfl (Nat.le_of_ble_eq_true rfl) (isK.mo f2 hm160) rfl rfl (Nat.le_of_ble_eq_true rfl) (ctX12_room l2 _) (fun r161 m162 hl163 hm164 => ?_)
  refine s_icmp_eq (tgt := 2665) hF dL_law__2374 rfl (fun c165 => ?_) (fun c165 => ?_)
  · refine s_iinc (v := (l4 + (9 : Int32))) (pls' := [(4, .int (l4 + (9 : Int32))), (0, .retAddr 300), (1, .ref l1), (2, .ref l2), (3, .ref l3)]) hF dL_law__2665 4 rfl rfl (by decide) rfl ?_
    refine s_goto (tgt := 23) hF dL_law__2668 rfl ?_
    refine s_sub [1, 2, 3, 4, 0] rfl ?_
    exact hq23 l1 l2 l3 (l4 + (9 : Int32)) _ (isK.mo (isK.mo f1 hm160) hm164) (isK.mo (isK.mo f2 hm160) hm164) (isK.mo (isK.mo f3 hm160) hm164)
  · refine s_iconst (v := (0 : Int32)) hF dL_law__2377 kI_0 ?_
    exact sim_none
theorem sL_law__2379 {F : Option Fx} {Ls : Nat} {xs : Nat → Int32} (q23 : Nat → Nat → Nat → Int32 → Mem → Option (Unit × Mem)) (hF : FxO F RL cL_law_ 7 100) (hD : FxLO F) (hDr : DrO F) (hSc : FxS F Ls xs) (hQ : FxLQ F) (hq23 : ∀ (l1 : Nat) (l2 : Nat) (l3 : Nat) (l4 : Int32) (μ : Mem) (_ : isK μ l1 11 = true) (_ : isK μ l2 12 = true) (_ : isK μ l3 16 = true), Sim F encV 23 [(0, .retAddr 300), (1, .ref l1), (2, .ref l2), (3, .ref l3), (4, .int l4)] [] μ (q23 l1 l2 l3 l4 μ)) (l1 : Nat) (l2 : Nat) (l3 : Nat) (l4 : Int32) (μ : Mem) (f1 : isK μ l1 11 = true) (f2 : isK μ l2 12 = true) (f3 : isK μ l3 16 = true) : Sim F encV 2379 [(0, .retAddr 300), (1, .ref l1), (2, .ref l2), (3, .ref l3), (4, .int l4)] [] μ (mL_law__2379 Ls xs q23 l1 l2 l3 l4 μ) := by
  unfold mL_law__2379
  refine s_aload_n hF dL_law__2379 rfl 1 rfl ?_
  refine s_sload_n hF dL_law__2380 rfl 0 rfl ?_
  refine s_iload hF dL_law__2381 4 rfl ?_
  refine s_iconst (v := (1 : Int32)) hF dL_law__2383 kI_1 ?_
  refine s_iadd hF dL_law__2384 ?_
  refine sim_gd (fun g133 => ?_)
  refine s_sca (x := (xs (l4 + (1 : Int32)).toNatClampNeg)) hF hSc dL_law__2385 g133 rfl ?_
  refine s_sload_n hF dL_law__2386 rfl 0 rfl ?_
  refine s_iload hF dL_law__2387 4 rfl ?_
  refine s_iconst (v := (2 : Int32)) hF dL_law__2389 kI_2 ?_
  refine s_iadd hF dL_law__2390 ?_
  refine sim_gd (fun g134 => ?_)
  refine s_sca (x := (xs (l4 + (2 : Int32)).toNatClampNeg)) hF hSc dL_law__2391 g134 rfl ?_
  refine s_sload_n hF dL_law__2392 rfl 0 rfl ?_
  refine s_iload hF dL_law__2393 4 rfl ?_
  refine s_iconst (v := (3 : Int32)) hF dL_law__2395 kI_3 ?_
  refine s_iadd hF dL_law__2396 ?_
  refine sim_gd (fun g135 => ?_)
  refine s_sca (x := (xs (l4 + (3 : Int32)).toNatClampNeg)) hF hSc dL_law__2397 g135 rfl ?_
  refine s_sload_n hF dL_law__2398 rfl 0 rfl ?_
  refine s_iload hF dL_law__2399 4 rfl ?_
  refine s_iconst (v := (4 : Int32)) hF dL_law__2401 kI_4 ?_
  refine s_iadd hF dL_law__2402 ?_
  refine sim_gd (fun g136 => ?_)
  refine s_sca (x := (xs (l4 + (4 : Int32)).toNatClampNeg)) hF hSc dL_law__2403 g136 rfl ?_
  refine s_aload_n hF dL_law__2404 rfl 3 rfl ?_
  refine s_lSi (st := []) [.ref l1, .int (xs (l4 + (1 : Int32)).toNatClampNeg), .int (xs (l4 + (2 : Int32)).toNatClampNeg), .int (xs (l4 + (3 : Int32)).toNatClampNeg), .int (xs (l4 + (4 : Int32)).toNatClampNeg), .ref l3] hF hD dL_law__2405 cwL_246 (Nat.le_of_ble_eq_true rfl) (Nat.le_of_ble_eq_true rfl) rfl rfl (Nat.le_of_ble_eq_true rfl) (ctL_season l1 (xs (l4 + (1 : Int32)).toNatClampNeg) (xs (l4 + (2 : Int32)).toNatClampNeg) (xs (l4 + (3 : Int32)).toNatClampNeg) (xs (l4 + (4 : Int32)).toNatClampNeg) l3 _) (fun r137 m138 hl139 hm140 => ?_)
  refine s_istore (pls' := [(5, .int r137), (0, .retAddr 300), (1, .ref l1), (2, .ref l2), (3, .ref l3), (4, .int l4)]) hF dL_law__2408 (by decide) rfl ?_
  refine s_aload_n hF dL_law__2410 rfl 3 rfl ?_
  refine s_sload_n hF dL_law__2411 rfl 1 rfl ?_
  refine s_iload hF dL_law__2412 5 rfl ?_
  refine s_iconst (v := (1 : Int32)) hF dL_law__2414 kI_1 ?_
  refine s_iadd hF dL_law__2415 ?_
  refine sim_gd (fun g141 => ?_)
  refine s_sca (x := (xs (l4 + (1 : Int32)).toNatClampNeg)) hF hSc dL_law__2416 g141 rfl ?_
  refine s_sload_n hF dL_law__2417 rfl 1 rfl ?_
  refine s_iload hF dL_law__2418 5 rfl ?_
  refine s_iconst (v := (2 : Int32)) hF dL_law__2420 kI_2 ?_
  refine s_iadd hF dL_law__2421 ?_
  refine sim_gd (fun g142 => ?_)
  refine s_sca (x := (xs (l4 + (2 : Int32)).toNatClampNeg)) hF hSc dL_law__2422 g142 rfl ?_
  refine s_sload_n hF dL_law__2423 rfl 1 rfl ?_
  refine s_iload hF dL_law__2424 5 rfl ?_
  refine s_iconst (v := (3 : Int32)) hF dL_law__2426 kI_3 ?_
  refine s_iadd hF dL_law__2427 ?_
  refine sim_gd (fun g143 => ?_)
  refine s_sca (x := (xs (l4 + (3 : Int32)).toNatClampNeg)) hF hSc dL_law__2428 g143 rfl ?_
  refine s_sload_n hF dL_law__2429 rfl 1 rfl ?_
  refine s_iload hF dL_law__2430 5 rfl ?_
  refine s_iconst (v := (4 : Int32)) hF dL_law__2432 kI_4 ?_
  refine s_iadd hF dL_law__2433 ?_
  refine sim_gd (fun g144 => ?_)
  refine s_sca (x := (xs (l4 + (4 : Int32)).toNatClampNeg)) hF hSc dL_law__2434 g144 rfl ?_
  refine s_cVi (st := []) (ci := 12) [.int (xs (l4 + (1 : Int32)).toNatClampNeg), .int (xs (l4 + (2 : Int32)).toNatClampNeg), .int (xs (l4 + (3 : Int32)).toNatClampNeg), .int (xs (l4 + (4 : Int32)).toNatClampNeg)] hF hDr dL_law__2435 cwL_248 (Nat.le_of_ble_eq_true rfl) (Nat.le_of_ble_eq_true rfl) rfl rfl (Nat.le_of_ble_eq_true rfl) (isK.mo f2 hm140) rfl rfl (Nat.le_of_ble_eq_true rfl) (ctX12_season l2 (xs (l4 + (1 : Int32)).toNatClampNeg) (xs (l4 + (2 : Int32)).toNatClampNeg) (xs (l4 + (3 : Int32)).toNatClampNeg) (xs (l4 + (4 : Int32)).toNatClampNeg) _) (fun r145 m146 hl147 hm148 => ?_)
  refine s_istore (pls' := [(6, .int r145), (5, .int r137), (0, .retAddr 300), (1, .ref l1), (2, .ref l2), (3, .ref l3), (4, .int l4)]) hF dL_law__2438 (by decide) rfl ?_
  refine s_aload_n hF dL_law__2440 rfl 4 rfl ?_
  refine s_cVi (st := []) (ci := 12) [] hF hDr dL_law__2441 cwL_134 (Nat.le_of_ble_eq_true rfl) (Nat.le_of_ble_eq_true rfl) rfl rfl (Nat.le_of_ble_eq_true rfl) (isK.mo (isK.mo f2 hm140) hm148) rfl rfl (Nat.le_of_ble_eq_true rfl) (ctX12_thrown l2 _) (fun r149 m150 hl151 hm152 => ?_)
  refine s_iload hF dL_law__2444 1 rfl ?_
  refine s_icmp_eq (tgt := 2451) hF dL_law__2446 rfl (fun c153 => ?_) (fun c153 => ?_)
  · refine s_iload hF dL_law__2451 1 rfl ?_
    refine s_if_ne (tgt := 2468) hF dL_law__2453 rfl (fun c154 => ?_) (fun c154 => ?_)
    · refine s_aload_n hF dL_law__2456 rfl 5 rfl ?_
      refine s_iconst (v := (0 : Int32)) hF dL_law__2457 kI_0 ?_
      refine sim_gd (fun g155 => ?_)
      refine s_laload (x := (g_L m150 l3 (0 : Int32).toNatClampNeg)) hF dL_law__2458 g155 rfl ?_
      refine s_iload hF dL_law__2459 0 rfl ?_
      refine s_i2l hF dL_law__2461 ?_
      refine s_lcmp hF dL_law__2462 ?_
      refine s_if_eq (tgt := 2468) hF dL_law__2463 rfl (fun c156 => ?_) (fun c156 => ?_)
      · refine s_goto (tgt := 2665) hF dL_law__2468 rfl ?_
        refine s_iinc (v := (l4 + (9 : Int32))) (pls' := [(4, .int (l4 + (9 : Int32))), (6, .int r145), (5, .int r137), (0, .retAddr 300), (1, .ref l1), (2, .ref l2), (3, .ref l3)]) hF dL_law__2665 6 rfl rfl (by decide) rfl ?_
        refine s_goto (tgt := 23) hF dL_law__2668 rfl ?_
        refine s_sub [3, 4, 5, 6, 0] rfl ?_
        exact hq23 l1 l2 l3 (l4 + (9 : Int32)) _ (isK.mo (isK.mo (isK.mo f1 hm140) hm148) hm152) (isK.mo (isK.mo (isK.mo f2 hm140) hm148) hm152) (isK.mo (isK.mo (isK.mo f3 hm140) hm148) hm152)
      · refine s_iconst (v := (0 : Int32)) hF dL_law__2466 kI_0 ?_
        exact sim_none
    · refine s_goto (tgt := 2665) hF dL_law__2468 rfl ?_
      refine s_iinc (v := (l4 + (9 : Int32))) (pls' := [(4, .int (l4 + (9 : Int32))), (6, .int r145), (5, .int r137), (0, .retAddr 300), (1, .ref l1), (2, .ref l2), (3, .ref l3)]) hF dL_law__2665 6 rfl rfl (by decide) rfl ?_
      refine s_goto (tgt := 23) hF dL_law__2668 rfl ?_
      refine s_sub [3, 4, 5, 6, 0] rfl ?_
      exact hq23 l1 l2 l3 (l4 + (9 : Int32)) _ (isK.mo (isK.mo (isK.mo f1 hm140) hm148) hm152) (isK.mo (isK.mo (isK.mo f2 hm140) hm148) hm152) (isK.mo (isK.mo (isK.mo f3 hm140) hm148) hm152)
  · refine s_iconst (v := (0 : Int32)) hF dL_law__2449 kI_0 ?_
    exact sim_none
theorem sL_law__2471 {F : Option Fx} {Ls : Nat} {xs : Nat → Int32} (q23 : Nat → Nat → Nat → Int32 → Mem → Option (Unit × Mem)) (hF : FxO F RL cL_law_ 7 100) (hD : FxLO F) (hDr : DrO F) (hSc : FxS F Ls xs) (hQ : FxLQ F) (hq23 : ∀ (l1 : Nat) (l2 : Nat) (l3 : Nat) (l4 : Int32) (μ : Mem) (_ : isK μ l1 11 = true) (_ : isK μ l2 12 = true) (_ : isK μ l3 16 = true), Sim F encV 23 [(0, .retAddr 300), (1, .ref l1), (2, .ref l2), (3, .ref l3), (4, .int l4)] [] μ (q23 l1 l2 l3 l4 μ)) (l1 : Nat) (l2 : Nat) (l3 : Nat) (l4 : Int32) (μ : Mem) (f1 : isK μ l1 11 = true) (f2 : isK μ l2 12 = true) (f3 : isK μ l3 16 = true) : Sim F encV 2471 [(0, .retAddr 300), (1, .ref l1), (2, .ref l2), (3, .ref l3), (4, .int l4)] [] μ (mL_law__2471 Ls xs q23 l1 l2 l3 l4 μ) := by
  unfold mL_law__2471
  refine s_aload_n hF dL_law__2471 rfl 1 rfl ?_
  refine s_sload_n hF dL_law__2472 rfl 0 rfl ?_
  refine s_iload hF dL_law__2473 4 rfl ?_
  refine s_iconst (v := (1 : Int32)) hF dL_law__2475 kI_1 ?_
  refine s_iadd hF dL_law__2476 ?_
  refine sim_gd (fun g105 => ?_)
  refine s_sca (x := (xs (l4 + (1 : Int32)).toNatClampNeg)) hF hSc dL_law__2477 g105 rfl ?_
  refine s_sload_n hF dL_law__2478 rfl 0 rfl ?_
  refine s_iload hF dL_law__2479 4 rfl ?_
  refine s_iconst (v := (2 : Int32)) hF dL_law__2481 kI_2 ?_
  refine s_iadd hF dL_law__2482 ?_
  refine sim_gd (fun g106 => ?_)
  refine s_sca (x := (xs (l4 + (2 : Int32)).toNatClampNeg)) hF hSc dL_law__2483 g106 rfl ?_
  refine s_sload_n hF dL_law__2484 rfl 0 rfl ?_
  refine s_iload hF dL_law__2485 4 rfl ?_
  refine s_iconst (v := (3 : Int32)) hF dL_law__2487 kI_3 ?_
  refine s_iadd hF dL_law__2488 ?_
  refine sim_gd (fun g107 => ?_)
  refine s_sca (x := (xs (l4 + (3 : Int32)).toNatClampNeg)) hF hSc dL_law__2489 g107 rfl ?_
  refine s_sload_n hF dL_law__2490 rfl 0 rfl ?_
  refine s_iload hF dL_law__2491 4 rfl ?_
  refine s_iconst (v := (4 : Int32)) hF dL_law__2493 kI_4 ?_
  refine s_iadd hF dL_law__2494 ?_
  refine sim_gd (fun g108 => ?_)
  refine s_sca (x := (xs (l4 + (4 : Int32)).toNatClampNeg)) hF hSc dL_law__2495 g108 rfl ?_
  refine s_sload_n hF dL_law__2496 rfl 0 rfl ?_
  refine s_iload hF dL_law__2497 4 rfl ?_
  refine s_iconst (v := (5 : Int32)) hF dL_law__2499 kI_5 ?_
  refine s_iadd hF dL_law__2500 ?_
  refine sim_gd (fun g109 => ?_)
  refine s_sca (x := (xs (l4 + (5 : Int32)).toNatClampNeg)) hF hSc dL_law__2501 g109 rfl ?_
  refine s_sload_n hF dL_law__2502 rfl 0 rfl ?_
  refine s_iload hF dL_law__2503 4 rfl ?_
  refine s_bipush (v := (6 : Int32)) hF dL_law__2505 kB_6 ?_
  refine s_iadd hF dL_law__2507 ?_
  refine sim_gd (fun g110 => ?_)
  refine s_sca (x := (xs (l4 + (6 : Int32)).toNatClampNeg)) hF hSc dL_law__2508 g110 rfl ?_
  refine s_aload_n hF dL_law__2509 rfl 3 rfl ?_
  refine s_lSi (st := []) [.ref l1, .int (xs (l4 + (1 : Int32)).toNatClampNeg), .int (xs (l4 + (2 : Int32)).toNatClampNeg), .int (xs (l4 + (3 : Int32)).toNatClampNeg), .int (xs (l4 + (4 : Int32)).toNatClampNeg), .int (xs (l4 + (5 : Int32)).toNatClampNeg), .int (xs (l4 + (6 : Int32)).toNatClampNeg), .ref l3] hF hD dL_law__2510 cwL_249 (Nat.le_of_ble_eq_true rfl) (Nat.le_of_ble_eq_true rfl) rfl rfl (Nat.le_of_ble_eq_true rfl) (ctL_span l1 (xs (l4 + (1 : Int32)).toNatClampNeg) (xs (l4 + (2 : Int32)).toNatClampNeg) (xs (l4 + (3 : Int32)).toNatClampNeg) (xs (l4 + (4 : Int32)).toNatClampNeg) (xs (l4 + (5 : Int32)).toNatClampNeg) (xs (l4 + (6 : Int32)).toNatClampNeg) l3 _) (fun r111 m112 hl113 hm114 => ?_)
  refine s_istore (pls' := [(5, .int r111), (0, .retAddr 300), (1, .ref l1), (2, .ref l2), (3, .ref l3), (4, .int l4)]) hF dL_law__2513 (by decide) rfl ?_
  refine s_aload_n hF dL_law__2515 rfl 3 rfl ?_
  refine s_sload_n hF dL_law__2516 rfl 1 rfl ?_
  refine s_iload hF dL_law__2517 5 rfl ?_
  refine s_iconst (v := (1 : Int32)) hF dL_law__2519 kI_1 ?_
  refine s_iadd hF dL_law__2520 ?_
  refine sim_gd (fun g115 => ?_)
  refine s_sca (x := (xs (l4 + (1 : Int32)).toNatClampNeg)) hF hSc dL_law__2521 g115 rfl ?_
  refine s_sload_n hF dL_law__2522 rfl 1 rfl ?_
  refine s_iload hF dL_law__2523 5 rfl ?_
  refine s_iconst (v := (2 : Int32)) hF dL_law__2525 kI_2 ?_
  refine s_iadd hF dL_law__2526 ?_
  refine sim_gd (fun g116 => ?_)
  refine s_sca (x := (xs (l4 + (2 : Int32)).toNatClampNeg)) hF hSc dL_law__2527 g116 rfl ?_
  refine s_sload_n hF dL_law__2528 rfl 1 rfl ?_
  refine s_iload hF dL_law__2529 5 rfl ?_
  refine s_iconst (v := (3 : Int32)) hF dL_law__2531 kI_3 ?_
  refine s_iadd hF dL_law__2532 ?_
  refine sim_gd (fun g117 => ?_)
  refine s_sca (x := (xs (l4 + (3 : Int32)).toNatClampNeg)) hF hSc dL_law__2533 g117 rfl ?_
  refine s_sload_n hF dL_law__2534 rfl 1 rfl ?_
  refine s_iload hF dL_law__2535 5 rfl ?_
  refine s_iconst (v := (4 : Int32)) hF dL_law__2537 kI_4 ?_
  refine s_iadd hF dL_law__2538 ?_
  refine sim_gd (fun g118 => ?_)
  refine s_sca (x := (xs (l4 + (4 : Int32)).toNatClampNeg)) hF hSc dL_law__2539 g118 rfl ?_
  refine s_sload_n hF dL_law__2540 rfl 1 rfl ?_
  refine s_iload hF dL_law__2541 5 rfl ?_
  refine s_iconst (v := (5 : Int32)) hF dL_law__2543 kI_5 ?_
  refine s_iadd hF dL_law__2544 ?_
  refine sim_gd (fun g119 => ?_)
  refine s_sca (x := (xs (l4 + (5 : Int32)).toNatClampNeg)) hF hSc dL_law__2545 g119 rfl ?_
  refine s_sload_n hF dL_law__2546 rfl 1 rfl ?_
  refine s_iload hF dL_law__2547 5 rfl ?_
  refine s_bipush (v := (6 : Int32)) hF dL_law__2549 kB_6 ?_
  refine s_iadd hF dL_law__2551 ?_
  refine sim_gd (fun g120 => ?_)
  refine s_sca (x := (xs (l4 + (6 : Int32)).toNatClampNeg)) hF hSc dL_law__2552 g120 rfl ?_
  refine s_cVi (st := []) (ci := 12) [.int (xs (l4 + (1 : Int32)).toNatClampNeg), .int (xs (l4 + (2 : Int32)).toNatClampNeg), .int (xs (l4 + (3 : Int32)).toNatClampNeg), .int (xs (l4 + (4 : Int32)).toNatClampNeg), .int (xs (l4 + (5 : Int32)).toNatClampNeg), .int (xs (l4 + (6 : Int32)).toNatClampNeg)] hF hDr dL_law__2553 cwL_252 (Nat.le_of_ble_eq_true rfl) (Nat.le_of_ble_eq_true rfl) rfl rfl (Nat.le_of_ble_eq_true rfl) (isK.mo f2 hm114) rfl rfl (Nat.le_of_ble_eq_true rfl) (ctX12_span l2 (xs (l4 + (1 : Int32)).toNatClampNeg) (xs (l4 + (2 : Int32)).toNatClampNeg) (xs (l4 + (3 : Int32)).toNatClampNeg) (xs (l4 + (4 : Int32)).toNatClampNeg) (xs (l4 + (5 : Int32)).toNatClampNeg) (xs (l4 + (6 : Int32)).toNatClampNeg) _) (fun r121 m122 hl123 hm124 => ?_)
  refine s_istore (pls' := [(6, .int r121), (5, .int r111), (0, .retAddr 300), (1, .ref l1), (2, .ref l2), (3, .ref l3), (4, .int l4)]) hF dL_law__2556 (by decide) rfl ?_
  refine s_aload_n hF dL_law__2558 rfl 4 rfl ?_
  refine s_cVi (st := []) (ci := 12) [] hF hDr dL_law__2559 cwL_134 (Nat.le_of_ble_eq_true rfl) (Nat.le_of_ble_eq_true rfl) rfl rfl (Nat.le_of_ble_eq_true rfl) (isK.mo (isK.mo f2 hm114) hm124) rfl rfl (Nat.le_of_ble_eq_true rfl) (ctX12_thrown l2 _) (fun r125 m126 hl127 hm128 => ?_)
  refine s_iload hF dL_law__2562 1 rfl ?_
  refine s_icmp_eq (tgt := 2569) hF dL_law__2564 rfl (fun c129 => ?_) (fun c129 => ?_)
  · refine s_iload hF dL_law__2569 1 rfl ?_
    refine s_if_ne (tgt := 2586) hF dL_law__2571 rfl (fun c130 => ?_) (fun c130 => ?_)
    · refine s_aload_n hF dL_law__2574 rfl 5 rfl ?_
      refine s_iconst (v := (0 : Int32)) hF dL_law__2575 kI_0 ?_
      refine sim_gd (fun g131 => ?_)
      refine s_laload (x := (g_L m126 l3 (0 : Int32).toNatClampNeg)) hF dL_law__2576 g131 rfl ?_
      refine s_iload hF dL_law__2577 0 rfl ?_
      refine s_i2l hF dL_law__2579 ?_
      refine s_lcmp hF dL_law__2580 ?_
      refine s_if_eq (tgt := 2586) hF dL_law__2581 rfl (fun c132 => ?_) (fun c132 => ?_)
      · refine s_goto (tgt := 2665) hF dL_law__2586 rfl ?_
        refine s_iinc (v := (l4 + (9 : Int32))) (pls' := [(4, .int (l4 + (9 : Int32))), (6, .int r121), (5, .int r111), (0, .retAddr 300), (1, .ref l1), (2, .ref l2), (3, .ref l3)]) hF dL_law__2665 6 rfl rfl (by decide) rfl ?_
        refine s_goto (tgt := 23) hF dL_law__2668 rfl ?_
        refine s_sub [3, 4, 5, 6, 0] rfl ?_
        exact hq23 l1 l2 l3 (l4 + (9 : Int32)) _ (isK.mo (isK.mo (isK.mo f1 hm114) hm124) hm128) (isK.mo (isK.mo (isK.mo f2 hm114) hm124) hm128) (isK.mo (isK.mo (isK.mo f3 hm114) hm124) hm128)
      · refine s_iconst (v := (0 : Int32)) hF dL_law__2584 kI_0 ?_
        exact sim_none
    · refine s_goto (tgt := 2665) hF dL_law__2586 rfl ?_
      refine s_iinc (v := (l4 + (9 : Int32))) (pls' := [(4, .int (l4 + (9 : Int32))), (6, .int r121), (5, .int r111), (0, .retAddr 300), (1, .ref l1), (2, .ref l2), (3, .ref l3)]) hF dL_law__2665 6 rfl rfl (by decide) rfl ?_
      refine s_goto (tgt := 23) hF dL_law__2668 rfl ?_
      refine s_sub [3, 4, 5, 6, 0] rfl ?_
      exact hq23 l1 l2 l3 (l4 + (9 : Int32)) _ (isK.mo (isK.mo (isK.mo f1 hm114) hm124) hm128) (isK.mo (isK.mo (isK.mo f2 hm114) hm124) hm128) (isK.mo (isK.mo (isK.mo f3 hm114) hm124) hm128)
  · refine s_iconst (v := (0 : Int32)) hF dL_law__2567 kI_0 ?_
    exact sim_none
theorem sL_law__2589 {F : Option Fx} {Ls : Nat} {xs : Nat → Int32} (q23 : Nat → Nat → Nat → Int32 → Mem → Option (Unit × Mem)) (hF : FxO F RL cL_law_ 7 100) (hD : FxLO F) (hDr : DrO F) (hSc : FxS F Ls xs) (hQ : FxLQ F) (hq23 : ∀ (l1 : Nat) (l2 : Nat) (l3 : Nat) (l4 : Int32) (μ : Mem) (_ : isK μ l1 11 = true) (_ : isK μ l2 12 = true) (_ : isK μ l3 16 = true), Sim F encV 23 [(0, .retAddr 300), (1, .ref l1), (2, .ref l2), (3, .ref l3), (4, .int l4)] [] μ (q23 l1 l2 l3 l4 μ)) (l1 : Nat) (l2 : Nat) (l3 : Nat) (l4 : Int32) (μ : Mem) (f1 : isK μ l1 11 = true) (f2 : isK μ l2 12 = true) (f3 : isK μ l3 16 = true) : Sim F encV 2589 [(0, .retAddr 300), (1, .ref l1), (2, .ref l2), (3, .ref l3), (4, .int l4)] [] μ (mL_law__2589 Ls xs q23 l1 l2 l3 l4 μ) := by
  unfold mL_law__2589
  refine s_aload_n hF dL_law__2589 rfl 1 rfl ?_
  refine s_lVi (st := []) (ci := 11) [] hF hD dL_law__2590 cwL_253 (Nat.le_of_ble_eq_true rfl) (Nat.le_of_ble_eq_true rfl) rfl rfl (Nat.le_of_ble_eq_true rfl) f1 rfl rfl (Nat.le_of_ble_eq_true rfl) (ctX11_image l1 _) (fun r96 m97 hl98 hm99 => ?_)
  refine s_aload_n hF dL_law__2593 rfl 2 rfl ?_
  refine s_cVi (st := [.int r96]) (ci := 12) [] hF hDr dL_law__2594 cwL_256 (Nat.le_of_ble_eq_true rfl) (Nat.le_of_ble_eq_true rfl) rfl rfl (Nat.le_of_ble_eq_true rfl) (isK.mo f2 hm99) rfl rfl (Nat.le_of_ble_eq_true rfl) (ctX12_image l2 _) (fun r100 m101 hl102 hm103 => ?_)
  refine s_icmp_eq (tgt := 2665) hF dL_law__2597 rfl (fun c104 => ?_) (fun c104 => ?_)
  · refine s_iinc (v := (l4 + (9 : Int32))) (pls' := [(4, .int (l4 + (9 : Int32))), (0, .retAddr 300), (1, .ref l1), (2, .ref l2), (3, .ref l3)]) hF dL_law__2665 4 rfl rfl (by decide) rfl ?_
    refine s_goto (tgt := 23) hF dL_law__2668 rfl ?_
    refine s_sub [1, 2, 3, 4, 0] rfl ?_
    exact hq23 l1 l2 l3 (l4 + (9 : Int32)) _ (isK.mo (isK.mo f1 hm99) hm103) (isK.mo (isK.mo f2 hm99) hm103) (isK.mo (isK.mo f3 hm99) hm103)
  · refine s_iconst (v := (0 : Int32)) hF dL_law__2600 kI_0 ?_
    exact sim_none
theorem sL_law__2602 {F : Option Fx} {Ls : Nat} {xs : Nat → Int32} (q23 : Nat → Nat → Nat → Int32 → Mem → Option (Unit × Mem)) (hF : FxO F RL cL_law_ 7 100) (hD : FxLO F) (hDr : DrO F) (hSc : FxS F Ls xs) (hQ : FxLQ F) (hq23 : ∀ (l1 : Nat) (l2 : Nat) (l3 : Nat) (l4 : Int32) (μ : Mem) (_ : isK μ l1 11 = true) (_ : isK μ l2 12 = true) (_ : isK μ l3 16 = true), Sim F encV 23 [(0, .retAddr 300), (1, .ref l1), (2, .ref l2), (3, .ref l3), (4, .int l4)] [] μ (q23 l1 l2 l3 l4 μ)) (l1 : Nat) (l2 : Nat) (l3 : Nat) (l4 : Int32) (μ : Mem) (f1 : isK μ l1 11 = true) (f2 : isK μ l2 12 = true) (f3 : isK μ l3 16 = true) : Sim F encV 2602 [(0, .retAddr 300), (1, .ref l1), (2, .ref l2), (3, .ref l3), (4, .int l4)] [] μ (mL_law__2602 Ls xs q23 l1 l2 l3 l4 μ) := by
  unfold mL_law__2602
  refine s_aload_n hF dL_law__2602 rfl 1 rfl ?_
  refine s_lVi (st := []) (ci := 11) [] hF hD dL_law__2603 cwL_257 (Nat.le_of_ble_eq_true rfl) (Nat.le_of_ble_eq_true rfl) rfl rfl (Nat.le_of_ble_eq_true rfl) f1 rfl rfl (Nat.le_of_ble_eq_true rfl) (ctX11_restore l1 _) (fun r87 m88 hl89 hm90 => ?_)
  refine s_aload_n hF dL_law__2606 rfl 2 rfl ?_
  refine s_cVi (st := [.int r87]) (ci := 12) [] hF hDr dL_law__2607 cwL_260 (Nat.le_of_ble_eq_true rfl) (Nat.le_of_ble_eq_true rfl) rfl rfl (Nat.le_of_ble_eq_true rfl) (isK.mo f2 hm90) rfl rfl (Nat.le_of_ble_eq_true rfl) (ctX12_restore l2 _) (fun r91 m92 hl93 hm94 => ?_)
  refine s_icmp_eq (tgt := 2665) hF dL_law__2610 rfl (fun c95 => ?_) (fun c95 => ?_)
  · refine s_iinc (v := (l4 + (9 : Int32))) (pls' := [(4, .int (l4 + (9 : Int32))), (0, .retAddr 300), (1, .ref l1), (2, .ref l2), (3, .ref l3)]) hF dL_law__2665 4 rfl rfl (by decide) rfl ?_
    refine s_goto (tgt := 23) hF dL_law__2668 rfl ?_
    refine s_sub [1, 2, 3, 4, 0] rfl ?_
    exact hq23 l1 l2 l3 (l4 + (9 : Int32)) _ (isK.mo (isK.mo f1 hm90) hm94) (isK.mo (isK.mo f2 hm90) hm94) (isK.mo (isK.mo f3 hm90) hm94)
  · refine s_iconst (v := (0 : Int32)) hF dL_law__2613 kI_0 ?_
    exact sim_none
theorem sL_law__2615 {F : Option Fx} {Ls : Nat} {xs : Nat → Int32} (q23 : Nat → Nat → Nat → Int32 → Mem → Option (Unit × Mem)) (hF : FxO F RL cL_law_ 7 100) (hD : FxLO F) (hDr : DrO F) (hSc : FxS F Ls xs) (hQ : FxLQ F) (hq23 : ∀ (l1 : Nat) (l2 : Nat) (l3 : Nat) (l4 : Int32) (μ : Mem) (_ : isK μ l1 11 = true) (_ : isK μ l2 12 = true) (_ : isK μ l3 16 = true), Sim F encV 23 [(0, .retAddr 300), (1, .ref l1), (2, .ref l2), (3, .ref l3), (4, .int l4)] [] μ (q23 l1 l2 l3 l4 μ)) (l1 : Nat) (l2 : Nat) (l3 : Nat) (l4 : Int32) (μ : Mem) (f1 : isK μ l1 11 = true) (f2 : isK μ l2 12 = true) (f3 : isK μ l3 16 = true) : Sim F encV 2615 [(0, .retAddr 300), (1, .ref l1), (2, .ref l2), (3, .ref l3), (4, .int l4)] [] μ (mL_law__2615 Ls xs q23 l1 l2 l3 l4 μ) := by
  unfold mL_law__2615
  refine s_aload_n hF dL_law__2615 rfl 1 rfl ?_
  refine s_sload_n hF dL_law__2616 rfl 0 rfl ?_
  refine s_iload hF dL_law__2617 4 rfl ?_
  refine s_iconst (v := (1 : Int32)) hF dL_law__2619 kI_1 ?_
  refine s_iadd hF dL_law__2620 ?_
  refine sim_gd (fun g76 => ?_)
  refine s_sca (x := (xs (l4 + (1 : Int32)).toNatClampNeg)) hF hSc dL_law__2621 g76 rfl ?_
  refine s_lVi (st := []) (ci := 11) [.int (xs (l4 + (1 : Int32)).toNatClampNeg)] hF hD dL_law__2622 cwL_261 (Nat.le_of_ble_eq_true rfl) (Nat.le_of_ble_eq_true rfl) rfl rfl (Nat.le_of_ble_eq_true rfl) f1 rfl rfl (Nat.le_of_ble_eq_true rfl) (ctX11_status l1 (xs (l4 + (1 : Int32)).toNatClampNeg) _) (fun r77 m78 hl79 hm80 => ?_)
  refine s_aload_n hF dL_law__2625 rfl 2 rfl ?_
  refine s_sload_n hF dL_law__2626 rfl 0 rfl ?_
  refine s_iload hF dL_law__2627 4 rfl ?_
  refine s_iconst (v := (1 : Int32)) hF dL_law__2629 kI_1 ?_
  refine s_iadd hF dL_law__2630 ?_
  refine sim_gd (fun g81 => ?_)
  refine s_sca (x := (xs (l4 + (1 : Int32)).toNatClampNeg)) hF hSc dL_law__2631 g81 rfl ?_
  refine s_cVi (st := [.int r77]) (ci := 12) [.int (xs (l4 + (1 : Int32)).toNatClampNeg)] hF hDr dL_law__2632 cwL_264 (Nat.le_of_ble_eq_true rfl) (Nat.le_of_ble_eq_true rfl) rfl rfl (Nat.le_of_ble_eq_true rfl) (isK.mo f2 hm80) rfl rfl (Nat.le_of_ble_eq_true rfl) (ctX12_status l2 (xs (l4 + (1 : Int32)).toNatClampNeg) _) (fun r82 m83 hl84 hm85 => ?_)
  refine s_icmp_eq (tgt := 2665) hF dL_law__2635 rfl (fun c86 => ?_) (fun c86 => ?_)
  · refine s_iinc (v := (l4 + (9 : Int32))) (pls' := [(4, .int (l4 + (9 : Int32))), (0, .retAddr 300), (1, .ref l1), (2, .ref l2), (3, .ref l3)]) hF dL_law__2665 4 rfl rfl (by decide) rfl ?_
    refine s_goto (tgt := 23) hF dL_law__2668 rfl ?_
    refine s_sub [1, 2, 3, 4, 0] rfl ?_
    exact hq23 l1 l2 l3 (l4 + (9 : Int32)) _ (isK.mo (isK.mo f1 hm80) hm85) (isK.mo (isK.mo f2 hm80) hm85) (isK.mo (isK.mo f3 hm80) hm85)
  · refine s_iconst (v := (0 : Int32)) hF dL_law__2638 kI_0 ?_
    exact sim_none
theorem sL_law__2640 {F : Option Fx} {Ls : Nat} {xs : Nat → Int32} (q23 : Nat → Nat → Nat → Int32 → Mem → Option (Unit × Mem)) (hF : FxO F RL cL_law_ 7 100) (hD : FxLO F) (hDr : DrO F) (hSc : FxS F Ls xs) (hQ : FxLQ F) (hq23 : ∀ (l1 : Nat) (l2 : Nat) (l3 : Nat) (l4 : Int32) (μ : Mem) (_ : isK μ l1 11 = true) (_ : isK μ l2 12 = true) (_ : isK μ l3 16 = true), Sim F encV 23 [(0, .retAddr 300), (1, .ref l1), (2, .ref l2), (3, .ref l3), (4, .int l4)] [] μ (q23 l1 l2 l3 l4 μ)) (l1 : Nat) (l2 : Nat) (l3 : Nat) (l4 : Int32) (μ : Mem) (f1 : isK μ l1 11 = true) (f2 : isK μ l2 12 = true) (f3 : isK μ l3 16 = true) : Sim F encV 2640 [(0, .retAddr 300), (1, .ref l1), (2, .ref l2), (3, .ref l3), (4, .int l4)] [] μ (mL_law__2640 Ls xs q23 l1 l2 l3 l4 μ) := by
  unfold mL_law__2640
  refine s_aload_n hF dL_law__2640 rfl 1 rfl ?_
  refine s_sload_n hF dL_law__2641 rfl 0 rfl ?_
  refine s_iload hF dL_law__2642 4 rfl ?_
  refine s_iconst (v := (1 : Int32)) hF dL_law__2644 kI_1 ?_
  refine s_iadd hF dL_law__2645 ?_
  refine sim_gd (fun g65 => ?_)
  refine s_sca (x := (xs (l4 + (1 : Int32)).toNatClampNeg)) hF hSc dL_law__2646 g65 rfl ?_
  refine s_lVi (st := []) (ci := 11) [.int (xs (l4 + (1 : Int32)).toNatClampNeg)] hF hD dL_law__2647 cwL_265 (Nat.le_of_ble_eq_true rfl) (Nat.le_of_ble_eq_true rfl) rfl rfl (Nat.le_of_ble_eq_true rfl) f1 rfl rfl (Nat.le_of_ble_eq_true rfl) (ctX11_count l1 (xs (l4 + (1 : Int32)).toNatClampNeg) _) (fun r66 m67 hl68 hm69 => ?_)
  refine s_aload_n hF dL_law__2650 rfl 2 rfl ?_
  refine s_sload_n hF dL_law__2651 rfl 0 rfl ?_
  refine s_iload hF dL_law__2652 4 rfl ?_
  refine s_iconst (v := (1 : Int32)) hF dL_law__2654 kI_1 ?_
  refine s_iadd hF dL_law__2655 ?_
  refine sim_gd (fun g70 => ?_)
  refine s_sca (x := (xs (l4 + (1 : Int32)).toNatClampNeg)) hF hSc dL_law__2656 g70 rfl ?_
  refine s_cVi (st := [.int r66]) (ci := 12) [.int (xs (l4 + (1 : Int32)).toNatClampNeg)] hF hDr dL_law__2657 cwL_268 (Nat.le_of_ble_eq_true rfl) (Nat.le_of_ble_eq_true rfl) rfl rfl (Nat.le_of_ble_eq_true rfl) (isK.mo f2 hm69) rfl rfl (Nat.le_of_ble_eq_true rfl) (ctX12_count l2 (xs (l4 + (1 : Int32)).toNatClampNeg) _) (fun r71 m72 hl73 hm74 => ?_)
  refine s_icmp_eq (tgt := 2665) hF dL_law__2660 rfl (fun c75 => ?_) (fun c75 => ?_)
  · refine s_iinc (v := (l4 + (9 : Int32))) (pls' := [(4, .int (l4 + (9 : Int32))), (0, .retAddr 300), (1, .ref l1), (2, .ref l2), (3, .ref l3)]) hF dL_law__2665 4 rfl rfl (by decide) rfl ?_
    refine s_goto (tgt := 23) hF dL_law__2668 rfl ?_
    refine s_sub [1, 2, 3, 4, 0] rfl ?_
    exact hq23 l1 l2 l3 (l4 + (9 : Int32)) _ (isK.mo (isK.mo f1 hm69) hm74) (isK.mo (isK.mo f2 hm69) hm74) (isK.mo (isK.mo f3 hm69) hm74)
  · refine s_iconst (v := (0 : Int32)) hF dL_law__2663 kI_0 ?_
    exact sim_none
theorem sL_law__23 {F : Option Fx} {Ls : Nat} {xs : Nat → Int32} (hF : FxO F RL cL_law_ 7 100) (hD : FxLO F) (hDr : DrO F) (hSc : FxS F Ls xs) (hQ : FxLQ F) : ∀ (fu : Nat) (l1 : Nat) (l2 : Nat) (l3 : Nat) (l4 : Int32) (μ : Mem) (f1 : isK μ l1 11 = true) (f2 : isK μ l2 12 = true) (f3 : isK μ l3 16 = true), Sim F encV 23 [(0, .retAddr 300), (1, .ref l1), (2, .ref l2), (3, .ref l3), (4, .int l4)] [] μ (mL_law__23 Ls xs fu l1 l2 l3 l4 μ) := by
  intro fu
  induction fu with
  | zero =>
    intro l1 l2 l3 l4 μ f1 f2 f3
    exact sim_none
  | succ fu ih =>
    intro l1 l2 l3 l4 μ f1 f2 f3
    rw [mL_law__23]
    refine s_iload hF dL_law__23 4 rfl ?_
    refine s_sload_n hF dL_law__25 rfl 0 rfl ?_
    refine s_scl hF hSc dL_law__26 ?_
    refine s_bipush (v := (9 : Int32)) hF dL_law__27 kB_9 ?_
    refine s_isub hF dL_law__29 ?_
    refine s_icmp_gt (tgt := 2671) hF dL_law__30 rfl (fun c21 => ?_) (fun c21 => ?_)
    · refine s_iconst (v := (1 : Int32)) hF dL_law__2671 kI_1 ?_
      refine sim_gd (fun g22 => ?_)
      exact s_lret hF hQ dL_law__2672 g22
    · refine s_sload_n hF dL_law__33 rfl 0 rfl ?_
      refine s_iload hF dL_law__34 4 rfl ?_
      refine sim_gd (fun g23 => ?_)
      refine s_sca (x := (xs l4.toNatClampNeg)) hF hSc dL_law__36 g23 rfl ?_
      refine s_bipush (v := (63 : Int32)) hF dL_law__37 kB_63 ?_
      refine s_iand hF dL_law__39 ?_
      refine sim_if (fun c24 => ?_) (fun c24 => ?_)
      · refine s_tin (v := (0 : Int32)) (tgt := 220) hF dL_law__40 c24 (by decide) (by decide) rfl rfl ?_
        exact sL_law__220 (fun l1 l2 l3 l4 μ => mL_law__23 Ls xs fu l1 l2 l3 l4 μ) hF hD hDr hSc hQ ih l1 l2 l3 l4 _ f1 f2 f3
      · refine sim_if (fun c25 => ?_) (fun c25 => ?_)
        · refine s_tin (v := (1 : Int32)) (tgt := 293) hF dL_law__40 c25 (by decide) (by decide) rfl rfl ?_
          exact sL_law__293 (fun l1 l2 l3 l4 μ => mL_law__23 Ls xs fu l1 l2 l3 l4 μ) hF hD hDr hSc hQ ih l1 l2 l3 l4 _ f1 f2 f3
        · refine sim_if (fun c26 => ?_) (fun c26 => ?_)
          · refine s_tin (v := (2 : Int32)) (tgt := 349) hF dL_law__40 c26 (by decide) (by decide) rfl rfl ?_
            exact sL_law__349 (fun l1 l2 l3 l4 μ => mL_law__23 Ls xs fu l1 l2 l3 l4 μ) hF hD hDr hSc hQ ih l1 l2 l3 l4 _ f1 f2 f3
          · refine sim_if (fun c27 => ?_) (fun c27 => ?_)
            · refine s_tin (v := (3 : Int32)) (tgt := 405) hF dL_law__40 c27 (by decide) (by decide) rfl rfl ?_
              exact sL_law__405 (fun l1 l2 l3 l4 μ => mL_law__23 Ls xs fu l1 l2 l3 l4 μ) hF hD hDr hSc hQ ih l1 l2 l3 l4 _ f1 f2 f3
            · refine sim_if (fun c28 => ?_) (fun c28 => ?_)
              · refine s_tin (v := (4 : Int32)) (tgt := 461) hF dL_law__40 c28 (by decide) (by decide) rfl rfl ?_
                exact sL_law__461 (fun l1 l2 l3 l4 μ => mL_law__23 Ls xs fu l1 l2 l3 l4 μ) hF hD hDr hSc hQ ih l1 l2 l3 l4 _ f1 f2 f3
              · refine sim_if (fun c29 => ?_) (fun c29 => ?_)
                · refine s_tin (v := (5 : Int32)) (tgt := 517) hF dL_law__40 c29 (by decide) (by decide) rfl rfl ?_
                  exact sL_law__517 (fun l1 l2 l3 l4 μ => mL_law__23 Ls xs fu l1 l2 l3 l4 μ) hF hD hDr hSc hQ ih l1 l2 l3 l4 _ f1 f2 f3
                · refine sim_if (fun c30 => ?_) (fun c30 => ?_)
                  · refine s_tin (v := (6 : Int32)) (tgt := 573) hF dL_law__40 c30 (by decide) (by decide) rfl rfl ?_
                    exact sL_law__573 (fun l1 l2 l3 l4 μ => mL_law__23 Ls xs fu l1 l2 l3 l4 μ) hF hD hDr hSc hQ ih l1 l2 l3 l4 _ f1 f2 f3
                  · refine sim_if (fun c31 => ?_) (fun c31 => ?_)
                    · refine s_tin (v := (7 : Int32)) (tgt := 586) hF dL_law__40 c31 (by decide) (by decide) rfl rfl ?_
                      exact sL_law__586 (fun l1 l2 l3 l4 μ => mL_law__23 Ls xs fu l1 l2 l3 l4 μ) hF hD hDr hSc hQ ih l1 l2 l3 l4 _ f1 f2 f3
                    · refine sim_if (fun c32 => ?_) (fun c32 => ?_)
                      · refine s_tin (v := (8 : Int32)) (tgt := 599) hF dL_law__40 c32 (by decide) (by decide) rfl rfl ?_
                        exact sL_law__599 (fun l1 l2 l3 l4 μ => mL_law__23 Ls xs fu l1 l2 l3 l4 μ) hF hD hDr hSc hQ ih l1 l2 l3 l4 _ f1 f2 f3
                      · refine sim_if (fun c33 => ?_) (fun c33 => ?_)
                        · refine s_tin (v := (9 : Int32)) (tgt := 655) hF dL_law__40 c33 (by decide) (by decide) rfl rfl ?_
                          exact sL_law__655 (fun l1 l2 l3 l4 μ => mL_law__23 Ls xs fu l1 l2 l3 l4 μ) hF hD hDr hSc hQ ih l1 l2 l3 l4 _ f1 f2 f3
                        · refine sim_if (fun c34 => ?_) (fun c34 => ?_)
                          · refine s_tin (v := (10 : Int32)) (tgt := 723) hF dL_law__40 c34 (by decide) (by decide) rfl rfl ?_
                            exact sL_law__723 (fun l1 l2 l3 l4 μ => mL_law__23 Ls xs fu l1 l2 l3 l4 μ) hF hD hDr hSc hQ ih l1 l2 l3 l4 _ f1 f2 f3
                          · refine sim_if (fun c35 => ?_) (fun c35 => ?_)
                            · refine s_tin (v := (11 : Int32)) (tgt := 791) hF dL_law__40 c35 (by decide) (by decide) rfl rfl ?_
                              exact sL_law__791 (fun l1 l2 l3 l4 μ => mL_law__23 Ls xs fu l1 l2 l3 l4 μ) hF hD hDr hSc hQ ih l1 l2 l3 l4 _ f1 f2 f3
                            · refine sim_if (fun c36 => ?_) (fun c36 => ?_)
                              · refine s_tin (v := (12 : Int32)) (tgt := 859) hF dL_law__40 c36 (by decide) (by decide) rfl rfl ?_
                                exact sL_law__859 (fun l1 l2 l3 l4 μ => mL_law__23 Ls xs fu l1 l2 l3 l4 μ) hF hD hDr hSc hQ ih l1 l2 l3 l4 _ f1 f2 f3
                              · refine sim_if (fun c37 => ?_) (fun c37 => ?_)
                                · refine s_tin (v := (13 : Int32)) (tgt := 927) hF dL_law__40 c37 (by decide) (by decide) rfl rfl ?_
                                  exact sL_law__927 (fun l1 l2 l3 l4 μ => mL_law__23 Ls xs fu l1 l2 l3 l4 μ) hF hD hDr hSc hQ ih l1 l2 l3 l4 _ f1 f2 f3
                                · refine sim_if (fun c38 => ?_) (fun c38 => ?_)
                                  · refine s_tin (v := (14 : Int32)) (tgt := 995) hF dL_law__40 c38 (by decide) (by decide) rfl rfl ?_
                                    exact sL_law__995 (fun l1 l2 l3 l4 μ => mL_law__23 Ls xs fu l1 l2 l3 l4 μ) hF hD hDr hSc hQ ih l1 l2 l3 l4 _ f1 f2 f3
                                  · refine sim_if (fun c39 => ?_) (fun c39 => ?_)
                                    · refine s_tin (v := (15 : Int32)) (tgt := 1141) hF dL_law__40 c39 (by decide) (by decide) rfl rfl ?_
                                      exact sL_law__1141 (fun l1 l2 l3 l4 μ => mL_law__23 Ls xs fu l1 l2 l3 l4 μ) hF hD hDr hSc hQ ih l1 l2 l3 l4 _ f1 f2 f3
                                    · refine sim_if (fun c40 => ?_) (fun c40 => ?_)
                                      · refine s_tin (v := (16 : Int32)) (tgt := 1197) hF dL_law__40 c40 (by decide) (by decide) rfl rfl ?_
                                        exact sL_law__1197 (fun l1 l2 l3 l4 μ => mL_law__23 Ls xs fu l1 l2 l3 l4 μ) hF hD hDr hSc hQ ih l1 l2 l3 l4 _ f1 f2 f3
                                      · refine sim_if (fun c41 => ?_) (fun c41 => ?_)
                                        · refine s_tin (v := (17 : Int32)) (tgt := 1265) hF dL_law__40 c41 (by decide) (by decide) rfl rfl ?_
                                          exact sL_law__1265 (fun l1 l2 l3 l4 μ => mL_law__23 Ls xs fu l1 l2 l3 l4 μ) hF hD hDr hSc hQ ih l1 l2 l3 l4 _ f1 f2 f3
                                        · refine sim_if (fun c42 => ?_) (fun c42 => ?_)
                                          · refine s_tin (v := (18 : Int32)) (tgt := 1333) hF dL_law__40 c42 (by decide) (by decide) rfl rfl ?_
                                            exact sL_law__1333 (fun l1 l2 l3 l4 μ => mL_law__23 Ls xs fu l1 l2 l3 l4 μ) hF hD hDr hSc hQ ih l1 l2 l3 l4 _ f1 f2 f3
                                          · refine sim_if (fun c43 => ?_) (fun c43 => ?_)
                                            · refine s_tin (v := (19 : Int32)) (tgt := 1389) hF dL_law__40 c43 (by decide) (by decide) rfl rfl ?_
                                              exact sL_law__1389 (fun l1 l2 l3 l4 μ => mL_law__23 Ls xs fu l1 l2 l3 l4 μ) hF hD hDr hSc hQ ih l1 l2 l3 l4 _ f1 f2 f3
                                            · refine sim_if (fun c44 => ?_) (fun c44 => ?_)
                                              · refine s_tin (v := (20 : Int32)) (tgt := 1457) hF dL_law__40 c44 (by decide) (by decide) rfl rfl ?_
                                                exact sL_law__1457 (fun l1 l2 l3 l4 μ => mL_law__23 Ls xs fu l1 l2 l3 l4 μ) hF hD hDr hSc hQ ih l1 l2 l3 l4 _ f1 f2 f3
                                              · refine sim_if (fun c45 => ?_) (fun c45 => ?_)
                                                · refine s_tin (v := (21 : Int32)) (tgt := 1537) hF dL_law__40 c45 (by decide) (by decide) rfl rfl ?_
                                                  exact sL_law__1537 (fun l1 l2 l3 l4 μ => mL_law__23 Ls xs fu l1 l2 l3 l4 μ) hF hD hDr hSc hQ ih l1 l2 l3 l4 _ f1 f2 f3
                                                · refine sim_if (fun c46 => ?_) (fun c46 => ?_)
                                                  · refine s_tin (v := (22 : Int32)) (tgt := 1617) hF dL_law__40 c46 (by decide) (by decide) rfl rfl ?_
                                                    exact sL_law__1617 (fun l1 l2 l3 l4 μ => mL_law__23 Ls xs fu l1 l2 l3 l4 μ) hF hD hDr hSc hQ ih l1 l2 l3 l4 _ f1 f2 f3
                                                  · refine sim_if (fun c47 => ?_) (fun c47 => ?_)
                                                    · refine s_tin (v := (23 : Int32)) (tgt := 1709) hF dL_law__40 c47 (by decide) (by decide) rfl rfl ?_
                                                      exact sL_law__1709 (fun l1 l2 l3 l4 μ => mL_law__23 Ls xs fu l1 l2 l3 l4 μ) hF hD hDr hSc hQ ih l1 l2 l3 l4 _ f1 f2 f3
                                                    · refine sim_if (fun c48 => ?_) (fun c48 => ?_)
                                                      · refine s_tin (v := (24 : Int32)) (tgt := 1801) hF dL_law__40 c48 (by decide) (by decide) rfl rfl ?_
                                                        exact sL_law__1801 (fun l1 l2 l3 l4 μ => mL_law__23 Ls xs fu l1 l2 l3 l4 μ) hF hD hDr hSc hQ ih l1 l2 l3 l4 _ f1 f2 f3
                                                      · refine sim_if (fun c49 => ?_) (fun c49 => ?_)
                                                        · refine s_tin (v := (25 : Int32)) (tgt := 1881) hF dL_law__40 c49 (by decide) (by decide) rfl rfl ?_
                                                          exact sL_law__1881 (fun l1 l2 l3 l4 μ => mL_law__23 Ls xs fu l1 l2 l3 l4 μ) hF hD hDr hSc hQ ih l1 l2 l3 l4 _ f1 f2 f3
                                                        · refine sim_if (fun c50 => ?_) (fun c50 => ?_)
                                                          · refine s_tin (v := (26 : Int32)) (tgt := 1961) hF dL_law__40 c50 (by decide) (by decide) rfl rfl ?_
                                                            exact sL_law__1961 (fun l1 l2 l3 l4 μ => mL_law__23 Ls xs fu l1 l2 l3 l4 μ) hF hD hDr hSc hQ ih l1 l2 l3 l4 _ f1 f2 f3
                                                          · refine sim_if (fun c51 => ?_) (fun c51 => ?_)
                                                            · refine s_tin (v := (27 : Int32)) (tgt := 1974) hF dL_law__40 c51 (by decide) (by decide) rfl rfl ?_
                                                              exact sL_law__1974 (fun l1 l2 l3 l4 μ => mL_law__23 Ls xs fu l1 l2 l3 l4 μ) hF hD hDr hSc hQ ih l1 l2 l3 l4 _ f1 f2 f3
                                                            · refine sim_if (fun c52 => ?_) (fun c52 => ?_)
                                                              · refine s_tin (v := (28 : Int32)) (tgt := 2030) hF dL_law__40 c52 (by decide) (by decide) rfl rfl ?_
                                                                exact sL_law__2030 (fun l1 l2 l3 l4 μ => mL_law__23 Ls xs fu l1 l2 l3 l4 μ) hF hD hDr hSc hQ ih l1 l2 l3 l4 _ f1 f2 f3
                                                              · refine sim_if (fun c53 => ?_) (fun c53 => ?_)
                                                                · refine s_tin (v := (29 : Int32)) (tgt := 2055) hF dL_law__40 c53 (by decide) (by decide) rfl rfl ?_
                                                                  exact sL_law__2055 (fun l1 l2 l3 l4 μ => mL_law__23 Ls xs fu l1 l2 l3 l4 μ) hF hD hDr hSc hQ ih l1 l2 l3 l4 _ f1 f2 f3
                                                                · refine sim_if (fun c54 => ?_) (fun c54 => ?_)
                                                                  · refine s_tin (v := (30 : Int32)) (tgt := 2111) hF dL_law__40 c54 (by decide) (by decide) rfl rfl ?_
                                                                    exact sL_law__2111 (fun l1 l2 l3 l4 μ => mL_law__23 Ls xs fu l1 l2 l3 l4 μ) hF hD hDr hSc hQ ih l1 l2 l3 l4 _ f1 f2 f3
                                                                  · refine sim_if (fun c55 => ?_) (fun c55 => ?_)
                                                                    · refine s_tin (v := (31 : Int32)) (tgt := 2186) hF dL_law__40 c55 (by decide) (by decide) rfl rfl ?_
                                                                      exact sL_law__2186 (fun l1 l2 l3 l4 μ => mL_law__23 Ls xs fu l1 l2 l3 l4 μ) hF hD hDr hSc hQ ih l1 l2 l3 l4 _ f1 f2 f3
                                                                    · refine sim_if (fun c56 => ?_) (fun c56 => ?_)
                                                                      · refine s_tin (v := (32 : Int32)) (tgt := 2242) hF dL_law__40 c56 (by decide) (by decide) rfl rfl ?_
                                                                        exact sL_law__2242 (fun l1 l2 l3 l4 μ => mL_law__23 Ls xs fu l1 l2 l3 l4 μ) hF hD hDr hSc hQ ih l1 l2 l3 l4 _ f1 f2 f3
                                                                      · refine sim_if (fun c57 => ?_) (fun c57 => ?_)
                                                                        · refine s_tin (v := (33 : Int32)) (tgt := 2310) hF dL_law__40 c57 (by decide) (by decide) rfl rfl ?_
                                                                          exact sL_law__2310 (fun l1 l2 l3 l4 μ => mL_law__23 Ls xs fu l1 l2 l3 l4 μ) hF hD hDr hSc hQ ih l1 l2 l3 l4 _ f1 f2 f3
                                                                        · refine sim_if (fun c58 => ?_) (fun c58 => ?_)
                                                                          · refine s_tin (v := (34 : Int32)) (tgt := 2366) hF dL_law__40 c58 (by decide) (by decide) rfl rfl ?_
                                                                            exact sL_law__2366 (fun l1 l2 l3 l4 μ => mL_law__23 Ls xs fu l1 l2 l3 l4 μ) hF hD hDr hSc hQ ih l1 l2 l3 l4 _ f1 f2 f3
                                                                          · refine sim_if (fun c59 => ?_) (fun c59 => ?_)
                                                                            · refine s_tin (v := (35 : Int32)) (tgt := 2379) hF dL_law__40 c59 (by decide) (by decide) rfl rfl ?_
                                                                              exact sL_law__2379 (fun l1 l2 l3 l4 μ => mL_law__23 Ls xs fu l1 l2 l3 l4 μ) hF hD hDr hSc hQ ih l1 l2 l3 l4 _ f1 f2 f3
                                                                            · refine sim_if (fun c60 => ?_) (fun c60 => ?_)
                                                                              · refine s_tin (v := (36 : Int32)) (tgt := 2471) hF dL_law__40 c60 (by decide) (by decide) rfl rfl ?_
                                                                                exact sL_law__2471 (fun l1 l2 l3 l4 μ => mL_law__23 Ls xs fu l1 l2 l3 l4 μ) hF hD hDr hSc hQ ih l1 l2 l3 l4 _ f1 f2 f3
                                                                              · refine sim_if (fun c61 => ?_) (fun c61 => ?_)
                                                                                · refine s_tin (v := (37 : Int32)) (tgt := 2589) hF dL_law__40 c61 (by decide) (by decide) rfl rfl ?_
                                                                                  exact sL_law__2589 (fun l1 l2 l3 l4 μ => mL_law__23 Ls xs fu l1 l2 l3 l4 μ) hF hD hDr hSc hQ ih l1 l2 l3 l4 _ f1 f2 f3
                                                                                · refine sim_if (fun c62 => ?_) (fun c62 => ?_)
                                                                                  · refine s_tin (v := (38 : Int32)) (tgt := 2602) hF dL_law__40 c62 (by decide) (by decide) rfl rfl ?_
                                                                                    exact sL_law__2602 (fun l1 l2 l3 l4 μ => mL_law__23 Ls xs fu l1 l2 l3 l4 μ) hF hD hDr hSc hQ ih l1 l2 l3 l4 _ f1 f2 f3
                                                                                  · refine sim_if (fun c63 => ?_) (fun c63 => ?_)
                                                                                    · refine s_tin (v := (39 : Int32)) (tgt := 2615) hF dL_law__40 c63 (by decide) (by decide) rfl rfl ?_
                                                                                      exact sL_law__2615 (fun l1 l2 l3 l4 μ => mL_law__23 Ls xs fu l1 l2 l3 l4 μ) hF hD hDr hSc hQ ih l1 l2 l3 l4 _ f1 f2 f3
                                                                                    · refine sim_if (fun c64 => ?_) (fun c64 => ?_)
                                                                                      · refine s_tin (v := (40 : Int32)) (tgt := 2640) hF dL_law__40 c64 (by decide) (by decide) rfl rfl ?_
                                                                                        exact sL_law__2640 (fun l1 l2 l3 l4 μ => mL_law__23 Ls xs fu l1 l2 l3 l4 μ) hF hD hDr hSc hQ ih l1 l2 l3 l4 _ f1 f2 f3
                                                                                      · refine s_tout (tgt := 2665) hF dL_law__40 (by have e0 := i32_ne c24 (k := (0 : Int32)) (n := 0) rfl; have e1 := i32_ne c25 (k := (1 : Int32)) (n := 1) rfl; have e2 := i32_ne c26 (k := (2 : Int32)) (n := 2) rfl; have e3 := i32_ne c27 (k := (3 : Int32)) (n := 3) rfl; have e4 := i32_ne c28 (k := (4 : Int32)) (n := 4) rfl; have e5 := i32_ne c29 (k := (5 : Int32)) (n := 5) rfl; have e6 := i32_ne c30 (k := (6 : Int32)) (n := 6) rfl; have e7 := i32_ne c31 (k := (7 : Int32)) (n := 7) rfl; have e8 := i32_ne c32 (k := (8 : Int32)) (n := 8) rfl; have e9 := i32_ne c33 (k := (9 : Int32)) (n := 9) rfl; have e10 := i32_ne c34 (k := (10 : Int32)) (n := 10) rfl; have e11 := i32_ne c35 (k := (11 : Int32)) (n := 11) rfl; have e12 := i32_ne c36 (k := (12 : Int32)) (n := 12) rfl; have e13 := i32_ne c37 (k := (13 : Int32)) (n := 13) rfl; have e14 := i32_ne c38 (k := (14 : Int32)) (n := 14) rfl; have e15 := i32_ne c39 (k := (15 : Int32)) (n := 15) rfl; have e16 := i32_ne c40 (k := (16 : Int32)) (n := 16) rfl; have e17 := i32_ne c41 (k := (17 : Int32)) (n := 17) rfl; have e18 := i32_ne c42 (k := (18 : Int32)) (n := 18) rfl; have e19 := i32_ne c43 (k := (19 : Int32)) (n := 19) rfl; have e20 := i32_ne c44 (k := (20 : Int32)) (n := 20) rfl; have e21 := i32_ne c45 (k := (21 : Int32)) (n := 21) rfl; have e22 := i32_ne c46 (k := (22 : Int32)) (n := 22) rfl; have e23 := i32_ne c47 (k := (23 : Int32)) (n := 23) rfl; have e24 := i32_ne c48 (k := (24 : Int32)) (n := 24) rfl; have e25 := i32_ne c49 (k := (25 : Int32)) (n := 25) rfl; have e26 := i32_ne c50 (k := (26 : Int32)) (n := 26) rfl; have e27 := i32_ne c51 (k := (27 : Int32)) (n := 27) rfl; have e28 := i32_ne c52 (k := (28 : Int32)) (n := 28) rfl; have e29 := i32_ne c53 (k := (29 : Int32)) (n := 29) rfl; have e30 := i32_ne c54 (k := (30 : Int32)) (n := 30) rfl; have e31 := i32_ne c55 (k := (31 : Int32)) (n := 31) rfl; have e32 := i32_ne c56 (k := (32 : Int32)) (n := 32) rfl; have e33 := i32_ne c57 (k := (33 : Int32)) (n := 33) rfl; have e34 := i32_ne c58 (k := (34 : Int32)) (n := 34) rfl; have e35 := i32_ne c59 (k := (35 : Int32)) (n := 35) rfl; have e36 := i32_ne c60 (k := (36 : Int32)) (n := 36) rfl; have e37 := i32_ne c61 (k := (37 : Int32)) (n := 37) rfl; have e38 := i32_ne c62 (k := (38 : Int32)) (n := 38) rfl; have e39 := i32_ne c63 (k := (39 : Int32)) (n := 39) rfl; have e40 := i32_ne c64 (k := (40 : Int32)) (n := 40) rfl; omega) rfl ?_
                                                                                        refine s_iinc (v := (l4 + (9 : Int32))) (pls' := [(4, .int (l4 + (9 : Int32))), (0, .retAddr 300), (1, .ref l1), (2, .ref l2), (3, .ref l3)]) hF dL_law__2665 4 rfl rfl (by decide) rfl ?_
                                                                                        refine s_goto (tgt := 23) hF dL_law__2668 rfl ?_
                                                                                        refine s_sub [1, 2, 3, 4, 0] rfl ?_
                                                                                        exact ih l1 l2 l3 (l4 + (9 : Int32)) _ f1 f2 f3
theorem ctL_law_ {F : Option Fx} {Ls : Nat} {xs : Nat → Int32} (hF : FxO F RL cL_law_ 7 100) (hD : FxLO F) (hDr : DrO F) (hSc : FxS F Ls xs) (hQ : FxLQ F) (μ : Mem) : Sim F encV 0 [(0, .retAddr 300)] [] μ (LL_law_ Ls xs μ) := by
  unfold LL_law_
  refine s_newN hF dL_law__0 clL_8 insX11 wnX11 ckX11 (fun r1 m2 hk3 hm4 => ?_)
  refine s_dup hF dL_law__3 rfl ?_
  refine s_lIv (st := [.ref r1]) [] hF hD dL_law__4 cwL_119 (Nat.le_of_ble_eq_true rfl) (Nat.le_of_ble_eq_true rfl) rfl rfl (Nat.le_of_ble_eq_true rfl) (ctX11_init r1 _) (fun r5 m6 hl7 hm8 => ?_)
  refine s_astore_n (pls' := [(1, .ref r1), (0, .retAddr 300)]) hF dL_law__7 rfl (by decide) rfl ?_
  refine s_newN hF dL_law__8 clL_120 insX12 wnX12 ckX12 (fun r9 m10 hk11 hm12 => ?_)
  refine s_dup hF dL_law__11 rfl ?_
  refine s_lIv (st := [.ref r9]) [] hF hD dL_law__12 cwL_122 (Nat.le_of_ble_eq_true rfl) (Nat.le_of_ble_eq_true rfl) rfl rfl (Nat.le_of_ble_eq_true rfl) (ctxX12_init r9 _) (fun r13 m14 hl15 hm16 => ?_)
  refine s_astore_n (pls' := [(2, .ref r9), (1, .ref r1), (0, .retAddr 300)]) hF dL_law__15 rfl (by decide) rfl ?_
  refine s_iconst (v := (1 : Int32)) hF dL_law__16 kI_1 ?_
  refine s_newLN (1) hF dL_law__17 ac_long (by decide) rfl (Nat.le_of_ble_eq_true rfl) (fun r17 m18 hk19 hm20 => ?_)
  refine s_astore_n (pls' := [(3, .ref r17), (2, .ref r9), (1, .ref r1), (0, .retAddr 300)]) hF dL_law__19 rfl (by decide) rfl ?_
  refine s_iconst (v := (0 : Int32)) hF dL_law__20 kI_0 ?_
  refine s_istore (pls' := [(4, .int (0 : Int32)), (3, .ref r17), (2, .ref r9), (1, .ref r1), (0, .retAddr 300)]) hF dL_law__21 (by decide) rfl ?_
  refine s_sub [4, 3, 2, 1, 0] rfl ?_
  exact sL_law__23 hF hD hDr hSc hQ 100000 r1 r9 r17 (0 : Int32) _ (isK.mo (isK.mo (isK.mo (isK.mo hk3 hm8) hm12) hm16) hm20) (isK.mo (isK.mo hk11 hm16) hm20) hk19

