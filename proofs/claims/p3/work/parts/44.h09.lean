def l_Rd_join_94 : Pl := [(87, some 9), (88, none), (89, none), (108, some 1), (109, none), (110, none), (111, none), (112, none), (113, none), (114, none)]
def l_Rd_join_20 : Pl := [(87, some 9), (88, none), (89, none), (108, some 1), (109, none), (110, none), (111, none), (112, none), (113, none), (114, none)]
def l_Rd_join : Pl := [(87, some 9), (88, none), (89, none), (108, some 1), (109, none), (110, none), (111, none), (112, none), (113, none), (114, none)]
set_option maxRecDepth 20000 in
set_option maxHeartbeats 2000000 in
theorem h_Rd_join {w : MW} {a0 : Int32} {b0 : Int32} {c0 : Int32} {e0 : Int32} {Q : Int32 → MW → Prop} (hI : BND w) (hr_87_1 : w.2.2 87 1 = some 108)  (hQ : ∀ (r : Int32) (w' : MW), BND w' → FR l_Rd_join w w' → Q r w') : p_Rd_join w a0 b0 c0 e0 Q := by
  refine Eq.mpr (p_Rd_join.eq_1 _ _ _ _ _ _) ?_
  refine ⟨fun h1612 => ?_, fun h1612 => ?_⟩
  · refine ⟨fun h1613 => ?_, fun h1613 => ?_⟩
    · refine Eq.mpr (q_Rd_join_20.eq_1 _ _ _ _ _ _ _) ?_
      refine ⟨fun h1614 => ?_, fun h1614 => ?_⟩
      · refine ⟨fun h1615 => ?_, fun h1615 => ?_⟩
        · refine Eq.mpr (q_Rd_join_94.eq_1 _ _ _ _ _ _) ?_
          refine ⟨fun h => absurd h (by decide), fun _ => ?_⟩
          have hI1616 : BND (sI w 87 9 b0) := wbd_87_9 hI
          exact hQ _ _ hI1616 (FR.I (FR.refl _ w) (k := 87) (j := 9) (v := b0) rfl) 
        · refine ⟨fun h1617 => ?_, fun h1617 => ?_⟩
          · refine ⟨fun h1618 => ?_, fun h1618 => ?_⟩
            · refine Eq.mpr (q_Rd_join_94.eq_1 _ _ _ _ _ _) ?_
              refine ⟨fun _ => ?_, fun h => absurd (by decide) h⟩
              refine h_Rd_makeNode hI hr_87_1  (fun r1622 w1619 hI1620 hL1621 p1623 p1624 => ?_)
              have hF1625 : FR l_Rd_join w w1619 := (FR.refl _ w).tr hL1621 rfl
              exact hQ _ _ hI1620 hF1625 
            · refine Eq.mpr (q_Rd_join_94.eq_1 _ _ _ _ _ _) ?_
              refine ⟨fun _ => ?_, fun h => absurd (by decide) h⟩
              refine h_Rd_makeNode hI hr_87_1  (fun r1629 w1626 hI1627 hL1628 p1630 p1631 => ?_)
              have hF1632 : FR l_Rd_join w w1626 := (FR.refl _ w).tr hL1628 rfl
              exact hQ _ _ hI1627 hF1632 
          · refine ⟨fun h1633 => ?_, fun h1633 => ?_⟩
            · refine Eq.mpr (q_Rd_join_94.eq_1 _ _ _ _ _ _) ?_
              refine ⟨fun h => absurd h (by decide), fun _ => ?_⟩
              have hI1634 : BND (sI w 87 9 b0) := wbd_87_9 hI
              exact hQ _ _ hI1634 (FR.I (FR.refl _ w) (k := 87) (j := 9) (v := b0) rfl) 
            · refine Eq.mpr (q_Rd_join_94.eq_1 _ _ _ _ _ _) ?_
              refine ⟨fun _ => ?_, fun h => absurd (by decide) h⟩
              refine h_Rd_makeNode hI hr_87_1  (fun r1638 w1635 hI1636 hL1637 p1639 p1640 => ?_)
              have hF1641 : FR l_Rd_join w w1635 := (FR.refl _ w).tr hL1637 rfl
              exact hQ _ _ hI1636 hF1641 
      · refine ⟨fun h1642 => ?_, fun h1642 => ?_⟩
        · refine Eq.mpr (p_Ma_max.eq_1 _ _ _ _) ?_
          refine ⟨fun h1643 => ?_, fun h1643 => ?_⟩
          · refine Eq.mpr (q_Rd_join_94.eq_1 _ _ _ _ _ _) ?_
            refine ⟨fun _ => ?_, fun h => absurd (by decide) h⟩
            refine h_Rd_makeNode hI hr_87_1  (fun r1647 w1644 hI1645 hL1646 p1648 p1649 => ?_)
            have hF1650 : FR l_Rd_join w w1644 := (FR.refl _ w).tr hL1646 rfl
            exact hQ _ _ hI1645 hF1650 
          · refine Eq.mpr (q_Rd_join_94.eq_1 _ _ _ _ _ _) ?_
            refine ⟨fun _ => ?_, fun h => absurd (by decide) h⟩
            refine h_Rd_makeNode hI hr_87_1  (fun r1654 w1651 hI1652 hL1653 p1655 p1656 => ?_)
            have hF1657 : FR l_Rd_join w w1651 := (FR.refl _ w).tr hL1653 rfl
            exact hQ _ _ hI1652 hF1657 
        · refine ⟨fun h1658 => ?_, fun h1658 => ?_⟩
          · refine Eq.mpr (p_Ma_max.eq_1 _ _ _ _) ?_
            refine ⟨fun h1659 => ?_, fun h1659 => ?_⟩
            · refine Eq.mpr (q_Rd_join_94.eq_1 _ _ _ _ _ _) ?_
              refine ⟨fun h => absurd h (by decide), fun _ => ?_⟩
              have hI1660 : BND (sI w 87 9 b0) := wbd_87_9 hI
              exact hQ _ _ hI1660 (FR.I (FR.refl _ w) (k := 87) (j := 9) (v := b0) rfl) 
            · refine Eq.mpr (q_Rd_join_94.eq_1 _ _ _ _ _ _) ?_
              refine ⟨fun h => absurd h (by decide), fun _ => ?_⟩
              have hI1661 : BND (sI w 87 9 b0) := wbd_87_9 hI
              exact hQ _ _ hI1661 (FR.I (FR.refl _ w) (k := 87) (j := 9) (v := b0) rfl) 
          · refine Eq.mpr (p_Ma_max.eq_1 _ _ _ _) ?_
            refine ⟨fun h1662 => ?_, fun h1662 => ?_⟩
            · refine Eq.mpr (q_Rd_join_94.eq_1 _ _ _ _ _ _) ?_
              refine ⟨fun _ => ?_, fun h => absurd (by decide) h⟩
              refine h_Rd_makeNode hI hr_87_1  (fun r1666 w1663 hI1664 hL1665 p1667 p1668 => ?_)
              have hF1669 : FR l_Rd_join w w1663 := (FR.refl _ w).tr hL1665 rfl
              exact hQ _ _ hI1664 hF1669 
            · refine Eq.mpr (q_Rd_join_94.eq_1 _ _ _ _ _ _) ?_
              refine ⟨fun _ => ?_, fun h => absurd (by decide) h⟩
              refine h_Rd_makeNode hI hr_87_1  (fun r1673 w1670 hI1671 hL1672 p1674 p1675 => ?_)
              have hF1676 : FR l_Rd_join w w1670 := (FR.refl _ w).tr hL1672 rfl
              exact hQ _ _ hI1671 hF1676 
    · refine Eq.mpr (q_Rd_join_20.eq_1 _ _ _ _ _ _ _) ?_
      refine ⟨fun h1677 => ?_, fun h1677 => ?_⟩
      · refine ⟨fun h1678 => ?_, fun h1678 => ?_⟩
        · refine Eq.mpr (q_Rd_join_94.eq_1 _ _ _ _ _ _) ?_
          refine ⟨fun _ => ?_, fun h => absurd (by decide) h⟩
          refine h_Rd_makeNode hI hr_87_1  (fun r1682 w1679 hI1680 hL1681 p1683 p1684 => ?_)
          have hF1685 : FR l_Rd_join w w1679 := (FR.refl _ w).tr hL1681 rfl
          exact hQ _ _ hI1680 hF1685 
        · refine ⟨fun h1686 => ?_, fun h1686 => ?_⟩
          · refine ⟨fun h1687 => ?_, fun h1687 => ?_⟩
            · refine Eq.mpr (q_Rd_join_94.eq_1 _ _ _ _ _ _) ?_
              refine ⟨fun _ => ?_, fun h => absurd (by decide) h⟩
              refine h_Rd_makeNode hI hr_87_1  (fun r1691 w1688 hI1689 hL1690 p1692 p1693 => ?_)
              have hF1694 : FR l_Rd_join w w1688 := (FR.refl _ w).tr hL1690 rfl
              exact hQ _ _ hI1689 hF1694 
            · refine Eq.mpr (q_Rd_join_94.eq_1 _ _ _ _ _ _) ?_
              refine ⟨fun _ => ?_, fun h => absurd (by decide) h⟩
              refine h_Rd_makeNode hI hr_87_1  (fun r1698 w1695 hI1696 hL1697 p1699 p1700 => ?_)
              have hF1701 : FR l_Rd_join w w1695 := (FR.refl _ w).tr hL1697 rfl
              exact hQ _ _ hI1696 hF1701 
          · refine ⟨fun h1702 => ?_, fun h1702 => ?_⟩
            · refine Eq.mpr (q_Rd_join_94.eq_1 _ _ _ _ _ _) ?_
              refine ⟨fun h => absurd h (by decide), fun _ => ?_⟩
              have hI1703 : BND (sI w 87 9 b0) := wbd_87_9 hI
              exact hQ _ _ hI1703 (FR.I (FR.refl _ w) (k := 87) (j := 9) (v := b0) rfl) 
            · refine Eq.mpr (q_Rd_join_94.eq_1 _ _ _ _ _ _) ?_
              refine ⟨fun _ => ?_, fun h => absurd (by decide) h⟩
              refine h_Rd_makeNode hI hr_87_1  (fun r1707 w1704 hI1705 hL1706 p1708 p1709 => ?_)
              have hF1710 : FR l_Rd_join w w1704 := (FR.refl _ w).tr hL1706 rfl
              exact hQ _ _ hI1705 hF1710 
      · refine ⟨fun h1711 => ?_, fun h1711 => ?_⟩
        · refine Eq.mpr (p_Ma_max.eq_1 _ _ _ _) ?_
          refine ⟨fun h1712 => ?_, fun h1712 => ?_⟩
          · refine Eq.mpr (q_Rd_join_94.eq_1 _ _ _ _ _ _) ?_
            refine ⟨fun _ => ?_, fun h => absurd (by decide) h⟩
            refine h_Rd_makeNode hI hr_87_1  (fun r1716 w1713 hI1714 hL1715 p1717 p1718 => ?_)
            have hF1719 : FR l_Rd_join w w1713 := (FR.refl _ w).tr hL1715 rfl
            exact hQ _ _ hI1714 hF1719 
          · refine Eq.mpr (q_Rd_join_94.eq_1 _ _ _ _ _ _) ?_
            refine ⟨fun _ => ?_, fun h => absurd (by decide) h⟩
            refine h_Rd_makeNode hI hr_87_1  (fun r1723 w1720 hI1721 hL1722 p1724 p1725 => ?_)
            have hF1726 : FR l_Rd_join w w1720 := (FR.refl _ w).tr hL1722 rfl
            exact hQ _ _ hI1721 hF1726 
        · refine ⟨fun h1727 => ?_, fun h1727 => ?_⟩
          · refine Eq.mpr (p_Ma_max.eq_1 _ _ _ _) ?_
            refine ⟨fun h1728 => ?_, fun h1728 => ?_⟩
            · refine Eq.mpr (q_Rd_join_94.eq_1 _ _ _ _ _ _) ?_
              refine ⟨fun h => absurd h (by decide), fun _ => ?_⟩
              have hI1729 : BND (sI w 87 9 b0) := wbd_87_9 hI
              exact hQ _ _ hI1729 (FR.I (FR.refl _ w) (k := 87) (j := 9) (v := b0) rfl) 
            · refine Eq.mpr (q_Rd_join_94.eq_1 _ _ _ _ _ _) ?_
              refine ⟨fun h => absurd h (by decide), fun _ => ?_⟩
              have hI1730 : BND (sI w 87 9 b0) := wbd_87_9 hI
              exact hQ _ _ hI1730 (FR.I (FR.refl _ w) (k := 87) (j := 9) (v := b0) rfl) 
          · refine Eq.mpr (p_Ma_max.eq_1 _ _ _ _) ?_
            refine ⟨fun h1731 => ?_, fun h1731 => ?_⟩
            · refine Eq.mpr (q_Rd_join_94.eq_1 _ _ _ _ _ _) ?_
              refine ⟨fun _ => ?_, fun h => absurd (by decide) h⟩
              refine h_Rd_makeNode hI hr_87_1  (fun r1735 w1732 hI1733 hL1734 p1736 p1737 => ?_)
              have hF1738 : FR l_Rd_join w w1732 := (FR.refl _ w).tr hL1734 rfl
              exact hQ _ _ hI1733 hF1738 
            · refine Eq.mpr (q_Rd_join_94.eq_1 _ _ _ _ _ _) ?_
              refine ⟨fun _ => ?_, fun h => absurd (by decide) h⟩
              refine h_Rd_makeNode hI hr_87_1  (fun r1742 w1739 hI1740 hL1741 p1743 p1744 => ?_)
              have hF1745 : FR l_Rd_join w w1739 := (FR.refl _ w).tr hL1741 rfl
              exact hQ _ _ hI1740 hF1745 
  · exact hQ _ _ hI (FR.refl _ w)
def l_Rd_levelOf : Pl := []
set_option maxRecDepth 20000 in
set_option maxHeartbeats 2000000 in
theorem h_Rd_levelOf {w : MW} {a0 : Int32} {Q : Int32 → MW → Prop} (hI : BND w)  (hQ : ∀ (r : Int32) (w' : MW), BND w' → FR l_Rd_levelOf w w' → 0 ≤ r.toInt → r.toInt ≤ 3 → Q r w') : p_Rd_levelOf w a0 Q := by
  refine Eq.mpr (p_Rd_levelOf.eq_1 _ _ _) ?_
  refine ⟨fun h1746 => ?_, fun h1746 => ?_⟩
  · have o1747 : (0 ≤ (2 : Int32).toInt) ∧ ((2 : Int32).toInt ≤ 3) := by have := (by decide : ((2 : Int32)).toInt = 2); exact ⟨by omega, by omega⟩
    exact hQ _ _ hI (FR.refl _ w)  o1747.1 o1747.2
  · refine ⟨fun h1748 => ?_, fun h1748 => ?_⟩
    · have o1749 : (0 ≤ (1 : Int32).toInt) ∧ ((1 : Int32).toInt ≤ 3) := by have := (by decide : ((1 : Int32)).toInt = 1); exact ⟨by omega, by omega⟩
      exact hQ _ _ hI (FR.refl _ w)  o1749.1 o1749.2
    · refine ⟨fun h1750 => ?_, fun h1750 => ?_⟩
      · have o1751 : (0 ≤ (3 : Int32).toInt) ∧ ((3 : Int32).toInt ≤ 3) := by have := (by decide : ((3 : Int32)).toInt = 3); exact ⟨by omega, by omega⟩
        exact hQ _ _ hI (FR.refl _ w)  o1751.1 o1751.2
      · refine ⟨fun h1752 => ?_, fun h1752 => ?_⟩
        · have o1753 : (0 ≤ (1 : Int32).toInt) ∧ ((1 : Int32).toInt ≤ 3) := by have := (by decide : ((1 : Int32)).toInt = 1); exact ⟨by omega, by omega⟩
          exact hQ _ _ hI (FR.refl _ w)  o1753.1 o1753.2
        · refine ⟨fun h1754 => ?_, fun h1754 => ?_⟩
          · have o1755 : (0 ≤ (3 : Int32).toInt) ∧ ((3 : Int32).toInt ≤ 3) := by have := (by decide : ((3 : Int32)).toInt = 3); exact ⟨by omega, by omega⟩
            exact hQ _ _ hI (FR.refl _ w)  o1755.1 o1755.2
          · refine ⟨fun h1756 => ?_, fun h1756 => ?_⟩
            · have o1757 : (0 ≤ (2 : Int32).toInt) ∧ ((2 : Int32).toInt ≤ 3) := by have := (by decide : ((2 : Int32)).toInt = 2); exact ⟨by omega, by omega⟩
              exact hQ _ _ hI (FR.refl _ w)  o1757.1 o1757.2
            · refine ⟨fun h1758 => ?_, fun h1758 => ?_⟩
              · have o1759 : (0 ≤ (3 : Int32).toInt) ∧ ((3 : Int32).toInt ≤ 3) := by have := (by decide : ((3 : Int32)).toInt = 3); exact ⟨by omega, by omega⟩
                exact hQ _ _ hI (FR.refl _ w)  o1759.1 o1759.2
              · refine ⟨fun h1760 => ?_, fun h1760 => ?_⟩
                · have o1761 : (0 ≤ (3 : Int32).toInt) ∧ ((3 : Int32).toInt ≤ 3) := by have := (by decide : ((3 : Int32)).toInt = 3); exact ⟨by omega, by omega⟩
                  exact hQ _ _ hI (FR.refl _ w)  o1761.1 o1761.2
                · refine ⟨fun h1762 => ?_, fun h1762 => ?_⟩
                  · have o1763 : (0 ≤ (3 : Int32).toInt) ∧ ((3 : Int32).toInt ≤ 3) := by have := (by decide : ((3 : Int32)).toInt = 3); exact ⟨by omega, by omega⟩
                    exact hQ _ _ hI (FR.refl _ w)  o1763.1 o1763.2
                  · refine ⟨fun h1764 => ?_, fun h1764 => ?_⟩
                    · have o1765 : (0 ≤ (3 : Int32).toInt) ∧ ((3 : Int32).toInt ≤ 3) := by have := (by decide : ((3 : Int32)).toInt = 3); exact ⟨by omega, by omega⟩
                      exact hQ _ _ hI (FR.refl _ w)  o1765.1 o1765.2
                    · refine ⟨fun h1766 => ?_, fun h1766 => ?_⟩
                      · have o1767 : (0 ≤ (3 : Int32).toInt) ∧ ((3 : Int32).toInt ≤ 3) := by have := (by decide : ((3 : Int32)).toInt = 3); exact ⟨by omega, by omega⟩
                        exact hQ _ _ hI (FR.refl _ w)  o1767.1 o1767.2
                      · refine ⟨fun h1768 => ?_, fun h1768 => ?_⟩
                        · have o1769 : (0 ≤ (3 : Int32).toInt) ∧ ((3 : Int32).toInt ≤ 3) := by have := (by decide : ((3 : Int32)).toInt = 3); exact ⟨by omega, by omega⟩
                          exact hQ _ _ hI (FR.refl _ w)  o1769.1 o1769.2
                        · refine ⟨fun h1770 => ?_, fun h1770 => ?_⟩
                          · have o1771 : (0 ≤ (3 : Int32).toInt) ∧ ((3 : Int32).toInt ≤ 3) := by have := (by decide : ((3 : Int32)).toInt = 3); exact ⟨by omega, by omega⟩
                            exact hQ _ _ hI (FR.refl _ w)  o1771.1 o1771.2
                          · refine ⟨fun h1772 => ?_, fun h1772 => ?_⟩
                            · have o1773 : (0 ≤ (3 : Int32).toInt) ∧ ((3 : Int32).toInt ≤ 3) := by have := (by decide : ((3 : Int32)).toInt = 3); exact ⟨by omega, by omega⟩
                              exact hQ _ _ hI (FR.refl _ w)  o1773.1 o1773.2
                            · refine ⟨fun h1774 => ?_, fun h1774 => ?_⟩
                              · have o1775 : (0 ≤ (3 : Int32).toInt) ∧ ((3 : Int32).toInt ≤ 3) := by have := (by decide : ((3 : Int32)).toInt = 3); exact ⟨by omega, by omega⟩
                                exact hQ _ _ hI (FR.refl _ w)  o1775.1 o1775.2
                              · refine ⟨fun h1776 => ?_, fun h1776 => ?_⟩
                                · have o1777 : (0 ≤ (3 : Int32).toInt) ∧ ((3 : Int32).toInt ≤ 3) := by have := (by decide : ((3 : Int32)).toInt = 3); exact ⟨by omega, by omega⟩
                                  exact hQ _ _ hI (FR.refl _ w)  o1777.1 o1777.2
                                · refine ⟨fun h1778 => ?_, fun h1778 => ?_⟩
                                  · have o1779 : (0 ≤ (3 : Int32).toInt) ∧ ((3 : Int32).toInt ≤ 3) := by have := (by decide : ((3 : Int32)).toInt = 3); exact ⟨by omega, by omega⟩
                                    exact hQ _ _ hI (FR.refl _ w)  o1779.1 o1779.2
                                  · refine ⟨fun h1780 => ?_, fun h1780 => ?_⟩
                                    · have o1781 : (0 ≤ (3 : Int32).toInt) ∧ ((3 : Int32).toInt ≤ 3) := by have := (by decide : ((3 : Int32)).toInt = 3); exact ⟨by omega, by omega⟩
                                      exact hQ _ _ hI (FR.refl _ w)  o1781.1 o1781.2
                                    · refine ⟨fun h1782 => ?_, fun h1782 => ?_⟩
                                      · have o1783 : (0 ≤ (0 : Int32).toInt) ∧ ((0 : Int32).toInt ≤ 3) := by have := (by decide : ((0 : Int32)).toInt = 0); exact ⟨by omega, by omega⟩
                                        exact hQ _ _ hI (FR.refl _ w)  o1783.1 o1783.2
                                      · refine ⟨fun h1784 => ?_, fun h1784 => ?_⟩
                                        · have o1785 : (0 ≤ (0 : Int32).toInt) ∧ ((0 : Int32).toInt ≤ 3) := by have := (by decide : ((0 : Int32)).toInt = 0); exact ⟨by omega, by omega⟩
                                          exact hQ _ _ hI (FR.refl _ w)  o1785.1 o1785.2
                                        · refine ⟨fun h1786 => ?_, fun h1786 => ?_⟩
                                          · have o1787 : (0 ≤ (0 : Int32).toInt) ∧ ((0 : Int32).toInt ≤ 3) := by have := (by decide : ((0 : Int32)).toInt = 0); exact ⟨by omega, by omega⟩
                                            exact hQ _ _ hI (FR.refl _ w)  o1787.1 o1787.2
                                          · have o1788 : (0 ≤ (3 : Int32).toInt) ∧ ((3 : Int32).toInt ≤ 3) := by have := (by decide : ((3 : Int32)).toInt = 3); exact ⟨by omega, by omega⟩
                                            exact hQ _ _ hI (FR.refl _ w)  o1788.1 o1788.2
def l_Pr_finds108_2 : Pl := []
def l_Pr_finds108 : Pl := []
set_option maxRecDepth 20000 in
set_option maxHeartbeats 2000000 in
theorem hq_Pr_finds108_2 {x2_1 : Int64} {E : MW → Prop} {Q : Int32 → MW → Prop} (n : Nat) : ∀ (x2_3 : Int32) (w : MW), BND w → 0 ≤ x2_3.toInt → x2_3.toInt ≤ 40 → (40 - x2_3.toInt).toNat < n → (∀ (w' : MW), BND w' → FR l_Pr_finds108_2 w w' → E w') → (∀ (r : Int32) (w' : MW), BND w' → FR l_Pr_finds108_2 w w' → 0 ≤ r.toInt → r.toInt ≤ 39 → Q r w') → q_Pr_finds108_2 x2_1 E Q n x2_3 w := by
  induction n with
  | zero => intros; omega
  | succ n ih =>
    intro x2_3 w hI  hp0 hp1 hm hE hQ
    rw [q_Pr_finds108_2.eq_2]
    refine ⟨fun h1789 => ?_, fun h1789 => ?_⟩
    · exact hE _ hI (FR.refl _ w)
    · have o1790 : 0 ≤ x2_3.toInt ∧ x2_3.toInt < 40 := by have := bd_108_10 hI; omega
      refine ⟨o1790, ?_⟩
      refine ⟨fun h1791 => ?_, fun h1791 => ?_⟩
      · have o1792 : (0 ≤ (x2_3 + (1 : Int32)).toInt) ∧ ((x2_3 + (1 : Int32)).toInt ≤ 40) := by have := bd_108_10 hI; have := ti_add2 (Eq.refl x2_3.toInt) (by decide : ((1 : Int32)).toInt = 1) (by omega) (by omega); exact ⟨by omega, by omega⟩
        exact ih _ w hI  o1792.1 o1792.2 (by have := bd_108_10 hI; have := ti_add2 (Eq.refl x2_3.toInt) (by decide : ((1 : Int32)).toInt = 1) (by omega) (by omega); omega) (fun w9 hI9 hF9 => hE w9 hI9 ((FR.refl _ w).tr hF9 rfl) ) (fun r w9 hI9 hF9 q0 q1 => hQ r w9 hI9 ((FR.refl _ w).tr hF9 rfl) (by have := bd_108_10 hI; have := ti_add2 (Eq.refl x2_3.toInt) (by decide : ((1 : Int32)).toInt = 1) (by omega) (by omega); omega) (by have := bd_108_10 hI; have := ti_add2 (Eq.refl x2_3.toInt) (by decide : ((1 : Int32)).toInt = 1) (by omega) (by omega); omega))
      · have o1793 : (0 ≤ x2_3.toInt) ∧ (x2_3.toInt ≤ 39) := by have := bd_108_10 hI; exact ⟨by omega, by omega⟩
        exact hQ _ _ hI (FR.refl _ w)  o1793.1 o1793.2
set_option maxRecDepth 20000 in
set_option maxHeartbeats 2000000 in
theorem h_Pr_finds108 {w : MW} {a0 : Int64} {Q : Int32 → MW → Prop} (hI : BND w)  (hQ : ∀ (r : Int32) (w' : MW), BND w' → FR l_Pr_finds108 w w' → (-1) ≤ r.toInt → r.toInt ≤ 39 → Q r w') : p_Pr_finds108 w a0 Q := by
  refine Eq.mpr (p_Pr_finds108.eq_1 _ _ _) ?_
  have o1794 : (0 ≤ (0 : Int32).toInt) ∧ ((0 : Int32).toInt ≤ 40) := by have := (by decide : ((0 : Int32)).toInt = 0); exact ⟨by omega, by omega⟩
  refine hq_Pr_finds108_2 FU _ w hI  o1794.1 o1794.2 (fu_lt (by have := (by decide : ((0 : Int32)).toInt = 0); omega)) (fun w1795 hI1796 hL1797  => ?_) (fun r w9 hI9 hF9 q0 q1 => hQ r w9 hI9 (((FR.refl _ w)).tr hF9 rfl) (by have := (by decide : ((0 : Int32)).toInt = 0); omega) (by have := (by decide : ((0 : Int32)).toInt = 0); omega))
  have hF1798 : FR l_Pr_finds108 w w1795 := (FR.refl _ w).tr hL1797 rfl
  have o1799 : ((-1) ≤ ((-1) : Int32).toInt) ∧ (((-1) : Int32).toInt ≤ 39) := by have := (by decide : (((-1) : Int32)).toInt = (-1)); exact ⟨by omega, by omega⟩
  exact hQ _ _ hI1796 hF1798  o1799.1 o1799.2
def l_Rd_readFactor_284 : Pl := [(87, some 2), (87, some 3), (87, some 4), (87, some 5), (87, some 6), (87, some 7), (87, some 8), (87, some 9), (88, none), (89, none), (108, some 1), (109, none), (110, none), (111, none), (112, none), (113, none), (114, none)]
def l_Rd_readFactor_201 : Pl := [(87, some 2), (87, some 3), (87, some 4), (87, some 5), (87, some 6), (87, some 7), (87, some 9), (88, none), (89, none), (108, some 1), (109, none), (110, none), (111, none), (112, none), (113, none), (114, none), (115, none)]
def l_Rd_readFactor_137 : Pl := [(87, some 2), (87, some 3), (87, some 4), (87, some 5), (87, some 6), (87, some 7), (87, some 9), (88, none), (89, none), (108, some 1), (109, none), (110, none), (111, none), (112, none), (113, none), (114, none), (115, none)]
def l_Rd_readFactor_88 : Pl := [(87, some 2), (87, some 3), (87, some 4), (87, some 5), (87, some 6), (87, some 7), (87, some 8), (87, some 9), (88, none), (89, none), (108, some 1), (109, none), (110, none), (111, none), (112, none), (113, none), (114, none), (115, none)]
def l_Rd_readFactor_53 : Pl := [(87, some 2), (87, some 3), (87, some 4), (87, some 5), (87, some 6), (87, some 7), (87, some 8), (87, some 9), (88, none), (89, none), (108, some 1), (109, none), (110, none), (111, none), (112, none), (113, none), (114, none), (115, none)]
def l_Rd_readFactor_26 : Pl := [(87, some 2), (87, some 3), (87, some 4), (87, some 5), (87, some 6), (87, some 7), (87, some 8), (87, some 9), (88, none), (89, none), (108, some 1), (109, none), (110, none), (111, none), (112, none), (113, none), (114, none), (115, none)]
def l_Rd_readFactor : Pl := [(87, some 2), (87, some 3), (87, some 4), (87, some 5), (87, some 6), (87, some 7), (87, some 8), (87, some 9), (88, none), (89, none), (108, some 1), (109, none), (110, none), (111, none), (112, none), (113, none), (114, none), (115, none)]
def l_Rd_readLevel_38 : Pl := [(87, some 2), (87, some 3), (87, some 4), (87, some 5), (87, some 6), (87, some 7), (87, some 8), (87, some 9), (88, none), (89, none), (108, some 1), (109, none), (110, none), (111, none), (112, none), (113, none), (114, none), (115, none)]
def l_Rd_readLevel_33 : Pl := [(87, some 2), (87, some 3), (87, some 4), (87, some 5), (87, some 6), (87, some 7), (87, some 8), (87, some 9), (88, none), (89, none), (108, some 1), (109, none), (110, none), (111, none), (112, none), (113, none), (114, none), (115, none)]
def l_Rd_readLevel : Pl := [(87, some 2), (87, some 3), (87, some 4), (87, some 5), (87, some 6), (87, some 7), (87, some 8), (87, some 9), (88, none), (89, none), (108, some 1), (109, none), (110, none), (111, none), (112, none), (113, none), (114, none), (115, none)]
set_option maxRecDepth 20000 in
set_option maxHeartbeats 2000000 in
theorem hq_Rd_readFactor_88 {nn : Nat} {r_Rd_readFactor : MW → (Int32 → MW → Prop) → Prop} {r_Rd_readLevel : MW → Int32 → (Int32 → MW → Prop) → Prop} (hr_Rd_readFactor : ∀ (w : MW) (Q : Int32 → MW → Prop), BND w → w.2.2 87 0 = some 1 → w.2.2 87 1 = some 108 → (4 * (20 - (w.1 87 8).toInt)).toNat < nn → (∀ (r : Int32) (w' : MW), BND w' → FR l_Rd_readFactor w w' → (w'.1 87 8).toInt = (w.1 87 8).toInt → Q r w') → r_Rd_readFactor w Q) (hr_Rd_readLevel : ∀ (w : MW) (a0 : Int32) (Q : Int32 → MW → Prop), BND w → w.2.2 87 0 = some 1 → w.2.2 87 1 = some 108 → 0 ≤ a0.toInt → a0.toInt ≤ 2 → (4 * (20 - (w.1 87 8).toInt) + (3 - a0.toInt)).toNat < nn → (∀ (r : Int32) (w' : MW), BND w' → FR l_Rd_readLevel w w' → (w'.1 87 8).toInt = (w.1 87 8).toInt → Q r w') → r_Rd_readLevel w a0 Q) {y88_1 : Int32} {y88_2 : Int32} {w : MW} {Q : Int32 → MW → Prop} (hI : BND w) (hr_87_0 : w.2.2 87 0 = some 1) (hr_87_1 : w.2.2 87 1 = some 108) (hp0 : (-1) ≤ y88_2.toInt) (hp1 : y88_2.toInt ≤ 39) (hp2 : ¬ (y88_1.toInt = 40 ∨ y88_1.toInt = 45) ∨ (w.1 87 8).toInt < 20) (hp3 : ¬ y88_1.toInt = 30 ∨ (0 ≤ y88_2.toInt ∧ y88_2.toInt ≤ 39)) (hp4 : y88_1.toInt = 30 ∨ y88_1.toInt = 31 ∨ y88_1.toInt = 40 ∨ y88_1.toInt = 45) (hp5 : (4 * (20 - (w.1 87 8).toInt)).toNat ≤ nn) (hQ : ∀ (r : Int32) (w' : MW), BND w' → FR l_Rd_readFactor_88 w w' → (w'.1 87 8).toInt = (w.1 87 8).toInt → Q r w') : q_Rd_readFactor_88 r_Rd_readFactor r_Rd_readLevel y88_1 y88_2 w Q := by
  refine Eq.mpr (q_Rd_readFactor_88.eq_1 _ _ _ _ _ _) ?_
  refine h_Rd_nextWord hI hr_87_0  (fun w1800 hI1801 hL1802  => ?_)
  have hF1804 : FR l_Rd_readFactor_88 w w1800 := (FR.refl _ w).tr hL1802 rfl
  refine ⟨fun h1805 => ?_, fun h1805 => ?_⟩
  · refine ⟨fun h1806 => ?_, fun h1806 => ?_⟩
    · refine ⟨fun h1807 => ?_, fun h1807 => ?_⟩
      · have o1809 : 0 ≤ ((w1800.1 87 8) + (1 : Int32)).toInt ∧ ((w1800.1 87 8) + (1 : Int32)).toInt ≤ 20 := by have := bd_87_8 hI1801; have := bd_87_8 hI; have := (congrArg Int32.toInt (hL1802 87 8 rfl).1); have := ti_lo y88_1; have := ti_hi y88_1; have := (by decide : ((31 : Int32)).toInt = 31); have := (by decide : ((30 : Int32)).toInt = 30); have := (by decide : ((45 : Int32)).toInt = 45); have := ti_add2 (Eq.refl (w1800.1 87 8).toInt) (by decide : ((1 : Int32)).toInt = 1) (by omega) (by omega); omega
        have hI1808 : BND (sI w1800 87 8 ((w1800.1 87 8) + (1 : Int32))) := wbd_87_8 hI1801 o1809.1 o1809.2
        have o1810 : (0 ≤ (1 : Int32).toInt) ∧ ((1 : Int32).toInt ≤ 2) := by have := (by decide : ((1 : Int32)).toInt = 1); exact ⟨by omega, by omega⟩
        refine hr_Rd_readLevel _ _ _ hI1808 ((hL1802 87 0 rfl).2.2.trans hr_87_0) ((hL1802 87 1 rfl).2.2.trans hr_87_1) o1810.1 o1810.2 (by have := (by decide : ((1 : Int32)).toInt = 1); have := bd_87_8 hI1801; have := bd_87_8 hI; have := (congrArg Int32.toInt (hL1802 87 8 rfl).1); have : ((sI w1800 87 8 ((w1800.1 87 8) + (1 : Int32))).1 87 8).toInt = ((w1800.1 87 8) + (1 : Int32)).toInt := rfl; have := ti_lo y88_1; have := ti_hi y88_1; have := (by decide : ((31 : Int32)).toInt = 31); have := (by decide : ((30 : Int32)).toInt = 30); have := (by decide : ((45 : Int32)).toInt = 45); have := ti_add2 (Eq.refl (w1800.1 87 8).toInt) (by decide : ((1 : Int32)).toInt = 1) (by omega) (by omega); omega) (fun r1814 w1811 hI1812 hL1813 p1815 => ?_)
        have hF1816 : FR l_Rd_readFactor_88 w w1811 := (FR.I hF1804 (k := 87) (j := 8) (v := ((w1800.1 87 8) + (1 : Int32))) rfl).tr hL1813 rfl
        refine Eq.mpr (q_Rd_readFactor_284.eq_1 _ _ _ _ _ _) ?_
        refine ⟨fun _ => ?_, fun h => absurd h1807 h⟩
        refine ⟨fun h1817 => ?_, fun h1817 => ?_⟩
        · refine Eq.mpr (p_Rd_fail.eq_1 _ _) ?_
          refine ⟨fun h1818 => ?_, fun h1818 => ?_⟩
          · have o1820 : 0 ≤ ((w1811.1 87 8) - (1 : Int32)).toInt ∧ ((w1811.1 87 8) - (1 : Int32)).toInt ≤ 20 := by have := bd_87_8 hI1812; have := bd_87_8 hI; have := ti_lo y88_1; have := ti_hi y88_1; have := (by decide : ((31 : Int32)).toInt = 31); have := (by decide : ((30 : Int32)).toInt = 30); have := (by decide : ((45 : Int32)).toInt = 45); have := bd_87_8 hI1801; have := (congrArg Int32.toInt (hL1802 87 8 rfl).1); have : ((sI w1800 87 8 ((w1800.1 87 8) + (1 : Int32))).1 87 8).toInt = ((w1800.1 87 8) + (1 : Int32)).toInt := rfl; have := ti_lo r1814; have := ti_hi r1814; have := ti_sub2 (Eq.refl (w1811.1 87 8).toInt) (by decide : ((1 : Int32)).toInt = 1) (by omega) (by omega); have := ti_add2 (Eq.refl (w1800.1 87 8).toInt) (by decide : ((1 : Int32)).toInt = 1) (by omega) (by omega); omega
            have hI1819 : BND (sI w1811 87 8 ((w1811.1 87 8) - (1 : Int32))) := wbd_87_8 hI1812 o1820.1 o1820.2
            exact hQ _ _ hI1819 (FR.I hF1816 (k := 87) (j := 8) (v := ((w1811.1 87 8) - (1 : Int32))) rfl)  (by have := ti_lo r1814; have := ti_hi r1814; have := bd_87_8 hI1812; have : ((sI w1811 87 8 ((w1811.1 87 8) - (1 : Int32))).1 87 8).toInt = ((w1811.1 87 8) - (1 : Int32)).toInt := rfl; have := bd_87_8 hI; have := ti_lo y88_1; have := ti_hi y88_1; have := (by decide : ((31 : Int32)).toInt = 31); have := (by decide : ((30 : Int32)).toInt = 30); have := (by decide : ((45 : Int32)).toInt = 45); have := bd_87_8 hI1801; have := (congrArg Int32.toInt (hL1802 87 8 rfl).1); have : ((sI w1800 87 8 ((w1800.1 87 8) + (1 : Int32))).1 87 8).toInt = ((w1800.1 87 8) + (1 : Int32)).toInt := rfl; have := ti_sub2 (Eq.refl (w1811.1 87 8).toInt) (by decide : ((1 : Int32)).toInt = 1) (by omega) (by omega); have := ti_add2 (Eq.refl (w1800.1 87 8).toInt) (by decide : ((1 : Int32)).toInt = 1) (by omega) (by omega); omega)
          · have hI1821 : BND (sI w1811 87 9 (w1811.1 87 4)) := wbd_87_9 hI1812
            have o1823 : 0 ≤ (((sI w1811 87 9 (w1811.1 87 4)).1 87 8) - (1 : Int32)).toInt ∧ (((sI w1811 87 9 (w1811.1 87 4)).1 87 8) - (1 : Int32)).toInt ≤ 20 := by have := bd_87_8 hI1812; have : ((sI w1811 87 9 (w1811.1 87 4)).1 87 8).toInt = (w1811.1 87 8).toInt := rfl; have := bd_87_8 hI; have := ti_lo y88_1; have := ti_hi y88_1; have := (by decide : ((31 : Int32)).toInt = 31); have := (by decide : ((30 : Int32)).toInt = 30); have := (by decide : ((45 : Int32)).toInt = 45); have := bd_87_8 hI1801; have := (congrArg Int32.toInt (hL1802 87 8 rfl).1); have : ((sI w1800 87 8 ((w1800.1 87 8) + (1 : Int32))).1 87 8).toInt = ((w1800.1 87 8) + (1 : Int32)).toInt := rfl; have := ti_lo r1814; have := ti_hi r1814; have := ti_sub2 (Eq.refl ((sI w1811 87 9 (w1811.1 87 4)).1 87 8).toInt) (by decide : ((1 : Int32)).toInt = 1) (by omega) (by omega); have := ti_add2 (Eq.refl (w1800.1 87 8).toInt) (by decide : ((1 : Int32)).toInt = 1) (by omega) (by omega); omega
            have hI1822 : BND (sI (sI w1811 87 9 (w1811.1 87 4)) 87 8 (((sI w1811 87 9 (w1811.1 87 4)).1 87 8) - (1 : Int32))) := wbd_87_8 hI1821 o1823.1 o1823.2
            exact hQ _ _ hI1822 (FR.I (FR.I hF1816 (k := 87) (j := 9) (v := (w1811.1 87 4)) rfl) (k := 87) (j := 8) (v := (((sI w1811 87 9 (w1811.1 87 4)).1 87 8) - (1 : Int32))) rfl)  (by have := ti_lo r1814; have := ti_hi r1814; have := bd_87_8 hI1812; have : ((sI w1811 87 9 (w1811.1 87 4)).1 87 8).toInt = (w1811.1 87 8).toInt := rfl; have : ((sI (sI w1811 87 9 (w1811.1 87 4)) 87 8 (((sI w1811 87 9 (w1811.1 87 4)).1 87 8) - (1 : Int32))).1 87 8).toInt = (((sI w1811 87 9 (w1811.1 87 4)).1 87 8) - (1 : Int32)).toInt := rfl; have := bd_87_8 hI; have := ti_lo y88_1; have := ti_hi y88_1; have := (by decide : ((31 : Int32)).toInt = 31); have := (by decide : ((30 : Int32)).toInt = 30); have := (by decide : ((45 : Int32)).toInt = 45); have := bd_87_8 hI1801; have := (congrArg Int32.toInt (hL1802 87 8 rfl).1); have : ((sI w1800 87 8 ((w1800.1 87 8) + (1 : Int32))).1 87 8).toInt = ((w1800.1 87 8) + (1 : Int32)).toInt := rfl; have := ti_sub2 (Eq.refl ((sI w1811 87 9 (w1811.1 87 4)).1 87 8).toInt) (by decide : ((1 : Int32)).toInt = 1) (by omega) (by omega); have := ti_add2 (Eq.refl (w1800.1 87 8).toInt) (by decide : ((1 : Int32)).toInt = 1) (by omega) (by omega); omega)
        · refine h_Rd_nextWord hI1812 ((hL1813 87 0 rfl).2.2.trans ((hL1802 87 0 rfl).2.2.trans hr_87_0))  (fun w1824 hI1825 hL1826  => ?_)
          have hF1828 : FR l_Rd_readFactor_88 w w1824 := hF1816.tr hL1826 rfl
          have o1830 : 0 ≤ ((w1824.1 87 8) - (1 : Int32)).toInt ∧ ((w1824.1 87 8) - (1 : Int32)).toInt ≤ 20 := by have := bd_87_8 hI1825; have := bd_87_8 hI1812; have := (congrArg Int32.toInt (hL1826 87 8 rfl).1); have := bd_87_8 hI; have := ti_lo y88_1; have := ti_hi y88_1; have := (by decide : ((31 : Int32)).toInt = 31); have := (by decide : ((30 : Int32)).toInt = 30); have := (by decide : ((45 : Int32)).toInt = 45); have := bd_87_8 hI1801; have := (congrArg Int32.toInt (hL1802 87 8 rfl).1); have : ((sI w1800 87 8 ((w1800.1 87 8) + (1 : Int32))).1 87 8).toInt = ((w1800.1 87 8) + (1 : Int32)).toInt := rfl; have := ti_lo r1814; have := ti_hi r1814; have := ti_sub2 (Eq.refl (w1824.1 87 8).toInt) (by decide : ((1 : Int32)).toInt = 1) (by omega) (by omega); have := ti_add2 (Eq.refl (w1800.1 87 8).toInt) (by decide : ((1 : Int32)).toInt = 1) (by omega) (by omega); omega
          have hI1829 : BND (sI w1824 87 8 ((w1824.1 87 8) - (1 : Int32))) := wbd_87_8 hI1825 o1830.1 o1830.2
          exact hQ _ _ hI1829 (FR.I hF1828 (k := 87) (j := 8) (v := ((w1824.1 87 8) - (1 : Int32))) rfl)  (by have := ti_lo r1814; have := ti_hi r1814; have := bd_87_8 hI1825; have := bd_87_8 hI1812; have := (congrArg Int32.toInt (hL1826 87 8 rfl).1); have : ((sI w1824 87 8 ((w1824.1 87 8) - (1 : Int32))).1 87 8).toInt = ((w1824.1 87 8) - (1 : Int32)).toInt := rfl; have := bd_87_8 hI; have := ti_lo y88_1; have := ti_hi y88_1; have := (by decide : ((31 : Int32)).toInt = 31); have := (by decide : ((30 : Int32)).toInt = 30); have := (by decide : ((45 : Int32)).toInt = 45); have := bd_87_8 hI1801; have := (congrArg Int32.toInt (hL1802 87 8 rfl).1); have : ((sI w1800 87 8 ((w1800.1 87 8) + (1 : Int32))).1 87 8).toInt = ((w1800.1 87 8) + (1 : Int32)).toInt := rfl; have := ti_sub2 (Eq.refl (w1824.1 87 8).toInt) (by decide : ((1 : Int32)).toInt = 1) (by omega) (by omega); have := ti_add2 (Eq.refl (w1800.1 87 8).toInt) (by decide : ((1 : Int32)).toInt = 1) (by omega) (by omega); omega)
      · have o1832 : 0 ≤ ((w1800.1 87 8) + (1 : Int32)).toInt ∧ ((w1800.1 87 8) + (1 : Int32)).toInt ≤ 20 := by have := bd_87_8 hI1801; have := bd_87_8 hI; have := (congrArg Int32.toInt (hL1802 87 8 rfl).1); have := (by decide : ((31 : Int32)).toInt = 31); have := (by decide : ((30 : Int32)).toInt = 30); have := (by decide : ((45 : Int32)).toInt = 45); have := ti_add2 (Eq.refl (w1800.1 87 8).toInt) (by decide : ((1 : Int32)).toInt = 1) (by omega) (by omega); omega
        have hI1831 : BND (sI w1800 87 8 ((w1800.1 87 8) + (1 : Int32))) := wbd_87_8 hI1801 o1832.1 o1832.2
        refine hr_Rd_readFactor _ _ hI1831 ((hL1802 87 0 rfl).2.2.trans hr_87_0) ((hL1802 87 1 rfl).2.2.trans hr_87_1)  (by have := bd_87_8 hI1801; have := bd_87_8 hI; have := (congrArg Int32.toInt (hL1802 87 8 rfl).1); have : ((sI w1800 87 8 ((w1800.1 87 8) + (1 : Int32))).1 87 8).toInt = ((w1800.1 87 8) + (1 : Int32)).toInt := rfl; have := (by decide : ((31 : Int32)).toInt = 31); have := (by decide : ((30 : Int32)).toInt = 30); have := (by decide : ((45 : Int32)).toInt = 45); have := ti_add2 (Eq.refl (w1800.1 87 8).toInt) (by decide : ((1 : Int32)).toInt = 1) (by omega) (by omega); omega) (fun r1836 w1833 hI1834 hL1835 p1837 => ?_)
        have hF1838 : FR l_Rd_readFactor_88 w w1833 := (FR.I hF1804 (k := 87) (j := 8) (v := ((w1800.1 87 8) + (1 : Int32))) rfl).tr hL1835 rfl
        refine Eq.mpr (q_Rd_readFactor_284.eq_1 _ _ _ _ _ _) ?_
        refine ⟨fun h => absurd h h1807, fun _ => ?_⟩
        refine h_Rd_makeNode hI1834 ((hL1835 87 1 rfl).2.2.trans ((hL1802 87 1 rfl).2.2.trans hr_87_1))  (fun r1842 w1839 hI1840 hL1841 p1843 p1844 => ?_)
        have hF1845 : FR l_Rd_readFactor_88 w w1839 := hF1838.tr hL1841 rfl
        have o1847 : 0 ≤ ((w1839.1 87 8) - (1 : Int32)).toInt ∧ ((w1839.1 87 8) - (1 : Int32)).toInt ≤ 20 := by have := bd_87_8 hI1840; have := bd_87_8 hI1834; have := (congrArg Int32.toInt (hL1841 87 8 rfl).1); have := bd_87_8 hI; have := (by decide : ((31 : Int32)).toInt = 31); have := (by decide : ((30 : Int32)).toInt = 30); have := (by decide : ((45 : Int32)).toInt = 45); have := bd_87_8 hI1801; have := (congrArg Int32.toInt (hL1802 87 8 rfl).1); have : ((sI w1800 87 8 ((w1800.1 87 8) + (1 : Int32))).1 87 8).toInt = ((w1800.1 87 8) + (1 : Int32)).toInt := rfl; have := ti_lo r1836; have := ti_hi r1836; have := ti_sub2 (Eq.refl (w1839.1 87 8).toInt) (by decide : ((1 : Int32)).toInt = 1) (by omega) (by omega); have := ti_add2 (Eq.refl (w1800.1 87 8).toInt) (by decide : ((1 : Int32)).toInt = 1) (by omega) (by omega); omega
        have hI1846 : BND (sI w1839 87 8 ((w1839.1 87 8) - (1 : Int32))) := wbd_87_8 hI1840 o1847.1 o1847.2
        exact hQ _ _ hI1846 (FR.I hF1845 (k := 87) (j := 8) (v := ((w1839.1 87 8) - (1 : Int32))) rfl)  (by have := ti_lo r1836; have := ti_hi r1836; have := bd_87_8 hI1840; have := bd_87_8 hI1834; have := (congrArg Int32.toInt (hL1841 87 8 rfl).1); have : ((sI w1839 87 8 ((w1839.1 87 8) - (1 : Int32))).1 87 8).toInt = ((w1839.1 87 8) - (1 : Int32)).toInt := rfl; have := bd_87_8 hI; have := (by decide : ((31 : Int32)).toInt = 31); have := (by decide : ((30 : Int32)).toInt = 30); have := (by decide : ((45 : Int32)).toInt = 45); have := bd_87_8 hI1801; have := (congrArg Int32.toInt (hL1802 87 8 rfl).1); have : ((sI w1800 87 8 ((w1800.1 87 8) + (1 : Int32))).1 87 8).toInt = ((w1800.1 87 8) + (1 : Int32)).toInt := rfl; have := ti_sub2 (Eq.refl (w1839.1 87 8).toInt) (by decide : ((1 : Int32)).toInt = 1) (by omega) (by omega); have := ti_add2 (Eq.refl (w1800.1 87 8).toInt) (by decide : ((1 : Int32)).toInt = 1) (by omega) (by omega); omega)
    · refine h_Rd_makeNode hI1801 ((hL1802 87 1 rfl).2.2.trans hr_87_1)  (fun r1851 w1848 hI1849 hL1850 p1852 p1853 => ?_)
      have hF1854 : FR l_Rd_readFactor_88 w w1848 := hF1804.tr hL1850 rfl
      refine ⟨((hL1850 87 1 rfl).2.2.trans ((hL1802 87 1 rfl).2.2.trans hr_87_1)), ?_⟩
      have o1855 : 0 ≤ y88_2.toInt ∧ y88_2.toInt < 40 := by have := (by decide : ((31 : Int32)).toInt = 31); have := (by decide : ((30 : Int32)).toInt = 30); have := bd_87_8 hI; omega
      refine ⟨o1855, ?_⟩
      exact hQ _ _ hI1849 hF1854  (by have := (congrArg Int32.toInt (hL1802 118 y88_2.toInt.toNat rfl).1); have := (congrArg Int32.toInt (hL1850 118 y88_2.toInt.toNat rfl).1); have := bd_87_8 hI1849; have := bd_87_8 hI1801; have := bd_87_8 hI; have := (congrArg Int32.toInt (hL1802 87 8 rfl).1); have := (congrArg Int32.toInt (hL1850 87 8 rfl).1); have := (by decide : ((31 : Int32)).toInt = 31); have := (by decide : ((30 : Int32)).toInt = 30); omega)
  · refine ⟨fun h1856 => ?_, fun h1856 => ?_⟩
    · refine ⟨fun h1857 => ?_, fun h1857 => ?_⟩
      · refine Eq.mpr (q_Rd_readFactor_137.eq_1 _ _ _ _ _ _) ?_
        refine ⟨fun h1858 => ?_, fun h1858 => ?_⟩
        · refine ⟨fun h1859 => ?_, fun h1859 => ?_⟩
          · refine Eq.mpr (q_Rd_readFactor_201.eq_1 _ _ _ _ _ _) ?_
            refine ⟨fun h => absurd h (by decide), fun _ => ?_⟩
            refine h_Rd_nextWord hI1801 ((hL1802 87 0 rfl).2.2.trans hr_87_0)  (fun w1860 hI1861 hL1862  => ?_)
            have hF1864 : FR l_Rd_readFactor_88 w w1860 := hF1804.tr hL1862 rfl
            refine ⟨((hL1862 87 1 rfl).2.2.trans ((hL1802 87 1 rfl).2.2.trans hr_87_1)), ?_⟩
            refine h_Rd_makeNode hI1861 ((hL1862 87 1 rfl).2.2.trans ((hL1802 87 1 rfl).2.2.trans hr_87_1))  (fun r1868 w1865 hI1866 hL1867 p1869 p1870 => ?_)
            have hF1871 : FR l_Rd_readFactor_88 w w1865 := hF1864.tr hL1867 rfl
            have o1872 : 0 ≤ r1868.toInt ∧ r1868.toInt < 301 := by omega
            refine ⟨o1872, ?_⟩
            exact hQ _ _ (bnd_J hI1866 (k := 115) (j := r1868.toInt.toNat) (v := ((w.2.1 87 6) * (1 : Int64)))) (FR.J hF1871 (k := 115) (j := r1868.toInt.toNat) (v := ((w.2.1 87 6) * (1 : Int64))) rfl)  (by have := (by decide : ((3 : Int32)).toInt = 3); have := bd_87_8 hI1866; have := bd_87_8 hI1861; have := bd_87_8 hI1801; have := bd_87_8 hI; have := (congrArg Int32.toInt (hL1802 87 8 rfl).1); have := (congrArg Int32.toInt (hL1862 87 8 rfl).1); have := (congrArg Int32.toInt (hL1867 87 8 rfl).1); have : ((sJ w1865 115 r1868.toInt.toNat ((w.2.1 87 6) * (1 : Int64))).1 87 8).toInt = (w1865.1 87 8).toInt := rfl; have := (by decide : ((31 : Int32)).toInt = 31); omega)
          · refine ⟨fun _ => ?_, fun h => absurd h1857 h⟩
            refine ⟨fun h1873 => ?_, fun h1873 => ?_⟩
            · refine Eq.mpr (q_Rd_readFactor_201.eq_1 _ _ _ _ _ _) ?_
              refine ⟨fun _ => ?_, fun h => absurd (by decide) h⟩
              refine ⟨((hL1802 87 1 rfl).2.2.trans hr_87_1), ?_⟩
              refine h_Rd_makeNode hI1801 ((hL1802 87 1 rfl).2.2.trans hr_87_1)  (fun r1877 w1874 hI1875 hL1876 p1878 p1879 => ?_)
              have hF1880 : FR l_Rd_readFactor_88 w w1874 := hF1804.tr hL1876 rfl
              have o1881 : 0 ≤ r1877.toInt ∧ r1877.toInt < 301 := by omega
              refine ⟨o1881, ?_⟩
              exact hQ _ _ (bnd_J hI1875 (k := 115) (j := r1877.toInt.toNat) (v := ((w.2.1 87 6) * (1 : Int64)))) (FR.J hF1880 (k := 115) (j := r1877.toInt.toNat) (v := ((w.2.1 87 6) * (1 : Int64))) rfl)  (by have := (by decide : ((0 : Int32)).toInt = 0); have := bd_87_8 hI1875; have := bd_87_8 hI1801; have := bd_87_8 hI; have := (congrArg Int32.toInt (hL1802 87 8 rfl).1); have := (congrArg Int32.toInt (hL1876 87 8 rfl).1); have : ((sJ w1874 115 r1877.toInt.toNat ((w.2.1 87 6) * (1 : Int64))).1 87 8).toInt = (w1874.1 87 8).toInt := rfl; have := (by decide : ((31 : Int32)).toInt = 31); omega)
            · refine ⟨fun h1882 => ?_, fun h1882 => ?_⟩
              · refine Eq.mpr (q_Rd_readFactor_201.eq_1 _ _ _ _ _ _) ?_
                refine ⟨fun _ => ?_, fun h => absurd (by decide) h⟩
                refine ⟨((hL1802 87 1 rfl).2.2.trans hr_87_1), ?_⟩
                refine h_Rd_makeNode hI1801 ((hL1802 87 1 rfl).2.2.trans hr_87_1)  (fun r1886 w1883 hI1884 hL1885 p1887 p1888 => ?_)
                have hF1889 : FR l_Rd_readFactor_88 w w1883 := hF1804.tr hL1885 rfl
                have o1890 : 0 ≤ r1886.toInt ∧ r1886.toInt < 301 := by omega
                refine ⟨o1890, ?_⟩
                exact hQ _ _ (bnd_J hI1884 (k := 115) (j := r1886.toInt.toNat) (v := ((w.2.1 87 6) * (1 : Int64)))) (FR.J hF1889 (k := 115) (j := r1886.toInt.toNat) (v := ((w.2.1 87 6) * (1 : Int64))) rfl)  (by have := (by decide : ((0 : Int32)).toInt = 0); have := bd_87_8 hI1884; have := bd_87_8 hI1801; have := bd_87_8 hI; have := (congrArg Int32.toInt (hL1802 87 8 rfl).1); have := (congrArg Int32.toInt (hL1885 87 8 rfl).1); have : ((sJ w1883 115 r1886.toInt.toNat ((w.2.1 87 6) * (1 : Int64))).1 87 8).toInt = (w1883.1 87 8).toInt := rfl; have := (by decide : ((31 : Int32)).toInt = 31); omega)
              · refine Eq.mpr (q_Rd_readFactor_201.eq_1 _ _ _ _ _ _) ?_
                refine ⟨fun h1891 => ?_, fun h1891 => ?_⟩
                · exfalso; have := bd_87_8 hI; have := (by decide : ((31 : Int32)).toInt = 31); have := (by decide : ((6 : Int32)).toInt = 6); have := (by decide : ((7 : Int32)).toInt = 7); have := nb_cmp ((w.2.1 87 6) * (1 : Int64)) (999999999999 : Int64); have := (by decide : ((999999999999 : Int64)).toInt = 999999999999); have := (by decide : ((0 : Int32)).toInt = 0); have := (by decide : ((1 : Int32)).toInt = 1); have := (by decide : ((5 : Int32)).toInt = 5); omega
                · refine h_Rd_nextWord hI1801 ((hL1802 87 0 rfl).2.2.trans hr_87_0)  (fun w1892 hI1893 hL1894  => ?_)
                  have hF1896 : FR l_Rd_readFactor_88 w w1892 := hF1804.tr hL1894 rfl
                  refine ⟨((hL1894 87 1 rfl).2.2.trans ((hL1802 87 1 rfl).2.2.trans hr_87_1)), ?_⟩
                  refine h_Rd_makeNode hI1893 ((hL1894 87 1 rfl).2.2.trans ((hL1802 87 1 rfl).2.2.trans hr_87_1))  (fun r1900 w1897 hI1898 hL1899 p1901 p1902 => ?_)
                  have hF1903 : FR l_Rd_readFactor_88 w w1897 := hF1896.tr hL1899 rfl
                  have o1904 : 0 ≤ r1900.toInt ∧ r1900.toInt < 301 := by omega
                  refine ⟨o1904, ?_⟩
                  exact hQ _ _ (bnd_J hI1898 (k := 115) (j := r1900.toInt.toNat) (v := ((w.2.1 87 6) * (1 : Int64)))) (FR.J hF1903 (k := 115) (j := r1900.toInt.toNat) (v := ((w.2.1 87 6) * (1 : Int64))) rfl)  (by have := bd_87_8 hI1898; have := bd_87_8 hI1893; have := bd_87_8 hI1801; have := bd_87_8 hI; have := (congrArg Int32.toInt (hL1802 87 8 rfl).1); have := (congrArg Int32.toInt (hL1894 87 8 rfl).1); have := (congrArg Int32.toInt (hL1899 87 8 rfl).1); have : ((sJ w1897 115 r1900.toInt.toNat ((w.2.1 87 6) * (1 : Int64))).1 87 8).toInt = (w1897.1 87 8).toInt := rfl; have := (by decide : ((31 : Int32)).toInt = 31); have := (by decide : ((6 : Int32)).toInt = 6); have := (by decide : ((7 : Int32)).toInt = 7); have := (by decide : ((1 : Int32)).toInt = 1); have := (by decide : ((5 : Int32)).toInt = 5); have := (by decide : ((0 : Int32)).toInt = 0); omega)
        · refine Eq.mpr (p_Rd_fail.eq_1 _ _) ?_
          refine ⟨fun h1905 => ?_, fun h1905 => ?_⟩
          · exact hQ _ _ hI1801 hF1804  (by have := (by decide : ((0 : Int32)).toInt = 0); have := bd_87_8 hI1801; have := bd_87_8 hI; have := (congrArg Int32.toInt (hL1802 87 8 rfl).1); have := (by decide : ((31 : Int32)).toInt = 31); omega)
          · have hI1906 : BND (sI w1800 87 9 (w1800.1 87 4)) := wbd_87_9 hI1801
            exact hQ _ _ hI1906 (FR.I hF1804 (k := 87) (j := 9) (v := (w1800.1 87 4)) rfl)  (by have := (by decide : ((0 : Int32)).toInt = 0); have := bd_87_8 hI1801; have := bd_87_8 hI; have := (congrArg Int32.toInt (hL1802 87 8 rfl).1); have : ((sI w1800 87 9 (w1800.1 87 4)).1 87 8).toInt = (w1800.1 87 8).toInt := rfl; have := (by decide : ((31 : Int32)).toInt = 31); omega)
      · refine Eq.mpr (q_Rd_readFactor_137.eq_1 _ _ _ _ _ _) ?_
        refine ⟨fun h1907 => ?_, fun h1907 => ?_⟩
        · refine ⟨fun h1908 => ?_, fun h1908 => ?_⟩
          · exfalso; have := bd_87_8 hI; have := (by decide : ((31 : Int32)).toInt = 31); have := (by decide : ((6 : Int32)).toInt = 6); have := (by decide : ((7 : Int32)).toInt = 7); have := nb_cmp ((w.2.1 87 6) * (3600 : Int64)) (999999999999 : Int64); have := (by decide : ((999999999999 : Int64)).toInt = 999999999999); have := (by decide : ((0 : Int32)).toInt = 0); omega
          · refine ⟨fun h => absurd h h1857, fun _ => ?_⟩
            refine Eq.mpr (q_Rd_readFactor_201.eq_1 _ _ _ _ _ _) ?_
            refine ⟨fun h => absurd h (by decide), fun _ => ?_⟩
            refine h_Rd_nextWord hI1801 ((hL1802 87 0 rfl).2.2.trans hr_87_0)  (fun w1909 hI1910 hL1911  => ?_)
            have hF1913 : FR l_Rd_readFactor_88 w w1909 := hF1804.tr hL1911 rfl
            refine ⟨((hL1911 87 1 rfl).2.2.trans ((hL1802 87 1 rfl).2.2.trans hr_87_1)), ?_⟩
            refine h_Rd_makeNode hI1910 ((hL1911 87 1 rfl).2.2.trans ((hL1802 87 1 rfl).2.2.trans hr_87_1))  (fun r1917 w1914 hI1915 hL1916 p1918 p1919 => ?_)
            have hF1920 : FR l_Rd_readFactor_88 w w1914 := hF1913.tr hL1916 rfl
            have o1921 : 0 ≤ r1917.toInt ∧ r1917.toInt < 301 := by omega
            refine ⟨o1921, ?_⟩
            exact hQ _ _ (bnd_J hI1915 (k := 115) (j := r1917.toInt.toNat) (v := ((w.2.1 87 6) * (3600 : Int64)))) (FR.J hF1920 (k := 115) (j := r1917.toInt.toNat) (v := ((w.2.1 87 6) * (3600 : Int64))) rfl)  (by have := (by decide : ((3 : Int32)).toInt = 3); have := bd_87_8 hI1915; have := bd_87_8 hI1910; have := bd_87_8 hI1801; have := bd_87_8 hI; have := (congrArg Int32.toInt (hL1802 87 8 rfl).1); have := (congrArg Int32.toInt (hL1911 87 8 rfl).1); have := (congrArg Int32.toInt (hL1916 87 8 rfl).1); have : ((sJ w1914 115 r1917.toInt.toNat ((w.2.1 87 6) * (3600 : Int64))).1 87 8).toInt = (w1914.1 87 8).toInt := rfl; have := (by decide : ((31 : Int32)).toInt = 31); omega)
        · refine Eq.mpr (p_Rd_fail.eq_1 _ _) ?_
          refine ⟨fun h1922 => ?_, fun h1922 => ?_⟩
          · exact hQ _ _ hI1801 hF1804  (by have := (by decide : ((0 : Int32)).toInt = 0); have := bd_87_8 hI1801; have := bd_87_8 hI; have := (congrArg Int32.toInt (hL1802 87 8 rfl).1); have := (by decide : ((31 : Int32)).toInt = 31); omega)
          · have hI1923 : BND (sI w1800 87 9 (w1800.1 87 4)) := wbd_87_9 hI1801
            exact hQ _ _ hI1923 (FR.I hF1804 (k := 87) (j := 9) (v := (w1800.1 87 4)) rfl)  (by have := (by decide : ((0 : Int32)).toInt = 0); have := bd_87_8 hI1801; have := bd_87_8 hI; have := (congrArg Int32.toInt (hL1802 87 8 rfl).1); have : ((sI w1800 87 9 (w1800.1 87 4)).1 87 8).toInt = (w1800.1 87 8).toInt := rfl; have := (by decide : ((31 : Int32)).toInt = 31); omega)
    · refine Eq.mpr (q_Rd_readFactor_137.eq_1 _ _ _ _ _ _) ?_
      refine ⟨fun h1924 => ?_, fun h1924 => ?_⟩
      · refine ⟨fun h1925 => ?_, fun h1925 => ?_⟩
        · refine Eq.mpr (q_Rd_readFactor_201.eq_1 _ _ _ _ _ _) ?_
          refine ⟨fun h => absurd h (by decide), fun _ => ?_⟩
          refine h_Rd_nextWord hI1801 ((hL1802 87 0 rfl).2.2.trans hr_87_0)  (fun w1926 hI1927 hL1928  => ?_)
          have hF1930 : FR l_Rd_readFactor_88 w w1926 := hF1804.tr hL1928 rfl
          refine ⟨((hL1928 87 1 rfl).2.2.trans ((hL1802 87 1 rfl).2.2.trans hr_87_1)), ?_⟩
          refine h_Rd_makeNode hI1927 ((hL1928 87 1 rfl).2.2.trans ((hL1802 87 1 rfl).2.2.trans hr_87_1))  (fun r1934 w1931 hI1932 hL1933 p1935 p1936 => ?_)
          have hF1937 : FR l_Rd_readFactor_88 w w1931 := hF1930.tr hL1933 rfl
          have o1938 : 0 ≤ r1934.toInt ∧ r1934.toInt < 301 := by omega
          refine ⟨o1938, ?_⟩
          exact hQ _ _ (bnd_J hI1932 (k := 115) (j := r1934.toInt.toNat) (v := ((w.2.1 87 6) * (60 : Int64)))) (FR.J hF1937 (k := 115) (j := r1934.toInt.toNat) (v := ((w.2.1 87 6) * (60 : Int64))) rfl)  (by have := (by decide : ((3 : Int32)).toInt = 3); have := bd_87_8 hI1932; have := bd_87_8 hI1927; have := bd_87_8 hI1801; have := bd_87_8 hI; have := (congrArg Int32.toInt (hL1802 87 8 rfl).1); have := (congrArg Int32.toInt (hL1928 87 8 rfl).1); have := (congrArg Int32.toInt (hL1933 87 8 rfl).1); have : ((sJ w1931 115 r1934.toInt.toNat ((w.2.1 87 6) * (60 : Int64))).1 87 8).toInt = (w1931.1 87 8).toInt := rfl; have := (by decide : ((31 : Int32)).toInt = 31); omega)
        · exfalso; have := bd_87_8 hI; have := (by decide : ((31 : Int32)).toInt = 31); have := (by decide : ((6 : Int32)).toInt = 6); have := nb_cmp ((w.2.1 87 6) * (60 : Int64)) (999999999999 : Int64); have := (by decide : ((999999999999 : Int64)).toInt = 999999999999); have := (by decide : ((0 : Int32)).toInt = 0); omega
      · refine Eq.mpr (p_Rd_fail.eq_1 _ _) ?_
        refine ⟨fun h1939 => ?_, fun h1939 => ?_⟩
        · exact hQ _ _ hI1801 hF1804  (by have := (by decide : ((0 : Int32)).toInt = 0); have := bd_87_8 hI1801; have := bd_87_8 hI; have := (congrArg Int32.toInt (hL1802 87 8 rfl).1); have := (by decide : ((31 : Int32)).toInt = 31); omega)
        · have hI1940 : BND (sI w1800 87 9 (w1800.1 87 4)) := wbd_87_9 hI1801
          exact hQ _ _ hI1940 (FR.I hF1804 (k := 87) (j := 9) (v := (w1800.1 87 4)) rfl)  (by have := (by decide : ((0 : Int32)).toInt = 0); have := bd_87_8 hI1801; have := bd_87_8 hI; have := (congrArg Int32.toInt (hL1802 87 8 rfl).1); have : ((sI w1800 87 9 (w1800.1 87 4)).1 87 8).toInt = (w1800.1 87 8).toInt := rfl; have := (by decide : ((31 : Int32)).toInt = 31); omega)
set_option maxRecDepth 20000 in
set_option maxHeartbeats 2000000 in
theorem hq_Rd_readFactor_53 {nn : Nat} {r_Rd_readFactor : MW → (Int32 → MW → Prop) → Prop} {r_Rd_readLevel : MW → Int32 → (Int32 → MW → Prop) → Prop} (hr_Rd_readFactor : ∀ (w : MW) (Q : Int32 → MW → Prop), BND w → w.2.2 87 0 = some 1 → w.2.2 87 1 = some 108 → (4 * (20 - (w.1 87 8).toInt)).toNat < nn → (∀ (r : Int32) (w' : MW), BND w' → FR l_Rd_readFactor w w' → (w'.1 87 8).toInt = (w.1 87 8).toInt → Q r w') → r_Rd_readFactor w Q) (hr_Rd_readLevel : ∀ (w : MW) (a0 : Int32) (Q : Int32 → MW → Prop), BND w → w.2.2 87 0 = some 1 → w.2.2 87 1 = some 108 → 0 ≤ a0.toInt → a0.toInt ≤ 2 → (4 * (20 - (w.1 87 8).toInt) + (3 - a0.toInt)).toNat < nn → (∀ (r : Int32) (w' : MW), BND w' → FR l_Rd_readLevel w w' → (w'.1 87 8).toInt = (w.1 87 8).toInt → Q r w') → r_Rd_readLevel w a0 Q) {y53_1 : Int32} {y53_2 : Int32} {ys53_0 : Int32} {w : MW} {Q : Int32 → MW → Prop} (hI : BND w) (hr_87_0 : w.2.2 87 0 = some 1) (hr_87_1 : w.2.2 87 1 = some 108) (hp0 : (-1) ≤ y53_2.toInt) (hp1 : y53_2.toInt ≤ 39) (hp2 : 0 ≤ ys53_0.toInt) (hp3 : ys53_0.toInt ≤ 1) (hp4 : ys53_0.toInt = 0 ∨ ((y53_1.toInt = 40 ∨ y53_1.toInt = 45) ∧ (w.1 87 8).toInt < 20)) (hp5 : y53_1.toInt = 30 ∨ y53_2.toInt = -1) (hp6 : ys53_0.toInt = 1 ∨ ¬ ((y53_1.toInt = 40 ∨ y53_1.toInt = 45) ∧ (w.1 87 8).toInt < 20)) (hp7 : (4 * (20 - (w.1 87 8).toInt)).toNat ≤ nn) (hQ : ∀ (r : Int32) (w' : MW), BND w' → FR l_Rd_readFactor_53 w w' → (w'.1 87 8).toInt = (w.1 87 8).toInt → Q r w') : q_Rd_readFactor_53 r_Rd_readFactor r_Rd_readLevel y53_1 y53_2 ys53_0 w Q := by
  refine Eq.mpr (q_Rd_readFactor_53.eq_1 _ _ _ _ _ _ _) ?_
  refine ⟨fun h1941 => ?_, fun h1941 => ?_⟩
  · refine Eq.mpr (p_Rd_fail.eq_1 _ _) ?_
    refine ⟨fun _ => ?_, fun h => absurd h1941 h⟩
    exact hQ _ _ hI (FR.refl _ w)  (by have := (by decide : ((0 : Int32)).toInt = 0); have := bd_87_8 hI; have := ti_lo y53_1; have := ti_hi y53_1; omega)
  · refine ⟨fun h1942 => ?_, fun h1942 => ?_⟩
    · have o1943 : ((-1) ≤ y53_2.toInt) ∧ (y53_2.toInt ≤ 39) ∧ (¬ (y53_1.toInt = 40 ∨ y53_1.toInt = 45) ∨ (w.1 87 8).toInt < 20) ∧ (¬ y53_1.toInt = 30 ∨ (0 ≤ y53_2.toInt ∧ y53_2.toInt ≤ 39)) ∧ (y53_1.toInt = 30 ∨ y53_1.toInt = 31 ∨ y53_1.toInt = 40 ∨ y53_1.toInt = 45) := by have := bd_87_8 hI; have := (by decide : ((31 : Int32)).toInt = 31); exact ⟨by omega, by omega, by omega, by omega, by omega⟩
      exact hq_Rd_readFactor_88 hr_Rd_readFactor hr_Rd_readLevel hI hr_87_0 hr_87_1 o1943.1 o1943.2.1 o1943.2.2.1 o1943.2.2.2.1 o1943.2.2.2.2 (by have := bd_87_8 hI; have := (by decide : ((31 : Int32)).toInt = 31); omega) (fun r w9 hI9 hF9 q0 => hQ r w9 hI9 ((FR.refl _ w).tr hF9 rfl) (by have := bd_87_8 hI; have := (by decide : ((31 : Int32)).toInt = 31); omega))
    · refine ⟨fun h1944 => ?_, fun h1944 => ?_⟩
      · have o1945 : ((-1) ≤ y53_2.toInt) ∧ (y53_2.toInt ≤ 39) ∧ (¬ (y53_1.toInt = 40 ∨ y53_1.toInt = 45) ∨ (w.1 87 8).toInt < 20) ∧ (¬ y53_1.toInt = 30 ∨ (0 ≤ y53_2.toInt ∧ y53_2.toInt ≤ 39)) ∧ (y53_1.toInt = 30 ∨ y53_1.toInt = 31 ∨ y53_1.toInt = 40 ∨ y53_1.toInt = 45) := by have := ti_lo y53_1; have := ti_hi y53_1; have := bd_87_8 hI; have := (by decide : ((31 : Int32)).toInt = 31); have := (by decide : ((0 : Int32)).toInt = 0); exact ⟨by omega, by omega, by omega, by omega, by omega⟩
        exact hq_Rd_readFactor_88 hr_Rd_readFactor hr_Rd_readLevel hI hr_87_0 hr_87_1 o1945.1 o1945.2.1 o1945.2.2.1 o1945.2.2.2.1 o1945.2.2.2.2 (by have := ti_lo y53_1; have := ti_hi y53_1; have := bd_87_8 hI; have := (by decide : ((31 : Int32)).toInt = 31); have := (by decide : ((0 : Int32)).toInt = 0); omega) (fun r w9 hI9 hF9 q0 => hQ r w9 hI9 ((FR.refl _ w).tr hF9 rfl) (by have := ti_lo y53_1; have := ti_hi y53_1; have := bd_87_8 hI; have := (by decide : ((31 : Int32)).toInt = 31); have := (by decide : ((0 : Int32)).toInt = 0); omega))
      · refine ⟨hr_87_1, ?_⟩
        refine Eq.mpr (p_Pr_hasValues108.eq_1 _ _ _) ?_
        refine ⟨fun h1946 => ?_, fun h1946 => ?_⟩
        · refine ⟨fun h => absurd h (by decide), fun _ => ?_⟩
          refine Eq.mpr (p_Rd_fail.eq_1 _ _) ?_
          refine ⟨fun h => absurd h h1941, fun _ => ?_⟩
          have hI1947 : BND (sI w 87 9 (w.1 87 4)) := wbd_87_9 hI
          exact hQ _ _ hI1947 (FR.I (FR.refl _ w) (k := 87) (j := 9) (v := (w.1 87 4)) rfl)  (by have := (by decide : ((0 : Int32)).toInt = 0); have := bd_87_8 hI; have : ((sI w 87 9 (w.1 87 4)).1 87 8).toInt = (w.1 87 8).toInt := rfl; have := ti_lo y53_1; have := ti_hi y53_1; have := (by decide : ((31 : Int32)).toInt = 31); omega)
        · refine ⟨fun h1948 => ?_, fun h1948 => ?_⟩
          · refine ⟨fun h => absurd h (by decide), fun _ => ?_⟩
            refine Eq.mpr (p_Rd_fail.eq_1 _ _) ?_
            refine ⟨fun h => absurd h h1941, fun _ => ?_⟩
            have hI1949 : BND (sI w 87 9 (w.1 87 4)) := wbd_87_9 hI
            exact hQ _ _ hI1949 (FR.I (FR.refl _ w) (k := 87) (j := 9) (v := (w.1 87 4)) rfl)  (by have := (by decide : ((0 : Int32)).toInt = 0); have := bd_87_8 hI; have : ((sI w 87 9 (w.1 87 4)).1 87 8).toInt = (w.1 87 8).toInt := rfl; have := ti_lo y53_1; have := ti_hi y53_1; have := (by decide : ((31 : Int32)).toInt = 31); have := bd_108_10 hI; omega)
          · have o1950 : 0 ≤ y53_2.toInt ∧ y53_2.toInt < 40 := by have := ti_lo y53_1; have := ti_hi y53_1; have := bd_87_8 hI; have := (by decide : ((31 : Int32)).toInt = 31); have := (by decide : ((0 : Int32)).toInt = 0); have := bd_108_10 hI; omega
            refine ⟨o1950, ?_⟩
            refine ⟨fun h1951 => ?_, fun h1951 => ?_⟩
            · refine ⟨fun h => absurd h (by decide), fun _ => ?_⟩
              refine Eq.mpr (p_Rd_fail.eq_1 _ _) ?_
              refine ⟨fun h => absurd h h1941, fun _ => ?_⟩
              have hI1952 : BND (sI w 87 9 (w.1 87 4)) := wbd_87_9 hI
              exact hQ _ _ hI1952 (FR.I (FR.refl _ w) (k := 87) (j := 9) (v := (w.1 87 4)) rfl)  (by have := (by decide : ((0 : Int32)).toInt = 0); have := bd_87_8 hI; have : ((sI w 87 9 (w.1 87 4)).1 87 8).toInt = (w.1 87 8).toInt := rfl; have := ti_lo y53_1; have := ti_hi y53_1; have := (by decide : ((31 : Int32)).toInt = 31); have := bd_108_10 hI; omega)
            · refine ⟨fun _ => ?_, fun h => absurd (by decide) h⟩
              have o1953 : ((-1) ≤ y53_2.toInt) ∧ (y53_2.toInt ≤ 39) ∧ (¬ (y53_1.toInt = 40 ∨ y53_1.toInt = 45) ∨ (w.1 87 8).toInt < 20) ∧ (¬ y53_1.toInt = 30 ∨ (0 ≤ y53_2.toInt ∧ y53_2.toInt ≤ 39)) ∧ (y53_1.toInt = 30 ∨ y53_1.toInt = 31 ∨ y53_1.toInt = 40 ∨ y53_1.toInt = 45) := by have := ti_lo y53_1; have := ti_hi y53_1; have := bd_87_8 hI; have := (by decide : ((31 : Int32)).toInt = 31); have := (by decide : ((0 : Int32)).toInt = 0); have := bd_108_10 hI; exact ⟨by omega, by omega, by omega, by omega, by omega⟩
              exact hq_Rd_readFactor_88 hr_Rd_readFactor hr_Rd_readLevel hI hr_87_0 hr_87_1 o1953.1 o1953.2.1 o1953.2.2.1 o1953.2.2.2.1 o1953.2.2.2.2 (by have := ti_lo y53_1; have := ti_hi y53_1; have := bd_87_8 hI; have := (by decide : ((31 : Int32)).toInt = 31); have := (by decide : ((0 : Int32)).toInt = 0); have := bd_108_10 hI; omega) (fun r w9 hI9 hF9 q0 => hQ r w9 hI9 ((FR.refl _ w).tr hF9 rfl) (by have := ti_lo y53_1; have := ti_hi y53_1; have := bd_87_8 hI; have := (by decide : ((31 : Int32)).toInt = 31); have := (by decide : ((0 : Int32)).toInt = 0); have := bd_108_10 hI; omega))
set_option maxRecDepth 20000 in
set_option maxHeartbeats 2000000 in
theorem hb_Rd_readFactor {nn : Nat} {r_Rd_readFactor : MW → (Int32 → MW → Prop) → Prop} {r_Rd_readLevel : MW → Int32 → (Int32 → MW → Prop) → Prop} (hr_Rd_readFactor : ∀ (w : MW) (Q : Int32 → MW → Prop), BND w → w.2.2 87 0 = some 1 → w.2.2 87 1 = some 108 → (4 * (20 - (w.1 87 8).toInt)).toNat < nn → (∀ (r : Int32) (w' : MW), BND w' → FR l_Rd_readFactor w w' → (w'.1 87 8).toInt = (w.1 87 8).toInt → Q r w') → r_Rd_readFactor w Q) (hr_Rd_readLevel : ∀ (w : MW) (a0 : Int32) (Q : Int32 → MW → Prop), BND w → w.2.2 87 0 = some 1 → w.2.2 87 1 = some 108 → 0 ≤ a0.toInt → a0.toInt ≤ 2 → (4 * (20 - (w.1 87 8).toInt) + (3 - a0.toInt)).toNat < nn → (∀ (r : Int32) (w' : MW), BND w' → FR l_Rd_readLevel w w' → (w'.1 87 8).toInt = (w.1 87 8).toInt → Q r w') → r_Rd_readLevel w a0 Q) {w : MW} {Q : Int32 → MW → Prop} (hI : BND w) (hr_87_0 : w.2.2 87 0 = some 1) (hr_87_1 : w.2.2 87 1 = some 108)  (hn : (4 * (20 - (w.1 87 8).toInt)).toNat ≤ nn) (hQ : ∀ (r : Int32) (w' : MW), BND w' → FR l_Rd_readFactor w w' → (w'.1 87 8).toInt = (w.1 87 8).toInt → Q r w') : pb_Rd_readFactor r_Rd_readFactor r_Rd_readLevel w Q := by
  refine Eq.mpr (pb_Rd_readFactor.eq_1 _ _ _ _) ?_
  refine ⟨fun h1954 => ?_, fun h1954 => ?_⟩
  · refine Eq.mpr (q_Rd_readFactor_26.eq_1 _ _ _ _ _ _) ?_
    refine ⟨fun h1955 => ?_, fun h1955 => ?_⟩
    · refine ⟨fun h1956 => ?_, fun h1956 => ?_⟩
      · have o1957 : ((-1) ≤ ((-1) : Int32).toInt) ∧ (((-1) : Int32).toInt ≤ 39) ∧ (0 ≤ (0 : Int32).toInt) ∧ ((0 : Int32).toInt ≤ 1) ∧ ((0 : Int32).toInt = 0 ∨ (((w.1 87 3).toInt = 40 ∨ (w.1 87 3).toInt = 45) ∧ (w.1 87 8).toInt < 20)) ∧ ((w.1 87 3).toInt = 30 ∨ ((-1) : Int32).toInt = -1) ∧ ((0 : Int32).toInt = 1 ∨ ¬ (((w.1 87 3).toInt = 40 ∨ (w.1 87 3).toInt = 45) ∧ (w.1 87 8).toInt < 20)) := by have := (by decide : (((-1) : Int32)).toInt = (-1)); have := (by decide : ((0 : Int32)).toInt = 0); have := bd_87_8 hI; have := (by decide : ((30 : Int32)).toInt = 30); have := (by decide : ((40 : Int32)).toInt = 40); have := (by decide : ((20 : Int32)).toInt = 20); exact ⟨by omega, by omega, by omega, by omega, by omega, by omega, by omega⟩
        exact hq_Rd_readFactor_53 hr_Rd_readFactor hr_Rd_readLevel hI hr_87_0 hr_87_1 o1957.1 o1957.2.1 o1957.2.2.1 o1957.2.2.2.1 o1957.2.2.2.2.1 o1957.2.2.2.2.2.1 o1957.2.2.2.2.2.2 (by have := (by decide : (((-1) : Int32)).toInt = (-1)); have := (by decide : ((0 : Int32)).toInt = 0); have := bd_87_8 hI; have := (by decide : ((30 : Int32)).toInt = 30); have := (by decide : ((40 : Int32)).toInt = 40); have := (by decide : ((20 : Int32)).toInt = 20); omega) (fun r w9 hI9 hF9 q0 => hQ r w9 hI9 ((FR.refl _ w).tr hF9 rfl) (by have := (by decide : (((-1) : Int32)).toInt = (-1)); have := (by decide : ((0 : Int32)).toInt = 0); have := bd_87_8 hI; have := (by decide : ((30 : Int32)).toInt = 30); have := (by decide : ((40 : Int32)).toInt = 40); have := (by decide : ((20 : Int32)).toInt = 20); omega))
      · have o1958 : ((-1) ≤ ((-1) : Int32).toInt) ∧ (((-1) : Int32).toInt ≤ 39) ∧ (0 ≤ (1 : Int32).toInt) ∧ ((1 : Int32).toInt ≤ 1) ∧ ((1 : Int32).toInt = 0 ∨ (((w.1 87 3).toInt = 40 ∨ (w.1 87 3).toInt = 45) ∧ (w.1 87 8).toInt < 20)) ∧ ((w.1 87 3).toInt = 30 ∨ ((-1) : Int32).toInt = -1) ∧ ((1 : Int32).toInt = 1 ∨ ¬ (((w.1 87 3).toInt = 40 ∨ (w.1 87 3).toInt = 45) ∧ (w.1 87 8).toInt < 20)) := by have := (by decide : (((-1) : Int32)).toInt = (-1)); have := (by decide : ((1 : Int32)).toInt = 1); have := bd_87_8 hI; have := (by decide : ((30 : Int32)).toInt = 30); have := (by decide : ((40 : Int32)).toInt = 40); have := (by decide : ((20 : Int32)).toInt = 20); exact ⟨by omega, by omega, by omega, by omega, by omega, by omega, by omega⟩
        exact hq_Rd_readFactor_53 hr_Rd_readFactor hr_Rd_readLevel hI hr_87_0 hr_87_1 o1958.1 o1958.2.1 o1958.2.2.1 o1958.2.2.2.1 o1958.2.2.2.2.1 o1958.2.2.2.2.2.1 o1958.2.2.2.2.2.2 (by have := (by decide : (((-1) : Int32)).toInt = (-1)); have := (by decide : ((1 : Int32)).toInt = 1); have := bd_87_8 hI; have := (by decide : ((30 : Int32)).toInt = 30); have := (by decide : ((40 : Int32)).toInt = 40); have := (by decide : ((20 : Int32)).toInt = 20); omega) (fun r w9 hI9 hF9 q0 => hQ r w9 hI9 ((FR.refl _ w).tr hF9 rfl) (by have := (by decide : (((-1) : Int32)).toInt = (-1)); have := (by decide : ((1 : Int32)).toInt = 1); have := bd_87_8 hI; have := (by decide : ((30 : Int32)).toInt = 30); have := (by decide : ((40 : Int32)).toInt = 40); have := (by decide : ((20 : Int32)).toInt = 20); omega))
    · refine ⟨fun h1959 => ?_, fun h1959 => ?_⟩
      · have o1960 : ((-1) ≤ ((-1) : Int32).toInt) ∧ (((-1) : Int32).toInt ≤ 39) ∧ (0 ≤ (0 : Int32).toInt) ∧ ((0 : Int32).toInt ≤ 1) ∧ ((0 : Int32).toInt = 0 ∨ (((w.1 87 3).toInt = 40 ∨ (w.1 87 3).toInt = 45) ∧ (w.1 87 8).toInt < 20)) ∧ ((w.1 87 3).toInt = 30 ∨ ((-1) : Int32).toInt = -1) ∧ ((0 : Int32).toInt = 1 ∨ ¬ (((w.1 87 3).toInt = 40 ∨ (w.1 87 3).toInt = 45) ∧ (w.1 87 8).toInt < 20)) := by have := (by decide : (((-1) : Int32)).toInt = (-1)); have := (by decide : ((0 : Int32)).toInt = 0); have := bd_87_8 hI; have := (by decide : ((30 : Int32)).toInt = 30); have := (by decide : ((40 : Int32)).toInt = 40); have := (by decide : ((45 : Int32)).toInt = 45); exact ⟨by omega, by omega, by omega, by omega, by omega, by omega, by omega⟩
        exact hq_Rd_readFactor_53 hr_Rd_readFactor hr_Rd_readLevel hI hr_87_0 hr_87_1 o1960.1 o1960.2.1 o1960.2.2.1 o1960.2.2.2.1 o1960.2.2.2.2.1 o1960.2.2.2.2.2.1 o1960.2.2.2.2.2.2 (by have := (by decide : (((-1) : Int32)).toInt = (-1)); have := (by decide : ((0 : Int32)).toInt = 0); have := bd_87_8 hI; have := (by decide : ((30 : Int32)).toInt = 30); have := (by decide : ((40 : Int32)).toInt = 40); have := (by decide : ((45 : Int32)).toInt = 45); omega) (fun r w9 hI9 hF9 q0 => hQ r w9 hI9 ((FR.refl _ w).tr hF9 rfl) (by have := (by decide : (((-1) : Int32)).toInt = (-1)); have := (by decide : ((0 : Int32)).toInt = 0); have := bd_87_8 hI; have := (by decide : ((30 : Int32)).toInt = 30); have := (by decide : ((40 : Int32)).toInt = 40); have := (by decide : ((45 : Int32)).toInt = 45); omega))
      · refine ⟨fun h1961 => ?_, fun h1961 => ?_⟩
        · have o1962 : ((-1) ≤ ((-1) : Int32).toInt) ∧ (((-1) : Int32).toInt ≤ 39) ∧ (0 ≤ (0 : Int32).toInt) ∧ ((0 : Int32).toInt ≤ 1) ∧ ((0 : Int32).toInt = 0 ∨ (((w.1 87 3).toInt = 40 ∨ (w.1 87 3).toInt = 45) ∧ (w.1 87 8).toInt < 20)) ∧ ((w.1 87 3).toInt = 30 ∨ ((-1) : Int32).toInt = -1) ∧ ((0 : Int32).toInt = 1 ∨ ¬ (((w.1 87 3).toInt = 40 ∨ (w.1 87 3).toInt = 45) ∧ (w.1 87 8).toInt < 20)) := by have := (by decide : (((-1) : Int32)).toInt = (-1)); have := (by decide : ((0 : Int32)).toInt = 0); have := bd_87_8 hI; have := (by decide : ((30 : Int32)).toInt = 30); have := (by decide : ((40 : Int32)).toInt = 40); have := (by decide : ((45 : Int32)).toInt = 45); have := (by decide : ((20 : Int32)).toInt = 20); exact ⟨by omega, by omega, by omega, by omega, by omega, by omega, by omega⟩
          exact hq_Rd_readFactor_53 hr_Rd_readFactor hr_Rd_readLevel hI hr_87_0 hr_87_1 o1962.1 o1962.2.1 o1962.2.2.1 o1962.2.2.2.1 o1962.2.2.2.2.1 o1962.2.2.2.2.2.1 o1962.2.2.2.2.2.2 (by have := (by decide : (((-1) : Int32)).toInt = (-1)); have := (by decide : ((0 : Int32)).toInt = 0); have := bd_87_8 hI; have := (by decide : ((30 : Int32)).toInt = 30); have := (by decide : ((40 : Int32)).toInt = 40); have := (by decide : ((45 : Int32)).toInt = 45); have := (by decide : ((20 : Int32)).toInt = 20); omega) (fun r w9 hI9 hF9 q0 => hQ r w9 hI9 ((FR.refl _ w).tr hF9 rfl) (by have := (by decide : (((-1) : Int32)).toInt = (-1)); have := (by decide : ((0 : Int32)).toInt = 0); have := bd_87_8 hI; have := (by decide : ((30 : Int32)).toInt = 30); have := (by decide : ((40 : Int32)).toInt = 40); have := (by decide : ((45 : Int32)).toInt = 45); have := (by decide : ((20 : Int32)).toInt = 20); omega))
        · have o1963 : ((-1) ≤ ((-1) : Int32).toInt) ∧ (((-1) : Int32).toInt ≤ 39) ∧ (0 ≤ (1 : Int32).toInt) ∧ ((1 : Int32).toInt ≤ 1) ∧ ((1 : Int32).toInt = 0 ∨ (((w.1 87 3).toInt = 40 ∨ (w.1 87 3).toInt = 45) ∧ (w.1 87 8).toInt < 20)) ∧ ((w.1 87 3).toInt = 30 ∨ ((-1) : Int32).toInt = -1) ∧ ((1 : Int32).toInt = 1 ∨ ¬ (((w.1 87 3).toInt = 40 ∨ (w.1 87 3).toInt = 45) ∧ (w.1 87 8).toInt < 20)) := by have := (by decide : (((-1) : Int32)).toInt = (-1)); have := (by decide : ((1 : Int32)).toInt = 1); have := bd_87_8 hI; have := (by decide : ((30 : Int32)).toInt = 30); have := (by decide : ((40 : Int32)).toInt = 40); have := (by decide : ((45 : Int32)).toInt = 45); have := (by decide : ((20 : Int32)).toInt = 20); exact ⟨by omega, by omega, by omega, by omega, by omega, by omega, by omega⟩
          exact hq_Rd_readFactor_53 hr_Rd_readFactor hr_Rd_readLevel hI hr_87_0 hr_87_1 o1963.1 o1963.2.1 o1963.2.2.1 o1963.2.2.2.1 o1963.2.2.2.2.1 o1963.2.2.2.2.2.1 o1963.2.2.2.2.2.2 (by have := (by decide : (((-1) : Int32)).toInt = (-1)); have := (by decide : ((1 : Int32)).toInt = 1); have := bd_87_8 hI; have := (by decide : ((30 : Int32)).toInt = 30); have := (by decide : ((40 : Int32)).toInt = 40); have := (by decide : ((45 : Int32)).toInt = 45); have := (by decide : ((20 : Int32)).toInt = 20); omega) (fun r w9 hI9 hF9 q0 => hQ r w9 hI9 ((FR.refl _ w).tr hF9 rfl) (by have := (by decide : (((-1) : Int32)).toInt = (-1)); have := (by decide : ((1 : Int32)).toInt = 1); have := bd_87_8 hI; have := (by decide : ((30 : Int32)).toInt = 30); have := (by decide : ((40 : Int32)).toInt = 40); have := (by decide : ((45 : Int32)).toInt = 45); have := (by decide : ((20 : Int32)).toInt = 20); omega))
  · refine ⟨hr_87_1, ?_⟩
    refine h_Pr_finds108 hI   (fun r1967 w1964 hI1965 hL1966 p1968 p1969 => ?_)
    have hF1970 : FR l_Rd_readFactor w w1964 := (FR.refl _ w).tr hL1966 rfl
    refine Eq.mpr (q_Rd_readFactor_26.eq_1 _ _ _ _ _ _) ?_
    refine ⟨fun h1971 => ?_, fun h1971 => ?_⟩
    · exfalso; have := (by decide : ((30 : Int32)).toInt = 30); have := (by decide : ((40 : Int32)).toInt = 40); omega
    · refine ⟨fun h1972 => ?_, fun h1972 => ?_⟩
      · have o1973 : ((-1) ≤ r1967.toInt) ∧ (r1967.toInt ≤ 39) ∧ (0 ≤ (0 : Int32).toInt) ∧ ((0 : Int32).toInt ≤ 1) ∧ ((0 : Int32).toInt = 0 ∨ (((w.1 87 3).toInt = 40 ∨ (w.1 87 3).toInt = 45) ∧ (w1964.1 87 8).toInt < 20)) ∧ ((w.1 87 3).toInt = 30 ∨ r1967.toInt = -1) ∧ ((0 : Int32).toInt = 1 ∨ ¬ (((w.1 87 3).toInt = 40 ∨ (w.1 87 3).toInt = 45) ∧ (w1964.1 87 8).toInt < 20)) := by have := (by decide : ((0 : Int32)).toInt = 0); have := bd_87_8 hI1965; have := bd_87_8 hI; have := (congrArg Int32.toInt (hL1966 87 8 rfl).1); have := (by decide : ((30 : Int32)).toInt = 30); have := (by decide : ((40 : Int32)).toInt = 40); have := (by decide : ((45 : Int32)).toInt = 45); exact ⟨by omega, by omega, by omega, by omega, by omega, by omega, by omega⟩
        exact hq_Rd_readFactor_53 hr_Rd_readFactor hr_Rd_readLevel hI1965 ((hL1966 87 0 rfl).2.2.trans hr_87_0) ((hL1966 87 1 rfl).2.2.trans hr_87_1) o1973.1 o1973.2.1 o1973.2.2.1 o1973.2.2.2.1 o1973.2.2.2.2.1 o1973.2.2.2.2.2.1 o1973.2.2.2.2.2.2 (by have := (by decide : ((0 : Int32)).toInt = 0); have := bd_87_8 hI1965; have := bd_87_8 hI; have := (congrArg Int32.toInt (hL1966 87 8 rfl).1); have := (by decide : ((30 : Int32)).toInt = 30); have := (by decide : ((40 : Int32)).toInt = 40); have := (by decide : ((45 : Int32)).toInt = 45); omega) (fun r w9 hI9 hF9 q0 => hQ r w9 hI9 (hF1970.tr hF9 rfl) (by have := (by decide : ((0 : Int32)).toInt = 0); have := bd_87_8 hI1965; have := bd_87_8 hI; have := (congrArg Int32.toInt (hL1966 87 8 rfl).1); have := (by decide : ((30 : Int32)).toInt = 30); have := (by decide : ((40 : Int32)).toInt = 40); have := (by decide : ((45 : Int32)).toInt = 45); omega))
      · exfalso; have := (by decide : ((30 : Int32)).toInt = 30); have := (by decide : ((40 : Int32)).toInt = 40); have := (by decide : ((45 : Int32)).toInt = 45); omega
set_option maxRecDepth 20000 in
set_option maxHeartbeats 2000000 in
theorem hq_Rd_readLevel_38 {nn : Nat} {r_Rd_readFactor : MW → (Int32 → MW → Prop) → Prop} {r_Rd_readLevel : MW → Int32 → (Int32 → MW → Prop) → Prop} (hr_Rd_readFactor : ∀ (w : MW) (Q : Int32 → MW → Prop), BND w → w.2.2 87 0 = some 1 → w.2.2 87 1 = some 108 → (4 * (20 - (w.1 87 8).toInt)).toNat < nn → (∀ (r : Int32) (w' : MW), BND w' → FR l_Rd_readFactor w w' → (w'.1 87 8).toInt = (w.1 87 8).toInt → Q r w') → r_Rd_readFactor w Q) (hr_Rd_readLevel : ∀ (w : MW) (a0 : Int32) (Q : Int32 → MW → Prop), BND w → w.2.2 87 0 = some 1 → w.2.2 87 1 = some 108 → 0 ≤ a0.toInt → a0.toInt ≤ 2 → (4 * (20 - (w.1 87 8).toInt) + (3 - a0.toInt)).toNat < nn → (∀ (r : Int32) (w' : MW), BND w' → FR l_Rd_readLevel w w' → (w'.1 87 8).toInt = (w.1 87 8).toInt → Q r w') → r_Rd_readLevel w a0 Q) {x38_1 : Int32} {x38_2 : Int32} {x38_4 : Int32} {E : Int32 → Int32 → MW → Prop} {Q : Int32 → MW → Prop} (n : Nat) : ∀ (x38_3 : Int32) (x38_5 : Int32) (w : MW), BND w → w.2.2 87 0 = some 1 → w.2.2 87 1 = some 108 → 0 ≤ x38_1.toInt → x38_1.toInt ≤ 2 → 1 ≤ x38_2.toInt → x38_2.toInt ≤ 3 → 1 ≤ x38_4.toInt → x38_4.toInt ≤ 4000 → 0 ≤ x38_5.toInt → x38_5.toInt ≤ 4000 → x38_2.toInt = x38_1.toInt + 1 → (4 * (20 - (w.1 87 8).toInt) + (3 - x38_1.toInt)).toNat ≤ nn → (4000 - x38_5.toInt).toNat < n → (∀ (e38_3 : Int32) (e38_5 : Int32) (w' : MW), BND w' → FR l_Rd_readLevel_38 w w' → 0 ≤ e38_5.toInt → e38_5.toInt ≤ 4000 → (w'.1 87 8).toInt = (w.1 87 8).toInt → E e38_3 e38_5 w') → (∀ (r : Int32) (w' : MW), BND w' → FR l_Rd_readLevel_38 w w' → False → Q r w') → q_Rd_readLevel_38 r_Rd_readFactor r_Rd_readLevel x38_1 x38_2 x38_4 E Q n x38_3 x38_5 w := by
  induction n with
  | zero => intros; omega
  | succ n ih =>
    intro x38_3 x38_5 w hI hr_87_0 hr_87_1 hp0 hp1 hp2 hp3 hp4 hp5 hp6 hp7 hp8 hp9 hm hE hQ
    rw [q_Rd_readLevel_38.eq_2]
    refine ⟨fun h1974 => ?_, fun h1974 => ?_⟩
    · have o1975 : (0 ≤ x38_5.toInt) ∧ (x38_5.toInt ≤ 4000) ∧ ((w.1 87 8).toInt = (w.1 87 8).toInt) := by have := ti_lo x38_3; have := ti_hi x38_3; have := bd_87_8 hI; exact ⟨by omega, by omega, by omega⟩
      exact hE _ _ _ hI (FR.refl _ w) o1975.1 o1975.2.1 o1975.2.2
    · refine ⟨fun h1976 => ?_, fun h1976 => ?_⟩
      · have o1977 : (0 ≤ x38_5.toInt) ∧ (x38_5.toInt ≤ 4000) ∧ ((w.1 87 8).toInt = (w.1 87 8).toInt) := by have := ti_lo x38_3; have := ti_hi x38_3; have := bd_87_8 hI; exact ⟨by omega, by omega, by omega⟩
        exact hE _ _ _ hI (FR.refl _ w) o1977.1 o1977.2.1 o1977.2.2
      · refine h_Rd_levelOf hI   (fun r1981 w1978 hI1979 hL1980 p1982 p1983 => ?_)
        have hF1984 : FR l_Rd_readLevel_38 w w1978 := (FR.refl _ w).tr hL1980 rfl
        refine ⟨fun h1985 => ?_, fun h1985 => ?_⟩
        · have o1986 : (0 ≤ x38_5.toInt) ∧ (x38_5.toInt ≤ 4000) ∧ ((w1978.1 87 8).toInt = (w.1 87 8).toInt) := by have := ti_lo x38_3; have := ti_hi x38_3; have := bd_87_8 hI1979; have := bd_87_8 hI; have := (congrArg Int32.toInt (hL1980 87 8 rfl).1); exact ⟨by omega, by omega, by omega⟩
          exact hE _ _ _ hI1979 hF1984 o1986.1 o1986.2.1 o1986.2.2
        · refine h_Rd_nextWord hI1979 ((hL1980 87 0 rfl).2.2.trans hr_87_0)  (fun w1987 hI1988 hL1989  => ?_)
          have hF1991 : FR l_Rd_readLevel_38 w w1987 := hF1984.tr hL1989 rfl
          refine ⟨fun h1992 => ?_, fun h1992 => ?_⟩
          · refine hr_Rd_readFactor _ _ hI1988 ((hL1989 87 0 rfl).2.2.trans ((hL1980 87 0 rfl).2.2.trans hr_87_0)) ((hL1989 87 1 rfl).2.2.trans ((hL1980 87 1 rfl).2.2.trans hr_87_1))  (by have := bd_87_8 hI1988; have := bd_87_8 hI1979; have := bd_87_8 hI; have := (congrArg Int32.toInt (hL1980 87 8 rfl).1); have := (congrArg Int32.toInt (hL1989 87 8 rfl).1); omega) (fun r1996 w1993 hI1994 hL1995 p1997 => ?_)
            have hF1998 : FR l_Rd_readLevel_38 w w1993 := hF1991.tr hL1995 rfl
            refine h_Rd_join hI1994 ((hL1995 87 1 rfl).2.2.trans ((hL1989 87 1 rfl).2.2.trans ((hL1980 87 1 rfl).2.2.trans hr_87_1)))  (fun r2002 w1999 hI2000 hL2001  => ?_)
            have hF2003 : FR l_Rd_readLevel_38 w w1999 := hF1998.tr hL2001 rfl
            have o2004 : (0 ≤ x38_1.toInt) ∧ (x38_1.toInt ≤ 2) ∧ (1 ≤ x38_2.toInt) ∧ (x38_2.toInt ≤ 3) ∧ (1 ≤ x38_4.toInt) ∧ (x38_4.toInt ≤ 4000) ∧ (0 ≤ (x38_5 + (1 : Int32)).toInt) ∧ ((x38_5 + (1 : Int32)).toInt ≤ 4000) ∧ (x38_2.toInt = x38_1.toInt + 1) := by have := ti_lo r2002; have := ti_hi r2002; have := ti_add2 (Eq.refl x38_5.toInt) (by decide : ((1 : Int32)).toInt = 1) (by omega) (by omega); exact ⟨by omega, by omega, by omega, by omega, by omega, by omega, by omega, by omega, by omega⟩
            exact ih _ _ w1999 hI2000 ((hL2001 87 0 rfl).2.2.trans ((hL1995 87 0 rfl).2.2.trans ((hL1989 87 0 rfl).2.2.trans ((hL1980 87 0 rfl).2.2.trans hr_87_0)))) ((hL2001 87 1 rfl).2.2.trans ((hL1995 87 1 rfl).2.2.trans ((hL1989 87 1 rfl).2.2.trans ((hL1980 87 1 rfl).2.2.trans hr_87_1)))) o2004.1 o2004.2.1 o2004.2.2.1 o2004.2.2.2.1 o2004.2.2.2.2.1 o2004.2.2.2.2.2.1 o2004.2.2.2.2.2.2.1 o2004.2.2.2.2.2.2.2.1 o2004.2.2.2.2.2.2.2.2 (by have := ti_lo r2002; have := ti_hi r2002; have := bd_87_8 hI2000; have := bd_87_8 hI1994; have := (congrArg Int32.toInt (hL2001 87 8 rfl).1); have := bd_87_8 hI1988; have := bd_87_8 hI1979; have := bd_87_8 hI; have := (congrArg Int32.toInt (hL1980 87 8 rfl).1); have := (congrArg Int32.toInt (hL1989 87 8 rfl).1); have := ti_lo r1996; have := ti_hi r1996; have := ti_add2 (Eq.refl x38_5.toInt) (by decide : ((1 : Int32)).toInt = 1) (by omega) (by omega); omega) (by have := ti_lo r2002; have := ti_hi r2002; have := ti_add2 (Eq.refl x38_5.toInt) (by decide : ((1 : Int32)).toInt = 1) (by omega) (by omega); omega) (fun e0 e1 w9 hI9 hF9 p0 p1 u0 => hE e0 e1 w9 hI9 (hF2003.tr hF9 rfl) p0 p1 (by have := ti_lo r2002; have := ti_hi r2002; have := ti_lo x38_3; have := ti_hi x38_3; have := bd_87_8 hI2000; have := bd_87_8 hI1994; have := (congrArg Int32.toInt (hL2001 87 8 rfl).1); have := bd_87_8 hI; have := bd_87_8 hI1988; have := bd_87_8 hI1979; have := (congrArg Int32.toInt (hL1980 87 8 rfl).1); have := (congrArg Int32.toInt (hL1989 87 8 rfl).1); have := ti_lo r1996; have := ti_hi r1996; have := ti_add2 (Eq.refl x38_5.toInt) (by decide : ((1 : Int32)).toInt = 1) (by omega) (by omega); omega)) (fun r w9 hI9 hF9 q0 => q0.elim)
          · have o2005 : (0 ≤ x38_2.toInt) ∧ (x38_2.toInt ≤ 2) := by have := (by decide : ((3 : Int32)).toInt = 3); exact ⟨by omega, by omega⟩
            refine hr_Rd_readLevel _ _ _ hI1988 ((hL1989 87 0 rfl).2.2.trans ((hL1980 87 0 rfl).2.2.trans hr_87_0)) ((hL1989 87 1 rfl).2.2.trans ((hL1980 87 1 rfl).2.2.trans hr_87_1)) o2005.1 o2005.2 (by have := bd_87_8 hI1988; have := bd_87_8 hI1979; have := bd_87_8 hI; have := (congrArg Int32.toInt (hL1980 87 8 rfl).1); have := (congrArg Int32.toInt (hL1989 87 8 rfl).1); have := (by decide : ((3 : Int32)).toInt = 3); omega) (fun r2009 w2006 hI2007 hL2008 p2010 => ?_)
            have hF2011 : FR l_Rd_readLevel_38 w w2006 := hF1991.tr hL2008 rfl
            refine h_Rd_join hI2007 ((hL2008 87 1 rfl).2.2.trans ((hL1989 87 1 rfl).2.2.trans ((hL1980 87 1 rfl).2.2.trans hr_87_1)))  (fun r2015 w2012 hI2013 hL2014  => ?_)
            have hF2016 : FR l_Rd_readLevel_38 w w2012 := hF2011.tr hL2014 rfl
            have o2017 : (0 ≤ x38_1.toInt) ∧ (x38_1.toInt ≤ 2) ∧ (1 ≤ x38_2.toInt) ∧ (x38_2.toInt ≤ 3) ∧ (1 ≤ x38_4.toInt) ∧ (x38_4.toInt ≤ 4000) ∧ (0 ≤ (x38_5 + (1 : Int32)).toInt) ∧ ((x38_5 + (1 : Int32)).toInt ≤ 4000) ∧ (x38_2.toInt = x38_1.toInt + 1) := by have := ti_lo r2015; have := ti_hi r2015; have := ti_add2 (Eq.refl x38_5.toInt) (by decide : ((1 : Int32)).toInt = 1) (by omega) (by omega); exact ⟨by omega, by omega, by omega, by omega, by omega, by omega, by omega, by omega, by omega⟩
            exact ih _ _ w2012 hI2013 ((hL2014 87 0 rfl).2.2.trans ((hL2008 87 0 rfl).2.2.trans ((hL1989 87 0 rfl).2.2.trans ((hL1980 87 0 rfl).2.2.trans hr_87_0)))) ((hL2014 87 1 rfl).2.2.trans ((hL2008 87 1 rfl).2.2.trans ((hL1989 87 1 rfl).2.2.trans ((hL1980 87 1 rfl).2.2.trans hr_87_1)))) o2017.1 o2017.2.1 o2017.2.2.1 o2017.2.2.2.1 o2017.2.2.2.2.1 o2017.2.2.2.2.2.1 o2017.2.2.2.2.2.2.1 o2017.2.2.2.2.2.2.2.1 o2017.2.2.2.2.2.2.2.2 (by have := ti_lo r2015; have := ti_hi r2015; have := bd_87_8 hI2013; have := bd_87_8 hI2007; have := (congrArg Int32.toInt (hL2014 87 8 rfl).1); have := bd_87_8 hI1988; have := bd_87_8 hI1979; have := bd_87_8 hI; have := (congrArg Int32.toInt (hL1980 87 8 rfl).1); have := (congrArg Int32.toInt (hL1989 87 8 rfl).1); have := ti_lo r2009; have := ti_hi r2009; have := ti_add2 (Eq.refl x38_5.toInt) (by decide : ((1 : Int32)).toInt = 1) (by omega) (by omega); omega) (by have := ti_lo r2015; have := ti_hi r2015; have := ti_add2 (Eq.refl x38_5.toInt) (by decide : ((1 : Int32)).toInt = 1) (by omega) (by omega); omega) (fun e0 e1 w9 hI9 hF9 p0 p1 u0 => hE e0 e1 w9 hI9 (hF2016.tr hF9 rfl) p0 p1 (by have := ti_lo r2015; have := ti_hi r2015; have := ti_lo x38_3; have := ti_hi x38_3; have := bd_87_8 hI2013; have := bd_87_8 hI2007; have := (congrArg Int32.toInt (hL2014 87 8 rfl).1); have := bd_87_8 hI; have := bd_87_8 hI1988; have := bd_87_8 hI1979; have := (congrArg Int32.toInt (hL1980 87 8 rfl).1); have := (congrArg Int32.toInt (hL1989 87 8 rfl).1); have := ti_lo r2009; have := ti_hi r2009; have := ti_add2 (Eq.refl x38_5.toInt) (by decide : ((1 : Int32)).toInt = 1) (by omega) (by omega); omega)) (fun r w9 hI9 hF9 q0 => q0.elim)
set_option maxRecDepth 20000 in
set_option maxHeartbeats 2000000 in
theorem hb_Rd_readLevel {nn : Nat} {r_Rd_readFactor : MW → (Int32 → MW → Prop) → Prop} {r_Rd_readLevel : MW → Int32 → (Int32 → MW → Prop) → Prop} (hr_Rd_readFactor : ∀ (w : MW) (Q : Int32 → MW → Prop), BND w → w.2.2 87 0 = some 1 → w.2.2 87 1 = some 108 → (4 * (20 - (w.1 87 8).toInt)).toNat < nn → (∀ (r : Int32) (w' : MW), BND w' → FR l_Rd_readFactor w w' → (w'.1 87 8).toInt = (w.1 87 8).toInt → Q r w') → r_Rd_readFactor w Q) (hr_Rd_readLevel : ∀ (w : MW) (a0 : Int32) (Q : Int32 → MW → Prop), BND w → w.2.2 87 0 = some 1 → w.2.2 87 1 = some 108 → 0 ≤ a0.toInt → a0.toInt ≤ 2 → (4 * (20 - (w.1 87 8).toInt) + (3 - a0.toInt)).toNat < nn → (∀ (r : Int32) (w' : MW), BND w' → FR l_Rd_readLevel w w' → (w'.1 87 8).toInt = (w.1 87 8).toInt → Q r w') → r_Rd_readLevel w a0 Q) {w : MW} {a0 : Int32} {Q : Int32 → MW → Prop} (hI : BND w) (hr_87_0 : w.2.2 87 0 = some 1) (hr_87_1 : w.2.2 87 1 = some 108) (hp0 : 0 ≤ a0.toInt) (hp1 : a0.toInt ≤ 2) (hn : (4 * (20 - (w.1 87 8).toInt) + (3 - a0.toInt)).toNat ≤ nn) (hQ : ∀ (r : Int32) (w' : MW), BND w' → FR l_Rd_readLevel w w' → (w'.1 87 8).toInt = (w.1 87 8).toInt → Q r w') : pb_Rd_readLevel r_Rd_readFactor r_Rd_readLevel w a0 Q := by
  refine Eq.mpr (pb_Rd_readLevel.eq_1 _ _ _ _ _) ?_
  refine ⟨fun h2018 => ?_, fun h2018 => ?_⟩
  · refine hr_Rd_readFactor _ _ hI hr_87_0 hr_87_1  (by have := bd_87_8 hI; omega) (fun r2022 w2019 hI2020 hL2021 p2023 => ?_)
    have hF2024 : FR l_Rd_readLevel w w2019 := (FR.refl _ w).tr hL2021 rfl
    refine ⟨fun h2025 => ?_, fun h2025 => ?_⟩
    · refine Eq.mpr (q_Rd_readLevel_33.eq_1 _ _ _ _ _ _ _ _) ?_
      have o2026 : (0 ≤ a0.toInt) ∧ (a0.toInt ≤ 2) ∧ (1 ≤ (a0 + (1 : Int32)).toInt) ∧ ((a0 + (1 : Int32)).toInt ≤ 3) ∧ (1 ≤ (4000 : Int32).toInt) ∧ ((4000 : Int32).toInt ≤ 4000) ∧ (0 ≤ (0 : Int32).toInt) ∧ ((0 : Int32).toInt ≤ 4000) ∧ ((a0 + (1 : Int32)).toInt = a0.toInt + 1) := by have := (by decide : ((4000 : Int32)).toInt = 4000); have := ti_lo r2022; have := ti_hi r2022; have := (by decide : ((0 : Int32)).toInt = 0); have := (by decide : ((3 : Int32)).toInt = 3); have := bd_87_8 hI2020; have := bd_87_8 hI; have := ti_add2 (Eq.refl a0.toInt) (by decide : ((1 : Int32)).toInt = 1) (by omega) (by omega); exact ⟨by omega, by omega, by omega, by omega, by omega, by omega, by omega, by omega, by omega⟩
      refine hq_Rd_readLevel_38 hr_Rd_readFactor hr_Rd_readLevel FU _ _ w2019 hI2020 ((hL2021 87 0 rfl).2.2.trans hr_87_0) ((hL2021 87 1 rfl).2.2.trans hr_87_1) o2026.1 o2026.2.1 o2026.2.2.1 o2026.2.2.2.1 o2026.2.2.2.2.1 o2026.2.2.2.2.2.1 o2026.2.2.2.2.2.2.1 o2026.2.2.2.2.2.2.2.1 o2026.2.2.2.2.2.2.2.2 (by have := (by decide : ((4000 : Int32)).toInt = 4000); have := ti_lo r2022; have := ti_hi r2022; have := (by decide : ((0 : Int32)).toInt = 0); have := bd_87_8 hI2020; have := (by decide : ((3 : Int32)).toInt = 3); have := bd_87_8 hI; have := ti_add2 (Eq.refl a0.toInt) (by decide : ((1 : Int32)).toInt = 1) (by omega) (by omega); omega) (fu_lt (by have := (by decide : ((4000 : Int32)).toInt = 4000); have := ti_lo r2022; have := ti_hi r2022; have := (by decide : ((0 : Int32)).toInt = 0); have := (by decide : ((3 : Int32)).toInt = 3); have := bd_87_8 hI2020; have := bd_87_8 hI; have := ti_add2 (Eq.refl a0.toInt) (by decide : ((1 : Int32)).toInt = 1) (by omega) (by omega); omega)) (fun e2030 e2031 w2027 hI2028 hL2029 p2032 p2033 p2034 => ?_) (fun r w9 hI9 hF9 q0 => q0.elim)
      have hF2035 : FR l_Rd_readLevel w w2027 := hF2024.tr hL2029 rfl
      refine ⟨fun _ => ?_, fun h => absurd h2025 h⟩
      exact hQ _ _ hI2028 hF2035  (by have := ti_lo e2030; have := ti_hi e2030; have := bd_87_8 hI2028; have := bd_87_8 hI; have := bd_87_8 hI2020; have := ti_lo r2022; have := ti_hi r2022; omega)
    · exfalso; have := (by decide : ((3 : Int32)).toInt = 3); have := bd_87_8 hI2020; have := bd_87_8 hI; have := ti_lo r2022; have := ti_hi r2022; have := (by decide : ((0 : Int32)).toInt = 0); have := ti_add2 (Eq.refl a0.toInt) (by decide : ((1 : Int32)).toInt = 1) (by omega) (by omega); omega
  · have o2036 : (0 ≤ (a0 + (1 : Int32)).toInt) ∧ ((a0 + (1 : Int32)).toInt ≤ 2) := by have := (by decide : ((3 : Int32)).toInt = 3); have := ti_add2 (Eq.refl a0.toInt) (by decide : ((1 : Int32)).toInt = 1) (by omega) (by omega); exact ⟨by omega, by omega⟩
    refine hr_Rd_readLevel _ _ _ hI hr_87_0 hr_87_1 o2036.1 o2036.2 (by have := bd_87_8 hI; have := (by decide : ((3 : Int32)).toInt = 3); have := ti_add2 (Eq.refl a0.toInt) (by decide : ((1 : Int32)).toInt = 1) (by omega) (by omega); omega) (fun r2040 w2037 hI2038 hL2039 p2041 => ?_)
    have hF2042 : FR l_Rd_readLevel w w2037 := (FR.refl _ w).tr hL2039 rfl
    refine ⟨fun h2043 => ?_, fun h2043 => ?_⟩
    · refine Eq.mpr (q_Rd_readLevel_33.eq_1 _ _ _ _ _ _ _ _) ?_
      have o2044 : (0 ≤ a0.toInt) ∧ (a0.toInt ≤ 2) ∧ (1 ≤ (a0 + (1 : Int32)).toInt) ∧ ((a0 + (1 : Int32)).toInt ≤ 3) ∧ (1 ≤ (4000 : Int32).toInt) ∧ ((4000 : Int32).toInt ≤ 4000) ∧ (0 ≤ (0 : Int32).toInt) ∧ ((0 : Int32).toInt ≤ 4000) ∧ ((a0 + (1 : Int32)).toInt = a0.toInt + 1) := by have := (by decide : ((4000 : Int32)).toInt = 4000); have := ti_lo r2040; have := ti_hi r2040; have := (by decide : ((0 : Int32)).toInt = 0); have := (by decide : ((3 : Int32)).toInt = 3); have := bd_87_8 hI2038; have := bd_87_8 hI; have := ti_add2 (Eq.refl a0.toInt) (by decide : ((1 : Int32)).toInt = 1) (by omega) (by omega); exact ⟨by omega, by omega, by omega, by omega, by omega, by omega, by omega, by omega, by omega⟩
      refine hq_Rd_readLevel_38 hr_Rd_readFactor hr_Rd_readLevel FU _ _ w2037 hI2038 ((hL2039 87 0 rfl).2.2.trans hr_87_0) ((hL2039 87 1 rfl).2.2.trans hr_87_1) o2044.1 o2044.2.1 o2044.2.2.1 o2044.2.2.2.1 o2044.2.2.2.2.1 o2044.2.2.2.2.2.1 o2044.2.2.2.2.2.2.1 o2044.2.2.2.2.2.2.2.1 o2044.2.2.2.2.2.2.2.2 (by have := (by decide : ((4000 : Int32)).toInt = 4000); have := ti_lo r2040; have := ti_hi r2040; have := (by decide : ((0 : Int32)).toInt = 0); have := bd_87_8 hI2038; have := (by decide : ((3 : Int32)).toInt = 3); have := bd_87_8 hI; have := ti_add2 (Eq.refl a0.toInt) (by decide : ((1 : Int32)).toInt = 1) (by omega) (by omega); omega) (fu_lt (by have := (by decide : ((4000 : Int32)).toInt = 4000); have := ti_lo r2040; have := ti_hi r2040; have := (by decide : ((0 : Int32)).toInt = 0); have := (by decide : ((3 : Int32)).toInt = 3); have := bd_87_8 hI2038; have := bd_87_8 hI; have := ti_add2 (Eq.refl a0.toInt) (by decide : ((1 : Int32)).toInt = 1) (by omega) (by omega); omega)) (fun e2048 e2049 w2045 hI2046 hL2047 p2050 p2051 p2052 => ?_) (fun r w9 hI9 hF9 q0 => q0.elim)
      have hF2053 : FR l_Rd_readLevel w w2045 := hF2042.tr hL2047 rfl
      refine ⟨fun _ => ?_, fun h => absurd h2043 h⟩
      exact hQ _ _ hI2046 hF2053  (by have := ti_lo e2048; have := ti_hi e2048; have := bd_87_8 hI2046; have := bd_87_8 hI; have := bd_87_8 hI2038; have := ti_lo r2040; have := ti_hi r2040; omega)
    · refine Eq.mpr (q_Rd_readLevel_33.eq_1 _ _ _ _ _ _ _ _) ?_
      have o2054 : (0 ≤ a0.toInt) ∧ (a0.toInt ≤ 2) ∧ (1 ≤ (a0 + (1 : Int32)).toInt) ∧ ((a0 + (1 : Int32)).toInt ≤ 3) ∧ (1 ≤ (1 : Int32).toInt) ∧ ((1 : Int32).toInt ≤ 4000) ∧ (0 ≤ (0 : Int32).toInt) ∧ ((0 : Int32).toInt ≤ 4000) ∧ ((a0 + (1 : Int32)).toInt = a0.toInt + 1) := by have := (by decide : ((1 : Int32)).toInt = 1); have := ti_lo r2040; have := ti_hi r2040; have := (by decide : ((0 : Int32)).toInt = 0); have := (by decide : ((3 : Int32)).toInt = 3); have := bd_87_8 hI2038; have := bd_87_8 hI; have := ti_add2 (Eq.refl a0.toInt) (by decide : ((1 : Int32)).toInt = 1) (by omega) (by omega); exact ⟨by omega, by omega, by omega, by omega, by omega, by omega, by omega, by omega, by omega⟩
      refine hq_Rd_readLevel_38 hr_Rd_readFactor hr_Rd_readLevel FU _ _ w2037 hI2038 ((hL2039 87 0 rfl).2.2.trans hr_87_0) ((hL2039 87 1 rfl).2.2.trans hr_87_1) o2054.1 o2054.2.1 o2054.2.2.1 o2054.2.2.2.1 o2054.2.2.2.2.1 o2054.2.2.2.2.2.1 o2054.2.2.2.2.2.2.1 o2054.2.2.2.2.2.2.2.1 o2054.2.2.2.2.2.2.2.2 (by have := (by decide : ((1 : Int32)).toInt = 1); have := ti_lo r2040; have := ti_hi r2040; have := (by decide : ((0 : Int32)).toInt = 0); have := bd_87_8 hI2038; have := (by decide : ((3 : Int32)).toInt = 3); have := bd_87_8 hI; have := ti_add2 (Eq.refl a0.toInt) (by decide : ((1 : Int32)).toInt = 1) (by omega) (by omega); omega) (fu_lt (by have := (by decide : ((1 : Int32)).toInt = 1); have := ti_lo r2040; have := ti_hi r2040; have := (by decide : ((0 : Int32)).toInt = 0); have := (by decide : ((3 : Int32)).toInt = 3); have := bd_87_8 hI2038; have := bd_87_8 hI; have := ti_add2 (Eq.refl a0.toInt) (by decide : ((1 : Int32)).toInt = 1) (by omega) (by omega); omega)) (fun e2058 e2059 w2055 hI2056 hL2057 p2060 p2061 p2062 => ?_) (fun r w9 hI9 hF9 q0 => q0.elim)
      have hF2063 : FR l_Rd_readLevel w w2055 := hF2042.tr hL2057 rfl
      refine ⟨fun h => absurd h h2043, fun _ => ?_⟩
      refine ⟨fun h2064 => ?_, fun h2064 => ?_⟩
      · exact hQ _ _ hI2056 hF2063  (by have := ti_lo e2058; have := ti_hi e2058; have := bd_87_8 hI2056; have := bd_87_8 hI; have := bd_87_8 hI2038; have := ti_lo r2040; have := ti_hi r2040; have := (by decide : ((0 : Int32)).toInt = 0); omega)
      · refine Eq.mpr (p_Rd_fail.eq_1 _ _) ?_
        refine ⟨fun h2065 => ?_, fun h2065 => ?_⟩
        · exact hQ _ _ hI2056 hF2063  (by have := ti_lo e2058; have := ti_hi e2058; have := bd_87_8 hI2056; have := bd_87_8 hI; have := bd_87_8 hI2038; have := ti_lo r2040; have := ti_hi r2040; have := (by decide : ((0 : Int32)).toInt = 0); omega)
        · have hI2066 : BND (sI w2055 87 9 (w2055.1 87 4)) := wbd_87_9 hI2056
          exact hQ _ _ hI2066 (FR.I hF2063 (k := 87) (j := 9) (v := (w2055.1 87 4)) rfl)  (by have := ti_lo e2058; have := ti_hi e2058; have := bd_87_8 hI2056; have : ((sI w2055 87 9 (w2055.1 87 4)).1 87 8).toInt = (w2055.1 87 8).toInt := rfl; have := bd_87_8 hI; have := bd_87_8 hI2038; have := ti_lo r2040; have := ti_hi r2040; have := (by decide : ((0 : Int32)).toInt = 0); omega)
theorem ha_Rd_readFactor (n : Nat) : (∀ (w : MW) (Q : Int32 → MW → Prop), BND w → w.2.2 87 0 = some 1 → w.2.2 87 1 = some 108 → (4 * (20 - (w.1 87 8).toInt)).toNat < n → (∀ (r : Int32) (w' : MW), BND w' → FR l_Rd_readFactor w w' → (w'.1 87 8).toInt = (w.1 87 8).toInt → Q r w') → pn_Rd_readFactor n w Q) ∧ (∀ (w : MW) (a0 : Int32) (Q : Int32 → MW → Prop), BND w → w.2.2 87 0 = some 1 → w.2.2 87 1 = some 108 → 0 ≤ a0.toInt → a0.toInt ≤ 2 → (4 * (20 - (w.1 87 8).toInt) + (3 - a0.toInt)).toNat < n → (∀ (r : Int32) (w' : MW), BND w' → FR l_Rd_readLevel w w' → (w'.1 87 8).toInt = (w.1 87 8).toInt → Q r w') → pn_Rd_readLevel n w a0 Q) := by
  induction n with
  | zero =>
    refine ⟨?_, ?_⟩ <;> (intros; omega)
  | succ n ih =>
    obtain ⟨h0, h1⟩ := ih
    exact ⟨fun w Q hI y0 y1 hn hQ => Eq.mpr (pe_Rd_readFactor n w Q) (hb_Rd_readFactor (nn := n) h0 h1 hI y0 y1 (by omega) hQ), fun w a0 Q hI y0 y1 y2 y3 hn hQ => Eq.mpr (pe_Rd_readLevel n w a0 Q) (hb_Rd_readLevel (nn := n) h0 h1 hI y0 y1 y2 y3 (by omega) hQ)⟩
theorem h_Rd_readFactor {w : MW} {Q : Int32 → MW → Prop} (hI : BND w) (hr_87_0 : w.2.2 87 0 = some 1) (hr_87_1 : w.2.2 87 1 = some 108)  (hQ : ∀ (r : Int32) (w' : MW), BND w' → FR l_Rd_readFactor w w' → (w'.1 87 8).toInt = (w.1 87 8).toInt → Q r w') : p_Rd_readFactor w Q := (ha_Rd_readFactor 400).1 w Q hI hr_87_0 hr_87_1  (by have := bd_87_8 hI; omega) hQ
theorem h_Rd_readLevel {w : MW} {a0 : Int32} {Q : Int32 → MW → Prop} (hI : BND w) (hr_87_0 : w.2.2 87 0 = some 1) (hr_87_1 : w.2.2 87 1 = some 108) (hp0 : 0 ≤ a0.toInt) (hp1 : a0.toInt ≤ 2) (hQ : ∀ (r : Int32) (w' : MW), BND w' → FR l_Rd_readLevel w w' → (w'.1 87 8).toInt = (w.1 87 8).toInt → Q r w') : p_Rd_readLevel w a0 Q := (ha_Rd_readFactor 400).2 w a0 Q hI hr_87_0 hr_87_1 hp0 hp1 (by have := bd_87_8 hI; omega) hQ
