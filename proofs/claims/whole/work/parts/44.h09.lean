def l_Rd_join_94 : Pl := [(87, some 9), (88, none), (89, none), (108, some 1), (109, none), (110, none), (111, none), (112, none), (113, none), (114, none)]
def l_Rd_join_20 : Pl := [(87, some 9), (88, none), (89, none), (108, some 1), (109, none), (110, none), (111, none), (112, none), (113, none), (114, none)]
def l_Rd_join : Pl := [(87, some 9), (88, none), (89, none), (108, some 1), (109, none), (110, none), (111, none), (112, none), (113, none), (114, none)]
set_option maxRecDepth 20000 in
set_option maxHeartbeats 2000000 in
theorem h_Rd_join {w : MW} {a0 : Int32} {b0 : Int32} {c0 : Int32} {e0 : Int32} {Q : Int32 → MW → Prop} (hI : BND w) (hr_87_1 : w.2.2 87 1 = some 108)  (hQ : ∀ (r : Int32) (w' : MW), BND w' → FR l_Rd_join w w' → Q r w') : p_Rd_join w a0 b0 c0 e0 Q := by
  refine Eq.mpr (p_Rd_join.eq_1 _ _ _ _ _ _) ?_
  refine ⟨fun h1597 => ?_, fun h1597 => ?_⟩
  · refine ⟨fun h1598 => ?_, fun h1598 => ?_⟩
    · refine Eq.mpr (q_Rd_join_20.eq_1 _ _ _ _ _ _ _) ?_
      refine ⟨fun h1599 => ?_, fun h1599 => ?_⟩
      · refine ⟨fun h1600 => ?_, fun h1600 => ?_⟩
        · refine Eq.mpr (q_Rd_join_94.eq_1 _ _ _ _ _ _) ?_
          refine ⟨fun h => absurd h (by decide), fun _ => ?_⟩
          have hI1601 : BND (sI w 87 9 b0) := wbd_87_9 hI
          exact hQ _ _ hI1601 (FR.I (FR.refl _ w) (k := 87) (j := 9) (v := b0) rfl) 
        · refine ⟨fun h1602 => ?_, fun h1602 => ?_⟩
          · refine ⟨fun h1603 => ?_, fun h1603 => ?_⟩
            · refine Eq.mpr (q_Rd_join_94.eq_1 _ _ _ _ _ _) ?_
              refine ⟨fun _ => ?_, fun h => absurd (by decide) h⟩
              refine h_Rd_makeNode hI hr_87_1  (fun r1607 w1604 hI1605 hL1606 p1608 p1609 => ?_)
              have hF1610 : FR l_Rd_join w w1604 := (FR.refl _ w).tr hL1606 rfl
              exact hQ _ _ hI1605 hF1610 
            · refine Eq.mpr (q_Rd_join_94.eq_1 _ _ _ _ _ _) ?_
              refine ⟨fun _ => ?_, fun h => absurd (by decide) h⟩
              refine h_Rd_makeNode hI hr_87_1  (fun r1614 w1611 hI1612 hL1613 p1615 p1616 => ?_)
              have hF1617 : FR l_Rd_join w w1611 := (FR.refl _ w).tr hL1613 rfl
              exact hQ _ _ hI1612 hF1617 
          · refine ⟨fun h1618 => ?_, fun h1618 => ?_⟩
            · refine Eq.mpr (q_Rd_join_94.eq_1 _ _ _ _ _ _) ?_
              refine ⟨fun h => absurd h (by decide), fun _ => ?_⟩
              have hI1619 : BND (sI w 87 9 b0) := wbd_87_9 hI
              exact hQ _ _ hI1619 (FR.I (FR.refl _ w) (k := 87) (j := 9) (v := b0) rfl) 
            · refine Eq.mpr (q_Rd_join_94.eq_1 _ _ _ _ _ _) ?_
              refine ⟨fun _ => ?_, fun h => absurd (by decide) h⟩
              refine h_Rd_makeNode hI hr_87_1  (fun r1623 w1620 hI1621 hL1622 p1624 p1625 => ?_)
              have hF1626 : FR l_Rd_join w w1620 := (FR.refl _ w).tr hL1622 rfl
              exact hQ _ _ hI1621 hF1626 
      · refine ⟨fun h1627 => ?_, fun h1627 => ?_⟩
        · refine Eq.mpr (p_Ma_max.eq_1 _ _ _ _) ?_
          refine ⟨fun h1628 => ?_, fun h1628 => ?_⟩
          · refine Eq.mpr (q_Rd_join_94.eq_1 _ _ _ _ _ _) ?_
            refine ⟨fun _ => ?_, fun h => absurd (by decide) h⟩
            refine h_Rd_makeNode hI hr_87_1  (fun r1632 w1629 hI1630 hL1631 p1633 p1634 => ?_)
            have hF1635 : FR l_Rd_join w w1629 := (FR.refl _ w).tr hL1631 rfl
            exact hQ _ _ hI1630 hF1635 
          · refine Eq.mpr (q_Rd_join_94.eq_1 _ _ _ _ _ _) ?_
            refine ⟨fun _ => ?_, fun h => absurd (by decide) h⟩
            refine h_Rd_makeNode hI hr_87_1  (fun r1639 w1636 hI1637 hL1638 p1640 p1641 => ?_)
            have hF1642 : FR l_Rd_join w w1636 := (FR.refl _ w).tr hL1638 rfl
            exact hQ _ _ hI1637 hF1642 
        · refine ⟨fun h1643 => ?_, fun h1643 => ?_⟩
          · refine Eq.mpr (p_Ma_max.eq_1 _ _ _ _) ?_
            refine ⟨fun h1644 => ?_, fun h1644 => ?_⟩
            · refine Eq.mpr (q_Rd_join_94.eq_1 _ _ _ _ _ _) ?_
              refine ⟨fun h => absurd h (by decide), fun _ => ?_⟩
              have hI1645 : BND (sI w 87 9 b0) := wbd_87_9 hI
              exact hQ _ _ hI1645 (FR.I (FR.refl _ w) (k := 87) (j := 9) (v := b0) rfl) 
            · refine Eq.mpr (q_Rd_join_94.eq_1 _ _ _ _ _ _) ?_
              refine ⟨fun h => absurd h (by decide), fun _ => ?_⟩
              have hI1646 : BND (sI w 87 9 b0) := wbd_87_9 hI
              exact hQ _ _ hI1646 (FR.I (FR.refl _ w) (k := 87) (j := 9) (v := b0) rfl) 
          · refine Eq.mpr (p_Ma_max.eq_1 _ _ _ _) ?_
            refine ⟨fun h1647 => ?_, fun h1647 => ?_⟩
            · refine Eq.mpr (q_Rd_join_94.eq_1 _ _ _ _ _ _) ?_
              refine ⟨fun _ => ?_, fun h => absurd (by decide) h⟩
              refine h_Rd_makeNode hI hr_87_1  (fun r1651 w1648 hI1649 hL1650 p1652 p1653 => ?_)
              have hF1654 : FR l_Rd_join w w1648 := (FR.refl _ w).tr hL1650 rfl
              exact hQ _ _ hI1649 hF1654 
            · refine Eq.mpr (q_Rd_join_94.eq_1 _ _ _ _ _ _) ?_
              refine ⟨fun _ => ?_, fun h => absurd (by decide) h⟩
              refine h_Rd_makeNode hI hr_87_1  (fun r1658 w1655 hI1656 hL1657 p1659 p1660 => ?_)
              have hF1661 : FR l_Rd_join w w1655 := (FR.refl _ w).tr hL1657 rfl
              exact hQ _ _ hI1656 hF1661 
    · refine Eq.mpr (q_Rd_join_20.eq_1 _ _ _ _ _ _ _) ?_
      refine ⟨fun h1662 => ?_, fun h1662 => ?_⟩
      · refine ⟨fun h1663 => ?_, fun h1663 => ?_⟩
        · refine Eq.mpr (q_Rd_join_94.eq_1 _ _ _ _ _ _) ?_
          refine ⟨fun _ => ?_, fun h => absurd (by decide) h⟩
          refine h_Rd_makeNode hI hr_87_1  (fun r1667 w1664 hI1665 hL1666 p1668 p1669 => ?_)
          have hF1670 : FR l_Rd_join w w1664 := (FR.refl _ w).tr hL1666 rfl
          exact hQ _ _ hI1665 hF1670 
        · refine ⟨fun h1671 => ?_, fun h1671 => ?_⟩
          · refine ⟨fun h1672 => ?_, fun h1672 => ?_⟩
            · refine Eq.mpr (q_Rd_join_94.eq_1 _ _ _ _ _ _) ?_
              refine ⟨fun _ => ?_, fun h => absurd (by decide) h⟩
              refine h_Rd_makeNode hI hr_87_1  (fun r1676 w1673 hI1674 hL1675 p1677 p1678 => ?_)
              have hF1679 : FR l_Rd_join w w1673 := (FR.refl _ w).tr hL1675 rfl
              exact hQ _ _ hI1674 hF1679 
            · refine Eq.mpr (q_Rd_join_94.eq_1 _ _ _ _ _ _) ?_
              refine ⟨fun _ => ?_, fun h => absurd (by decide) h⟩
              refine h_Rd_makeNode hI hr_87_1  (fun r1683 w1680 hI1681 hL1682 p1684 p1685 => ?_)
              have hF1686 : FR l_Rd_join w w1680 := (FR.refl _ w).tr hL1682 rfl
              exact hQ _ _ hI1681 hF1686 
          · refine ⟨fun h1687 => ?_, fun h1687 => ?_⟩
            · refine Eq.mpr (q_Rd_join_94.eq_1 _ _ _ _ _ _) ?_
              refine ⟨fun h => absurd h (by decide), fun _ => ?_⟩
              have hI1688 : BND (sI w 87 9 b0) := wbd_87_9 hI
              exact hQ _ _ hI1688 (FR.I (FR.refl _ w) (k := 87) (j := 9) (v := b0) rfl) 
            · refine Eq.mpr (q_Rd_join_94.eq_1 _ _ _ _ _ _) ?_
              refine ⟨fun _ => ?_, fun h => absurd (by decide) h⟩
              refine h_Rd_makeNode hI hr_87_1  (fun r1692 w1689 hI1690 hL1691 p1693 p1694 => ?_)
              have hF1695 : FR l_Rd_join w w1689 := (FR.refl _ w).tr hL1691 rfl
              exact hQ _ _ hI1690 hF1695 
      · refine ⟨fun h1696 => ?_, fun h1696 => ?_⟩
        · refine Eq.mpr (p_Ma_max.eq_1 _ _ _ _) ?_
          refine ⟨fun h1697 => ?_, fun h1697 => ?_⟩
          · refine Eq.mpr (q_Rd_join_94.eq_1 _ _ _ _ _ _) ?_
            refine ⟨fun _ => ?_, fun h => absurd (by decide) h⟩
            refine h_Rd_makeNode hI hr_87_1  (fun r1701 w1698 hI1699 hL1700 p1702 p1703 => ?_)
            have hF1704 : FR l_Rd_join w w1698 := (FR.refl _ w).tr hL1700 rfl
            exact hQ _ _ hI1699 hF1704 
          · refine Eq.mpr (q_Rd_join_94.eq_1 _ _ _ _ _ _) ?_
            refine ⟨fun _ => ?_, fun h => absurd (by decide) h⟩
            refine h_Rd_makeNode hI hr_87_1  (fun r1708 w1705 hI1706 hL1707 p1709 p1710 => ?_)
            have hF1711 : FR l_Rd_join w w1705 := (FR.refl _ w).tr hL1707 rfl
            exact hQ _ _ hI1706 hF1711 
        · refine ⟨fun h1712 => ?_, fun h1712 => ?_⟩
          · refine Eq.mpr (p_Ma_max.eq_1 _ _ _ _) ?_
            refine ⟨fun h1713 => ?_, fun h1713 => ?_⟩
            · refine Eq.mpr (q_Rd_join_94.eq_1 _ _ _ _ _ _) ?_
              refine ⟨fun h => absurd h (by decide), fun _ => ?_⟩
              have hI1714 : BND (sI w 87 9 b0) := wbd_87_9 hI
              exact hQ _ _ hI1714 (FR.I (FR.refl _ w) (k := 87) (j := 9) (v := b0) rfl) 
            · refine Eq.mpr (q_Rd_join_94.eq_1 _ _ _ _ _ _) ?_
              refine ⟨fun h => absurd h (by decide), fun _ => ?_⟩
              have hI1715 : BND (sI w 87 9 b0) := wbd_87_9 hI
              exact hQ _ _ hI1715 (FR.I (FR.refl _ w) (k := 87) (j := 9) (v := b0) rfl) 
          · refine Eq.mpr (p_Ma_max.eq_1 _ _ _ _) ?_
            refine ⟨fun h1716 => ?_, fun h1716 => ?_⟩
            · refine Eq.mpr (q_Rd_join_94.eq_1 _ _ _ _ _ _) ?_
              refine ⟨fun _ => ?_, fun h => absurd (by decide) h⟩
              refine h_Rd_makeNode hI hr_87_1  (fun r1720 w1717 hI1718 hL1719 p1721 p1722 => ?_)
              have hF1723 : FR l_Rd_join w w1717 := (FR.refl _ w).tr hL1719 rfl
              exact hQ _ _ hI1718 hF1723 
            · refine Eq.mpr (q_Rd_join_94.eq_1 _ _ _ _ _ _) ?_
              refine ⟨fun _ => ?_, fun h => absurd (by decide) h⟩
              refine h_Rd_makeNode hI hr_87_1  (fun r1727 w1724 hI1725 hL1726 p1728 p1729 => ?_)
              have hF1730 : FR l_Rd_join w w1724 := (FR.refl _ w).tr hL1726 rfl
              exact hQ _ _ hI1725 hF1730 
  · exact hQ _ _ hI (FR.refl _ w)
def l_Rd_levelOf : Pl := []
set_option maxRecDepth 20000 in
set_option maxHeartbeats 2000000 in
theorem h_Rd_levelOf {w : MW} {a0 : Int32} {Q : Int32 → MW → Prop} (hI : BND w)  (hQ : ∀ (r : Int32) (w' : MW), BND w' → FR l_Rd_levelOf w w' → 0 ≤ r.toInt → r.toInt ≤ 3 → Q r w') : p_Rd_levelOf w a0 Q := by
  refine Eq.mpr (p_Rd_levelOf.eq_1 _ _ _) ?_
  refine ⟨fun h1731 => ?_, fun h1731 => ?_⟩
  · have o1732 : (0 ≤ (2 : Int32).toInt) ∧ ((2 : Int32).toInt ≤ 3) := by have := (by decide : ((2 : Int32)).toInt = 2); exact ⟨by omega, by omega⟩
    exact hQ _ _ hI (FR.refl _ w)  o1732.1 o1732.2
  · refine ⟨fun h1733 => ?_, fun h1733 => ?_⟩
    · have o1734 : (0 ≤ (1 : Int32).toInt) ∧ ((1 : Int32).toInt ≤ 3) := by have := (by decide : ((1 : Int32)).toInt = 1); exact ⟨by omega, by omega⟩
      exact hQ _ _ hI (FR.refl _ w)  o1734.1 o1734.2
    · refine ⟨fun h1735 => ?_, fun h1735 => ?_⟩
      · have o1736 : (0 ≤ (3 : Int32).toInt) ∧ ((3 : Int32).toInt ≤ 3) := by have := (by decide : ((3 : Int32)).toInt = 3); exact ⟨by omega, by omega⟩
        exact hQ _ _ hI (FR.refl _ w)  o1736.1 o1736.2
      · refine ⟨fun h1737 => ?_, fun h1737 => ?_⟩
        · have o1738 : (0 ≤ (1 : Int32).toInt) ∧ ((1 : Int32).toInt ≤ 3) := by have := (by decide : ((1 : Int32)).toInt = 1); exact ⟨by omega, by omega⟩
          exact hQ _ _ hI (FR.refl _ w)  o1738.1 o1738.2
        · refine ⟨fun h1739 => ?_, fun h1739 => ?_⟩
          · have o1740 : (0 ≤ (3 : Int32).toInt) ∧ ((3 : Int32).toInt ≤ 3) := by have := (by decide : ((3 : Int32)).toInt = 3); exact ⟨by omega, by omega⟩
            exact hQ _ _ hI (FR.refl _ w)  o1740.1 o1740.2
          · refine ⟨fun h1741 => ?_, fun h1741 => ?_⟩
            · have o1742 : (0 ≤ (2 : Int32).toInt) ∧ ((2 : Int32).toInt ≤ 3) := by have := (by decide : ((2 : Int32)).toInt = 2); exact ⟨by omega, by omega⟩
              exact hQ _ _ hI (FR.refl _ w)  o1742.1 o1742.2
            · refine ⟨fun h1743 => ?_, fun h1743 => ?_⟩
              · have o1744 : (0 ≤ (3 : Int32).toInt) ∧ ((3 : Int32).toInt ≤ 3) := by have := (by decide : ((3 : Int32)).toInt = 3); exact ⟨by omega, by omega⟩
                exact hQ _ _ hI (FR.refl _ w)  o1744.1 o1744.2
              · refine ⟨fun h1745 => ?_, fun h1745 => ?_⟩
                · have o1746 : (0 ≤ (3 : Int32).toInt) ∧ ((3 : Int32).toInt ≤ 3) := by have := (by decide : ((3 : Int32)).toInt = 3); exact ⟨by omega, by omega⟩
                  exact hQ _ _ hI (FR.refl _ w)  o1746.1 o1746.2
                · refine ⟨fun h1747 => ?_, fun h1747 => ?_⟩
                  · have o1748 : (0 ≤ (3 : Int32).toInt) ∧ ((3 : Int32).toInt ≤ 3) := by have := (by decide : ((3 : Int32)).toInt = 3); exact ⟨by omega, by omega⟩
                    exact hQ _ _ hI (FR.refl _ w)  o1748.1 o1748.2
                  · refine ⟨fun h1749 => ?_, fun h1749 => ?_⟩
                    · have o1750 : (0 ≤ (3 : Int32).toInt) ∧ ((3 : Int32).toInt ≤ 3) := by have := (by decide : ((3 : Int32)).toInt = 3); exact ⟨by omega, by omega⟩
                      exact hQ _ _ hI (FR.refl _ w)  o1750.1 o1750.2
                    · refine ⟨fun h1751 => ?_, fun h1751 => ?_⟩
                      · have o1752 : (0 ≤ (3 : Int32).toInt) ∧ ((3 : Int32).toInt ≤ 3) := by have := (by decide : ((3 : Int32)).toInt = 3); exact ⟨by omega, by omega⟩
                        exact hQ _ _ hI (FR.refl _ w)  o1752.1 o1752.2
                      · refine ⟨fun h1753 => ?_, fun h1753 => ?_⟩
                        · have o1754 : (0 ≤ (3 : Int32).toInt) ∧ ((3 : Int32).toInt ≤ 3) := by have := (by decide : ((3 : Int32)).toInt = 3); exact ⟨by omega, by omega⟩
                          exact hQ _ _ hI (FR.refl _ w)  o1754.1 o1754.2
                        · refine ⟨fun h1755 => ?_, fun h1755 => ?_⟩
                          · have o1756 : (0 ≤ (3 : Int32).toInt) ∧ ((3 : Int32).toInt ≤ 3) := by have := (by decide : ((3 : Int32)).toInt = 3); exact ⟨by omega, by omega⟩
                            exact hQ _ _ hI (FR.refl _ w)  o1756.1 o1756.2
                          · refine ⟨fun h1757 => ?_, fun h1757 => ?_⟩
                            · have o1758 : (0 ≤ (3 : Int32).toInt) ∧ ((3 : Int32).toInt ≤ 3) := by have := (by decide : ((3 : Int32)).toInt = 3); exact ⟨by omega, by omega⟩
                              exact hQ _ _ hI (FR.refl _ w)  o1758.1 o1758.2
                            · refine ⟨fun h1759 => ?_, fun h1759 => ?_⟩
                              · have o1760 : (0 ≤ (3 : Int32).toInt) ∧ ((3 : Int32).toInt ≤ 3) := by have := (by decide : ((3 : Int32)).toInt = 3); exact ⟨by omega, by omega⟩
                                exact hQ _ _ hI (FR.refl _ w)  o1760.1 o1760.2
                              · refine ⟨fun h1761 => ?_, fun h1761 => ?_⟩
                                · have o1762 : (0 ≤ (3 : Int32).toInt) ∧ ((3 : Int32).toInt ≤ 3) := by have := (by decide : ((3 : Int32)).toInt = 3); exact ⟨by omega, by omega⟩
                                  exact hQ _ _ hI (FR.refl _ w)  o1762.1 o1762.2
                                · refine ⟨fun h1763 => ?_, fun h1763 => ?_⟩
                                  · have o1764 : (0 ≤ (3 : Int32).toInt) ∧ ((3 : Int32).toInt ≤ 3) := by have := (by decide : ((3 : Int32)).toInt = 3); exact ⟨by omega, by omega⟩
                                    exact hQ _ _ hI (FR.refl _ w)  o1764.1 o1764.2
                                  · refine ⟨fun h1765 => ?_, fun h1765 => ?_⟩
                                    · have o1766 : (0 ≤ (3 : Int32).toInt) ∧ ((3 : Int32).toInt ≤ 3) := by have := (by decide : ((3 : Int32)).toInt = 3); exact ⟨by omega, by omega⟩
                                      exact hQ _ _ hI (FR.refl _ w)  o1766.1 o1766.2
                                    · refine ⟨fun h1767 => ?_, fun h1767 => ?_⟩
                                      · have o1768 : (0 ≤ (0 : Int32).toInt) ∧ ((0 : Int32).toInt ≤ 3) := by have := (by decide : ((0 : Int32)).toInt = 0); exact ⟨by omega, by omega⟩
                                        exact hQ _ _ hI (FR.refl _ w)  o1768.1 o1768.2
                                      · refine ⟨fun h1769 => ?_, fun h1769 => ?_⟩
                                        · have o1770 : (0 ≤ (0 : Int32).toInt) ∧ ((0 : Int32).toInt ≤ 3) := by have := (by decide : ((0 : Int32)).toInt = 0); exact ⟨by omega, by omega⟩
                                          exact hQ _ _ hI (FR.refl _ w)  o1770.1 o1770.2
                                        · refine ⟨fun h1771 => ?_, fun h1771 => ?_⟩
                                          · have o1772 : (0 ≤ (0 : Int32).toInt) ∧ ((0 : Int32).toInt ≤ 3) := by have := (by decide : ((0 : Int32)).toInt = 0); exact ⟨by omega, by omega⟩
                                            exact hQ _ _ hI (FR.refl _ w)  o1772.1 o1772.2
                                          · have o1773 : (0 ≤ (3 : Int32).toInt) ∧ ((3 : Int32).toInt ≤ 3) := by have := (by decide : ((3 : Int32)).toInt = 3); exact ⟨by omega, by omega⟩
                                            exact hQ _ _ hI (FR.refl _ w)  o1773.1 o1773.2
def l_Pr_finds108_2 : Pl := []
def l_Pr_finds108 : Pl := []
set_option maxRecDepth 20000 in
set_option maxHeartbeats 2000000 in
theorem hq_Pr_finds108_2 {x2_1 : Int64} {E : MW → Prop} {Q : Int32 → MW → Prop} (n : Nat) : ∀ (x2_3 : Int32) (w : MW), BND w → 0 ≤ x2_3.toInt → x2_3.toInt ≤ 40 → (40 - x2_3.toInt).toNat < n → (∀ (w' : MW), BND w' → FR l_Pr_finds108_2 w w' → E w') → (∀ (r : Int32) (w' : MW), BND w' → FR l_Pr_finds108_2 w w' → 0 ≤ r.toInt → r.toInt ≤ 39 → Q r w') → q_Pr_finds108_2 x2_1 E Q n x2_3 w := by
  induction n with
  | zero => intros; omega
  | succ n ih =>
    intro x2_3 w hI  hp0 hp1 hm hE hQ
    rw [q_Pr_finds108_2.eq_2]
    refine ⟨fun h1774 => ?_, fun h1774 => ?_⟩
    · exact hE _ hI (FR.refl _ w)
    · have o1775 : 0 ≤ x2_3.toInt ∧ x2_3.toInt < 40 := by have := bd_108_10 hI; omega
      refine ⟨o1775, ?_⟩
      refine ⟨fun h1776 => ?_, fun h1776 => ?_⟩
      · have o1777 : (0 ≤ (x2_3 + (1 : Int32)).toInt) ∧ ((x2_3 + (1 : Int32)).toInt ≤ 40) := by have := bd_108_10 hI; have := ti_add2 (Eq.refl x2_3.toInt) (by decide : ((1 : Int32)).toInt = 1) (by omega) (by omega); exact ⟨by omega, by omega⟩
        exact ih _ w hI  o1777.1 o1777.2 (by have := bd_108_10 hI; have := ti_add2 (Eq.refl x2_3.toInt) (by decide : ((1 : Int32)).toInt = 1) (by omega) (by omega); omega) (fun w9 hI9 hF9 => hE w9 hI9 ((FR.refl _ w).tr hF9 rfl) ) (fun r w9 hI9 hF9 q0 q1 => hQ r w9 hI9 ((FR.refl _ w).tr hF9 rfl) (by have := bd_108_10 hI; have := ti_add2 (Eq.refl x2_3.toInt) (by decide : ((1 : Int32)).toInt = 1) (by omega) (by omega); omega) (by have := bd_108_10 hI; have := ti_add2 (Eq.refl x2_3.toInt) (by decide : ((1 : Int32)).toInt = 1) (by omega) (by omega); omega))
      · have o1778 : (0 ≤ x2_3.toInt) ∧ (x2_3.toInt ≤ 39) := by have := bd_108_10 hI; exact ⟨by omega, by omega⟩
        exact hQ _ _ hI (FR.refl _ w)  o1778.1 o1778.2
set_option maxRecDepth 20000 in
set_option maxHeartbeats 2000000 in
theorem h_Pr_finds108 {w : MW} {a0 : Int64} {Q : Int32 → MW → Prop} (hI : BND w)  (hQ : ∀ (r : Int32) (w' : MW), BND w' → FR l_Pr_finds108 w w' → (-1) ≤ r.toInt → r.toInt ≤ 39 → Q r w') : p_Pr_finds108 w a0 Q := by
  refine Eq.mpr (p_Pr_finds108.eq_1 _ _ _) ?_
  have o1779 : (0 ≤ (0 : Int32).toInt) ∧ ((0 : Int32).toInt ≤ 40) := by have := (by decide : ((0 : Int32)).toInt = 0); exact ⟨by omega, by omega⟩
  refine hq_Pr_finds108_2 FU _ w hI  o1779.1 o1779.2 (fu_lt (by have := (by decide : ((0 : Int32)).toInt = 0); omega)) (fun w1780 hI1781 hL1782  => ?_) (fun r w9 hI9 hF9 q0 q1 => hQ r w9 hI9 (((FR.refl _ w)).tr hF9 rfl) (by have := (by decide : ((0 : Int32)).toInt = 0); omega) (by have := (by decide : ((0 : Int32)).toInt = 0); omega))
  have hF1783 : FR l_Pr_finds108 w w1780 := (FR.refl _ w).tr hL1782 rfl
  have o1784 : ((-1) ≤ ((-1) : Int32).toInt) ∧ (((-1) : Int32).toInt ≤ 39) := by have := (by decide : (((-1) : Int32)).toInt = (-1)); exact ⟨by omega, by omega⟩
  exact hQ _ _ hI1781 hF1783  o1784.1 o1784.2
def l_Rd_readFactor_284 : Pl := [(87, some 2), (87, some 3), (87, some 4), (87, some 5), (87, some 6), (87, some 7), (87, some 8), (87, some 9), (88, none), (89, none), (108, some 1), (109, none), (110, none), (111, none), (112, none), (113, none), (114, none)]
def l_Rd_readFactor_201 : Pl := [(87, some 2), (87, some 3), (87, some 4), (87, some 5), (87, some 6), (87, some 7), (87, some 9), (88, none), (89, none), (108, some 1), (109, none), (110, none), (111, none), (112, none), (113, none), (114, none), (115, none)]
def l_Rd_readFactor_137 : Pl := [(87, some 2), (87, some 3), (87, some 4), (87, some 5), (87, some 6), (87, some 7), (87, some 9), (88, none), (89, none), (108, some 1), (109, none), (110, none), (111, none), (112, none), (113, none), (114, none), (115, none)]
def l_Rd_readFactor_88 : Pl := [(87, some 2), (87, some 3), (87, some 4), (87, some 5), (87, some 6), (87, some 7), (87, some 8), (87, some 9), (88, none), (89, none), (108, some 1), (109, none), (110, none), (111, none), (112, none), (113, none), (114, none), (115, none)]
def l_Rd_readFactor_53 : Pl := [(87, some 2), (87, some 3), (87, some 4), (87, some 5), (87, some 6), (87, some 7), (87, some 8), (87, some 9), (88, none), (89, none), (108, some 1), (109, none), (110, none), (111, none), (112, none), (113, none), (114, none), (115, none)]
def l_Rd_readFactor_26 : Pl := [(87, some 2), (87, some 3), (87, some 4), (87, some 5), (87, some 6), (87, some 7), (87, some 8), (87, some 9), (88, none), (89, none), (108, some 1), (109, none), (110, none), (111, none), (112, none), (113, none), (114, none), (115, none)]
def l_Rd_readFactor : Pl := [(87, some 2), (87, some 3), (87, some 4), (87, some 5), (87, some 6), (87, some 7), (87, some 8), (87, some 9), (88, none), (89, none), (108, some 1), (109, none), (110, none), (111, none), (112, none), (113, none), (114, none), (115, none)]
def l_Rd_readLevel_38 : Pl := [(87, some 2), (87, some 3), (87, some 4), (87, some 5), (87, some 6), (87, some 7), (87, some 8), (87, some 9), (88, none), (89, none), (108, some 1), (109, none), (110, none), (111, none), (112, none), (113, none), (114, none), (115, none)]
def l_Rd_readLevel_33 : Pl := [(87, some 2), (87, some 3), (87, some 4), (87, some 5), (87, some 6), (87, some 7), (87, some 8), (87, some 9), (88, none), (89, none), (108, some 1), (109, none), (110, none), (111, none), (112, none), (113, none), (114, none), (115, none)]
def l_Rd_readLevel : Pl := [(87, some 2), (87, some 3), (87, some 4), (87, some 5), (87, some 6), (87, some 7), (87, some 8), (87, some 9), (88, none), (89, none), (108, some 1), (109, none), (110, none), (111, none), (112, none), (113, none), (114, none), (115, none)]
set_option maxRecDepth 20000 in
set_option maxHeartbeats 2000000 in
theorem hq_Rd_readFactor_88 {nn : Nat} {r_Rd_readFactor : MW → (Int32 → MW → Prop) → Prop} {r_Rd_readLevel : MW → Int32 → (Int32 → MW → Prop) → Prop} (hr_Rd_readFactor : ∀ (w : MW) (Q : Int32 → MW → Prop), BND w → w.2.2 87 0 = some 1 → w.2.2 87 1 = some 108 → (4 * (20 - (w.1 87 8).toInt)).toNat < nn → (∀ (r : Int32) (w' : MW), BND w' → FR l_Rd_readFactor w w' → (w'.1 87 8).toInt = (w.1 87 8).toInt → Q r w') → r_Rd_readFactor w Q) (hr_Rd_readLevel : ∀ (w : MW) (a0 : Int32) (Q : Int32 → MW → Prop), BND w → w.2.2 87 0 = some 1 → w.2.2 87 1 = some 108 → 0 ≤ a0.toInt → a0.toInt ≤ 2 → (4 * (20 - (w.1 87 8).toInt) + (3 - a0.toInt)).toNat < nn → (∀ (r : Int32) (w' : MW), BND w' → FR l_Rd_readLevel w w' → (w'.1 87 8).toInt = (w.1 87 8).toInt → Q r w') → r_Rd_readLevel w a0 Q) {y88_1 : Int32} {y88_2 : Int32} {w : MW} {Q : Int32 → MW → Prop} (hI : BND w) (hr_87_0 : w.2.2 87 0 = some 1) (hr_87_1 : w.2.2 87 1 = some 108) (hp0 : (-1) ≤ y88_2.toInt) (hp1 : y88_2.toInt ≤ 39) (hp2 : ¬ (y88_1.toInt = 40 ∨ y88_1.toInt = 45) ∨ (w.1 87 8).toInt < 20) (hp3 : ¬ y88_1.toInt = 30 ∨ (0 ≤ y88_2.toInt ∧ y88_2.toInt ≤ 39)) (hp4 : y88_1.toInt = 30 ∨ y88_1.toInt = 31 ∨ y88_1.toInt = 40 ∨ y88_1.toInt = 45) (hp5 : (4 * (20 - (w.1 87 8).toInt)).toNat ≤ nn) (hQ : ∀ (r : Int32) (w' : MW), BND w' → FR l_Rd_readFactor_88 w w' → (w'.1 87 8).toInt = (w.1 87 8).toInt → Q r w') : q_Rd_readFactor_88 r_Rd_readFactor r_Rd_readLevel y88_1 y88_2 w Q := by
  refine Eq.mpr (q_Rd_readFactor_88.eq_1 _ _ _ _ _ _) ?_
  refine h_Rd_nextWord hI hr_87_0  (fun w1785 hI1786 hL1787  => ?_)
  have hF1789 : FR l_Rd_readFactor_88 w w1785 := (FR.refl _ w).tr hL1787 rfl
  refine ⟨fun h1790 => ?_, fun h1790 => ?_⟩
  · refine ⟨fun h1791 => ?_, fun h1791 => ?_⟩
    · refine ⟨fun h1792 => ?_, fun h1792 => ?_⟩
      · have o1794 : 0 ≤ ((w1785.1 87 8) + (1 : Int32)).toInt ∧ ((w1785.1 87 8) + (1 : Int32)).toInt ≤ 20 := by have := bd_87_8 hI1786; have := bd_87_8 hI; have := (congrArg Int32.toInt (hL1787 87 8 rfl).1); have := ti_lo y88_1; have := ti_hi y88_1; have := (by decide : ((31 : Int32)).toInt = 31); have := (by decide : ((30 : Int32)).toInt = 30); have := (by decide : ((45 : Int32)).toInt = 45); have := ti_add2 (Eq.refl (w1785.1 87 8).toInt) (by decide : ((1 : Int32)).toInt = 1) (by omega) (by omega); omega
        have hI1793 : BND (sI w1785 87 8 ((w1785.1 87 8) + (1 : Int32))) := wbd_87_8 hI1786 o1794.1 o1794.2
        have o1795 : (0 ≤ (1 : Int32).toInt) ∧ ((1 : Int32).toInt ≤ 2) := by have := (by decide : ((1 : Int32)).toInt = 1); exact ⟨by omega, by omega⟩
        refine hr_Rd_readLevel _ _ _ hI1793 ((hL1787 87 0 rfl).2.2.trans hr_87_0) ((hL1787 87 1 rfl).2.2.trans hr_87_1) o1795.1 o1795.2 (by have := (by decide : ((1 : Int32)).toInt = 1); have := bd_87_8 hI1786; have := bd_87_8 hI; have := (congrArg Int32.toInt (hL1787 87 8 rfl).1); have : ((sI w1785 87 8 ((w1785.1 87 8) + (1 : Int32))).1 87 8).toInt = ((w1785.1 87 8) + (1 : Int32)).toInt := rfl; have := ti_lo y88_1; have := ti_hi y88_1; have := (by decide : ((31 : Int32)).toInt = 31); have := (by decide : ((30 : Int32)).toInt = 30); have := (by decide : ((45 : Int32)).toInt = 45); have := ti_add2 (Eq.refl (w1785.1 87 8).toInt) (by decide : ((1 : Int32)).toInt = 1) (by omega) (by omega); omega) (fun r1799 w1796 hI1797 hL1798 p1800 => ?_)
        have hF1801 : FR l_Rd_readFactor_88 w w1796 := (FR.I hF1789 (k := 87) (j := 8) (v := ((w1785.1 87 8) + (1 : Int32))) rfl).tr hL1798 rfl
        refine Eq.mpr (q_Rd_readFactor_284.eq_1 _ _ _ _ _ _) ?_
        refine ⟨fun _ => ?_, fun h => absurd h1792 h⟩
        refine ⟨fun h1802 => ?_, fun h1802 => ?_⟩
        · refine Eq.mpr (p_Rd_fail.eq_1 _ _) ?_
          refine ⟨fun h1803 => ?_, fun h1803 => ?_⟩
          · have o1805 : 0 ≤ ((w1796.1 87 8) - (1 : Int32)).toInt ∧ ((w1796.1 87 8) - (1 : Int32)).toInt ≤ 20 := by have := bd_87_8 hI1797; have := bd_87_8 hI; have := ti_lo y88_1; have := ti_hi y88_1; have := (by decide : ((31 : Int32)).toInt = 31); have := (by decide : ((30 : Int32)).toInt = 30); have := (by decide : ((45 : Int32)).toInt = 45); have := bd_87_8 hI1786; have := (congrArg Int32.toInt (hL1787 87 8 rfl).1); have : ((sI w1785 87 8 ((w1785.1 87 8) + (1 : Int32))).1 87 8).toInt = ((w1785.1 87 8) + (1 : Int32)).toInt := rfl; have := ti_lo r1799; have := ti_hi r1799; have := ti_sub2 (Eq.refl (w1796.1 87 8).toInt) (by decide : ((1 : Int32)).toInt = 1) (by omega) (by omega); have := ti_add2 (Eq.refl (w1785.1 87 8).toInt) (by decide : ((1 : Int32)).toInt = 1) (by omega) (by omega); omega
            have hI1804 : BND (sI w1796 87 8 ((w1796.1 87 8) - (1 : Int32))) := wbd_87_8 hI1797 o1805.1 o1805.2
            exact hQ _ _ hI1804 (FR.I hF1801 (k := 87) (j := 8) (v := ((w1796.1 87 8) - (1 : Int32))) rfl)  (by have := ti_lo r1799; have := ti_hi r1799; have := bd_87_8 hI1797; have : ((sI w1796 87 8 ((w1796.1 87 8) - (1 : Int32))).1 87 8).toInt = ((w1796.1 87 8) - (1 : Int32)).toInt := rfl; have := bd_87_8 hI; have := ti_lo y88_1; have := ti_hi y88_1; have := (by decide : ((31 : Int32)).toInt = 31); have := (by decide : ((30 : Int32)).toInt = 30); have := (by decide : ((45 : Int32)).toInt = 45); have := bd_87_8 hI1786; have := (congrArg Int32.toInt (hL1787 87 8 rfl).1); have : ((sI w1785 87 8 ((w1785.1 87 8) + (1 : Int32))).1 87 8).toInt = ((w1785.1 87 8) + (1 : Int32)).toInt := rfl; have := ti_sub2 (Eq.refl (w1796.1 87 8).toInt) (by decide : ((1 : Int32)).toInt = 1) (by omega) (by omega); have := ti_add2 (Eq.refl (w1785.1 87 8).toInt) (by decide : ((1 : Int32)).toInt = 1) (by omega) (by omega); omega)
          · have hI1806 : BND (sI w1796 87 9 (w1796.1 87 4)) := wbd_87_9 hI1797
            have o1808 : 0 ≤ (((sI w1796 87 9 (w1796.1 87 4)).1 87 8) - (1 : Int32)).toInt ∧ (((sI w1796 87 9 (w1796.1 87 4)).1 87 8) - (1 : Int32)).toInt ≤ 20 := by have := bd_87_8 hI1797; have : ((sI w1796 87 9 (w1796.1 87 4)).1 87 8).toInt = (w1796.1 87 8).toInt := rfl; have := bd_87_8 hI; have := ti_lo y88_1; have := ti_hi y88_1; have := (by decide : ((31 : Int32)).toInt = 31); have := (by decide : ((30 : Int32)).toInt = 30); have := (by decide : ((45 : Int32)).toInt = 45); have := bd_87_8 hI1786; have := (congrArg Int32.toInt (hL1787 87 8 rfl).1); have : ((sI w1785 87 8 ((w1785.1 87 8) + (1 : Int32))).1 87 8).toInt = ((w1785.1 87 8) + (1 : Int32)).toInt := rfl; have := ti_lo r1799; have := ti_hi r1799; have := ti_sub2 (Eq.refl ((sI w1796 87 9 (w1796.1 87 4)).1 87 8).toInt) (by decide : ((1 : Int32)).toInt = 1) (by omega) (by omega); have := ti_add2 (Eq.refl (w1785.1 87 8).toInt) (by decide : ((1 : Int32)).toInt = 1) (by omega) (by omega); omega
            have hI1807 : BND (sI (sI w1796 87 9 (w1796.1 87 4)) 87 8 (((sI w1796 87 9 (w1796.1 87 4)).1 87 8) - (1 : Int32))) := wbd_87_8 hI1806 o1808.1 o1808.2
            exact hQ _ _ hI1807 (FR.I (FR.I hF1801 (k := 87) (j := 9) (v := (w1796.1 87 4)) rfl) (k := 87) (j := 8) (v := (((sI w1796 87 9 (w1796.1 87 4)).1 87 8) - (1 : Int32))) rfl)  (by have := ti_lo r1799; have := ti_hi r1799; have := bd_87_8 hI1797; have : ((sI w1796 87 9 (w1796.1 87 4)).1 87 8).toInt = (w1796.1 87 8).toInt := rfl; have : ((sI (sI w1796 87 9 (w1796.1 87 4)) 87 8 (((sI w1796 87 9 (w1796.1 87 4)).1 87 8) - (1 : Int32))).1 87 8).toInt = (((sI w1796 87 9 (w1796.1 87 4)).1 87 8) - (1 : Int32)).toInt := rfl; have := bd_87_8 hI; have := ti_lo y88_1; have := ti_hi y88_1; have := (by decide : ((31 : Int32)).toInt = 31); have := (by decide : ((30 : Int32)).toInt = 30); have := (by decide : ((45 : Int32)).toInt = 45); have := bd_87_8 hI1786; have := (congrArg Int32.toInt (hL1787 87 8 rfl).1); have : ((sI w1785 87 8 ((w1785.1 87 8) + (1 : Int32))).1 87 8).toInt = ((w1785.1 87 8) + (1 : Int32)).toInt := rfl; have := ti_sub2 (Eq.refl ((sI w1796 87 9 (w1796.1 87 4)).1 87 8).toInt) (by decide : ((1 : Int32)).toInt = 1) (by omega) (by omega); have := ti_add2 (Eq.refl (w1785.1 87 8).toInt) (by decide : ((1 : Int32)).toInt = 1) (by omega) (by omega); omega)
        · refine h_Rd_nextWord hI1797 ((hL1798 87 0 rfl).2.2.trans ((hL1787 87 0 rfl).2.2.trans hr_87_0))  (fun w1809 hI1810 hL1811  => ?_)
          have hF1813 : FR l_Rd_readFactor_88 w w1809 := hF1801.tr hL1811 rfl
          have o1815 : 0 ≤ ((w1809.1 87 8) - (1 : Int32)).toInt ∧ ((w1809.1 87 8) - (1 : Int32)).toInt ≤ 20 := by have := bd_87_8 hI1810; have := bd_87_8 hI1797; have := (congrArg Int32.toInt (hL1811 87 8 rfl).1); have := bd_87_8 hI; have := ti_lo y88_1; have := ti_hi y88_1; have := (by decide : ((31 : Int32)).toInt = 31); have := (by decide : ((30 : Int32)).toInt = 30); have := (by decide : ((45 : Int32)).toInt = 45); have := bd_87_8 hI1786; have := (congrArg Int32.toInt (hL1787 87 8 rfl).1); have : ((sI w1785 87 8 ((w1785.1 87 8) + (1 : Int32))).1 87 8).toInt = ((w1785.1 87 8) + (1 : Int32)).toInt := rfl; have := ti_lo r1799; have := ti_hi r1799; have := ti_sub2 (Eq.refl (w1809.1 87 8).toInt) (by decide : ((1 : Int32)).toInt = 1) (by omega) (by omega); have := ti_add2 (Eq.refl (w1785.1 87 8).toInt) (by decide : ((1 : Int32)).toInt = 1) (by omega) (by omega); omega
          have hI1814 : BND (sI w1809 87 8 ((w1809.1 87 8) - (1 : Int32))) := wbd_87_8 hI1810 o1815.1 o1815.2
          exact hQ _ _ hI1814 (FR.I hF1813 (k := 87) (j := 8) (v := ((w1809.1 87 8) - (1 : Int32))) rfl)  (by have := ti_lo r1799; have := ti_hi r1799; have := bd_87_8 hI1810; have := bd_87_8 hI1797; have := (congrArg Int32.toInt (hL1811 87 8 rfl).1); have : ((sI w1809 87 8 ((w1809.1 87 8) - (1 : Int32))).1 87 8).toInt = ((w1809.1 87 8) - (1 : Int32)).toInt := rfl; have := bd_87_8 hI; have := ti_lo y88_1; have := ti_hi y88_1; have := (by decide : ((31 : Int32)).toInt = 31); have := (by decide : ((30 : Int32)).toInt = 30); have := (by decide : ((45 : Int32)).toInt = 45); have := bd_87_8 hI1786; have := (congrArg Int32.toInt (hL1787 87 8 rfl).1); have : ((sI w1785 87 8 ((w1785.1 87 8) + (1 : Int32))).1 87 8).toInt = ((w1785.1 87 8) + (1 : Int32)).toInt := rfl; have := ti_sub2 (Eq.refl (w1809.1 87 8).toInt) (by decide : ((1 : Int32)).toInt = 1) (by omega) (by omega); have := ti_add2 (Eq.refl (w1785.1 87 8).toInt) (by decide : ((1 : Int32)).toInt = 1) (by omega) (by omega); omega)
      · have o1817 : 0 ≤ ((w1785.1 87 8) + (1 : Int32)).toInt ∧ ((w1785.1 87 8) + (1 : Int32)).toInt ≤ 20 := by have := bd_87_8 hI1786; have := bd_87_8 hI; have := (congrArg Int32.toInt (hL1787 87 8 rfl).1); have := (by decide : ((31 : Int32)).toInt = 31); have := (by decide : ((30 : Int32)).toInt = 30); have := (by decide : ((45 : Int32)).toInt = 45); have := ti_add2 (Eq.refl (w1785.1 87 8).toInt) (by decide : ((1 : Int32)).toInt = 1) (by omega) (by omega); omega
        have hI1816 : BND (sI w1785 87 8 ((w1785.1 87 8) + (1 : Int32))) := wbd_87_8 hI1786 o1817.1 o1817.2
        refine hr_Rd_readFactor _ _ hI1816 ((hL1787 87 0 rfl).2.2.trans hr_87_0) ((hL1787 87 1 rfl).2.2.trans hr_87_1)  (by have := bd_87_8 hI1786; have := bd_87_8 hI; have := (congrArg Int32.toInt (hL1787 87 8 rfl).1); have : ((sI w1785 87 8 ((w1785.1 87 8) + (1 : Int32))).1 87 8).toInt = ((w1785.1 87 8) + (1 : Int32)).toInt := rfl; have := (by decide : ((31 : Int32)).toInt = 31); have := (by decide : ((30 : Int32)).toInt = 30); have := (by decide : ((45 : Int32)).toInt = 45); have := ti_add2 (Eq.refl (w1785.1 87 8).toInt) (by decide : ((1 : Int32)).toInt = 1) (by omega) (by omega); omega) (fun r1821 w1818 hI1819 hL1820 p1822 => ?_)
        have hF1823 : FR l_Rd_readFactor_88 w w1818 := (FR.I hF1789 (k := 87) (j := 8) (v := ((w1785.1 87 8) + (1 : Int32))) rfl).tr hL1820 rfl
        refine Eq.mpr (q_Rd_readFactor_284.eq_1 _ _ _ _ _ _) ?_
        refine ⟨fun h => absurd h h1792, fun _ => ?_⟩
        refine h_Rd_makeNode hI1819 ((hL1820 87 1 rfl).2.2.trans ((hL1787 87 1 rfl).2.2.trans hr_87_1))  (fun r1827 w1824 hI1825 hL1826 p1828 p1829 => ?_)
        have hF1830 : FR l_Rd_readFactor_88 w w1824 := hF1823.tr hL1826 rfl
        have o1832 : 0 ≤ ((w1824.1 87 8) - (1 : Int32)).toInt ∧ ((w1824.1 87 8) - (1 : Int32)).toInt ≤ 20 := by have := bd_87_8 hI1825; have := bd_87_8 hI1819; have := (congrArg Int32.toInt (hL1826 87 8 rfl).1); have := bd_87_8 hI; have := (by decide : ((31 : Int32)).toInt = 31); have := (by decide : ((30 : Int32)).toInt = 30); have := (by decide : ((45 : Int32)).toInt = 45); have := bd_87_8 hI1786; have := (congrArg Int32.toInt (hL1787 87 8 rfl).1); have : ((sI w1785 87 8 ((w1785.1 87 8) + (1 : Int32))).1 87 8).toInt = ((w1785.1 87 8) + (1 : Int32)).toInt := rfl; have := ti_lo r1821; have := ti_hi r1821; have := ti_sub2 (Eq.refl (w1824.1 87 8).toInt) (by decide : ((1 : Int32)).toInt = 1) (by omega) (by omega); have := ti_add2 (Eq.refl (w1785.1 87 8).toInt) (by decide : ((1 : Int32)).toInt = 1) (by omega) (by omega); omega
        have hI1831 : BND (sI w1824 87 8 ((w1824.1 87 8) - (1 : Int32))) := wbd_87_8 hI1825 o1832.1 o1832.2
        exact hQ _ _ hI1831 (FR.I hF1830 (k := 87) (j := 8) (v := ((w1824.1 87 8) - (1 : Int32))) rfl)  (by have := ti_lo r1821; have := ti_hi r1821; have := bd_87_8 hI1825; have := bd_87_8 hI1819; have := (congrArg Int32.toInt (hL1826 87 8 rfl).1); have : ((sI w1824 87 8 ((w1824.1 87 8) - (1 : Int32))).1 87 8).toInt = ((w1824.1 87 8) - (1 : Int32)).toInt := rfl; have := bd_87_8 hI; have := (by decide : ((31 : Int32)).toInt = 31); have := (by decide : ((30 : Int32)).toInt = 30); have := (by decide : ((45 : Int32)).toInt = 45); have := bd_87_8 hI1786; have := (congrArg Int32.toInt (hL1787 87 8 rfl).1); have : ((sI w1785 87 8 ((w1785.1 87 8) + (1 : Int32))).1 87 8).toInt = ((w1785.1 87 8) + (1 : Int32)).toInt := rfl; have := ti_sub2 (Eq.refl (w1824.1 87 8).toInt) (by decide : ((1 : Int32)).toInt = 1) (by omega) (by omega); have := ti_add2 (Eq.refl (w1785.1 87 8).toInt) (by decide : ((1 : Int32)).toInt = 1) (by omega) (by omega); omega)
    · refine h_Rd_makeNode hI1786 ((hL1787 87 1 rfl).2.2.trans hr_87_1)  (fun r1836 w1833 hI1834 hL1835 p1837 p1838 => ?_)
      have hF1839 : FR l_Rd_readFactor_88 w w1833 := hF1789.tr hL1835 rfl
      refine ⟨((hL1835 87 1 rfl).2.2.trans ((hL1787 87 1 rfl).2.2.trans hr_87_1)), ?_⟩
      have o1840 : 0 ≤ y88_2.toInt ∧ y88_2.toInt < 40 := by have := (by decide : ((31 : Int32)).toInt = 31); have := (by decide : ((30 : Int32)).toInt = 30); have := bd_87_8 hI; omega
      refine ⟨o1840, ?_⟩
      exact hQ _ _ hI1834 hF1839  (by have := (congrArg Int32.toInt (hL1787 118 y88_2.toInt.toNat rfl).1); have := (congrArg Int32.toInt (hL1835 118 y88_2.toInt.toNat rfl).1); have := bd_87_8 hI1834; have := bd_87_8 hI1786; have := bd_87_8 hI; have := (congrArg Int32.toInt (hL1787 87 8 rfl).1); have := (congrArg Int32.toInt (hL1835 87 8 rfl).1); have := (by decide : ((31 : Int32)).toInt = 31); have := (by decide : ((30 : Int32)).toInt = 30); omega)
  · refine ⟨fun h1841 => ?_, fun h1841 => ?_⟩
    · refine ⟨fun h1842 => ?_, fun h1842 => ?_⟩
      · refine Eq.mpr (q_Rd_readFactor_137.eq_1 _ _ _ _ _ _) ?_
        refine ⟨fun h1843 => ?_, fun h1843 => ?_⟩
        · refine ⟨fun h1844 => ?_, fun h1844 => ?_⟩
          · refine Eq.mpr (q_Rd_readFactor_201.eq_1 _ _ _ _ _ _) ?_
            refine ⟨fun h => absurd h (by decide), fun _ => ?_⟩
            refine h_Rd_nextWord hI1786 ((hL1787 87 0 rfl).2.2.trans hr_87_0)  (fun w1845 hI1846 hL1847  => ?_)
            have hF1849 : FR l_Rd_readFactor_88 w w1845 := hF1789.tr hL1847 rfl
            refine ⟨((hL1847 87 1 rfl).2.2.trans ((hL1787 87 1 rfl).2.2.trans hr_87_1)), ?_⟩
            refine h_Rd_makeNode hI1846 ((hL1847 87 1 rfl).2.2.trans ((hL1787 87 1 rfl).2.2.trans hr_87_1))  (fun r1853 w1850 hI1851 hL1852 p1854 p1855 => ?_)
            have hF1856 : FR l_Rd_readFactor_88 w w1850 := hF1849.tr hL1852 rfl
            have o1857 : 0 ≤ r1853.toInt ∧ r1853.toInt < 301 := by omega
            refine ⟨o1857, ?_⟩
            exact hQ _ _ (bnd_J hI1851 (k := 115) (j := r1853.toInt.toNat) (v := ((w.2.1 87 6) * (1 : Int64)))) (FR.J hF1856 (k := 115) (j := r1853.toInt.toNat) (v := ((w.2.1 87 6) * (1 : Int64))) rfl)  (by have := (by decide : ((3 : Int32)).toInt = 3); have := bd_87_8 hI1851; have := bd_87_8 hI1846; have := bd_87_8 hI1786; have := bd_87_8 hI; have := (congrArg Int32.toInt (hL1787 87 8 rfl).1); have := (congrArg Int32.toInt (hL1847 87 8 rfl).1); have := (congrArg Int32.toInt (hL1852 87 8 rfl).1); have : ((sJ w1850 115 r1853.toInt.toNat ((w.2.1 87 6) * (1 : Int64))).1 87 8).toInt = (w1850.1 87 8).toInt := rfl; have := (by decide : ((31 : Int32)).toInt = 31); omega)
          · refine ⟨fun _ => ?_, fun h => absurd h1842 h⟩
            refine ⟨fun h1858 => ?_, fun h1858 => ?_⟩
            · refine Eq.mpr (q_Rd_readFactor_201.eq_1 _ _ _ _ _ _) ?_
              refine ⟨fun _ => ?_, fun h => absurd (by decide) h⟩
              refine ⟨((hL1787 87 1 rfl).2.2.trans hr_87_1), ?_⟩
              refine h_Rd_makeNode hI1786 ((hL1787 87 1 rfl).2.2.trans hr_87_1)  (fun r1862 w1859 hI1860 hL1861 p1863 p1864 => ?_)
              have hF1865 : FR l_Rd_readFactor_88 w w1859 := hF1789.tr hL1861 rfl
              have o1866 : 0 ≤ r1862.toInt ∧ r1862.toInt < 301 := by omega
              refine ⟨o1866, ?_⟩
              exact hQ _ _ (bnd_J hI1860 (k := 115) (j := r1862.toInt.toNat) (v := ((w.2.1 87 6) * (1 : Int64)))) (FR.J hF1865 (k := 115) (j := r1862.toInt.toNat) (v := ((w.2.1 87 6) * (1 : Int64))) rfl)  (by have := (by decide : ((0 : Int32)).toInt = 0); have := bd_87_8 hI1860; have := bd_87_8 hI1786; have := bd_87_8 hI; have := (congrArg Int32.toInt (hL1787 87 8 rfl).1); have := (congrArg Int32.toInt (hL1861 87 8 rfl).1); have : ((sJ w1859 115 r1862.toInt.toNat ((w.2.1 87 6) * (1 : Int64))).1 87 8).toInt = (w1859.1 87 8).toInt := rfl; have := (by decide : ((31 : Int32)).toInt = 31); omega)
            · refine ⟨fun h1867 => ?_, fun h1867 => ?_⟩
              · refine Eq.mpr (q_Rd_readFactor_201.eq_1 _ _ _ _ _ _) ?_
                refine ⟨fun _ => ?_, fun h => absurd (by decide) h⟩
                refine ⟨((hL1787 87 1 rfl).2.2.trans hr_87_1), ?_⟩
                refine h_Rd_makeNode hI1786 ((hL1787 87 1 rfl).2.2.trans hr_87_1)  (fun r1871 w1868 hI1869 hL1870 p1872 p1873 => ?_)
                have hF1874 : FR l_Rd_readFactor_88 w w1868 := hF1789.tr hL1870 rfl
                have o1875 : 0 ≤ r1871.toInt ∧ r1871.toInt < 301 := by omega
                refine ⟨o1875, ?_⟩
                exact hQ _ _ (bnd_J hI1869 (k := 115) (j := r1871.toInt.toNat) (v := ((w.2.1 87 6) * (1 : Int64)))) (FR.J hF1874 (k := 115) (j := r1871.toInt.toNat) (v := ((w.2.1 87 6) * (1 : Int64))) rfl)  (by have := (by decide : ((0 : Int32)).toInt = 0); have := bd_87_8 hI1869; have := bd_87_8 hI1786; have := bd_87_8 hI; have := (congrArg Int32.toInt (hL1787 87 8 rfl).1); have := (congrArg Int32.toInt (hL1870 87 8 rfl).1); have : ((sJ w1868 115 r1871.toInt.toNat ((w.2.1 87 6) * (1 : Int64))).1 87 8).toInt = (w1868.1 87 8).toInt := rfl; have := (by decide : ((31 : Int32)).toInt = 31); omega)
              · refine Eq.mpr (q_Rd_readFactor_201.eq_1 _ _ _ _ _ _) ?_
                refine ⟨fun h1876 => ?_, fun h1876 => ?_⟩
                · exfalso; have := bd_87_8 hI; have := (by decide : ((31 : Int32)).toInt = 31); have := (by decide : ((6 : Int32)).toInt = 6); have := (by decide : ((7 : Int32)).toInt = 7); have := nb_cmp ((w.2.1 87 6) * (1 : Int64)) (999999999999 : Int64); have := (by decide : ((999999999999 : Int64)).toInt = 999999999999); have := (by decide : ((0 : Int32)).toInt = 0); have := (by decide : ((1 : Int32)).toInt = 1); have := (by decide : ((5 : Int32)).toInt = 5); omega
                · refine h_Rd_nextWord hI1786 ((hL1787 87 0 rfl).2.2.trans hr_87_0)  (fun w1877 hI1878 hL1879  => ?_)
                  have hF1881 : FR l_Rd_readFactor_88 w w1877 := hF1789.tr hL1879 rfl
                  refine ⟨((hL1879 87 1 rfl).2.2.trans ((hL1787 87 1 rfl).2.2.trans hr_87_1)), ?_⟩
                  refine h_Rd_makeNode hI1878 ((hL1879 87 1 rfl).2.2.trans ((hL1787 87 1 rfl).2.2.trans hr_87_1))  (fun r1885 w1882 hI1883 hL1884 p1886 p1887 => ?_)
                  have hF1888 : FR l_Rd_readFactor_88 w w1882 := hF1881.tr hL1884 rfl
                  have o1889 : 0 ≤ r1885.toInt ∧ r1885.toInt < 301 := by omega
                  refine ⟨o1889, ?_⟩
                  exact hQ _ _ (bnd_J hI1883 (k := 115) (j := r1885.toInt.toNat) (v := ((w.2.1 87 6) * (1 : Int64)))) (FR.J hF1888 (k := 115) (j := r1885.toInt.toNat) (v := ((w.2.1 87 6) * (1 : Int64))) rfl)  (by have := bd_87_8 hI1883; have := bd_87_8 hI1878; have := bd_87_8 hI1786; have := bd_87_8 hI; have := (congrArg Int32.toInt (hL1787 87 8 rfl).1); have := (congrArg Int32.toInt (hL1879 87 8 rfl).1); have := (congrArg Int32.toInt (hL1884 87 8 rfl).1); have : ((sJ w1882 115 r1885.toInt.toNat ((w.2.1 87 6) * (1 : Int64))).1 87 8).toInt = (w1882.1 87 8).toInt := rfl; have := (by decide : ((31 : Int32)).toInt = 31); have := (by decide : ((6 : Int32)).toInt = 6); have := (by decide : ((7 : Int32)).toInt = 7); have := (by decide : ((1 : Int32)).toInt = 1); have := (by decide : ((5 : Int32)).toInt = 5); have := (by decide : ((0 : Int32)).toInt = 0); omega)
        · refine Eq.mpr (p_Rd_fail.eq_1 _ _) ?_
          refine ⟨fun h1890 => ?_, fun h1890 => ?_⟩
          · exact hQ _ _ hI1786 hF1789  (by have := (by decide : ((0 : Int32)).toInt = 0); have := bd_87_8 hI1786; have := bd_87_8 hI; have := (congrArg Int32.toInt (hL1787 87 8 rfl).1); have := (by decide : ((31 : Int32)).toInt = 31); omega)
          · have hI1891 : BND (sI w1785 87 9 (w1785.1 87 4)) := wbd_87_9 hI1786
            exact hQ _ _ hI1891 (FR.I hF1789 (k := 87) (j := 9) (v := (w1785.1 87 4)) rfl)  (by have := (by decide : ((0 : Int32)).toInt = 0); have := bd_87_8 hI1786; have := bd_87_8 hI; have := (congrArg Int32.toInt (hL1787 87 8 rfl).1); have : ((sI w1785 87 9 (w1785.1 87 4)).1 87 8).toInt = (w1785.1 87 8).toInt := rfl; have := (by decide : ((31 : Int32)).toInt = 31); omega)
      · refine Eq.mpr (q_Rd_readFactor_137.eq_1 _ _ _ _ _ _) ?_
        refine ⟨fun h1892 => ?_, fun h1892 => ?_⟩
        · refine ⟨fun h1893 => ?_, fun h1893 => ?_⟩
          · exfalso; have := bd_87_8 hI; have := (by decide : ((31 : Int32)).toInt = 31); have := (by decide : ((6 : Int32)).toInt = 6); have := (by decide : ((7 : Int32)).toInt = 7); have := nb_cmp ((w.2.1 87 6) * (3600 : Int64)) (999999999999 : Int64); have := (by decide : ((999999999999 : Int64)).toInt = 999999999999); have := (by decide : ((0 : Int32)).toInt = 0); omega
          · refine ⟨fun h => absurd h h1842, fun _ => ?_⟩
            refine Eq.mpr (q_Rd_readFactor_201.eq_1 _ _ _ _ _ _) ?_
            refine ⟨fun h => absurd h (by decide), fun _ => ?_⟩
            refine h_Rd_nextWord hI1786 ((hL1787 87 0 rfl).2.2.trans hr_87_0)  (fun w1894 hI1895 hL1896  => ?_)
            have hF1898 : FR l_Rd_readFactor_88 w w1894 := hF1789.tr hL1896 rfl
            refine ⟨((hL1896 87 1 rfl).2.2.trans ((hL1787 87 1 rfl).2.2.trans hr_87_1)), ?_⟩
            refine h_Rd_makeNode hI1895 ((hL1896 87 1 rfl).2.2.trans ((hL1787 87 1 rfl).2.2.trans hr_87_1))  (fun r1902 w1899 hI1900 hL1901 p1903 p1904 => ?_)
            have hF1905 : FR l_Rd_readFactor_88 w w1899 := hF1898.tr hL1901 rfl
            have o1906 : 0 ≤ r1902.toInt ∧ r1902.toInt < 301 := by omega
            refine ⟨o1906, ?_⟩
            exact hQ _ _ (bnd_J hI1900 (k := 115) (j := r1902.toInt.toNat) (v := ((w.2.1 87 6) * (3600 : Int64)))) (FR.J hF1905 (k := 115) (j := r1902.toInt.toNat) (v := ((w.2.1 87 6) * (3600 : Int64))) rfl)  (by have := (by decide : ((3 : Int32)).toInt = 3); have := bd_87_8 hI1900; have := bd_87_8 hI1895; have := bd_87_8 hI1786; have := bd_87_8 hI; have := (congrArg Int32.toInt (hL1787 87 8 rfl).1); have := (congrArg Int32.toInt (hL1896 87 8 rfl).1); have := (congrArg Int32.toInt (hL1901 87 8 rfl).1); have : ((sJ w1899 115 r1902.toInt.toNat ((w.2.1 87 6) * (3600 : Int64))).1 87 8).toInt = (w1899.1 87 8).toInt := rfl; have := (by decide : ((31 : Int32)).toInt = 31); omega)
        · refine Eq.mpr (p_Rd_fail.eq_1 _ _) ?_
          refine ⟨fun h1907 => ?_, fun h1907 => ?_⟩
          · exact hQ _ _ hI1786 hF1789  (by have := (by decide : ((0 : Int32)).toInt = 0); have := bd_87_8 hI1786; have := bd_87_8 hI; have := (congrArg Int32.toInt (hL1787 87 8 rfl).1); have := (by decide : ((31 : Int32)).toInt = 31); omega)
          · have hI1908 : BND (sI w1785 87 9 (w1785.1 87 4)) := wbd_87_9 hI1786
            exact hQ _ _ hI1908 (FR.I hF1789 (k := 87) (j := 9) (v := (w1785.1 87 4)) rfl)  (by have := (by decide : ((0 : Int32)).toInt = 0); have := bd_87_8 hI1786; have := bd_87_8 hI; have := (congrArg Int32.toInt (hL1787 87 8 rfl).1); have : ((sI w1785 87 9 (w1785.1 87 4)).1 87 8).toInt = (w1785.1 87 8).toInt := rfl; have := (by decide : ((31 : Int32)).toInt = 31); omega)
    · refine Eq.mpr (q_Rd_readFactor_137.eq_1 _ _ _ _ _ _) ?_
      refine ⟨fun h1909 => ?_, fun h1909 => ?_⟩
      · refine ⟨fun h1910 => ?_, fun h1910 => ?_⟩
        · refine Eq.mpr (q_Rd_readFactor_201.eq_1 _ _ _ _ _ _) ?_
          refine ⟨fun h => absurd h (by decide), fun _ => ?_⟩
          refine h_Rd_nextWord hI1786 ((hL1787 87 0 rfl).2.2.trans hr_87_0)  (fun w1911 hI1912 hL1913  => ?_)
          have hF1915 : FR l_Rd_readFactor_88 w w1911 := hF1789.tr hL1913 rfl
          refine ⟨((hL1913 87 1 rfl).2.2.trans ((hL1787 87 1 rfl).2.2.trans hr_87_1)), ?_⟩
          refine h_Rd_makeNode hI1912 ((hL1913 87 1 rfl).2.2.trans ((hL1787 87 1 rfl).2.2.trans hr_87_1))  (fun r1919 w1916 hI1917 hL1918 p1920 p1921 => ?_)
          have hF1922 : FR l_Rd_readFactor_88 w w1916 := hF1915.tr hL1918 rfl
          have o1923 : 0 ≤ r1919.toInt ∧ r1919.toInt < 301 := by omega
          refine ⟨o1923, ?_⟩
          exact hQ _ _ (bnd_J hI1917 (k := 115) (j := r1919.toInt.toNat) (v := ((w.2.1 87 6) * (60 : Int64)))) (FR.J hF1922 (k := 115) (j := r1919.toInt.toNat) (v := ((w.2.1 87 6) * (60 : Int64))) rfl)  (by have := (by decide : ((3 : Int32)).toInt = 3); have := bd_87_8 hI1917; have := bd_87_8 hI1912; have := bd_87_8 hI1786; have := bd_87_8 hI; have := (congrArg Int32.toInt (hL1787 87 8 rfl).1); have := (congrArg Int32.toInt (hL1913 87 8 rfl).1); have := (congrArg Int32.toInt (hL1918 87 8 rfl).1); have : ((sJ w1916 115 r1919.toInt.toNat ((w.2.1 87 6) * (60 : Int64))).1 87 8).toInt = (w1916.1 87 8).toInt := rfl; have := (by decide : ((31 : Int32)).toInt = 31); omega)
        · exfalso; have := bd_87_8 hI; have := (by decide : ((31 : Int32)).toInt = 31); have := (by decide : ((6 : Int32)).toInt = 6); have := nb_cmp ((w.2.1 87 6) * (60 : Int64)) (999999999999 : Int64); have := (by decide : ((999999999999 : Int64)).toInt = 999999999999); have := (by decide : ((0 : Int32)).toInt = 0); omega
      · refine Eq.mpr (p_Rd_fail.eq_1 _ _) ?_
        refine ⟨fun h1924 => ?_, fun h1924 => ?_⟩
        · exact hQ _ _ hI1786 hF1789  (by have := (by decide : ((0 : Int32)).toInt = 0); have := bd_87_8 hI1786; have := bd_87_8 hI; have := (congrArg Int32.toInt (hL1787 87 8 rfl).1); have := (by decide : ((31 : Int32)).toInt = 31); omega)
        · have hI1925 : BND (sI w1785 87 9 (w1785.1 87 4)) := wbd_87_9 hI1786
          exact hQ _ _ hI1925 (FR.I hF1789 (k := 87) (j := 9) (v := (w1785.1 87 4)) rfl)  (by have := (by decide : ((0 : Int32)).toInt = 0); have := bd_87_8 hI1786; have := bd_87_8 hI; have := (congrArg Int32.toInt (hL1787 87 8 rfl).1); have : ((sI w1785 87 9 (w1785.1 87 4)).1 87 8).toInt = (w1785.1 87 8).toInt := rfl; have := (by decide : ((31 : Int32)).toInt = 31); omega)
set_option maxRecDepth 20000 in
set_option maxHeartbeats 2000000 in
theorem hq_Rd_readFactor_53 {nn : Nat} {r_Rd_readFactor : MW → (Int32 → MW → Prop) → Prop} {r_Rd_readLevel : MW → Int32 → (Int32 → MW → Prop) → Prop} (hr_Rd_readFactor : ∀ (w : MW) (Q : Int32 → MW → Prop), BND w → w.2.2 87 0 = some 1 → w.2.2 87 1 = some 108 → (4 * (20 - (w.1 87 8).toInt)).toNat < nn → (∀ (r : Int32) (w' : MW), BND w' → FR l_Rd_readFactor w w' → (w'.1 87 8).toInt = (w.1 87 8).toInt → Q r w') → r_Rd_readFactor w Q) (hr_Rd_readLevel : ∀ (w : MW) (a0 : Int32) (Q : Int32 → MW → Prop), BND w → w.2.2 87 0 = some 1 → w.2.2 87 1 = some 108 → 0 ≤ a0.toInt → a0.toInt ≤ 2 → (4 * (20 - (w.1 87 8).toInt) + (3 - a0.toInt)).toNat < nn → (∀ (r : Int32) (w' : MW), BND w' → FR l_Rd_readLevel w w' → (w'.1 87 8).toInt = (w.1 87 8).toInt → Q r w') → r_Rd_readLevel w a0 Q) {y53_1 : Int32} {y53_2 : Int32} {ys53_0 : Int32} {w : MW} {Q : Int32 → MW → Prop} (hI : BND w) (hr_87_0 : w.2.2 87 0 = some 1) (hr_87_1 : w.2.2 87 1 = some 108) (hp0 : (-1) ≤ y53_2.toInt) (hp1 : y53_2.toInt ≤ 39) (hp2 : 0 ≤ ys53_0.toInt) (hp3 : ys53_0.toInt ≤ 1) (hp4 : ys53_0.toInt = 0 ∨ ((y53_1.toInt = 40 ∨ y53_1.toInt = 45) ∧ (w.1 87 8).toInt < 20)) (hp5 : y53_1.toInt = 30 ∨ y53_2.toInt = -1) (hp6 : ys53_0.toInt = 1 ∨ ¬ ((y53_1.toInt = 40 ∨ y53_1.toInt = 45) ∧ (w.1 87 8).toInt < 20)) (hp7 : (4 * (20 - (w.1 87 8).toInt)).toNat ≤ nn) (hQ : ∀ (r : Int32) (w' : MW), BND w' → FR l_Rd_readFactor_53 w w' → (w'.1 87 8).toInt = (w.1 87 8).toInt → Q r w') : q_Rd_readFactor_53 r_Rd_readFactor r_Rd_readLevel y53_1 y53_2 ys53_0 w Q := by
  refine Eq.mpr (q_Rd_readFactor_53.eq_1 _ _ _ _ _ _ _) ?_
  refine ⟨fun h1926 => ?_, fun h1926 => ?_⟩
  · refine Eq.mpr (p_Rd_fail.eq_1 _ _) ?_
    refine ⟨fun _ => ?_, fun h => absurd h1926 h⟩
    exact hQ _ _ hI (FR.refl _ w)  (by have := (by decide : ((0 : Int32)).toInt = 0); have := bd_87_8 hI; have := ti_lo y53_1; have := ti_hi y53_1; omega)
  · refine ⟨fun h1927 => ?_, fun h1927 => ?_⟩
    · have o1928 : ((-1) ≤ y53_2.toInt) ∧ (y53_2.toInt ≤ 39) ∧ (¬ (y53_1.toInt = 40 ∨ y53_1.toInt = 45) ∨ (w.1 87 8).toInt < 20) ∧ (¬ y53_1.toInt = 30 ∨ (0 ≤ y53_2.toInt ∧ y53_2.toInt ≤ 39)) ∧ (y53_1.toInt = 30 ∨ y53_1.toInt = 31 ∨ y53_1.toInt = 40 ∨ y53_1.toInt = 45) := by have := bd_87_8 hI; have := (by decide : ((31 : Int32)).toInt = 31); exact ⟨by omega, by omega, by omega, by omega, by omega⟩
      exact hq_Rd_readFactor_88 hr_Rd_readFactor hr_Rd_readLevel hI hr_87_0 hr_87_1 o1928.1 o1928.2.1 o1928.2.2.1 o1928.2.2.2.1 o1928.2.2.2.2 (by have := bd_87_8 hI; have := (by decide : ((31 : Int32)).toInt = 31); omega) (fun r w9 hI9 hF9 q0 => hQ r w9 hI9 ((FR.refl _ w).tr hF9 rfl) (by have := bd_87_8 hI; have := (by decide : ((31 : Int32)).toInt = 31); omega))
    · refine ⟨fun h1929 => ?_, fun h1929 => ?_⟩
      · have o1930 : ((-1) ≤ y53_2.toInt) ∧ (y53_2.toInt ≤ 39) ∧ (¬ (y53_1.toInt = 40 ∨ y53_1.toInt = 45) ∨ (w.1 87 8).toInt < 20) ∧ (¬ y53_1.toInt = 30 ∨ (0 ≤ y53_2.toInt ∧ y53_2.toInt ≤ 39)) ∧ (y53_1.toInt = 30 ∨ y53_1.toInt = 31 ∨ y53_1.toInt = 40 ∨ y53_1.toInt = 45) := by have := ti_lo y53_1; have := ti_hi y53_1; have := bd_87_8 hI; have := (by decide : ((31 : Int32)).toInt = 31); have := (by decide : ((0 : Int32)).toInt = 0); exact ⟨by omega, by omega, by omega, by omega, by omega⟩
        exact hq_Rd_readFactor_88 hr_Rd_readFactor hr_Rd_readLevel hI hr_87_0 hr_87_1 o1930.1 o1930.2.1 o1930.2.2.1 o1930.2.2.2.1 o1930.2.2.2.2 (by have := ti_lo y53_1; have := ti_hi y53_1; have := bd_87_8 hI; have := (by decide : ((31 : Int32)).toInt = 31); have := (by decide : ((0 : Int32)).toInt = 0); omega) (fun r w9 hI9 hF9 q0 => hQ r w9 hI9 ((FR.refl _ w).tr hF9 rfl) (by have := ti_lo y53_1; have := ti_hi y53_1; have := bd_87_8 hI; have := (by decide : ((31 : Int32)).toInt = 31); have := (by decide : ((0 : Int32)).toInt = 0); omega))
      · refine ⟨hr_87_1, ?_⟩
        refine Eq.mpr (p_Pr_hasValues108.eq_1 _ _ _) ?_
        refine ⟨fun h1931 => ?_, fun h1931 => ?_⟩
        · refine ⟨fun h => absurd h (by decide), fun _ => ?_⟩
          refine Eq.mpr (p_Rd_fail.eq_1 _ _) ?_
          refine ⟨fun h => absurd h h1926, fun _ => ?_⟩
          have hI1932 : BND (sI w 87 9 (w.1 87 4)) := wbd_87_9 hI
          exact hQ _ _ hI1932 (FR.I (FR.refl _ w) (k := 87) (j := 9) (v := (w.1 87 4)) rfl)  (by have := (by decide : ((0 : Int32)).toInt = 0); have := bd_87_8 hI; have : ((sI w 87 9 (w.1 87 4)).1 87 8).toInt = (w.1 87 8).toInt := rfl; have := ti_lo y53_1; have := ti_hi y53_1; have := (by decide : ((31 : Int32)).toInt = 31); omega)
        · refine ⟨fun h1933 => ?_, fun h1933 => ?_⟩
          · refine ⟨fun h => absurd h (by decide), fun _ => ?_⟩
            refine Eq.mpr (p_Rd_fail.eq_1 _ _) ?_
            refine ⟨fun h => absurd h h1926, fun _ => ?_⟩
            have hI1934 : BND (sI w 87 9 (w.1 87 4)) := wbd_87_9 hI
            exact hQ _ _ hI1934 (FR.I (FR.refl _ w) (k := 87) (j := 9) (v := (w.1 87 4)) rfl)  (by have := (by decide : ((0 : Int32)).toInt = 0); have := bd_87_8 hI; have : ((sI w 87 9 (w.1 87 4)).1 87 8).toInt = (w.1 87 8).toInt := rfl; have := ti_lo y53_1; have := ti_hi y53_1; have := (by decide : ((31 : Int32)).toInt = 31); have := bd_108_10 hI; omega)
          · have o1935 : 0 ≤ y53_2.toInt ∧ y53_2.toInt < 40 := by have := ti_lo y53_1; have := ti_hi y53_1; have := bd_87_8 hI; have := (by decide : ((31 : Int32)).toInt = 31); have := (by decide : ((0 : Int32)).toInt = 0); have := bd_108_10 hI; omega
            refine ⟨o1935, ?_⟩
            refine ⟨fun h1936 => ?_, fun h1936 => ?_⟩
            · refine ⟨fun h => absurd h (by decide), fun _ => ?_⟩
              refine Eq.mpr (p_Rd_fail.eq_1 _ _) ?_
              refine ⟨fun h => absurd h h1926, fun _ => ?_⟩
              have hI1937 : BND (sI w 87 9 (w.1 87 4)) := wbd_87_9 hI
              exact hQ _ _ hI1937 (FR.I (FR.refl _ w) (k := 87) (j := 9) (v := (w.1 87 4)) rfl)  (by have := (by decide : ((0 : Int32)).toInt = 0); have := bd_87_8 hI; have : ((sI w 87 9 (w.1 87 4)).1 87 8).toInt = (w.1 87 8).toInt := rfl; have := ti_lo y53_1; have := ti_hi y53_1; have := (by decide : ((31 : Int32)).toInt = 31); have := bd_108_10 hI; omega)
            · refine ⟨fun _ => ?_, fun h => absurd (by decide) h⟩
              have o1938 : ((-1) ≤ y53_2.toInt) ∧ (y53_2.toInt ≤ 39) ∧ (¬ (y53_1.toInt = 40 ∨ y53_1.toInt = 45) ∨ (w.1 87 8).toInt < 20) ∧ (¬ y53_1.toInt = 30 ∨ (0 ≤ y53_2.toInt ∧ y53_2.toInt ≤ 39)) ∧ (y53_1.toInt = 30 ∨ y53_1.toInt = 31 ∨ y53_1.toInt = 40 ∨ y53_1.toInt = 45) := by have := ti_lo y53_1; have := ti_hi y53_1; have := bd_87_8 hI; have := (by decide : ((31 : Int32)).toInt = 31); have := (by decide : ((0 : Int32)).toInt = 0); have := bd_108_10 hI; exact ⟨by omega, by omega, by omega, by omega, by omega⟩
              exact hq_Rd_readFactor_88 hr_Rd_readFactor hr_Rd_readLevel hI hr_87_0 hr_87_1 o1938.1 o1938.2.1 o1938.2.2.1 o1938.2.2.2.1 o1938.2.2.2.2 (by have := ti_lo y53_1; have := ti_hi y53_1; have := bd_87_8 hI; have := (by decide : ((31 : Int32)).toInt = 31); have := (by decide : ((0 : Int32)).toInt = 0); have := bd_108_10 hI; omega) (fun r w9 hI9 hF9 q0 => hQ r w9 hI9 ((FR.refl _ w).tr hF9 rfl) (by have := ti_lo y53_1; have := ti_hi y53_1; have := bd_87_8 hI; have := (by decide : ((31 : Int32)).toInt = 31); have := (by decide : ((0 : Int32)).toInt = 0); have := bd_108_10 hI; omega))
set_option maxRecDepth 20000 in
set_option maxHeartbeats 2000000 in
theorem hb_Rd_readFactor {nn : Nat} {r_Rd_readFactor : MW → (Int32 → MW → Prop) → Prop} {r_Rd_readLevel : MW → Int32 → (Int32 → MW → Prop) → Prop} (hr_Rd_readFactor : ∀ (w : MW) (Q : Int32 → MW → Prop), BND w → w.2.2 87 0 = some 1 → w.2.2 87 1 = some 108 → (4 * (20 - (w.1 87 8).toInt)).toNat < nn → (∀ (r : Int32) (w' : MW), BND w' → FR l_Rd_readFactor w w' → (w'.1 87 8).toInt = (w.1 87 8).toInt → Q r w') → r_Rd_readFactor w Q) (hr_Rd_readLevel : ∀ (w : MW) (a0 : Int32) (Q : Int32 → MW → Prop), BND w → w.2.2 87 0 = some 1 → w.2.2 87 1 = some 108 → 0 ≤ a0.toInt → a0.toInt ≤ 2 → (4 * (20 - (w.1 87 8).toInt) + (3 - a0.toInt)).toNat < nn → (∀ (r : Int32) (w' : MW), BND w' → FR l_Rd_readLevel w w' → (w'.1 87 8).toInt = (w.1 87 8).toInt → Q r w') → r_Rd_readLevel w a0 Q) {w : MW} {Q : Int32 → MW → Prop} (hI : BND w) (hr_87_0 : w.2.2 87 0 = some 1) (hr_87_1 : w.2.2 87 1 = some 108)  (hn : (4 * (20 - (w.1 87 8).toInt)).toNat ≤ nn) (hQ : ∀ (r : Int32) (w' : MW), BND w' → FR l_Rd_readFactor w w' → (w'.1 87 8).toInt = (w.1 87 8).toInt → Q r w') : pb_Rd_readFactor r_Rd_readFactor r_Rd_readLevel w Q := by
  refine Eq.mpr (pb_Rd_readFactor.eq_1 _ _ _ _) ?_
  refine ⟨fun h1939 => ?_, fun h1939 => ?_⟩
  · refine Eq.mpr (q_Rd_readFactor_26.eq_1 _ _ _ _ _ _) ?_
    refine ⟨fun h1940 => ?_, fun h1940 => ?_⟩
    · refine ⟨fun h1941 => ?_, fun h1941 => ?_⟩
      · have o1942 : ((-1) ≤ ((-1) : Int32).toInt) ∧ (((-1) : Int32).toInt ≤ 39) ∧ (0 ≤ (0 : Int32).toInt) ∧ ((0 : Int32).toInt ≤ 1) ∧ ((0 : Int32).toInt = 0 ∨ (((w.1 87 3).toInt = 40 ∨ (w.1 87 3).toInt = 45) ∧ (w.1 87 8).toInt < 20)) ∧ ((w.1 87 3).toInt = 30 ∨ ((-1) : Int32).toInt = -1) ∧ ((0 : Int32).toInt = 1 ∨ ¬ (((w.1 87 3).toInt = 40 ∨ (w.1 87 3).toInt = 45) ∧ (w.1 87 8).toInt < 20)) := by have := (by decide : (((-1) : Int32)).toInt = (-1)); have := (by decide : ((0 : Int32)).toInt = 0); have := bd_87_8 hI; have := (by decide : ((30 : Int32)).toInt = 30); have := (by decide : ((40 : Int32)).toInt = 40); have := (by decide : ((20 : Int32)).toInt = 20); exact ⟨by omega, by omega, by omega, by omega, by omega, by omega, by omega⟩
        exact hq_Rd_readFactor_53 hr_Rd_readFactor hr_Rd_readLevel hI hr_87_0 hr_87_1 o1942.1 o1942.2.1 o1942.2.2.1 o1942.2.2.2.1 o1942.2.2.2.2.1 o1942.2.2.2.2.2.1 o1942.2.2.2.2.2.2 (by have := (by decide : (((-1) : Int32)).toInt = (-1)); have := (by decide : ((0 : Int32)).toInt = 0); have := bd_87_8 hI; have := (by decide : ((30 : Int32)).toInt = 30); have := (by decide : ((40 : Int32)).toInt = 40); have := (by decide : ((20 : Int32)).toInt = 20); omega) (fun r w9 hI9 hF9 q0 => hQ r w9 hI9 ((FR.refl _ w).tr hF9 rfl) (by have := (by decide : (((-1) : Int32)).toInt = (-1)); have := (by decide : ((0 : Int32)).toInt = 0); have := bd_87_8 hI; have := (by decide : ((30 : Int32)).toInt = 30); have := (by decide : ((40 : Int32)).toInt = 40); have := (by decide : ((20 : Int32)).toInt = 20); omega))
      · have o1943 : ((-1) ≤ ((-1) : Int32).toInt) ∧ (((-1) : Int32).toInt ≤ 39) ∧ (0 ≤ (1 : Int32).toInt) ∧ ((1 : Int32).toInt ≤ 1) ∧ ((1 : Int32).toInt = 0 ∨ (((w.1 87 3).toInt = 40 ∨ (w.1 87 3).toInt = 45) ∧ (w.1 87 8).toInt < 20)) ∧ ((w.1 87 3).toInt = 30 ∨ ((-1) : Int32).toInt = -1) ∧ ((1 : Int32).toInt = 1 ∨ ¬ (((w.1 87 3).toInt = 40 ∨ (w.1 87 3).toInt = 45) ∧ (w.1 87 8).toInt < 20)) := by have := (by decide : (((-1) : Int32)).toInt = (-1)); have := (by decide : ((1 : Int32)).toInt = 1); have := bd_87_8 hI; have := (by decide : ((30 : Int32)).toInt = 30); have := (by decide : ((40 : Int32)).toInt = 40); have := (by decide : ((20 : Int32)).toInt = 20); exact ⟨by omega, by omega, by omega, by omega, by omega, by omega, by omega⟩
        exact hq_Rd_readFactor_53 hr_Rd_readFactor hr_Rd_readLevel hI hr_87_0 hr_87_1 o1943.1 o1943.2.1 o1943.2.2.1 o1943.2.2.2.1 o1943.2.2.2.2.1 o1943.2.2.2.2.2.1 o1943.2.2.2.2.2.2 (by have := (by decide : (((-1) : Int32)).toInt = (-1)); have := (by decide : ((1 : Int32)).toInt = 1); have := bd_87_8 hI; have := (by decide : ((30 : Int32)).toInt = 30); have := (by decide : ((40 : Int32)).toInt = 40); have := (by decide : ((20 : Int32)).toInt = 20); omega) (fun r w9 hI9 hF9 q0 => hQ r w9 hI9 ((FR.refl _ w).tr hF9 rfl) (by have := (by decide : (((-1) : Int32)).toInt = (-1)); have := (by decide : ((1 : Int32)).toInt = 1); have := bd_87_8 hI; have := (by decide : ((30 : Int32)).toInt = 30); have := (by decide : ((40 : Int32)).toInt = 40); have := (by decide : ((20 : Int32)).toInt = 20); omega))
    · refine ⟨fun h1944 => ?_, fun h1944 => ?_⟩
      · have o1945 : ((-1) ≤ ((-1) : Int32).toInt) ∧ (((-1) : Int32).toInt ≤ 39) ∧ (0 ≤ (0 : Int32).toInt) ∧ ((0 : Int32).toInt ≤ 1) ∧ ((0 : Int32).toInt = 0 ∨ (((w.1 87 3).toInt = 40 ∨ (w.1 87 3).toInt = 45) ∧ (w.1 87 8).toInt < 20)) ∧ ((w.1 87 3).toInt = 30 ∨ ((-1) : Int32).toInt = -1) ∧ ((0 : Int32).toInt = 1 ∨ ¬ (((w.1 87 3).toInt = 40 ∨ (w.1 87 3).toInt = 45) ∧ (w.1 87 8).toInt < 20)) := by have := (by decide : (((-1) : Int32)).toInt = (-1)); have := (by decide : ((0 : Int32)).toInt = 0); have := bd_87_8 hI; have := (by decide : ((30 : Int32)).toInt = 30); have := (by decide : ((40 : Int32)).toInt = 40); have := (by decide : ((45 : Int32)).toInt = 45); exact ⟨by omega, by omega, by omega, by omega, by omega, by omega, by omega⟩
        exact hq_Rd_readFactor_53 hr_Rd_readFactor hr_Rd_readLevel hI hr_87_0 hr_87_1 o1945.1 o1945.2.1 o1945.2.2.1 o1945.2.2.2.1 o1945.2.2.2.2.1 o1945.2.2.2.2.2.1 o1945.2.2.2.2.2.2 (by have := (by decide : (((-1) : Int32)).toInt = (-1)); have := (by decide : ((0 : Int32)).toInt = 0); have := bd_87_8 hI; have := (by decide : ((30 : Int32)).toInt = 30); have := (by decide : ((40 : Int32)).toInt = 40); have := (by decide : ((45 : Int32)).toInt = 45); omega) (fun r w9 hI9 hF9 q0 => hQ r w9 hI9 ((FR.refl _ w).tr hF9 rfl) (by have := (by decide : (((-1) : Int32)).toInt = (-1)); have := (by decide : ((0 : Int32)).toInt = 0); have := bd_87_8 hI; have := (by decide : ((30 : Int32)).toInt = 30); have := (by decide : ((40 : Int32)).toInt = 40); have := (by decide : ((45 : Int32)).toInt = 45); omega))
      · refine ⟨fun h1946 => ?_, fun h1946 => ?_⟩
        · have o1947 : ((-1) ≤ ((-1) : Int32).toInt) ∧ (((-1) : Int32).toInt ≤ 39) ∧ (0 ≤ (0 : Int32).toInt) ∧ ((0 : Int32).toInt ≤ 1) ∧ ((0 : Int32).toInt = 0 ∨ (((w.1 87 3).toInt = 40 ∨ (w.1 87 3).toInt = 45) ∧ (w.1 87 8).toInt < 20)) ∧ ((w.1 87 3).toInt = 30 ∨ ((-1) : Int32).toInt = -1) ∧ ((0 : Int32).toInt = 1 ∨ ¬ (((w.1 87 3).toInt = 40 ∨ (w.1 87 3).toInt = 45) ∧ (w.1 87 8).toInt < 20)) := by have := (by decide : (((-1) : Int32)).toInt = (-1)); have := (by decide : ((0 : Int32)).toInt = 0); have := bd_87_8 hI; have := (by decide : ((30 : Int32)).toInt = 30); have := (by decide : ((40 : Int32)).toInt = 40); have := (by decide : ((45 : Int32)).toInt = 45); have := (by decide : ((20 : Int32)).toInt = 20); exact ⟨by omega, by omega, by omega, by omega, by omega, by omega, by omega⟩
          exact hq_Rd_readFactor_53 hr_Rd_readFactor hr_Rd_readLevel hI hr_87_0 hr_87_1 o1947.1 o1947.2.1 o1947.2.2.1 o1947.2.2.2.1 o1947.2.2.2.2.1 o1947.2.2.2.2.2.1 o1947.2.2.2.2.2.2 (by have := (by decide : (((-1) : Int32)).toInt = (-1)); have := (by decide : ((0 : Int32)).toInt = 0); have := bd_87_8 hI; have := (by decide : ((30 : Int32)).toInt = 30); have := (by decide : ((40 : Int32)).toInt = 40); have := (by decide : ((45 : Int32)).toInt = 45); have := (by decide : ((20 : Int32)).toInt = 20); omega) (fun r w9 hI9 hF9 q0 => hQ r w9 hI9 ((FR.refl _ w).tr hF9 rfl) (by have := (by decide : (((-1) : Int32)).toInt = (-1)); have := (by decide : ((0 : Int32)).toInt = 0); have := bd_87_8 hI; have := (by decide : ((30 : Int32)).toInt = 30); have := (by decide : ((40 : Int32)).toInt = 40); have := (by decide : ((45 : Int32)).toInt = 45); have := (by decide : ((20 : Int32)).toInt = 20); omega))
        · have o1948 : ((-1) ≤ ((-1) : Int32).toInt) ∧ (((-1) : Int32).toInt ≤ 39) ∧ (0 ≤ (1 : Int32).toInt) ∧ ((1 : Int32).toInt ≤ 1) ∧ ((1 : Int32).toInt = 0 ∨ (((w.1 87 3).toInt = 40 ∨ (w.1 87 3).toInt = 45) ∧ (w.1 87 8).toInt < 20)) ∧ ((w.1 87 3).toInt = 30 ∨ ((-1) : Int32).toInt = -1) ∧ ((1 : Int32).toInt = 1 ∨ ¬ (((w.1 87 3).toInt = 40 ∨ (w.1 87 3).toInt = 45) ∧ (w.1 87 8).toInt < 20)) := by have := (by decide : (((-1) : Int32)).toInt = (-1)); have := (by decide : ((1 : Int32)).toInt = 1); have := bd_87_8 hI; have := (by decide : ((30 : Int32)).toInt = 30); have := (by decide : ((40 : Int32)).toInt = 40); have := (by decide : ((45 : Int32)).toInt = 45); have := (by decide : ((20 : Int32)).toInt = 20); exact ⟨by omega, by omega, by omega, by omega, by omega, by omega, by omega⟩
          exact hq_Rd_readFactor_53 hr_Rd_readFactor hr_Rd_readLevel hI hr_87_0 hr_87_1 o1948.1 o1948.2.1 o1948.2.2.1 o1948.2.2.2.1 o1948.2.2.2.2.1 o1948.2.2.2.2.2.1 o1948.2.2.2.2.2.2 (by have := (by decide : (((-1) : Int32)).toInt = (-1)); have := (by decide : ((1 : Int32)).toInt = 1); have := bd_87_8 hI; have := (by decide : ((30 : Int32)).toInt = 30); have := (by decide : ((40 : Int32)).toInt = 40); have := (by decide : ((45 : Int32)).toInt = 45); have := (by decide : ((20 : Int32)).toInt = 20); omega) (fun r w9 hI9 hF9 q0 => hQ r w9 hI9 ((FR.refl _ w).tr hF9 rfl) (by have := (by decide : (((-1) : Int32)).toInt = (-1)); have := (by decide : ((1 : Int32)).toInt = 1); have := bd_87_8 hI; have := (by decide : ((30 : Int32)).toInt = 30); have := (by decide : ((40 : Int32)).toInt = 40); have := (by decide : ((45 : Int32)).toInt = 45); have := (by decide : ((20 : Int32)).toInt = 20); omega))
  · refine ⟨hr_87_1, ?_⟩
    refine h_Pr_finds108 hI   (fun r1952 w1949 hI1950 hL1951 p1953 p1954 => ?_)
    have hF1955 : FR l_Rd_readFactor w w1949 := (FR.refl _ w).tr hL1951 rfl
    refine Eq.mpr (q_Rd_readFactor_26.eq_1 _ _ _ _ _ _) ?_
    refine ⟨fun h1956 => ?_, fun h1956 => ?_⟩
    · exfalso; have := (by decide : ((30 : Int32)).toInt = 30); have := (by decide : ((40 : Int32)).toInt = 40); omega
    · refine ⟨fun h1957 => ?_, fun h1957 => ?_⟩
      · have o1958 : ((-1) ≤ r1952.toInt) ∧ (r1952.toInt ≤ 39) ∧ (0 ≤ (0 : Int32).toInt) ∧ ((0 : Int32).toInt ≤ 1) ∧ ((0 : Int32).toInt = 0 ∨ (((w.1 87 3).toInt = 40 ∨ (w.1 87 3).toInt = 45) ∧ (w1949.1 87 8).toInt < 20)) ∧ ((w.1 87 3).toInt = 30 ∨ r1952.toInt = -1) ∧ ((0 : Int32).toInt = 1 ∨ ¬ (((w.1 87 3).toInt = 40 ∨ (w.1 87 3).toInt = 45) ∧ (w1949.1 87 8).toInt < 20)) := by have := (by decide : ((0 : Int32)).toInt = 0); have := bd_87_8 hI1950; have := bd_87_8 hI; have := (congrArg Int32.toInt (hL1951 87 8 rfl).1); have := (by decide : ((30 : Int32)).toInt = 30); have := (by decide : ((40 : Int32)).toInt = 40); have := (by decide : ((45 : Int32)).toInt = 45); exact ⟨by omega, by omega, by omega, by omega, by omega, by omega, by omega⟩
        exact hq_Rd_readFactor_53 hr_Rd_readFactor hr_Rd_readLevel hI1950 ((hL1951 87 0 rfl).2.2.trans hr_87_0) ((hL1951 87 1 rfl).2.2.trans hr_87_1) o1958.1 o1958.2.1 o1958.2.2.1 o1958.2.2.2.1 o1958.2.2.2.2.1 o1958.2.2.2.2.2.1 o1958.2.2.2.2.2.2 (by have := (by decide : ((0 : Int32)).toInt = 0); have := bd_87_8 hI1950; have := bd_87_8 hI; have := (congrArg Int32.toInt (hL1951 87 8 rfl).1); have := (by decide : ((30 : Int32)).toInt = 30); have := (by decide : ((40 : Int32)).toInt = 40); have := (by decide : ((45 : Int32)).toInt = 45); omega) (fun r w9 hI9 hF9 q0 => hQ r w9 hI9 (hF1955.tr hF9 rfl) (by have := (by decide : ((0 : Int32)).toInt = 0); have := bd_87_8 hI1950; have := bd_87_8 hI; have := (congrArg Int32.toInt (hL1951 87 8 rfl).1); have := (by decide : ((30 : Int32)).toInt = 30); have := (by decide : ((40 : Int32)).toInt = 40); have := (by decide : ((45 : Int32)).toInt = 45); omega))
      · exfalso; have := (by decide : ((30 : Int32)).toInt = 30); have := (by decide : ((40 : Int32)).toInt = 40); have := (by decide : ((45 : Int32)).toInt = 45); omega
set_option maxRecDepth 20000 in
set_option maxHeartbeats 2000000 in
theorem hq_Rd_readLevel_38 {nn : Nat} {r_Rd_readFactor : MW → (Int32 → MW → Prop) → Prop} {r_Rd_readLevel : MW → Int32 → (Int32 → MW → Prop) → Prop} (hr_Rd_readFactor : ∀ (w : MW) (Q : Int32 → MW → Prop), BND w → w.2.2 87 0 = some 1 → w.2.2 87 1 = some 108 → (4 * (20 - (w.1 87 8).toInt)).toNat < nn → (∀ (r : Int32) (w' : MW), BND w' → FR l_Rd_readFactor w w' → (w'.1 87 8).toInt = (w.1 87 8).toInt → Q r w') → r_Rd_readFactor w Q) (hr_Rd_readLevel : ∀ (w : MW) (a0 : Int32) (Q : Int32 → MW → Prop), BND w → w.2.2 87 0 = some 1 → w.2.2 87 1 = some 108 → 0 ≤ a0.toInt → a0.toInt ≤ 2 → (4 * (20 - (w.1 87 8).toInt) + (3 - a0.toInt)).toNat < nn → (∀ (r : Int32) (w' : MW), BND w' → FR l_Rd_readLevel w w' → (w'.1 87 8).toInt = (w.1 87 8).toInt → Q r w') → r_Rd_readLevel w a0 Q) {x38_1 : Int32} {x38_2 : Int32} {x38_4 : Int32} {E : Int32 → Int32 → MW → Prop} {Q : Int32 → MW → Prop} (n : Nat) : ∀ (x38_3 : Int32) (x38_5 : Int32) (w : MW), BND w → w.2.2 87 0 = some 1 → w.2.2 87 1 = some 108 → 0 ≤ x38_1.toInt → x38_1.toInt ≤ 2 → 1 ≤ x38_2.toInt → x38_2.toInt ≤ 3 → 1 ≤ x38_4.toInt → x38_4.toInt ≤ 4000 → 0 ≤ x38_5.toInt → x38_5.toInt ≤ 4000 → x38_2.toInt = x38_1.toInt + 1 → (4 * (20 - (w.1 87 8).toInt) + (3 - x38_1.toInt)).toNat ≤ nn → (4000 - x38_5.toInt).toNat < n → (∀ (e38_3 : Int32) (e38_5 : Int32) (w' : MW), BND w' → FR l_Rd_readLevel_38 w w' → 0 ≤ e38_5.toInt → e38_5.toInt ≤ 4000 → (w'.1 87 8).toInt = (w.1 87 8).toInt → E e38_3 e38_5 w') → (∀ (r : Int32) (w' : MW), BND w' → FR l_Rd_readLevel_38 w w' → False → Q r w') → q_Rd_readLevel_38 r_Rd_readFactor r_Rd_readLevel x38_1 x38_2 x38_4 E Q n x38_3 x38_5 w := by
  induction n with
  | zero => intros; omega
  | succ n ih =>
    intro x38_3 x38_5 w hI hr_87_0 hr_87_1 hp0 hp1 hp2 hp3 hp4 hp5 hp6 hp7 hp8 hp9 hm hE hQ
    rw [q_Rd_readLevel_38.eq_2]
    refine ⟨fun h1959 => ?_, fun h1959 => ?_⟩
    · have o1960 : (0 ≤ x38_5.toInt) ∧ (x38_5.toInt ≤ 4000) ∧ ((w.1 87 8).toInt = (w.1 87 8).toInt) := by have := ti_lo x38_3; have := ti_hi x38_3; have := bd_87_8 hI; exact ⟨by omega, by omega, by omega⟩
      exact hE _ _ _ hI (FR.refl _ w) o1960.1 o1960.2.1 o1960.2.2
    · refine ⟨fun h1961 => ?_, fun h1961 => ?_⟩
      · have o1962 : (0 ≤ x38_5.toInt) ∧ (x38_5.toInt ≤ 4000) ∧ ((w.1 87 8).toInt = (w.1 87 8).toInt) := by have := ti_lo x38_3; have := ti_hi x38_3; have := bd_87_8 hI; exact ⟨by omega, by omega, by omega⟩
        exact hE _ _ _ hI (FR.refl _ w) o1962.1 o1962.2.1 o1962.2.2
      · refine h_Rd_levelOf hI   (fun r1966 w1963 hI1964 hL1965 p1967 p1968 => ?_)
        have hF1969 : FR l_Rd_readLevel_38 w w1963 := (FR.refl _ w).tr hL1965 rfl
        refine ⟨fun h1970 => ?_, fun h1970 => ?_⟩
        · have o1971 : (0 ≤ x38_5.toInt) ∧ (x38_5.toInt ≤ 4000) ∧ ((w1963.1 87 8).toInt = (w.1 87 8).toInt) := by have := ti_lo x38_3; have := ti_hi x38_3; have := bd_87_8 hI1964; have := bd_87_8 hI; have := (congrArg Int32.toInt (hL1965 87 8 rfl).1); exact ⟨by omega, by omega, by omega⟩
          exact hE _ _ _ hI1964 hF1969 o1971.1 o1971.2.1 o1971.2.2
        · refine h_Rd_nextWord hI1964 ((hL1965 87 0 rfl).2.2.trans hr_87_0)  (fun w1972 hI1973 hL1974  => ?_)
          have hF1976 : FR l_Rd_readLevel_38 w w1972 := hF1969.tr hL1974 rfl
          refine ⟨fun h1977 => ?_, fun h1977 => ?_⟩
          · refine hr_Rd_readFactor _ _ hI1973 ((hL1974 87 0 rfl).2.2.trans ((hL1965 87 0 rfl).2.2.trans hr_87_0)) ((hL1974 87 1 rfl).2.2.trans ((hL1965 87 1 rfl).2.2.trans hr_87_1))  (by have := bd_87_8 hI1973; have := bd_87_8 hI1964; have := bd_87_8 hI; have := (congrArg Int32.toInt (hL1965 87 8 rfl).1); have := (congrArg Int32.toInt (hL1974 87 8 rfl).1); omega) (fun r1981 w1978 hI1979 hL1980 p1982 => ?_)
            have hF1983 : FR l_Rd_readLevel_38 w w1978 := hF1976.tr hL1980 rfl
            refine h_Rd_join hI1979 ((hL1980 87 1 rfl).2.2.trans ((hL1974 87 1 rfl).2.2.trans ((hL1965 87 1 rfl).2.2.trans hr_87_1)))  (fun r1987 w1984 hI1985 hL1986  => ?_)
            have hF1988 : FR l_Rd_readLevel_38 w w1984 := hF1983.tr hL1986 rfl
            have o1989 : (0 ≤ x38_1.toInt) ∧ (x38_1.toInt ≤ 2) ∧ (1 ≤ x38_2.toInt) ∧ (x38_2.toInt ≤ 3) ∧ (1 ≤ x38_4.toInt) ∧ (x38_4.toInt ≤ 4000) ∧ (0 ≤ (x38_5 + (1 : Int32)).toInt) ∧ ((x38_5 + (1 : Int32)).toInt ≤ 4000) ∧ (x38_2.toInt = x38_1.toInt + 1) := by have := ti_lo r1987; have := ti_hi r1987; have := ti_add2 (Eq.refl x38_5.toInt) (by decide : ((1 : Int32)).toInt = 1) (by omega) (by omega); exact ⟨by omega, by omega, by omega, by omega, by omega, by omega, by omega, by omega, by omega⟩
            exact ih _ _ w1984 hI1985 ((hL1986 87 0 rfl).2.2.trans ((hL1980 87 0 rfl).2.2.trans ((hL1974 87 0 rfl).2.2.trans ((hL1965 87 0 rfl).2.2.trans hr_87_0)))) ((hL1986 87 1 rfl).2.2.trans ((hL1980 87 1 rfl).2.2.trans ((hL1974 87 1 rfl).2.2.trans ((hL1965 87 1 rfl).2.2.trans hr_87_1)))) o1989.1 o1989.2.1 o1989.2.2.1 o1989.2.2.2.1 o1989.2.2.2.2.1 o1989.2.2.2.2.2.1 o1989.2.2.2.2.2.2.1 o1989.2.2.2.2.2.2.2.1 o1989.2.2.2.2.2.2.2.2 (by have := ti_lo r1987; have := ti_hi r1987; have := bd_87_8 hI1985; have := bd_87_8 hI1979; have := (congrArg Int32.toInt (hL1986 87 8 rfl).1); have := bd_87_8 hI1973; have := bd_87_8 hI1964; have := bd_87_8 hI; have := (congrArg Int32.toInt (hL1965 87 8 rfl).1); have := (congrArg Int32.toInt (hL1974 87 8 rfl).1); have := ti_lo r1981; have := ti_hi r1981; have := ti_add2 (Eq.refl x38_5.toInt) (by decide : ((1 : Int32)).toInt = 1) (by omega) (by omega); omega) (by have := ti_lo r1987; have := ti_hi r1987; have := ti_add2 (Eq.refl x38_5.toInt) (by decide : ((1 : Int32)).toInt = 1) (by omega) (by omega); omega) (fun e0 e1 w9 hI9 hF9 p0 p1 u0 => hE e0 e1 w9 hI9 (hF1988.tr hF9 rfl) p0 p1 (by have := ti_lo r1987; have := ti_hi r1987; have := ti_lo x38_3; have := ti_hi x38_3; have := bd_87_8 hI1985; have := bd_87_8 hI1979; have := (congrArg Int32.toInt (hL1986 87 8 rfl).1); have := bd_87_8 hI; have := bd_87_8 hI1973; have := bd_87_8 hI1964; have := (congrArg Int32.toInt (hL1965 87 8 rfl).1); have := (congrArg Int32.toInt (hL1974 87 8 rfl).1); have := ti_lo r1981; have := ti_hi r1981; have := ti_add2 (Eq.refl x38_5.toInt) (by decide : ((1 : Int32)).toInt = 1) (by omega) (by omega); omega)) (fun r w9 hI9 hF9 q0 => q0.elim)
          · have o1990 : (0 ≤ x38_2.toInt) ∧ (x38_2.toInt ≤ 2) := by have := (by decide : ((3 : Int32)).toInt = 3); exact ⟨by omega, by omega⟩
            refine hr_Rd_readLevel _ _ _ hI1973 ((hL1974 87 0 rfl).2.2.trans ((hL1965 87 0 rfl).2.2.trans hr_87_0)) ((hL1974 87 1 rfl).2.2.trans ((hL1965 87 1 rfl).2.2.trans hr_87_1)) o1990.1 o1990.2 (by have := bd_87_8 hI1973; have := bd_87_8 hI1964; have := bd_87_8 hI; have := (congrArg Int32.toInt (hL1965 87 8 rfl).1); have := (congrArg Int32.toInt (hL1974 87 8 rfl).1); have := (by decide : ((3 : Int32)).toInt = 3); omega) (fun r1994 w1991 hI1992 hL1993 p1995 => ?_)
            have hF1996 : FR l_Rd_readLevel_38 w w1991 := hF1976.tr hL1993 rfl
            refine h_Rd_join hI1992 ((hL1993 87 1 rfl).2.2.trans ((hL1974 87 1 rfl).2.2.trans ((hL1965 87 1 rfl).2.2.trans hr_87_1)))  (fun r2000 w1997 hI1998 hL1999  => ?_)
            have hF2001 : FR l_Rd_readLevel_38 w w1997 := hF1996.tr hL1999 rfl
            have o2002 : (0 ≤ x38_1.toInt) ∧ (x38_1.toInt ≤ 2) ∧ (1 ≤ x38_2.toInt) ∧ (x38_2.toInt ≤ 3) ∧ (1 ≤ x38_4.toInt) ∧ (x38_4.toInt ≤ 4000) ∧ (0 ≤ (x38_5 + (1 : Int32)).toInt) ∧ ((x38_5 + (1 : Int32)).toInt ≤ 4000) ∧ (x38_2.toInt = x38_1.toInt + 1) := by have := ti_lo r2000; have := ti_hi r2000; have := ti_add2 (Eq.refl x38_5.toInt) (by decide : ((1 : Int32)).toInt = 1) (by omega) (by omega); exact ⟨by omega, by omega, by omega, by omega, by omega, by omega, by omega, by omega, by omega⟩
            exact ih _ _ w1997 hI1998 ((hL1999 87 0 rfl).2.2.trans ((hL1993 87 0 rfl).2.2.trans ((hL1974 87 0 rfl).2.2.trans ((hL1965 87 0 rfl).2.2.trans hr_87_0)))) ((hL1999 87 1 rfl).2.2.trans ((hL1993 87 1 rfl).2.2.trans ((hL1974 87 1 rfl).2.2.trans ((hL1965 87 1 rfl).2.2.trans hr_87_1)))) o2002.1 o2002.2.1 o2002.2.2.1 o2002.2.2.2.1 o2002.2.2.2.2.1 o2002.2.2.2.2.2.1 o2002.2.2.2.2.2.2.1 o2002.2.2.2.2.2.2.2.1 o2002.2.2.2.2.2.2.2.2 (by have := ti_lo r2000; have := ti_hi r2000; have := bd_87_8 hI1998; have := bd_87_8 hI1992; have := (congrArg Int32.toInt (hL1999 87 8 rfl).1); have := bd_87_8 hI1973; have := bd_87_8 hI1964; have := bd_87_8 hI; have := (congrArg Int32.toInt (hL1965 87 8 rfl).1); have := (congrArg Int32.toInt (hL1974 87 8 rfl).1); have := ti_lo r1994; have := ti_hi r1994; have := ti_add2 (Eq.refl x38_5.toInt) (by decide : ((1 : Int32)).toInt = 1) (by omega) (by omega); omega) (by have := ti_lo r2000; have := ti_hi r2000; have := ti_add2 (Eq.refl x38_5.toInt) (by decide : ((1 : Int32)).toInt = 1) (by omega) (by omega); omega) (fun e0 e1 w9 hI9 hF9 p0 p1 u0 => hE e0 e1 w9 hI9 (hF2001.tr hF9 rfl) p0 p1 (by have := ti_lo r2000; have := ti_hi r2000; have := ti_lo x38_3; have := ti_hi x38_3; have := bd_87_8 hI1998; have := bd_87_8 hI1992; have := (congrArg Int32.toInt (hL1999 87 8 rfl).1); have := bd_87_8 hI; have := bd_87_8 hI1973; have := bd_87_8 hI1964; have := (congrArg Int32.toInt (hL1965 87 8 rfl).1); have := (congrArg Int32.toInt (hL1974 87 8 rfl).1); have := ti_lo r1994; have := ti_hi r1994; have := ti_add2 (Eq.refl x38_5.toInt) (by decide : ((1 : Int32)).toInt = 1) (by omega) (by omega); omega)) (fun r w9 hI9 hF9 q0 => q0.elim)
set_option maxRecDepth 20000 in
set_option maxHeartbeats 2000000 in
theorem hb_Rd_readLevel {nn : Nat} {r_Rd_readFactor : MW → (Int32 → MW → Prop) → Prop} {r_Rd_readLevel : MW → Int32 → (Int32 → MW → Prop) → Prop} (hr_Rd_readFactor : ∀ (w : MW) (Q : Int32 → MW → Prop), BND w → w.2.2 87 0 = some 1 → w.2.2 87 1 = some 108 → (4 * (20 - (w.1 87 8).toInt)).toNat < nn → (∀ (r : Int32) (w' : MW), BND w' → FR l_Rd_readFactor w w' → (w'.1 87 8).toInt = (w.1 87 8).toInt → Q r w') → r_Rd_readFactor w Q) (hr_Rd_readLevel : ∀ (w : MW) (a0 : Int32) (Q : Int32 → MW → Prop), BND w → w.2.2 87 0 = some 1 → w.2.2 87 1 = some 108 → 0 ≤ a0.toInt → a0.toInt ≤ 2 → (4 * (20 - (w.1 87 8).toInt) + (3 - a0.toInt)).toNat < nn → (∀ (r : Int32) (w' : MW), BND w' → FR l_Rd_readLevel w w' → (w'.1 87 8).toInt = (w.1 87 8).toInt → Q r w') → r_Rd_readLevel w a0 Q) {w : MW} {a0 : Int32} {Q : Int32 → MW → Prop} (hI : BND w) (hr_87_0 : w.2.2 87 0 = some 1) (hr_87_1 : w.2.2 87 1 = some 108) (hp0 : 0 ≤ a0.toInt) (hp1 : a0.toInt ≤ 2) (hn : (4 * (20 - (w.1 87 8).toInt) + (3 - a0.toInt)).toNat ≤ nn) (hQ : ∀ (r : Int32) (w' : MW), BND w' → FR l_Rd_readLevel w w' → (w'.1 87 8).toInt = (w.1 87 8).toInt → Q r w') : pb_Rd_readLevel r_Rd_readFactor r_Rd_readLevel w a0 Q := by
  refine Eq.mpr (pb_Rd_readLevel.eq_1 _ _ _ _ _) ?_
  refine ⟨fun h2003 => ?_, fun h2003 => ?_⟩
  · refine hr_Rd_readFactor _ _ hI hr_87_0 hr_87_1  (by have := bd_87_8 hI; omega) (fun r2007 w2004 hI2005 hL2006 p2008 => ?_)
    have hF2009 : FR l_Rd_readLevel w w2004 := (FR.refl _ w).tr hL2006 rfl
    refine ⟨fun h2010 => ?_, fun h2010 => ?_⟩
    · refine Eq.mpr (q_Rd_readLevel_33.eq_1 _ _ _ _ _ _ _ _) ?_
      have o2011 : (0 ≤ a0.toInt) ∧ (a0.toInt ≤ 2) ∧ (1 ≤ (a0 + (1 : Int32)).toInt) ∧ ((a0 + (1 : Int32)).toInt ≤ 3) ∧ (1 ≤ (4000 : Int32).toInt) ∧ ((4000 : Int32).toInt ≤ 4000) ∧ (0 ≤ (0 : Int32).toInt) ∧ ((0 : Int32).toInt ≤ 4000) ∧ ((a0 + (1 : Int32)).toInt = a0.toInt + 1) := by have := (by decide : ((4000 : Int32)).toInt = 4000); have := ti_lo r2007; have := ti_hi r2007; have := (by decide : ((0 : Int32)).toInt = 0); have := (by decide : ((3 : Int32)).toInt = 3); have := bd_87_8 hI2005; have := bd_87_8 hI; have := ti_add2 (Eq.refl a0.toInt) (by decide : ((1 : Int32)).toInt = 1) (by omega) (by omega); exact ⟨by omega, by omega, by omega, by omega, by omega, by omega, by omega, by omega, by omega⟩
      refine hq_Rd_readLevel_38 hr_Rd_readFactor hr_Rd_readLevel FU _ _ w2004 hI2005 ((hL2006 87 0 rfl).2.2.trans hr_87_0) ((hL2006 87 1 rfl).2.2.trans hr_87_1) o2011.1 o2011.2.1 o2011.2.2.1 o2011.2.2.2.1 o2011.2.2.2.2.1 o2011.2.2.2.2.2.1 o2011.2.2.2.2.2.2.1 o2011.2.2.2.2.2.2.2.1 o2011.2.2.2.2.2.2.2.2 (by have := (by decide : ((4000 : Int32)).toInt = 4000); have := ti_lo r2007; have := ti_hi r2007; have := (by decide : ((0 : Int32)).toInt = 0); have := bd_87_8 hI2005; have := (by decide : ((3 : Int32)).toInt = 3); have := bd_87_8 hI; have := ti_add2 (Eq.refl a0.toInt) (by decide : ((1 : Int32)).toInt = 1) (by omega) (by omega); omega) (fu_lt (by have := (by decide : ((4000 : Int32)).toInt = 4000); have := ti_lo r2007; have := ti_hi r2007; have := (by decide : ((0 : Int32)).toInt = 0); have := (by decide : ((3 : Int32)).toInt = 3); have := bd_87_8 hI2005; have := bd_87_8 hI; have := ti_add2 (Eq.refl a0.toInt) (by decide : ((1 : Int32)).toInt = 1) (by omega) (by omega); omega)) (fun e2015 e2016 w2012 hI2013 hL2014 p2017 p2018 p2019 => ?_) (fun r w9 hI9 hF9 q0 => q0.elim)
      have hF2020 : FR l_Rd_readLevel w w2012 := hF2009.tr hL2014 rfl
      refine ⟨fun _ => ?_, fun h => absurd h2010 h⟩
      exact hQ _ _ hI2013 hF2020  (by have := ti_lo e2015; have := ti_hi e2015; have := bd_87_8 hI2013; have := bd_87_8 hI; have := bd_87_8 hI2005; have := ti_lo r2007; have := ti_hi r2007; omega)
    · exfalso; have := (by decide : ((3 : Int32)).toInt = 3); have := bd_87_8 hI2005; have := bd_87_8 hI; have := ti_lo r2007; have := ti_hi r2007; have := (by decide : ((0 : Int32)).toInt = 0); have := ti_add2 (Eq.refl a0.toInt) (by decide : ((1 : Int32)).toInt = 1) (by omega) (by omega); omega
  · have o2021 : (0 ≤ (a0 + (1 : Int32)).toInt) ∧ ((a0 + (1 : Int32)).toInt ≤ 2) := by have := (by decide : ((3 : Int32)).toInt = 3); have := ti_add2 (Eq.refl a0.toInt) (by decide : ((1 : Int32)).toInt = 1) (by omega) (by omega); exact ⟨by omega, by omega⟩
    refine hr_Rd_readLevel _ _ _ hI hr_87_0 hr_87_1 o2021.1 o2021.2 (by have := bd_87_8 hI; have := (by decide : ((3 : Int32)).toInt = 3); have := ti_add2 (Eq.refl a0.toInt) (by decide : ((1 : Int32)).toInt = 1) (by omega) (by omega); omega) (fun r2025 w2022 hI2023 hL2024 p2026 => ?_)
    have hF2027 : FR l_Rd_readLevel w w2022 := (FR.refl _ w).tr hL2024 rfl
    refine ⟨fun h2028 => ?_, fun h2028 => ?_⟩
    · refine Eq.mpr (q_Rd_readLevel_33.eq_1 _ _ _ _ _ _ _ _) ?_
      have o2029 : (0 ≤ a0.toInt) ∧ (a0.toInt ≤ 2) ∧ (1 ≤ (a0 + (1 : Int32)).toInt) ∧ ((a0 + (1 : Int32)).toInt ≤ 3) ∧ (1 ≤ (4000 : Int32).toInt) ∧ ((4000 : Int32).toInt ≤ 4000) ∧ (0 ≤ (0 : Int32).toInt) ∧ ((0 : Int32).toInt ≤ 4000) ∧ ((a0 + (1 : Int32)).toInt = a0.toInt + 1) := by have := (by decide : ((4000 : Int32)).toInt = 4000); have := ti_lo r2025; have := ti_hi r2025; have := (by decide : ((0 : Int32)).toInt = 0); have := (by decide : ((3 : Int32)).toInt = 3); have := bd_87_8 hI2023; have := bd_87_8 hI; have := ti_add2 (Eq.refl a0.toInt) (by decide : ((1 : Int32)).toInt = 1) (by omega) (by omega); exact ⟨by omega, by omega, by omega, by omega, by omega, by omega, by omega, by omega, by omega⟩
      refine hq_Rd_readLevel_38 hr_Rd_readFactor hr_Rd_readLevel FU _ _ w2022 hI2023 ((hL2024 87 0 rfl).2.2.trans hr_87_0) ((hL2024 87 1 rfl).2.2.trans hr_87_1) o2029.1 o2029.2.1 o2029.2.2.1 o2029.2.2.2.1 o2029.2.2.2.2.1 o2029.2.2.2.2.2.1 o2029.2.2.2.2.2.2.1 o2029.2.2.2.2.2.2.2.1 o2029.2.2.2.2.2.2.2.2 (by have := (by decide : ((4000 : Int32)).toInt = 4000); have := ti_lo r2025; have := ti_hi r2025; have := (by decide : ((0 : Int32)).toInt = 0); have := bd_87_8 hI2023; have := (by decide : ((3 : Int32)).toInt = 3); have := bd_87_8 hI; have := ti_add2 (Eq.refl a0.toInt) (by decide : ((1 : Int32)).toInt = 1) (by omega) (by omega); omega) (fu_lt (by have := (by decide : ((4000 : Int32)).toInt = 4000); have := ti_lo r2025; have := ti_hi r2025; have := (by decide : ((0 : Int32)).toInt = 0); have := (by decide : ((3 : Int32)).toInt = 3); have := bd_87_8 hI2023; have := bd_87_8 hI; have := ti_add2 (Eq.refl a0.toInt) (by decide : ((1 : Int32)).toInt = 1) (by omega) (by omega); omega)) (fun e2033 e2034 w2030 hI2031 hL2032 p2035 p2036 p2037 => ?_) (fun r w9 hI9 hF9 q0 => q0.elim)
      have hF2038 : FR l_Rd_readLevel w w2030 := hF2027.tr hL2032 rfl
      refine ⟨fun _ => ?_, fun h => absurd h2028 h⟩
      exact hQ _ _ hI2031 hF2038  (by have := ti_lo e2033; have := ti_hi e2033; have := bd_87_8 hI2031; have := bd_87_8 hI; have := bd_87_8 hI2023; have := ti_lo r2025; have := ti_hi r2025; omega)
    · refine Eq.mpr (q_Rd_readLevel_33.eq_1 _ _ _ _ _ _ _ _) ?_
      have o2039 : (0 ≤ a0.toInt) ∧ (a0.toInt ≤ 2) ∧ (1 ≤ (a0 + (1 : Int32)).toInt) ∧ ((a0 + (1 : Int32)).toInt ≤ 3) ∧ (1 ≤ (1 : Int32).toInt) ∧ ((1 : Int32).toInt ≤ 4000) ∧ (0 ≤ (0 : Int32).toInt) ∧ ((0 : Int32).toInt ≤ 4000) ∧ ((a0 + (1 : Int32)).toInt = a0.toInt + 1) := by have := (by decide : ((1 : Int32)).toInt = 1); have := ti_lo r2025; have := ti_hi r2025; have := (by decide : ((0 : Int32)).toInt = 0); have := (by decide : ((3 : Int32)).toInt = 3); have := bd_87_8 hI2023; have := bd_87_8 hI; have := ti_add2 (Eq.refl a0.toInt) (by decide : ((1 : Int32)).toInt = 1) (by omega) (by omega); exact ⟨by omega, by omega, by omega, by omega, by omega, by omega, by omega, by omega, by omega⟩
      refine hq_Rd_readLevel_38 hr_Rd_readFactor hr_Rd_readLevel FU _ _ w2022 hI2023 ((hL2024 87 0 rfl).2.2.trans hr_87_0) ((hL2024 87 1 rfl).2.2.trans hr_87_1) o2039.1 o2039.2.1 o2039.2.2.1 o2039.2.2.2.1 o2039.2.2.2.2.1 o2039.2.2.2.2.2.1 o2039.2.2.2.2.2.2.1 o2039.2.2.2.2.2.2.2.1 o2039.2.2.2.2.2.2.2.2 (by have := (by decide : ((1 : Int32)).toInt = 1); have := ti_lo r2025; have := ti_hi r2025; have := (by decide : ((0 : Int32)).toInt = 0); have := bd_87_8 hI2023; have := (by decide : ((3 : Int32)).toInt = 3); have := bd_87_8 hI; have := ti_add2 (Eq.refl a0.toInt) (by decide : ((1 : Int32)).toInt = 1) (by omega) (by omega); omega) (fu_lt (by have := (by decide : ((1 : Int32)).toInt = 1); have := ti_lo r2025; have := ti_hi r2025; have := (by decide : ((0 : Int32)).toInt = 0); have := (by decide : ((3 : Int32)).toInt = 3); have := bd_87_8 hI2023; have := bd_87_8 hI; have := ti_add2 (Eq.refl a0.toInt) (by decide : ((1 : Int32)).toInt = 1) (by omega) (by omega); omega)) (fun e2043 e2044 w2040 hI2041 hL2042 p2045 p2046 p2047 => ?_) (fun r w9 hI9 hF9 q0 => q0.elim)
      have hF2048 : FR l_Rd_readLevel w w2040 := hF2027.tr hL2042 rfl
      refine ⟨fun h => absurd h h2028, fun _ => ?_⟩
      refine ⟨fun h2049 => ?_, fun h2049 => ?_⟩
      · exact hQ _ _ hI2041 hF2048  (by have := ti_lo e2043; have := ti_hi e2043; have := bd_87_8 hI2041; have := bd_87_8 hI; have := bd_87_8 hI2023; have := ti_lo r2025; have := ti_hi r2025; have := (by decide : ((0 : Int32)).toInt = 0); omega)
      · refine Eq.mpr (p_Rd_fail.eq_1 _ _) ?_
        refine ⟨fun h2050 => ?_, fun h2050 => ?_⟩
        · exact hQ _ _ hI2041 hF2048  (by have := ti_lo e2043; have := ti_hi e2043; have := bd_87_8 hI2041; have := bd_87_8 hI; have := bd_87_8 hI2023; have := ti_lo r2025; have := ti_hi r2025; have := (by decide : ((0 : Int32)).toInt = 0); omega)
        · have hI2051 : BND (sI w2040 87 9 (w2040.1 87 4)) := wbd_87_9 hI2041
          exact hQ _ _ hI2051 (FR.I hF2048 (k := 87) (j := 9) (v := (w2040.1 87 4)) rfl)  (by have := ti_lo e2043; have := ti_hi e2043; have := bd_87_8 hI2041; have : ((sI w2040 87 9 (w2040.1 87 4)).1 87 8).toInt = (w2040.1 87 8).toInt := rfl; have := bd_87_8 hI; have := bd_87_8 hI2023; have := ti_lo r2025; have := ti_hi r2025; have := (by decide : ((0 : Int32)).toInt = 0); omega)
theorem ha_Rd_readFactor (n : Nat) : (∀ (w : MW) (Q : Int32 → MW → Prop), BND w → w.2.2 87 0 = some 1 → w.2.2 87 1 = some 108 → (4 * (20 - (w.1 87 8).toInt)).toNat < n → (∀ (r : Int32) (w' : MW), BND w' → FR l_Rd_readFactor w w' → (w'.1 87 8).toInt = (w.1 87 8).toInt → Q r w') → pn_Rd_readFactor n w Q) ∧ (∀ (w : MW) (a0 : Int32) (Q : Int32 → MW → Prop), BND w → w.2.2 87 0 = some 1 → w.2.2 87 1 = some 108 → 0 ≤ a0.toInt → a0.toInt ≤ 2 → (4 * (20 - (w.1 87 8).toInt) + (3 - a0.toInt)).toNat < n → (∀ (r : Int32) (w' : MW), BND w' → FR l_Rd_readLevel w w' → (w'.1 87 8).toInt = (w.1 87 8).toInt → Q r w') → pn_Rd_readLevel n w a0 Q) := by
  induction n with
  | zero =>
    refine ⟨?_, ?_⟩ <;> (intros; omega)
  | succ n ih =>
    obtain ⟨h0, h1⟩ := ih
    exact ⟨fun w Q hI y0 y1 hn hQ => Eq.mpr (pe_Rd_readFactor n w Q) (hb_Rd_readFactor (nn := n) h0 h1 hI y0 y1 (by omega) hQ), fun w a0 Q hI y0 y1 y2 y3 hn hQ => Eq.mpr (pe_Rd_readLevel n w a0 Q) (hb_Rd_readLevel (nn := n) h0 h1 hI y0 y1 y2 y3 (by omega) hQ)⟩
theorem h_Rd_readFactor {w : MW} {Q : Int32 → MW → Prop} (hI : BND w) (hr_87_0 : w.2.2 87 0 = some 1) (hr_87_1 : w.2.2 87 1 = some 108)  (hQ : ∀ (r : Int32) (w' : MW), BND w' → FR l_Rd_readFactor w w' → (w'.1 87 8).toInt = (w.1 87 8).toInt → Q r w') : p_Rd_readFactor w Q := (ha_Rd_readFactor 400).1 w Q hI hr_87_0 hr_87_1  (by have := bd_87_8 hI; omega) hQ
theorem h_Rd_readLevel {w : MW} {a0 : Int32} {Q : Int32 → MW → Prop} (hI : BND w) (hr_87_0 : w.2.2 87 0 = some 1) (hr_87_1 : w.2.2 87 1 = some 108) (hp0 : 0 ≤ a0.toInt) (hp1 : a0.toInt ≤ 2) (hQ : ∀ (r : Int32) (w' : MW), BND w' → FR l_Rd_readLevel w w' → (w'.1 87 8).toInt = (w.1 87 8).toInt → Q r w') : p_Rd_readLevel w a0 Q := (ha_Rd_readFactor 400).2 w a0 Q hI hr_87_0 hr_87_1 hp0 hp1 (by have := bd_87_8 hI; omega) hQ
