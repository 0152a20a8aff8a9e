def T0_law21 (r : Nat) : Option am_AI := bif Nat.blt r 1633 then (bif Nat.blt r 1621 then (bif Nat.blt r 1617 then (bif Nat.blt r 1613 then (bif Nat.beq r 1612 then some (1613, 21, 0, 0, 0, [], 0) else none) else (bif Nat.blt r 1614 then (bif Nat.beq r 1613 then some (1614, 90, 0, 0, 0, [], 0) else none) else (bif Nat.beq r 1614 then some (1617, 80, 734, 2, 0, [157, 776], 0) else none))) else (bif Nat.blt r 1619 then (bif Nat.blt r 1618 then (bif Nat.beq r 1617 then some (1618, 8, 2, 0, 0, [], 0) else none) else (bif Nat.beq r 1618 then some (1619, 8, 0, 0, 0, [], 0) else none)) else (bif Nat.blt r 1620 then (bif Nat.beq r 1619 then some (1620, 6, 3, 0, 0, [], 0) else none) else (bif Nat.beq r 1620 then some (1621, 0, 0, 0, 1, [], 0) else none)))) else (bif Nat.blt r 1629 then (bif Nat.blt r 1623 then (bif Nat.blt r 1622 then (bif Nat.beq r 1621 then some (1622, 21, 0, 0, 0, [], 0) else none) else (bif Nat.beq r 1622 then some (1623, 90, 0, 0, 0, [], 0) else none)) else (bif Nat.blt r 1626 then (bif Nat.beq r 1623 then some (1626, 80, 868, 2, 0, [160, 1244], 0) else none) else (bif Nat.beq r 1626 then some (1629, 50, 0, 1736, 0, [], 0) else none))) else (bif Nat.blt r 1631 then (bif Nat.blt r 1630 then (bif Nat.beq r 1629 then some (1630, 0, 0, 0, 0, [], 0) else none) else (bif Nat.beq r 1630 then some (1631, 87, 0, 0, 0, [], 0) else none)) else (bif Nat.blt r 1632 then (bif Nat.beq r 1631 then some (1632, 8, 1, 0, 0, [], 0) else none) else (bif Nat.beq r 1632 then some (1633, 8, 0, 0, 0, [], 0) else none))))) else (bif Nat.blt r 1643 then (bif Nat.blt r 1637 then (bif Nat.blt r 1635 then (bif Nat.blt r 1634 then (bif Nat.beq r 1633 then some (1634, 6, 3, 0, 0, [], 0) else none) else (bif Nat.beq r 1634 then some (1635, 0, 0, 0, 1, [], 0) else none)) else (bif Nat.blt r 1636 then (bif Nat.beq r 1635 then some (1636, 21, 0, 0, 0, [], 0) else none) else (bif Nat.beq r 1636 then some (1637, 90, 0, 0, 0, [], 0) else none))) else (bif Nat.blt r 1641 then (bif Nat.blt r 1640 then (bif Nat.beq r 1637 then some (1640, 80, 735, 2, 0, [161, 796], 0) else none) else (bif Nat.beq r 1640 then some (1641, 8, 2, 0, 0, [], 0) else none)) else (bif Nat.blt r 1642 then (bif Nat.beq r 1641 then some (1642, 8, 0, 0, 0, [], 0) else none) else (bif Nat.beq r 1642 then some (1643, 6, 3, 0, 0, [], 0) else none)))) else (bif Nat.blt r 1649 then (bif Nat.blt r 1645 then (bif Nat.blt r 1644 then (bif Nat.beq r 1643 then some (1644, 0, 0, 0, 1, [], 0) else none) else (bif Nat.beq r 1644 then some (1645, 21, 0, 0, 0, [], 0) else none)) else (bif Nat.blt r 1646 then (bif Nat.beq r 1645 then some (1646, 90, 0, 0, 0, [], 0) else none) else (bif Nat.beq r 1646 then some (1649, 80, 869, 2, 0, [164, 1252], 0) else none))) else (bif Nat.blt r 1653 then (bif Nat.blt r 1652 then (bif Nat.beq r 1649 then some (1652, 50, 0, 1736, 0, [], 0) else none) else (bif Nat.beq r 1652 then some (1653, 0, 0, 0, 0, [], 0) else none)) else (bif Nat.blt r 1654 then (bif Nat.beq r 1653 then some (1654, 87, 0, 0, 0, [], 0) else none) else (bif Nat.beq r 1654 then some (1655, 8, 1, 0, 0, [], 0) else none)))))
set_option maxRecDepth 100000 in
theorem Tc_law21 {pc : Nat} {ai : am_AI} (h1 : 1612 ≤ pc) (h2 : pc < 1612 + 43) (ht : T0_law21 pc = some ai) : am_chk "CanalEndLaw" (some .boolean) 1 code pc ai = true := law_seg (by decide +kernel) h1 h2 ht
def T0_law22 (r : Nat) : Option am_AI := bif Nat.blt r 1672 then (bif Nat.blt r 1662 then (bif Nat.blt r 1658 then (bif Nat.blt r 1656 then (bif Nat.beq r 1655 then some (1656, 8, 0, 0, 0, [], 0) else none) else (bif Nat.blt r 1657 then (bif Nat.beq r 1656 then some (1657, 6, 3, 0, 0, [], 0) else none) else (bif Nat.beq r 1657 then some (1658, 0, 0, 0, 1, [], 0) else none))) else (bif Nat.blt r 1660 then (bif Nat.blt r 1659 then (bif Nat.beq r 1658 then some (1659, 21, 0, 0, 0, [], 0) else none) else (bif Nat.beq r 1659 then some (1660, 90, 0, 0, 0, [], 0) else none)) else (bif Nat.blt r 1661 then (bif Nat.beq r 1660 then some (1661, 8, 0, 0, 0, [], 0) else none) else (bif Nat.beq r 1661 then some (1662, 6, 3, 0, 0, [], 0) else none)))) else (bif Nat.blt r 1668 then (bif Nat.blt r 1664 then (bif Nat.blt r 1663 then (bif Nat.beq r 1662 then some (1663, 0, 0, 0, 2, [], 0) else none) else (bif Nat.beq r 1663 then some (1664, 21, 0, 0, 0, [], 0) else none)) else (bif Nat.blt r 1665 then (bif Nat.beq r 1664 then some (1665, 90, 0, 0, 0, [], 0) else none) else (bif Nat.beq r 1665 then some (1668, 80, 736, 3, 0, [165, 800], 0) else none))) else (bif Nat.blt r 1670 then (bif Nat.blt r 1669 then (bif Nat.beq r 1668 then some (1669, 8, 2, 0, 0, [], 0) else none) else (bif Nat.beq r 1669 then some (1670, 8, 0, 0, 0, [], 0) else none)) else (bif Nat.blt r 1671 then (bif Nat.beq r 1670 then some (1671, 6, 3, 0, 0, [], 0) else none) else (bif Nat.beq r 1671 then some (1672, 0, 0, 0, 1, [], 0) else none))))) else (bif Nat.blt r 1682 then (bif Nat.blt r 1676 then (bif Nat.blt r 1674 then (bif Nat.blt r 1673 then (bif Nat.beq r 1672 then some (1673, 21, 0, 0, 0, [], 0) else none) else (bif Nat.beq r 1673 then some (1674, 90, 0, 0, 0, [], 0) else none)) else (bif Nat.blt r 1675 then (bif Nat.beq r 1674 then some (1675, 8, 0, 0, 0, [], 0) else none) else (bif Nat.beq r 1675 then some (1676, 6, 3, 0, 0, [], 0) else none))) else (bif Nat.blt r 1678 then (bif Nat.blt r 1677 then (bif Nat.beq r 1676 then some (1677, 0, 0, 0, 2, [], 0) else none) else (bif Nat.beq r 1677 then some (1678, 21, 0, 0, 0, [], 0) else none)) else (bif Nat.blt r 1679 then (bif Nat.beq r 1678 then some (1679, 90, 0, 0, 0, [], 0) else none) else (bif Nat.beq r 1679 then some (1682, 80, 870, 3, 0, [168, 1256], 0) else none)))) else (bif Nat.blt r 1688 then (bif Nat.blt r 1686 then (bif Nat.blt r 1685 then (bif Nat.beq r 1682 then some (1685, 50, 0, 1736, 0, [], 0) else none) else (bif Nat.beq r 1685 then some (1686, 0, 0, 0, 0, [], 0) else none)) else (bif Nat.blt r 1687 then (bif Nat.beq r 1686 then some (1687, 87, 0, 0, 0, [], 0) else none) else (bif Nat.beq r 1687 then some (1688, 8, 1, 0, 0, [], 0) else none))) else (bif Nat.blt r 1692 then (bif Nat.blt r 1691 then (bif Nat.beq r 1688 then some (1691, 80, 737, 1, 0, [169, 804], 0) else none) else (bif Nat.beq r 1691 then some (1692, 8, 2, 0, 0, [], 0) else none)) else (bif Nat.blt r 1695 then (bif Nat.beq r 1692 then some (1695, 80, 871, 1, 0, [172, 1260], 0) else none) else (bif Nat.beq r 1695 then some (1698, 50, 0, 1736, 0, [], 0) else none)))))
set_option maxRecDepth 100000 in
theorem Tc_law22 {pc : Nat} {ai : am_AI} (h1 : 1655 ≤ pc) (h2 : pc < 1655 + 43) (ht : T0_law22 pc = some ai) : am_chk "CanalEndLaw" (some .boolean) 1 code pc ai = true := law_seg (by decide +kernel) h1 h2 ht
def T0_law23 (r : Nat) : Option am_AI := bif Nat.blt r 1719 then (bif Nat.blt r 1711 then (bif Nat.blt r 1701 then (bif Nat.blt r 1699 then (bif Nat.beq r 1698 then some (1699, 0, 0, 0, 0, [], 0) else none) else (bif Nat.blt r 1700 then (bif Nat.beq r 1699 then some (1700, 87, 0, 0, 0, [], 0) else none) else (bif Nat.beq r 1700 then some (1701, 8, 1, 0, 0, [], 0) else none))) else (bif Nat.blt r 1705 then (bif Nat.blt r 1704 then (bif Nat.beq r 1701 then some (1704, 80, 738, 1, 0, [173, 808], 0) else none) else (bif Nat.beq r 1704 then some (1705, 8, 2, 0, 0, [], 0) else none)) else (bif Nat.blt r 1708 then (bif Nat.beq r 1705 then some (1708, 80, 872, 1, 0, [176, 1264], 0) else none) else (bif Nat.beq r 1708 then some (1711, 50, 0, 1736, 0, [], 0) else none)))) else (bif Nat.blt r 1715 then (bif Nat.blt r 1713 then (bif Nat.blt r 1712 then (bif Nat.beq r 1711 then some (1712, 0, 0, 0, 0, [], 0) else none) else (bif Nat.beq r 1712 then some (1713, 87, 0, 0, 0, [], 0) else none)) else (bif Nat.blt r 1714 then (bif Nat.beq r 1713 then some (1714, 8, 1, 0, 0, [], 0) else none) else (bif Nat.beq r 1714 then some (1715, 8, 0, 0, 0, [], 0) else none))) else (bif Nat.blt r 1717 then (bif Nat.blt r 1716 then (bif Nat.beq r 1715 then some (1716, 6, 3, 0, 0, [], 0) else none) else (bif Nat.beq r 1716 then some (1717, 0, 0, 0, 1, [], 0) else none)) else (bif Nat.blt r 1718 then (bif Nat.beq r 1717 then some (1718, 21, 0, 0, 0, [], 0) else none) else (bif Nat.beq r 1718 then some (1719, 90, 0, 0, 0, [], 0) else none))))) else (bif Nat.blt r 1728 then (bif Nat.blt r 1724 then (bif Nat.blt r 1722 then (bif Nat.beq r 1719 then some (1722, 80, 739, 2, 0, [177, 812], 0) else none) else (bif Nat.blt r 1723 then (bif Nat.beq r 1722 then some (1723, 8, 2, 0, 0, [], 0) else none) else (bif Nat.beq r 1723 then some (1724, 8, 0, 0, 0, [], 0) else none))) else (bif Nat.blt r 1726 then (bif Nat.blt r 1725 then (bif Nat.beq r 1724 then some (1725, 6, 3, 0, 0, [], 0) else none) else (bif Nat.beq r 1725 then some (1726, 0, 0, 0, 1, [], 0) else none)) else (bif Nat.blt r 1727 then (bif Nat.beq r 1726 then some (1727, 21, 0, 0, 0, [], 0) else none) else (bif Nat.beq r 1727 then some (1728, 90, 0, 0, 0, [], 0) else none)))) else (bif Nat.blt r 1736 then (bif Nat.blt r 1734 then (bif Nat.blt r 1731 then (bif Nat.beq r 1728 then some (1731, 80, 873, 2, 0, [180, 1268], 0) else none) else (bif Nat.beq r 1731 then some (1734, 50, 0, 1736, 0, [], 0) else none)) else (bif Nat.blt r 1735 then (bif Nat.beq r 1734 then some (1735, 0, 0, 0, 0, [], 0) else none) else (bif Nat.beq r 1735 then some (1736, 87, 0, 0, 0, [], 0) else none))) else (bif Nat.blt r 1742 then (bif Nat.blt r 1739 then (bif Nat.beq r 1736 then some (1739, 17, 3, 0, 6, [], 0) else none) else (bif Nat.beq r 1739 then some (1742, 56, 0, 18, 0, [], 0) else none)) else (bif Nat.blt r 1743 then (bif Nat.beq r 1742 then some (1743, 0, 0, 0, 1, [], 0) else none) else (bif Nat.beq r 1743 then some (1744, 87, 0, 0, 0, [], 0) else none)))))
set_option maxRecDepth 100000 in
theorem Tc_law23 {pc : Nat} {ai : am_AI} (h1 : 1698 ≤ pc) (h2 : pc < 1698 + 46) (ht : T0_law23 pc = some ai) : am_chk "CanalEndLaw" (some .boolean) 1 code pc ai = true := law_seg (by decide +kernel) h1 h2 ht
def T_law (r : Nat) : Option am_AI := bif Nat.blt r 380 then T0_law0 r else (bif Nat.blt r 516 then T0_law1 r else (bif Nat.blt r 629 then T0_law2 r else (bif Nat.blt r 722 then T0_law3 r else (bif Nat.blt r 801 then T0_law4 r else (bif Nat.blt r 875 then T0_law5 r else (bif Nat.blt r 951 then T0_law6 r else (bif Nat.blt r 1016 then T0_law7 r else (bif Nat.blt r 1077 then T0_law8 r else (bif Nat.blt r 1135 then T0_law9 r else (bif Nat.blt r 1183 then T0_law10 r else (bif Nat.blt r 1231 then T0_law11 r else (bif Nat.blt r 1274 then T0_law12 r else (bif Nat.blt r 1324 then T0_law13 r else (bif Nat.blt r 1370 then T0_law14 r else (bif Nat.blt r 1413 then T0_law15 r else (bif Nat.blt r 1459 then T0_law16 r else (bif Nat.blt r 1500 then T0_law17 r else (bif Nat.blt r 1536 then T0_law18 r else (bif Nat.blt r 1575 then T0_law19 r else (bif Nat.blt r 1612 then T0_law20 r else (bif Nat.blt r 1655 then T0_law21 r else (bif Nat.blt r 1698 then T0_law22 r else (bif Nat.blt r 1744 then T0_law23 r else (none))))))))))))))))))))))))
theorem Tc_law : ∀ pc ai, T_law pc = some ai → am_chk "CanalEndLaw" (some .boolean) 1 code pc ai = true := by
  intro pc ai h
  unfold T_law at h
  cases c0 : Nat.blt pc 380 with
  | true =>
    rw [c0] at h
    have u : pc + 1 ≤ 380 := Nat.le_of_ble_eq_true c0
    exact Tc_law0 (by omega) (by omega) h
  | false =>
    rw [c0] at h
    cases c1 : Nat.blt pc 516 with
    | true =>
      rw [c1] at h
      have u : pc + 1 ≤ 516 := Nat.le_of_ble_eq_true c1
      have v : ¬ pc + 1 ≤ 380 := fun w => by rw [show Nat.blt pc 380 = true from Nat.ble_eq_true_of_le w] at c0; cases c0
      exact Tc_law1 (by omega) (by omega) h
    | false =>
      rw [c1] at h
      cases c2 : Nat.blt pc 629 with
      | true =>
        rw [c2] at h
        have u : pc + 1 ≤ 629 := Nat.le_of_ble_eq_true c2
        have v : ¬ pc + 1 ≤ 516 := fun w => by rw [show Nat.blt pc 516 = true from Nat.ble_eq_true_of_le w] at c1; cases c1
        exact Tc_law2 (by omega) (by omega) h
      | false =>
        rw [c2] at h
        cases c3 : Nat.blt pc 722 with
        | true =>
          rw [c3] at h
          have u : pc + 1 ≤ 722 := Nat.le_of_ble_eq_true c3
          have v : ¬ pc + 1 ≤ 629 := fun w => by rw [show Nat.blt pc 629 = true from Nat.ble_eq_true_of_le w] at c2; cases c2
          exact Tc_law3 (by omega) (by omega) h
        | false =>
          rw [c3] at h
          cases c4 : Nat.blt pc 801 with
          | true =>
            rw [c4] at h
            have u : pc + 1 ≤ 801 := Nat.le_of_ble_eq_true c4
            have v : ¬ pc + 1 ≤ 722 := fun w => by rw [show Nat.blt pc 722 = true from Nat.ble_eq_true_of_le w] at c3; cases c3
            exact Tc_law4 (by omega) (by omega) h
          | false =>
            rw [c4] at h
            cases c5 : Nat.blt pc 875 with
            | true =>
              rw [c5] at h
              have u : pc + 1 ≤ 875 := Nat.le_of_ble_eq_true c5
              have v : ¬ pc + 1 ≤ 801 := fun w => by rw [show Nat.blt pc 801 = true from Nat.ble_eq_true_of_le w] at c4; cases c4
              exact Tc_law5 (by omega) (by omega) h
            | false =>
              rw [c5] at h
              cases c6 : Nat.blt pc 951 with
              | true =>
                rw [c6] at h
                have u : pc + 1 ≤ 951 := Nat.le_of_ble_eq_true c6
                have v : ¬ pc + 1 ≤ 875 := fun w => by rw [show Nat.blt pc 875 = true from Nat.ble_eq_true_of_le w] at c5; cases c5
                exact Tc_law6 (by omega) (by omega) h
              | false =>
                rw [c6] at h
                cases c7 : Nat.blt pc 1016 with
                | true =>
                  rw [c7] at h
                  have u : pc + 1 ≤ 1016 := Nat.le_of_ble_eq_true c7
                  have v : ¬ pc + 1 ≤ 951 := fun w => by rw [show Nat.blt pc 951 = true from Nat.ble_eq_true_of_le w] at c6; cases c6
                  exact Tc_law7 (by omega) (by omega) h
                | false =>
                  rw [c7] at h
                  cases c8 : Nat.blt pc 1077 with
                  | true =>
                    rw [c8] at h
                    have u : pc + 1 ≤ 1077 := Nat.le_of_ble_eq_true c8
                    have v : ¬ pc + 1 ≤ 1016 := fun w => by rw [show Nat.blt pc 1016 = true from Nat.ble_eq_true_of_le w] at c7; cases c7
                    exact Tc_law8 (by omega) (by omega) h
                  | false =>
                    rw [c8] at h
                    cases c9 : Nat.blt pc 1135 with
                    | true =>
                      rw [c9] at h
                      have u : pc + 1 ≤ 1135 := Nat.le_of_ble_eq_true c9
                      have v : ¬ pc + 1 ≤ 1077 := fun w => by rw [show Nat.blt pc 1077 = true from Nat.ble_eq_true_of_le w] at c8; cases c8
                      exact Tc_law9 (by omega) (by omega) h
                    | false =>
                      rw [c9] at h
                      cases c10 : Nat.blt pc 1183 with
                      | true =>
                        rw [c10] at h
                        have u : pc + 1 ≤ 1183 := Nat.le_of_ble_eq_true c10
                        have v : ¬ pc + 1 ≤ 1135 := fun w => by rw [show Nat.blt pc 1135 = true from Nat.ble_eq_true_of_le w] at c9; cases c9
                        exact Tc_law10 (by omega) (by omega) h
                      | false =>
                        rw [c10] at h
                        cases c11 : Nat.blt pc 1231 with
                        | true =>
                          rw [c11] at h
                          have u : pc + 1 ≤ 1231 := Nat.le_of_ble_eq_true c11
                          have v : ¬ pc + 1 ≤ 1183 := fun w => by rw [show Nat.blt pc 1183 = true from Nat.ble_eq_true_of_le w] at c10; cases c10
                          exact Tc_law11 (by omega) (by omega) h
                        | false =>
                          rw [c11] at h
                          cases c12 : Nat.blt pc 1274 with
                          | true =>
                            rw [c12] at h
                            have u : pc + 1 ≤ 1274 := Nat.le_of_ble_eq_true c12
                            have v : ¬ pc + 1 ≤ 1231 := fun w => by rw [show Nat.blt pc 1231 = true from Nat.ble_eq_true_of_le w] at c11; cases c11
                            exact Tc_law12 (by omega) (by omega) h
                          | false =>
                            rw [c12] at h
                            cases c13 : Nat.blt pc 1324 with
                            | true =>
                              rw [c13] at h
                              have u : pc + 1 ≤ 1324 := Nat.le_of_ble_eq_true c13
                              have v : ¬ pc + 1 ≤ 1274 := fun w => by rw [show Nat.blt pc 1274 = true from Nat.ble_eq_true_of_le w] at c12; cases c12
                              exact Tc_law13 (by omega) (by omega) h
                            | false =>
                              rw [c13] at h
                              cases c14 : Nat.blt pc 1370 with
                              | true =>
                                rw [c14] at h
                                have u : pc + 1 ≤ 1370 := Nat.le_of_ble_eq_true c14
                                have v : ¬ pc + 1 ≤ 1324 := fun w => by rw [show Nat.blt pc 1324 = true from Nat.ble_eq_true_of_le w] at c13; cases c13
                                exact Tc_law14 (by omega) (by omega) h
                              | false =>
                                rw [c14] at h
                                cases c15 : Nat.blt pc 1413 with
                                | true =>
                                  rw [c15] at h
                                  have u : pc + 1 ≤ 1413 := Nat.le_of_ble_eq_true c15
                                  have v : ¬ pc + 1 ≤ 1370 := fun w => by rw [show Nat.blt pc 1370 = true from Nat.ble_eq_true_of_le w] at c14; cases c14
                                  exact Tc_law15 (by omega) (by omega) h
                                | false =>
                                  rw [c15] at h
                                  cases c16 : Nat.blt pc 1459 with
                                  | true =>
                                    rw [c16] at h
                                    have u : pc + 1 ≤ 1459 := Nat.le_of_ble_eq_true c16
                                    have v : ¬ pc + 1 ≤ 1413 := fun w => by rw [show Nat.blt pc 1413 = true from Nat.ble_eq_true_of_le w] at c15; cases c15
                                    exact Tc_law16 (by omega) (by omega) h
                                  | false =>
                                    rw [c16] at h
                                    cases c17 : Nat.blt pc 1500 with
                                    | true =>
                                      rw [c17] at h
                                      have u : pc + 1 ≤ 1500 := Nat.le_of_ble_eq_true c17
                                      have v : ¬ pc + 1 ≤ 1459 := fun w => by rw [show Nat.blt pc 1459 = true from Nat.ble_eq_true_of_le w] at c16; cases c16
                                      exact Tc_law17 (by omega) (by omega) h
                                    | false =>
                                      rw [c17] at h
                                      cases c18 : Nat.blt pc 1536 with
                                      | true =>
                                        rw [c18] at h
                                        have u : pc + 1 ≤ 1536 := Nat.le_of_ble_eq_true c18
                                        have v : ¬ pc + 1 ≤ 1500 := fun w => by rw [show Nat.blt pc 1500 = true from Nat.ble_eq_true_of_le w] at c17; cases c17
                                        exact Tc_law18 (by omega) (by omega) h
                                      | false =>
                                        rw [c18] at h
                                        cases c19 : Nat.blt pc 1575 with
                                        | true =>
                                          rw [c19] at h
                                          have u : pc + 1 ≤ 1575 := Nat.le_of_ble_eq_true c19
                                          have v : ¬ pc + 1 ≤ 1536 := fun w => by rw [show Nat.blt pc 1536 = true from Nat.ble_eq_true_of_le w] at c18; cases c18
                                          exact Tc_law19 (by omega) (by omega) h
                                        | false =>
                                          rw [c19] at h
                                          cases c20 : Nat.blt pc 1612 with
                                          | true =>
                                            rw [c20] at h
                                            have u : pc + 1 ≤ 1612 := Nat.le_of_ble_eq_true c20
                                            have v : ¬ pc + 1 ≤ 1575 := fun w => by rw [show Nat.blt pc 1575 = true from Nat.ble_eq_true_of_le w] at c19; cases c19
                                            exact Tc_law20 (by omega) (by omega) h
                                          | false =>
                                            rw [c20] at h
                                            cases c21 : Nat.blt pc 1655 with
                                            | true =>
                                              rw [c21] at h
                                              have u : pc + 1 ≤ 1655 := Nat.le_of_ble_eq_true c21
                                              have v : ¬ pc + 1 ≤ 1612 := fun w => by rw [show Nat.blt pc 1612 = true from Nat.ble_eq_true_of_le w] at c20; cases c20
                                              exact Tc_law21 (by omega) (by omega) h
                                            | false =>
                                              rw [c21] at h
                                              cases c22 : Nat.blt pc 1698 with
                                              | true =>
                                                rw [c22] at h
                                                have u : pc + 1 ≤ 1698 := Nat.le_of_ble_eq_true c22
                                                have v : ¬ pc + 1 ≤ 1655 := fun w => by rw [show Nat.blt pc 1655 = true from Nat.ble_eq_true_of_le w] at c21; cases c21
                                                exact Tc_law22 (by omega) (by omega) h
                                              | false =>
                                                rw [c22] at h
                                                cases c23 : Nat.blt pc 1744 with
                                                | true =>
                                                  rw [c23] at h
                                                  have u : pc + 1 ≤ 1744 := Nat.le_of_ble_eq_true c23
                                                  have v : ¬ pc + 1 ≤ 1698 := fun w => by rw [show Nat.blt pc 1698 = true from Nat.ble_eq_true_of_le w] at c22; cases c22
                                                  exact Tc_law23 (by omega) (by omega) h
                                                | false =>
                                                  rw [c23] at h
                                                  cases h
