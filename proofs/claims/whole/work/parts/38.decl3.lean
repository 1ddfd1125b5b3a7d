/-! decode rows of the law -/
def dlb_840 : List (Nat × Instr × Nat) := [(1454, .goto 1211, 3), (1457, .aload_n 1, 1), (1458, .aload_n 0, 1), (1459, .iload 4, 2), (1461, .iconst 1, 1), (1462, .iadd, 1), (1463, .iaload, 1), (1464, .aload_n 0, 1), (1465, .iload 4, 2), (1467, .iconst 2, 1), (1468, .iadd, 1), (1469, .iaload, 1), (1470, .aload_n 0, 1), (1471, .iload 4, 2), (1473, .iconst 3, 1), (1474, .iadd, 1), (1475, .iaload, 1), (1476, .aload_n 3, 1), (1477, .invokestatic 196, 3), (1480, .istore 5, 2), (1482, .aload_n 2, 1), (1483, .aload_n 0, 1), (1484, .iload 4, 2), (1486, .iconst 1, 1), (1487, .iadd, 1), (1488, .iaload, 1), (1489, .aload_n 0, 1), (1490, .iload 4, 2), (1492, .iconst 2, 1), (1493, .iadd, 1), (1494, .iaload, 1), (1495, .aload_n 0, 1), (1496, .iload 4, 2), (1498, .iconst 3, 1), (1499, .iadd, 1), (1500, .iaload, 1), (1501, .invokevirtual 199, 3), (1504, .istore 6, 2), (1506, .aload_n 2, 1), (1507, .invokevirtual 134, 3), (1510, .iload 5, 2), (1512, .if_icmp .eq 5, 3), (1515, .iconst 0, 1), (1516, .ireturn, 1), (1517, .iload 5, 2), (1519, .ifCond .ne 15, 3), (1522, .aload_n 3, 1), (1523, .iconst 0, 1), (1524, .laload, 1), (1525, .iload 6, 2), (1527, .i2l, 1), (1528, .lcmp, 1), (1529, .ifCond .eq 5, 3), (1532, .iconst 0, 1), (1533, .ireturn, 1), (1534, .goto 1131, 3), (1537, .aload_n 1, 1), (1538, .aload_n 0, 1), (1539, .iload 4, 2), (1541, .iconst 1, 1)]
theorem dlc_840 : (dlb_840.all fun q => decide (decode cL_law_ q.1 = .ok q.2)) = true := by decide +kernel
theorem dL_law__1454 : decode cL_law_ 1454 = .ok (.goto 1211, 3) := dcr dlc_840 0 rfl
theorem dL_law__1457 : decode cL_law_ 1457 = .ok (.aload_n 1, 1) := dcr dlc_840 1 rfl
theorem dL_law__1458 : decode cL_law_ 1458 = .ok (.aload_n 0, 1) := dcr dlc_840 2 rfl
theorem dL_law__1459 : decode cL_law_ 1459 = .ok (.iload 4, 2) := dcr dlc_840 3 rfl
theorem dL_law__1461 : decode cL_law_ 1461 = .ok (.iconst 1, 1) := dcr dlc_840 4 rfl
theorem dL_law__1462 : decode cL_law_ 1462 = .ok (.iadd, 1) := dcr dlc_840 5 rfl
theorem dL_law__1463 : decode cL_law_ 1463 = .ok (.iaload, 1) := dcr dlc_840 6 rfl
theorem dL_law__1464 : decode cL_law_ 1464 = .ok (.aload_n 0, 1) := dcr dlc_840 7 rfl
theorem dL_law__1465 : decode cL_law_ 1465 = .ok (.iload 4, 2) := dcr dlc_840 8 rfl
theorem dL_law__1467 : decode cL_law_ 1467 = .ok (.iconst 2, 1) := dcr dlc_840 9 rfl
theorem dL_law__1468 : decode cL_law_ 1468 = .ok (.iadd, 1) := dcr dlc_840 10 rfl
theorem dL_law__1469 : decode cL_law_ 1469 = .ok (.iaload, 1) := dcr dlc_840 11 rfl
theorem dL_law__1470 : decode cL_law_ 1470 = .ok (.aload_n 0, 1) := dcr dlc_840 12 rfl
theorem dL_law__1471 : decode cL_law_ 1471 = .ok (.iload 4, 2) := dcr dlc_840 13 rfl
theorem dL_law__1473 : decode cL_law_ 1473 = .ok (.iconst 3, 1) := dcr dlc_840 14 rfl
theorem dL_law__1474 : decode cL_law_ 1474 = .ok (.iadd, 1) := dcr dlc_840 15 rfl
theorem dL_law__1475 : decode cL_law_ 1475 = .ok (.iaload, 1) := dcr dlc_840 16 rfl
theorem dL_law__1476 : decode cL_law_ 1476 = .ok (.aload_n 3, 1) := dcr dlc_840 17 rfl
theorem dL_law__1477 : decode cL_law_ 1477 = .ok (.invokestatic 196, 3) := dcr dlc_840 18 rfl
theorem dL_law__1480 : decode cL_law_ 1480 = .ok (.istore 5, 2) := dcr dlc_840 19 rfl
theorem dL_law__1482 : decode cL_law_ 1482 = .ok (.aload_n 2, 1) := dcr dlc_840 20 rfl
theorem dL_law__1483 : decode cL_law_ 1483 = .ok (.aload_n 0, 1) := dcr dlc_840 21 rfl
theorem dL_law__1484 : decode cL_law_ 1484 = .ok (.iload 4, 2) := dcr dlc_840 22 rfl
theorem dL_law__1486 : decode cL_law_ 1486 = .ok (.iconst 1, 1) := dcr dlc_840 23 rfl
theorem dL_law__1487 : decode cL_law_ 1487 = .ok (.iadd, 1) := dcr dlc_840 24 rfl
theorem dL_law__1488 : decode cL_law_ 1488 = .ok (.iaload, 1) := dcr dlc_840 25 rfl
theorem dL_law__1489 : decode cL_law_ 1489 = .ok (.aload_n 0, 1) := dcr dlc_840 26 rfl
theorem dL_law__1490 : decode cL_law_ 1490 = .ok (.iload 4, 2) := dcr dlc_840 27 rfl
theorem dL_law__1492 : decode cL_law_ 1492 = .ok (.iconst 2, 1) := dcr dlc_840 28 rfl
theorem dL_law__1493 : decode cL_law_ 1493 = .ok (.iadd, 1) := dcr dlc_840 29 rfl
theorem dL_law__1494 : decode cL_law_ 1494 = .ok (.iaload, 1) := dcr dlc_840 30 rfl
theorem dL_law__1495 : decode cL_law_ 1495 = .ok (.aload_n 0, 1) := dcr dlc_840 31 rfl
theorem dL_law__1496 : decode cL_law_ 1496 = .ok (.iload 4, 2) := dcr dlc_840 32 rfl
theorem dL_law__1498 : decode cL_law_ 1498 = .ok (.iconst 3, 1) := dcr dlc_840 33 rfl
theorem dL_law__1499 : decode cL_law_ 1499 = .ok (.iadd, 1) := dcr dlc_840 34 rfl
theorem dL_law__1500 : decode cL_law_ 1500 = .ok (.iaload, 1) := dcr dlc_840 35 rfl
theorem dL_law__1501 : decode cL_law_ 1501 = .ok (.invokevirtual 199, 3) := dcr dlc_840 36 rfl
theorem dL_law__1504 : decode cL_law_ 1504 = .ok (.istore 6, 2) := dcr dlc_840 37 rfl
theorem dL_law__1506 : decode cL_law_ 1506 = .ok (.aload_n 2, 1) := dcr dlc_840 38 rfl
theorem dL_law__1507 : decode cL_law_ 1507 = .ok (.invokevirtual 134, 3) := dcr dlc_840 39 rfl
theorem dL_law__1510 : decode cL_law_ 1510 = .ok (.iload 5, 2) := dcr dlc_840 40 rfl
theorem dL_law__1512 : decode cL_law_ 1512 = .ok (.if_icmp .eq 5, 3) := dcr dlc_840 41 rfl
theorem dL_law__1515 : decode cL_law_ 1515 = .ok (.iconst 0, 1) := dcr dlc_840 42 rfl
theorem dL_law__1516 : decode cL_law_ 1516 = .ok (.ireturn, 1) := dcr dlc_840 43 rfl
theorem dL_law__1517 : decode cL_law_ 1517 = .ok (.iload 5, 2) := dcr dlc_840 44 rfl
theorem dL_law__1519 : decode cL_law_ 1519 = .ok (.ifCond .ne 15, 3) := dcr dlc_840 45 rfl
theorem dL_law__1522 : decode cL_law_ 1522 = .ok (.aload_n 3, 1) := dcr dlc_840 46 rfl
theorem dL_law__1523 : decode cL_law_ 1523 = .ok (.iconst 0, 1) := dcr dlc_840 47 rfl
theorem dL_law__1524 : decode cL_law_ 1524 = .ok (.laload, 1) := dcr dlc_840 48 rfl
theorem dL_law__1525 : decode cL_law_ 1525 = .ok (.iload 6, 2) := dcr dlc_840 49 rfl
theorem dL_law__1527 : decode cL_law_ 1527 = .ok (.i2l, 1) := dcr dlc_840 50 rfl
theorem dL_law__1528 : decode cL_law_ 1528 = .ok (.lcmp, 1) := dcr dlc_840 51 rfl
theorem dL_law__1529 : decode cL_law_ 1529 = .ok (.ifCond .eq 5, 3) := dcr dlc_840 52 rfl
theorem dL_law__1532 : decode cL_law_ 1532 = .ok (.iconst 0, 1) := dcr dlc_840 53 rfl
theorem dL_law__1533 : decode cL_law_ 1533 = .ok (.ireturn, 1) := dcr dlc_840 54 rfl
theorem dL_law__1534 : decode cL_law_ 1534 = .ok (.goto 1131, 3) := dcr dlc_840 55 rfl
theorem dL_law__1537 : decode cL_law_ 1537 = .ok (.aload_n 1, 1) := dcr dlc_840 56 rfl
theorem dL_law__1538 : decode cL_law_ 1538 = .ok (.aload_n 0, 1) := dcr dlc_840 57 rfl
theorem dL_law__1539 : decode cL_law_ 1539 = .ok (.iload 4, 2) := dcr dlc_840 58 rfl
theorem dL_law__1541 : decode cL_law_ 1541 = .ok (.iconst 1, 1) := dcr dlc_840 59 rfl
def dlb_900 : List (Nat × Instr × Nat) := [(1542, .iadd, 1), (1543, .iaload, 1), (1544, .aload_n 0, 1), (1545, .iload 4, 2), (1547, .iconst 2, 1), (1548, .iadd, 1), (1549, .iaload, 1), (1550, .aload_n 0, 1), (1551, .iload 4, 2), (1553, .iconst 3, 1), (1554, .iadd, 1), (1555, .iaload, 1), (1556, .aload_n 3, 1), (1557, .invokestatic 200, 3), (1560, .istore 5, 2), (1562, .aload_n 2, 1), (1563, .aload_n 0, 1), (1564, .iload 4, 2), (1566, .iconst 1, 1), (1567, .iadd, 1), (1568, .iaload, 1), (1569, .aload_n 0, 1), (1570, .iload 4, 2), (1572, .iconst 2, 1), (1573, .iadd, 1), (1574, .iaload, 1), (1575, .aload_n 0, 1), (1576, .iload 4, 2), (1578, .iconst 3, 1), (1579, .iadd, 1), (1580, .iaload, 1), (1581, .invokevirtual 202, 3), (1584, .istore 6, 2), (1586, .aload_n 2, 1), (1587, .invokevirtual 134, 3), (1590, .iload 5, 2), (1592, .if_icmp .eq 5, 3), (1595, .iconst 0, 1), (1596, .ireturn, 1), (1597, .iload 5, 2), (1599, .ifCond .ne 15, 3), (1602, .aload_n 3, 1), (1603, .iconst 0, 1), (1604, .laload, 1), (1605, .iload 6, 2), (1607, .i2l, 1), (1608, .lcmp, 1), (1609, .ifCond .eq 5, 3), (1612, .iconst 0, 1), (1613, .ireturn, 1), (1614, .goto 1051, 3), (1617, .aload_n 1, 1), (1618, .aload_n 0, 1), (1619, .iload 4, 2), (1621, .iconst 1, 1), (1622, .iadd, 1), (1623, .iaload, 1), (1624, .aload_n 0, 1), (1625, .iload 4, 2), (1627, .iconst 2, 1)]
theorem dlc_900 : (dlb_900.all fun q => decide (decode cL_law_ q.1 = .ok q.2)) = true := by decide +kernel
theorem dL_law__1542 : decode cL_law_ 1542 = .ok (.iadd, 1) := dcr dlc_900 0 rfl
theorem dL_law__1543 : decode cL_law_ 1543 = .ok (.iaload, 1) := dcr dlc_900 1 rfl
theorem dL_law__1544 : decode cL_law_ 1544 = .ok (.aload_n 0, 1) := dcr dlc_900 2 rfl
theorem dL_law__1545 : decode cL_law_ 1545 = .ok (.iload 4, 2) := dcr dlc_900 3 rfl
theorem dL_law__1547 : decode cL_law_ 1547 = .ok (.iconst 2, 1) := dcr dlc_900 4 rfl
theorem dL_law__1548 : decode cL_law_ 1548 = .ok (.iadd, 1) := dcr dlc_900 5 rfl
theorem dL_law__1549 : decode cL_law_ 1549 = .ok (.iaload, 1) := dcr dlc_900 6 rfl
theorem dL_law__1550 : decode cL_law_ 1550 = .ok (.aload_n 0, 1) := dcr dlc_900 7 rfl
theorem dL_law__1551 : decode cL_law_ 1551 = .ok (.iload 4, 2) := dcr dlc_900 8 rfl
theorem dL_law__1553 : decode cL_law_ 1553 = .ok (.iconst 3, 1) := dcr dlc_900 9 rfl
theorem dL_law__1554 : decode cL_law_ 1554 = .ok (.iadd, 1) := dcr dlc_900 10 rfl
theorem dL_law__1555 : decode cL_law_ 1555 = .ok (.iaload, 1) := dcr dlc_900 11 rfl
theorem dL_law__1556 : decode cL_law_ 1556 = .ok (.aload_n 3, 1) := dcr dlc_900 12 rfl
theorem dL_law__1557 : decode cL_law_ 1557 = .ok (.invokestatic 200, 3) := dcr dlc_900 13 rfl
theorem dL_law__1560 : decode cL_law_ 1560 = .ok (.istore 5, 2) := dcr dlc_900 14 rfl
theorem dL_law__1562 : decode cL_law_ 1562 = .ok (.aload_n 2, 1) := dcr dlc_900 15 rfl
theorem dL_law__1563 : decode cL_law_ 1563 = .ok (.aload_n 0, 1) := dcr dlc_900 16 rfl
theorem dL_law__1564 : decode cL_law_ 1564 = .ok (.iload 4, 2) := dcr dlc_900 17 rfl
theorem dL_law__1566 : decode cL_law_ 1566 = .ok (.iconst 1, 1) := dcr dlc_900 18 rfl
theorem dL_law__1567 : decode cL_law_ 1567 = .ok (.iadd, 1) := dcr dlc_900 19 rfl
theorem dL_law__1568 : decode cL_law_ 1568 = .ok (.iaload, 1) := dcr dlc_900 20 rfl
theorem dL_law__1569 : decode cL_law_ 1569 = .ok (.aload_n 0, 1) := dcr dlc_900 21 rfl
theorem dL_law__1570 : decode cL_law_ 1570 = .ok (.iload 4, 2) := dcr dlc_900 22 rfl
theorem dL_law__1572 : decode cL_law_ 1572 = .ok (.iconst 2, 1) := dcr dlc_900 23 rfl
theorem dL_law__1573 : decode cL_law_ 1573 = .ok (.iadd, 1) := dcr dlc_900 24 rfl
theorem dL_law__1574 : decode cL_law_ 1574 = .ok (.iaload, 1) := dcr dlc_900 25 rfl
theorem dL_law__1575 : decode cL_law_ 1575 = .ok (.aload_n 0, 1) := dcr dlc_900 26 rfl
theorem dL_law__1576 : decode cL_law_ 1576 = .ok (.iload 4, 2) := dcr dlc_900 27 rfl
theorem dL_law__1578 : decode cL_law_ 1578 = .ok (.iconst 3, 1) := dcr dlc_900 28 rfl
theorem dL_law__1579 : decode cL_law_ 1579 = .ok (.iadd, 1) := dcr dlc_900 29 rfl
theorem dL_law__1580 : decode cL_law_ 1580 = .ok (.iaload, 1) := dcr dlc_900 30 rfl
theorem dL_law__1581 : decode cL_law_ 1581 = .ok (.invokevirtual 202, 3) := dcr dlc_900 31 rfl
theorem dL_law__1584 : decode cL_law_ 1584 = .ok (.istore 6, 2) := dcr dlc_900 32 rfl
theorem dL_law__1586 : decode cL_law_ 1586 = .ok (.aload_n 2, 1) := dcr dlc_900 33 rfl
theorem dL_law__1587 : decode cL_law_ 1587 = .ok (.invokevirtual 134, 3) := dcr dlc_900 34 rfl
theorem dL_law__1590 : decode cL_law_ 1590 = .ok (.iload 5, 2) := dcr dlc_900 35 rfl
theorem dL_law__1592 : decode cL_law_ 1592 = .ok (.if_icmp .eq 5, 3) := dcr dlc_900 36 rfl
theorem dL_law__1595 : decode cL_law_ 1595 = .ok (.iconst 0, 1) := dcr dlc_900 37 rfl
theorem dL_law__1596 : decode cL_law_ 1596 = .ok (.ireturn, 1) := dcr dlc_900 38 rfl
theorem dL_law__1597 : decode cL_law_ 1597 = .ok (.iload 5, 2) := dcr dlc_900 39 rfl
theorem dL_law__1599 : decode cL_law_ 1599 = .ok (.ifCond .ne 15, 3) := dcr dlc_900 40 rfl
theorem dL_law__1602 : decode cL_law_ 1602 = .ok (.aload_n 3, 1) := dcr dlc_900 41 rfl
theorem dL_law__1603 : decode cL_law_ 1603 = .ok (.iconst 0, 1) := dcr dlc_900 42 rfl
theorem dL_law__1604 : decode cL_law_ 1604 = .ok (.laload, 1) := dcr dlc_900 43 rfl
theorem dL_law__1605 : decode cL_law_ 1605 = .ok (.iload 6, 2) := dcr dlc_900 44 rfl
theorem dL_law__1607 : decode cL_law_ 1607 = .ok (.i2l, 1) := dcr dlc_900 45 rfl
theorem dL_law__1608 : decode cL_law_ 1608 = .ok (.lcmp, 1) := dcr dlc_900 46 rfl
theorem dL_law__1609 : decode cL_law_ 1609 = .ok (.ifCond .eq 5, 3) := dcr dlc_900 47 rfl
theorem dL_law__1612 : decode cL_law_ 1612 = .ok (.iconst 0, 1) := dcr dlc_900 48 rfl
theorem dL_law__1613 : decode cL_law_ 1613 = .ok (.ireturn, 1) := dcr dlc_900 49 rfl
theorem dL_law__1614 : decode cL_law_ 1614 = .ok (.goto 1051, 3) := dcr dlc_900 50 rfl
theorem dL_law__1617 : decode cL_law_ 1617 = .ok (.aload_n 1, 1) := dcr dlc_900 51 rfl
theorem dL_law__1618 : decode cL_law_ 1618 = .ok (.aload_n 0, 1) := dcr dlc_900 52 rfl
theorem dL_law__1619 : decode cL_law_ 1619 = .ok (.iload 4, 2) := dcr dlc_900 53 rfl
theorem dL_law__1621 : decode cL_law_ 1621 = .ok (.iconst 1, 1) := dcr dlc_900 54 rfl
theorem dL_law__1622 : decode cL_law_ 1622 = .ok (.iadd, 1) := dcr dlc_900 55 rfl
theorem dL_law__1623 : decode cL_law_ 1623 = .ok (.iaload, 1) := dcr dlc_900 56 rfl
theorem dL_law__1624 : decode cL_law_ 1624 = .ok (.aload_n 0, 1) := dcr dlc_900 57 rfl
theorem dL_law__1625 : decode cL_law_ 1625 = .ok (.iload 4, 2) := dcr dlc_900 58 rfl
theorem dL_law__1627 : decode cL_law_ 1627 = .ok (.iconst 2, 1) := dcr dlc_900 59 rfl
def dlb_960 : List (Nat × Instr × Nat) := [(1628, .iadd, 1), (1629, .iaload, 1), (1630, .aload_n 0, 1), (1631, .iload 4, 2), (1633, .iconst 3, 1), (1634, .iadd, 1), (1635, .iaload, 1), (1636, .aload_n 0, 1), (1637, .iload 4, 2), (1639, .iconst 4, 1), (1640, .iadd, 1), (1641, .iaload, 1), (1642, .aload_n 3, 1), (1643, .invokestatic 203, 3), (1646, .istore 5, 2), (1648, .aload_n 2, 1), (1649, .aload_n 0, 1), (1650, .iload 4, 2), (1652, .iconst 1, 1), (1653, .iadd, 1), (1654, .iaload, 1), (1655, .aload_n 0, 1), (1656, .iload 4, 2), (1658, .iconst 2, 1), (1659, .iadd, 1), (1660, .iaload, 1), (1661, .aload_n 0, 1), (1662, .iload 4, 2), (1664, .iconst 3, 1), (1665, .iadd, 1), (1666, .iaload, 1), (1667, .aload_n 0, 1), (1668, .iload 4, 2), (1670, .iconst 4, 1), (1671, .iadd, 1), (1672, .iaload, 1), (1673, .invokevirtual 206, 3), (1676, .istore 6, 2), (1678, .aload_n 2, 1), (1679, .invokevirtual 134, 3), (1682, .iload 5, 2), (1684, .if_icmp .eq 5, 3), (1687, .iconst 0, 1), (1688, .ireturn, 1), (1689, .iload 5, 2), (1691, .ifCond .ne 15, 3), (1694, .aload_n 3, 1), (1695, .iconst 0, 1), (1696, .laload, 1), (1697, .iload 6, 2), (1699, .i2l, 1), (1700, .lcmp, 1), (1701, .ifCond .eq 5, 3), (1704, .iconst 0, 1), (1705, .ireturn, 1), (1706, .goto 959, 3), (1709, .aload_n 1, 1), (1710, .aload_n 0, 1), (1711, .iload 4, 2), (1713, .iconst 1, 1)]
theorem dlc_960 : (dlb_960.all fun q => decide (decode cL_law_ q.1 = .ok q.2)) = true := by decide +kernel
theorem dL_law__1628 : decode cL_law_ 1628 = .ok (.iadd, 1) := dcr dlc_960 0 rfl
theorem dL_law__1629 : decode cL_law_ 1629 = .ok (.iaload, 1) := dcr dlc_960 1 rfl
theorem dL_law__1630 : decode cL_law_ 1630 = .ok (.aload_n 0, 1) := dcr dlc_960 2 rfl
theorem dL_law__1631 : decode cL_law_ 1631 = .ok (.iload 4, 2) := dcr dlc_960 3 rfl
theorem dL_law__1633 : decode cL_law_ 1633 = .ok (.iconst 3, 1) := dcr dlc_960 4 rfl
theorem dL_law__1634 : decode cL_law_ 1634 = .ok (.iadd, 1) := dcr dlc_960 5 rfl
theorem dL_law__1635 : decode cL_law_ 1635 = .ok (.iaload, 1) := dcr dlc_960 6 rfl
theorem dL_law__1636 : decode cL_law_ 1636 = .ok (.aload_n 0, 1) := dcr dlc_960 7 rfl
theorem dL_law__1637 : decode cL_law_ 1637 = .ok (.iload 4, 2) := dcr dlc_960 8 rfl
theorem dL_law__1639 : decode cL_law_ 1639 = .ok (.iconst 4, 1) := dcr dlc_960 9 rfl
theorem dL_law__1640 : decode cL_law_ 1640 = .ok (.iadd, 1) := dcr dlc_960 10 rfl
theorem dL_law__1641 : decode cL_law_ 1641 = .ok (.iaload, 1) := dcr dlc_960 11 rfl
theorem dL_law__1642 : decode cL_law_ 1642 = .ok (.aload_n 3, 1) := dcr dlc_960 12 rfl
theorem dL_law__1643 : decode cL_law_ 1643 = .ok (.invokestatic 203, 3) := dcr dlc_960 13 rfl
theorem dL_law__1646 : decode cL_law_ 1646 = .ok (.istore 5, 2) := dcr dlc_960 14 rfl
theorem dL_law__1648 : decode cL_law_ 1648 = .ok (.aload_n 2, 1) := dcr dlc_960 15 rfl
theorem dL_law__1649 : decode cL_law_ 1649 = .ok (.aload_n 0, 1) := dcr dlc_960 16 rfl
theorem dL_law__1650 : decode cL_law_ 1650 = .ok (.iload 4, 2) := dcr dlc_960 17 rfl
theorem dL_law__1652 : decode cL_law_ 1652 = .ok (.iconst 1, 1) := dcr dlc_960 18 rfl
theorem dL_law__1653 : decode cL_law_ 1653 = .ok (.iadd, 1) := dcr dlc_960 19 rfl
theorem dL_law__1654 : decode cL_law_ 1654 = .ok (.iaload, 1) := dcr dlc_960 20 rfl
theorem dL_law__1655 : decode cL_law_ 1655 = .ok (.aload_n 0, 1) := dcr dlc_960 21 rfl
theorem dL_law__1656 : decode cL_law_ 1656 = .ok (.iload 4, 2) := dcr dlc_960 22 rfl
theorem dL_law__1658 : decode cL_law_ 1658 = .ok (.iconst 2, 1) := dcr dlc_960 23 rfl
theorem dL_law__1659 : decode cL_law_ 1659 = .ok (.iadd, 1) := dcr dlc_960 24 rfl
theorem dL_law__1660 : decode cL_law_ 1660 = .ok (.iaload, 1) := dcr dlc_960 25 rfl
theorem dL_law__1661 : decode cL_law_ 1661 = .ok (.aload_n 0, 1) := dcr dlc_960 26 rfl
theorem dL_law__1662 : decode cL_law_ 1662 = .ok (.iload 4, 2) := dcr dlc_960 27 rfl
theorem dL_law__1664 : decode cL_law_ 1664 = .ok (.iconst 3, 1) := dcr dlc_960 28 rfl
theorem dL_law__1665 : decode cL_law_ 1665 = .ok (.iadd, 1) := dcr dlc_960 29 rfl
theorem dL_law__1666 : decode cL_law_ 1666 = .ok (.iaload, 1) := dcr dlc_960 30 rfl
theorem dL_law__1667 : decode cL_law_ 1667 = .ok (.aload_n 0, 1) := dcr dlc_960 31 rfl
theorem dL_law__1668 : decode cL_law_ 1668 = .ok (.iload 4, 2) := dcr dlc_960 32 rfl
theorem dL_law__1670 : decode cL_law_ 1670 = .ok (.iconst 4, 1) := dcr dlc_960 33 rfl
theorem dL_law__1671 : decode cL_law_ 1671 = .ok (.iadd, 1) := dcr dlc_960 34 rfl
theorem dL_law__1672 : decode cL_law_ 1672 = .ok (.iaload, 1) := dcr dlc_960 35 rfl
theorem dL_law__1673 : decode cL_law_ 1673 = .ok (.invokevirtual 206, 3) := dcr dlc_960 36 rfl
theorem dL_law__1676 : decode cL_law_ 1676 = .ok (.istore 6, 2) := dcr dlc_960 37 rfl
theorem dL_law__1678 : decode cL_law_ 1678 = .ok (.aload_n 2, 1) := dcr dlc_960 38 rfl
theorem dL_law__1679 : decode cL_law_ 1679 = .ok (.invokevirtual 134, 3) := dcr dlc_960 39 rfl
theorem dL_law__1682 : decode cL_law_ 1682 = .ok (.iload 5, 2) := dcr dlc_960 40 rfl
theorem dL_law__1684 : decode cL_law_ 1684 = .ok (.if_icmp .eq 5, 3) := dcr dlc_960 41 rfl
theorem dL_law__1687 : decode cL_law_ 1687 = .ok (.iconst 0, 1) := dcr dlc_960 42 rfl
theorem dL_law__1688 : decode cL_law_ 1688 = .ok (.ireturn, 1) := dcr dlc_960 43 rfl
theorem dL_law__1689 : decode cL_law_ 1689 = .ok (.iload 5, 2) := dcr dlc_960 44 rfl
theorem dL_law__1691 : decode cL_law_ 1691 = .ok (.ifCond .ne 15, 3) := dcr dlc_960 45 rfl
theorem dL_law__1694 : decode cL_law_ 1694 = .ok (.aload_n 3, 1) := dcr dlc_960 46 rfl
theorem dL_law__1695 : decode cL_law_ 1695 = .ok (.iconst 0, 1) := dcr dlc_960 47 rfl
theorem dL_law__1696 : decode cL_law_ 1696 = .ok (.laload, 1) := dcr dlc_960 48 rfl
theorem dL_law__1697 : decode cL_law_ 1697 = .ok (.iload 6, 2) := dcr dlc_960 49 rfl
theorem dL_law__1699 : decode cL_law_ 1699 = .ok (.i2l, 1) := dcr dlc_960 50 rfl
theorem dL_law__1700 : decode cL_law_ 1700 = .ok (.lcmp, 1) := dcr dlc_960 51 rfl
theorem dL_law__1701 : decode cL_law_ 1701 = .ok (.ifCond .eq 5, 3) := dcr dlc_960 52 rfl
theorem dL_law__1704 : decode cL_law_ 1704 = .ok (.iconst 0, 1) := dcr dlc_960 53 rfl
theorem dL_law__1705 : decode cL_law_ 1705 = .ok (.ireturn, 1) := dcr dlc_960 54 rfl
theorem dL_law__1706 : decode cL_law_ 1706 = .ok (.goto 959, 3) := dcr dlc_960 55 rfl
theorem dL_law__1709 : decode cL_law_ 1709 = .ok (.aload_n 1, 1) := dcr dlc_960 56 rfl
theorem dL_law__1710 : decode cL_law_ 1710 = .ok (.aload_n 0, 1) := dcr dlc_960 57 rfl
theorem dL_law__1711 : decode cL_law_ 1711 = .ok (.iload 4, 2) := dcr dlc_960 58 rfl
theorem dL_law__1713 : decode cL_law_ 1713 = .ok (.iconst 1, 1) := dcr dlc_960 59 rfl
def dlb_1020 : List (Nat × Instr × Nat) := [(1714, .iadd, 1), (1715, .iaload, 1), (1716, .aload_n 0, 1), (1717, .iload 4, 2), (1719, .iconst 2, 1), (1720, .iadd, 1), (1721, .iaload, 1), (1722, .aload_n 0, 1), (1723, .iload 4, 2), (1725, .iconst 3, 1), (1726, .iadd, 1), (1727, .iaload, 1), (1728, .aload_n 0, 1), (1729, .iload 4, 2), (1731, .iconst 4, 1), (1732, .iadd, 1), (1733, .iaload, 1), (1734, .aload_n 3, 1), (1735, .invokestatic 207, 3), (1738, .istore 5, 2), (1740, .aload_n 2, 1), (1741, .aload_n 0, 1), (1742, .iload 4, 2), (1744, .iconst 1, 1), (1745, .iadd, 1), (1746, .iaload, 1), (1747, .aload_n 0, 1), (1748, .iload 4, 2), (1750, .iconst 2, 1), (1751, .iadd, 1), (1752, .iaload, 1), (1753, .aload_n 0, 1), (1754, .iload 4, 2), (1756, .iconst 3, 1), (1757, .iadd, 1), (1758, .iaload, 1), (1759, .aload_n 0, 1), (1760, .iload 4, 2), (1762, .iconst 4, 1), (1763, .iadd, 1), (1764, .iaload, 1), (1765, .invokevirtual 209, 3), (1768, .istore 6, 2), (1770, .aload_n 2, 1), (1771, .invokevirtual 134, 3), (1774, .iload 5, 2), (1776, .if_icmp .eq 5, 3), (1779, .iconst 0, 1), (1780, .ireturn, 1), (1781, .iload 5, 2), (1783, .ifCond .ne 15, 3), (1786, .aload_n 3, 1), (1787, .iconst 0, 1), (1788, .laload, 1), (1789, .iload 6, 2), (1791, .i2l, 1), (1792, .lcmp, 1), (1793, .ifCond .eq 5, 3), (1796, .iconst 0, 1), (1797, .ireturn, 1)]
theorem dlc_1020 : (dlb_1020.all fun q => decide (decode cL_law_ q.1 = .ok q.2)) = true := by decide +kernel
theorem dL_law__1714 : decode cL_law_ 1714 = .ok (.iadd, 1) := dcr dlc_1020 0 rfl
theorem dL_law__1715 : decode cL_law_ 1715 = .ok (.iaload, 1) := dcr dlc_1020 1 rfl
theorem dL_law__1716 : decode cL_law_ 1716 = .ok (.aload_n 0, 1) := dcr dlc_1020 2 rfl
theorem dL_law__1717 : decode cL_law_ 1717 = .ok (.iload 4, 2) := dcr dlc_1020 3 rfl
theorem dL_law__1719 : decode cL_law_ 1719 = .ok (.iconst 2, 1) := dcr dlc_1020 4 rfl
theorem dL_law__1720 : decode cL_law_ 1720 = .ok (.iadd, 1) := dcr dlc_1020 5 rfl
theorem dL_law__1721 : decode cL_law_ 1721 = .ok (.iaload, 1) := dcr dlc_1020 6 rfl
theorem dL_law__1722 : decode cL_law_ 1722 = .ok (.aload_n 0, 1) := dcr dlc_1020 7 rfl
theorem dL_law__1723 : decode cL_law_ 1723 = .ok (.iload 4, 2) := dcr dlc_1020 8 rfl
theorem dL_law__1725 : decode cL_law_ 1725 = .ok (.iconst 3, 1) := dcr dlc_1020 9 rfl
theorem dL_law__1726 : decode cL_law_ 1726 = .ok (.iadd, 1) := dcr dlc_1020 10 rfl
theorem dL_law__1727 : decode cL_law_ 1727 = .ok (.iaload, 1) := dcr dlc_1020 11 rfl
theorem dL_law__1728 : decode cL_law_ 1728 = .ok (.aload_n 0, 1) := dcr dlc_1020 12 rfl
theorem dL_law__1729 : decode cL_law_ 1729 = .ok (.iload 4, 2) := dcr dlc_1020 13 rfl
theorem dL_law__1731 : decode cL_law_ 1731 = .ok (.iconst 4, 1) := dcr dlc_1020 14 rfl
theorem dL_law__1732 : decode cL_law_ 1732 = .ok (.iadd, 1) := dcr dlc_1020 15 rfl
theorem dL_law__1733 : decode cL_law_ 1733 = .ok (.iaload, 1) := dcr dlc_1020 16 rfl
theorem dL_law__1734 : decode cL_law_ 1734 = .ok (.aload_n 3, 1) := dcr dlc_1020 17 rfl
theorem dL_law__1735 : decode cL_law_ 1735 = .ok (.invokestatic 207, 3) := dcr dlc_1020 18 rfl
theorem dL_law__1738 : decode cL_law_ 1738 = .ok (.istore 5, 2) := dcr dlc_1020 19 rfl
theorem dL_law__1740 : decode cL_law_ 1740 = .ok (.aload_n 2, 1) := dcr dlc_1020 20 rfl
theorem dL_law__1741 : decode cL_law_ 1741 = .ok (.aload_n 0, 1) := dcr dlc_1020 21 rfl
theorem dL_law__1742 : decode cL_law_ 1742 = .ok (.iload 4, 2) := dcr dlc_1020 22 rfl
theorem dL_law__1744 : decode cL_law_ 1744 = .ok (.iconst 1, 1) := dcr dlc_1020 23 rfl
theorem dL_law__1745 : decode cL_law_ 1745 = .ok (.iadd, 1) := dcr dlc_1020 24 rfl
theorem dL_law__1746 : decode cL_law_ 1746 = .ok (.iaload, 1) := dcr dlc_1020 25 rfl
theorem dL_law__1747 : decode cL_law_ 1747 = .ok (.aload_n 0, 1) := dcr dlc_1020 26 rfl
theorem dL_law__1748 : decode cL_law_ 1748 = .ok (.iload 4, 2) := dcr dlc_1020 27 rfl
theorem dL_law__1750 : decode cL_law_ 1750 = .ok (.iconst 2, 1) := dcr dlc_1020 28 rfl
theorem dL_law__1751 : decode cL_law_ 1751 = .ok (.iadd, 1) := dcr dlc_1020 29 rfl
theorem dL_law__1752 : decode cL_law_ 1752 = .ok (.iaload, 1) := dcr dlc_1020 30 rfl
theorem dL_law__1753 : decode cL_law_ 1753 = .ok (.aload_n 0, 1) := dcr dlc_1020 31 rfl
theorem dL_law__1754 : decode cL_law_ 1754 = .ok (.iload 4, 2) := dcr dlc_1020 32 rfl
theorem dL_law__1756 : decode cL_law_ 1756 = .ok (.iconst 3, 1) := dcr dlc_1020 33 rfl
theorem dL_law__1757 : decode cL_law_ 1757 = .ok (.iadd, 1) := dcr dlc_1020 34 rfl
theorem dL_law__1758 : decode cL_law_ 1758 = .ok (.iaload, 1) := dcr dlc_1020 35 rfl
theorem dL_law__1759 : decode cL_law_ 1759 = .ok (.aload_n 0, 1) := dcr dlc_1020 36 rfl
theorem dL_law__1760 : decode cL_law_ 1760 = .ok (.iload 4, 2) := dcr dlc_1020 37 rfl
theorem dL_law__1762 : decode cL_law_ 1762 = .ok (.iconst 4, 1) := dcr dlc_1020 38 rfl
theorem dL_law__1763 : decode cL_law_ 1763 = .ok (.iadd, 1) := dcr dlc_1020 39 rfl
theorem dL_law__1764 : decode cL_law_ 1764 = .ok (.iaload, 1) := dcr dlc_1020 40 rfl
theorem dL_law__1765 : decode cL_law_ 1765 = .ok (.invokevirtual 209, 3) := dcr dlc_1020 41 rfl
theorem dL_law__1768 : decode cL_law_ 1768 = .ok (.istore 6, 2) := dcr dlc_1020 42 rfl
theorem dL_law__1770 : decode cL_law_ 1770 = .ok (.aload_n 2, 1) := dcr dlc_1020 43 rfl
theorem dL_law__1771 : decode cL_law_ 1771 = .ok (.invokevirtual 134, 3) := dcr dlc_1020 44 rfl
theorem dL_law__1774 : decode cL_law_ 1774 = .ok (.iload 5, 2) := dcr dlc_1020 45 rfl
theorem dL_law__1776 : decode cL_law_ 1776 = .ok (.if_icmp .eq 5, 3) := dcr dlc_1020 46 rfl
theorem dL_law__1779 : decode cL_law_ 1779 = .ok (.iconst 0, 1) := dcr dlc_1020 47 rfl
theorem dL_law__1780 : decode cL_law_ 1780 = .ok (.ireturn, 1) := dcr dlc_1020 48 rfl
theorem dL_law__1781 : decode cL_law_ 1781 = .ok (.iload 5, 2) := dcr dlc_1020 49 rfl
theorem dL_law__1783 : decode cL_law_ 1783 = .ok (.ifCond .ne 15, 3) := dcr dlc_1020 50 rfl
theorem dL_law__1786 : decode cL_law_ 1786 = .ok (.aload_n 3, 1) := dcr dlc_1020 51 rfl
theorem dL_law__1787 : decode cL_law_ 1787 = .ok (.iconst 0, 1) := dcr dlc_1020 52 rfl
theorem dL_law__1788 : decode cL_law_ 1788 = .ok (.laload, 1) := dcr dlc_1020 53 rfl
theorem dL_law__1789 : decode cL_law_ 1789 = .ok (.iload 6, 2) := dcr dlc_1020 54 rfl
theorem dL_law__1791 : decode cL_law_ 1791 = .ok (.i2l, 1) := dcr dlc_1020 55 rfl
theorem dL_law__1792 : decode cL_law_ 1792 = .ok (.lcmp, 1) := dcr dlc_1020 56 rfl
theorem dL_law__1793 : decode cL_law_ 1793 = .ok (.ifCond .eq 5, 3) := dcr dlc_1020 57 rfl
theorem dL_law__1796 : decode cL_law_ 1796 = .ok (.iconst 0, 1) := dcr dlc_1020 58 rfl
theorem dL_law__1797 : decode cL_law_ 1797 = .ok (.ireturn, 1) := dcr dlc_1020 59 rfl
def dlb_1080 : List (Nat × Instr × Nat) := [(1798, .goto 867, 3), (1801, .aload_n 1, 1), (1802, .aload_n 0, 1), (1803, .iload 4, 2), (1805, .iconst 1, 1), (1806, .iadd, 1), (1807, .iaload, 1), (1808, .aload_n 0, 1), (1809, .iload 4, 2), (1811, .iconst 2, 1), (1812, .iadd, 1), (1813, .iaload, 1), (1814, .aload_n 0, 1), (1815, .iload 4, 2), (1817, .iconst 3, 1), (1818, .iadd, 1), (1819, .iaload, 1), (1820, .aload_n 3, 1), (1821, .invokestatic 210, 3), (1824, .istore 5, 2), (1826, .aload_n 2, 1), (1827, .aload_n 0, 1), (1828, .iload 4, 2), (1830, .iconst 1, 1), (1831, .iadd, 1), (1832, .iaload, 1), (1833, .aload_n 0, 1), (1834, .iload 4, 2), (1836, .iconst 2, 1), (1837, .iadd, 1), (1838, .iaload, 1), (1839, .aload_n 0, 1), (1840, .iload 4, 2), (1842, .iconst 3, 1), (1843, .iadd, 1), (1844, .iaload, 1), (1845, .invokevirtual 212, 3), (1848, .istore 6, 2), (1850, .aload_n 2, 1), (1851, .invokevirtual 134, 3), (1854, .iload 5, 2), (1856, .if_icmp .eq 5, 3), (1859, .iconst 0, 1), (1860, .ireturn, 1), (1861, .iload 5, 2), (1863, .ifCond .ne 15, 3), (1866, .aload_n 3, 1), (1867, .iconst 0, 1), (1868, .laload, 1), (1869, .iload 6, 2), (1871, .i2l, 1), (1872, .lcmp, 1), (1873, .ifCond .eq 5, 3), (1876, .iconst 0, 1), (1877, .ireturn, 1), (1878, .goto 787, 3), (1881, .aload_n 1, 1), (1882, .aload_n 0, 1), (1883, .iload 4, 2), (1885, .iconst 1, 1)]
theorem dlc_1080 : (dlb_1080.all fun q => decide (decode cL_law_ q.1 = .ok q.2)) = true := by decide +kernel
theorem dL_law__1798 : decode cL_law_ 1798 = .ok (.goto 867, 3) := dcr dlc_1080 0 rfl
theorem dL_law__1801 : decode cL_law_ 1801 = .ok (.aload_n 1, 1) := dcr dlc_1080 1 rfl
theorem dL_law__1802 : decode cL_law_ 1802 = .ok (.aload_n 0, 1) := dcr dlc_1080 2 rfl
theorem dL_law__1803 : decode cL_law_ 1803 = .ok (.iload 4, 2) := dcr dlc_1080 3 rfl
theorem dL_law__1805 : decode cL_law_ 1805 = .ok (.iconst 1, 1) := dcr dlc_1080 4 rfl
theorem dL_law__1806 : decode cL_law_ 1806 = .ok (.iadd, 1) := dcr dlc_1080 5 rfl
theorem dL_law__1807 : decode cL_law_ 1807 = .ok (.iaload, 1) := dcr dlc_1080 6 rfl
theorem dL_law__1808 : decode cL_law_ 1808 = .ok (.aload_n 0, 1) := dcr dlc_1080 7 rfl
theorem dL_law__1809 : decode cL_law_ 1809 = .ok (.iload 4, 2) := dcr dlc_1080 8 rfl
theorem dL_law__1811 : decode cL_law_ 1811 = .ok (.iconst 2, 1) := dcr dlc_1080 9 rfl
theorem dL_law__1812 : decode cL_law_ 1812 = .ok (.iadd, 1) := dcr dlc_1080 10 rfl
theorem dL_law__1813 : decode cL_law_ 1813 = .ok (.iaload, 1) := dcr dlc_1080 11 rfl
theorem dL_law__1814 : decode cL_law_ 1814 = .ok (.aload_n 0, 1) := dcr dlc_1080 12 rfl
theorem dL_law__1815 : decode cL_law_ 1815 = .ok (.iload 4, 2) := dcr dlc_1080 13 rfl
theorem dL_law__1817 : decode cL_law_ 1817 = .ok (.iconst 3, 1) := dcr dlc_1080 14 rfl
theorem dL_law__1818 : decode cL_law_ 1818 = .ok (.iadd, 1) := dcr dlc_1080 15 rfl
theorem dL_law__1819 : decode cL_law_ 1819 = .ok (.iaload, 1) := dcr dlc_1080 16 rfl
theorem dL_law__1820 : decode cL_law_ 1820 = .ok (.aload_n 3, 1) := dcr dlc_1080 17 rfl
theorem dL_law__1821 : decode cL_law_ 1821 = .ok (.invokestatic 210, 3) := dcr dlc_1080 18 rfl
theorem dL_law__1824 : decode cL_law_ 1824 = .ok (.istore 5, 2) := dcr dlc_1080 19 rfl
theorem dL_law__1826 : decode cL_law_ 1826 = .ok (.aload_n 2, 1) := dcr dlc_1080 20 rfl
theorem dL_law__1827 : decode cL_law_ 1827 = .ok (.aload_n 0, 1) := dcr dlc_1080 21 rfl
theorem dL_law__1828 : decode cL_law_ 1828 = .ok (.iload 4, 2) := dcr dlc_1080 22 rfl
theorem dL_law__1830 : decode cL_law_ 1830 = .ok (.iconst 1, 1) := dcr dlc_1080 23 rfl
theorem dL_law__1831 : decode cL_law_ 1831 = .ok (.iadd, 1) := dcr dlc_1080 24 rfl
theorem dL_law__1832 : decode cL_law_ 1832 = .ok (.iaload, 1) := dcr dlc_1080 25 rfl
theorem dL_law__1833 : decode cL_law_ 1833 = .ok (.aload_n 0, 1) := dcr dlc_1080 26 rfl
theorem dL_law__1834 : decode cL_law_ 1834 = .ok (.iload 4, 2) := dcr dlc_1080 27 rfl
theorem dL_law__1836 : decode cL_law_ 1836 = .ok (.iconst 2, 1) := dcr dlc_1080 28 rfl
theorem dL_law__1837 : decode cL_law_ 1837 = .ok (.iadd, 1) := dcr dlc_1080 29 rfl
theorem dL_law__1838 : decode cL_law_ 1838 = .ok (.iaload, 1) := dcr dlc_1080 30 rfl
theorem dL_law__1839 : decode cL_law_ 1839 = .ok (.aload_n 0, 1) := dcr dlc_1080 31 rfl
theorem dL_law__1840 : decode cL_law_ 1840 = .ok (.iload 4, 2) := dcr dlc_1080 32 rfl
theorem dL_law__1842 : decode cL_law_ 1842 = .ok (.iconst 3, 1) := dcr dlc_1080 33 rfl
theorem dL_law__1843 : decode cL_law_ 1843 = .ok (.iadd, 1) := dcr dlc_1080 34 rfl
theorem dL_law__1844 : decode cL_law_ 1844 = .ok (.iaload, 1) := dcr dlc_1080 35 rfl
theorem dL_law__1845 : decode cL_law_ 1845 = .ok (.invokevirtual 212, 3) := dcr dlc_1080 36 rfl
theorem dL_law__1848 : decode cL_law_ 1848 = .ok (.istore 6, 2) := dcr dlc_1080 37 rfl
theorem dL_law__1850 : decode cL_law_ 1850 = .ok (.aload_n 2, 1) := dcr dlc_1080 38 rfl
theorem dL_law__1851 : decode cL_law_ 1851 = .ok (.invokevirtual 134, 3) := dcr dlc_1080 39 rfl
theorem dL_law__1854 : decode cL_law_ 1854 = .ok (.iload 5, 2) := dcr dlc_1080 40 rfl
theorem dL_law__1856 : decode cL_law_ 1856 = .ok (.if_icmp .eq 5, 3) := dcr dlc_1080 41 rfl
theorem dL_law__1859 : decode cL_law_ 1859 = .ok (.iconst 0, 1) := dcr dlc_1080 42 rfl
theorem dL_law__1860 : decode cL_law_ 1860 = .ok (.ireturn, 1) := dcr dlc_1080 43 rfl
theorem dL_law__1861 : decode cL_law_ 1861 = .ok (.iload 5, 2) := dcr dlc_1080 44 rfl
theorem dL_law__1863 : decode cL_law_ 1863 = .ok (.ifCond .ne 15, 3) := dcr dlc_1080 45 rfl
theorem dL_law__1866 : decode cL_law_ 1866 = .ok (.aload_n 3, 1) := dcr dlc_1080 46 rfl
theorem dL_law__1867 : decode cL_law_ 1867 = .ok (.iconst 0, 1) := dcr dlc_1080 47 rfl
theorem dL_law__1868 : decode cL_law_ 1868 = .ok (.laload, 1) := dcr dlc_1080 48 rfl
theorem dL_law__1869 : decode cL_law_ 1869 = .ok (.iload 6, 2) := dcr dlc_1080 49 rfl
theorem dL_law__1871 : decode cL_law_ 1871 = .ok (.i2l, 1) := dcr dlc_1080 50 rfl
theorem dL_law__1872 : decode cL_law_ 1872 = .ok (.lcmp, 1) := dcr dlc_1080 51 rfl
theorem dL_law__1873 : decode cL_law_ 1873 = .ok (.ifCond .eq 5, 3) := dcr dlc_1080 52 rfl
theorem dL_law__1876 : decode cL_law_ 1876 = .ok (.iconst 0, 1) := dcr dlc_1080 53 rfl
theorem dL_law__1877 : decode cL_law_ 1877 = .ok (.ireturn, 1) := dcr dlc_1080 54 rfl
theorem dL_law__1878 : decode cL_law_ 1878 = .ok (.goto 787, 3) := dcr dlc_1080 55 rfl
theorem dL_law__1881 : decode cL_law_ 1881 = .ok (.aload_n 1, 1) := dcr dlc_1080 56 rfl
theorem dL_law__1882 : decode cL_law_ 1882 = .ok (.aload_n 0, 1) := dcr dlc_1080 57 rfl
theorem dL_law__1883 : decode cL_law_ 1883 = .ok (.iload 4, 2) := dcr dlc_1080 58 rfl
theorem dL_law__1885 : decode cL_law_ 1885 = .ok (.iconst 1, 1) := dcr dlc_1080 59 rfl
def dlb_1140 : List (Nat × Instr × Nat) := [(1886, .iadd, 1), (1887, .iaload, 1), (1888, .aload_n 0, 1), (1889, .iload 4, 2), (1891, .iconst 2, 1), (1892, .iadd, 1), (1893, .iaload, 1), (1894, .aload_n 0, 1), (1895, .iload 4, 2), (1897, .iconst 3, 1), (1898, .iadd, 1), (1899, .iaload, 1), (1900, .aload_n 3, 1), (1901, .invokestatic 213, 3), (1904, .istore 5, 2), (1906, .aload_n 2, 1), (1907, .aload_n 0, 1), (1908, .iload 4, 2), (1910, .iconst 1, 1), (1911, .iadd, 1), (1912, .iaload, 1), (1913, .aload_n 0, 1), (1914, .iload 4, 2), (1916, .iconst 2, 1), (1917, .iadd, 1), (1918, .iaload, 1), (1919, .aload_n 0, 1), (1920, .iload 4, 2), (1922, .iconst 3, 1), (1923, .iadd, 1), (1924, .iaload, 1), (1925, .invokevirtual 215, 3), (1928, .istore 6, 2), (1930, .aload_n 2, 1), (1931, .invokevirtual 134, 3), (1934, .iload 5, 2), (1936, .if_icmp .eq 5, 3), (1939, .iconst 0, 1), (1940, .ireturn, 1), (1941, .iload 5, 2), (1943, .ifCond .ne 15, 3), (1946, .aload_n 3, 1), (1947, .iconst 0, 1), (1948, .laload, 1), (1949, .iload 6, 2), (1951, .i2l, 1), (1952, .lcmp, 1), (1953, .ifCond .eq 5, 3), (1956, .iconst 0, 1), (1957, .ireturn, 1), (1958, .goto 707, 3), (1961, .aload_n 1, 1), (1962, .invokevirtual 216, 3), (1965, .aload_n 2, 1), (1966, .invokevirtual 219, 3), (1969, .if_icmp .eq 696, 3), (1972, .iconst 0, 1), (1973, .ireturn, 1), (1974, .aload_n 1, 1), (1975, .aload_n 0, 1)]
theorem dlc_1140 : (dlb_1140.all fun q => decide (decode cL_law_ q.1 = .ok q.2)) = true := by decide +kernel
theorem dL_law__1886 : decode cL_law_ 1886 = .ok (.iadd, 1) := dcr dlc_1140 0 rfl
theorem dL_law__1887 : decode cL_law_ 1887 = .ok (.iaload, 1) := dcr dlc_1140 1 rfl
theorem dL_law__1888 : decode cL_law_ 1888 = .ok (.aload_n 0, 1) := dcr dlc_1140 2 rfl
theorem dL_law__1889 : decode cL_law_ 1889 = .ok (.iload 4, 2) := dcr dlc_1140 3 rfl
theorem dL_law__1891 : decode cL_law_ 1891 = .ok (.iconst 2, 1) := dcr dlc_1140 4 rfl
theorem dL_law__1892 : decode cL_law_ 1892 = .ok (.iadd, 1) := dcr dlc_1140 5 rfl
theorem dL_law__1893 : decode cL_law_ 1893 = .ok (.iaload, 1) := dcr dlc_1140 6 rfl
theorem dL_law__1894 : decode cL_law_ 1894 = .ok (.aload_n 0, 1) := dcr dlc_1140 7 rfl
theorem dL_law__1895 : decode cL_law_ 1895 = .ok (.iload 4, 2) := dcr dlc_1140 8 rfl
theorem dL_law__1897 : decode cL_law_ 1897 = .ok (.iconst 3, 1) := dcr dlc_1140 9 rfl
theorem dL_law__1898 : decode cL_law_ 1898 = .ok (.iadd, 1) := dcr dlc_1140 10 rfl
theorem dL_law__1899 : decode cL_law_ 1899 = .ok (.iaload, 1) := dcr dlc_1140 11 rfl
theorem dL_law__1900 : decode cL_law_ 1900 = .ok (.aload_n 3, 1) := dcr dlc_1140 12 rfl
theorem dL_law__1901 : decode cL_law_ 1901 = .ok (.invokestatic 213, 3) := dcr dlc_1140 13 rfl
theorem dL_law__1904 : decode cL_law_ 1904 = .ok (.istore 5, 2) := dcr dlc_1140 14 rfl
theorem dL_law__1906 : decode cL_law_ 1906 = .ok (.aload_n 2, 1) := dcr dlc_1140 15 rfl
theorem dL_law__1907 : decode cL_law_ 1907 = .ok (.aload_n 0, 1) := dcr dlc_1140 16 rfl
theorem dL_law__1908 : decode cL_law_ 1908 = .ok (.iload 4, 2) := dcr dlc_1140 17 rfl
theorem dL_law__1910 : decode cL_law_ 1910 = .ok (.iconst 1, 1) := dcr dlc_1140 18 rfl
theorem dL_law__1911 : decode cL_law_ 1911 = .ok (.iadd, 1) := dcr dlc_1140 19 rfl
theorem dL_law__1912 : decode cL_law_ 1912 = .ok (.iaload, 1) := dcr dlc_1140 20 rfl
theorem dL_law__1913 : decode cL_law_ 1913 = .ok (.aload_n 0, 1) := dcr dlc_1140 21 rfl
theorem dL_law__1914 : decode cL_law_ 1914 = .ok (.iload 4, 2) := dcr dlc_1140 22 rfl
theorem dL_law__1916 : decode cL_law_ 1916 = .ok (.iconst 2, 1) := dcr dlc_1140 23 rfl
theorem dL_law__1917 : decode cL_law_ 1917 = .ok (.iadd, 1) := dcr dlc_1140 24 rfl
theorem dL_law__1918 : decode cL_law_ 1918 = .ok (.iaload, 1) := dcr dlc_1140 25 rfl
theorem dL_law__1919 : decode cL_law_ 1919 = .ok (.aload_n 0, 1) := dcr dlc_1140 26 rfl
theorem dL_law__1920 : decode cL_law_ 1920 = .ok (.iload 4, 2) := dcr dlc_1140 27 rfl
theorem dL_law__1922 : decode cL_law_ 1922 = .ok (.iconst 3, 1) := dcr dlc_1140 28 rfl
theorem dL_law__1923 : decode cL_law_ 1923 = .ok (.iadd, 1) := dcr dlc_1140 29 rfl
theorem dL_law__1924 : decode cL_law_ 1924 = .ok (.iaload, 1) := dcr dlc_1140 30 rfl
theorem dL_law__1925 : decode cL_law_ 1925 = .ok (.invokevirtual 215, 3) := dcr dlc_1140 31 rfl
theorem dL_law__1928 : decode cL_law_ 1928 = .ok (.istore 6, 2) := dcr dlc_1140 32 rfl
theorem dL_law__1930 : decode cL_law_ 1930 = .ok (.aload_n 2, 1) := dcr dlc_1140 33 rfl
theorem dL_law__1931 : decode cL_law_ 1931 = .ok (.invokevirtual 134, 3) := dcr dlc_1140 34 rfl
theorem dL_law__1934 : decode cL_law_ 1934 = .ok (.iload 5, 2) := dcr dlc_1140 35 rfl
theorem dL_law__1936 : decode cL_law_ 1936 = .ok (.if_icmp .eq 5, 3) := dcr dlc_1140 36 rfl
theorem dL_law__1939 : decode cL_law_ 1939 = .ok (.iconst 0, 1) := dcr dlc_1140 37 rfl
theorem dL_law__1940 : decode cL_law_ 1940 = .ok (.ireturn, 1) := dcr dlc_1140 38 rfl
theorem dL_law__1941 : decode cL_law_ 1941 = .ok (.iload 5, 2) := dcr dlc_1140 39 rfl
theorem dL_law__1943 : decode cL_law_ 1943 = .ok (.ifCond .ne 15, 3) := dcr dlc_1140 40 rfl
theorem dL_law__1946 : decode cL_law_ 1946 = .ok (.aload_n 3, 1) := dcr dlc_1140 41 rfl
theorem dL_law__1947 : decode cL_law_ 1947 = .ok (.iconst 0, 1) := dcr dlc_1140 42 rfl
theorem dL_law__1948 : decode cL_law_ 1948 = .ok (.laload, 1) := dcr dlc_1140 43 rfl
theorem dL_law__1949 : decode cL_law_ 1949 = .ok (.iload 6, 2) := dcr dlc_1140 44 rfl
theorem dL_law__1951 : decode cL_law_ 1951 = .ok (.i2l, 1) := dcr dlc_1140 45 rfl
theorem dL_law__1952 : decode cL_law_ 1952 = .ok (.lcmp, 1) := dcr dlc_1140 46 rfl
theorem dL_law__1953 : decode cL_law_ 1953 = .ok (.ifCond .eq 5, 3) := dcr dlc_1140 47 rfl
theorem dL_law__1956 : decode cL_law_ 1956 = .ok (.iconst 0, 1) := dcr dlc_1140 48 rfl
theorem dL_law__1957 : decode cL_law_ 1957 = .ok (.ireturn, 1) := dcr dlc_1140 49 rfl
theorem dL_law__1958 : decode cL_law_ 1958 = .ok (.goto 707, 3) := dcr dlc_1140 50 rfl
theorem dL_law__1961 : decode cL_law_ 1961 = .ok (.aload_n 1, 1) := dcr dlc_1140 51 rfl
theorem dL_law__1962 : decode cL_law_ 1962 = .ok (.invokevirtual 216, 3) := dcr dlc_1140 52 rfl
theorem dL_law__1965 : decode cL_law_ 1965 = .ok (.aload_n 2, 1) := dcr dlc_1140 53 rfl
theorem dL_law__1966 : decode cL_law_ 1966 = .ok (.invokevirtual 219, 3) := dcr dlc_1140 54 rfl
theorem dL_law__1969 : decode cL_law_ 1969 = .ok (.if_icmp .eq 696, 3) := dcr dlc_1140 55 rfl
theorem dL_law__1972 : decode cL_law_ 1972 = .ok (.iconst 0, 1) := dcr dlc_1140 56 rfl
theorem dL_law__1973 : decode cL_law_ 1973 = .ok (.ireturn, 1) := dcr dlc_1140 57 rfl
theorem dL_law__1974 : decode cL_law_ 1974 = .ok (.aload_n 1, 1) := dcr dlc_1140 58 rfl
theorem dL_law__1975 : decode cL_law_ 1975 = .ok (.aload_n 0, 1) := dcr dlc_1140 59 rfl
def dlb_1200 : List (Nat × Instr × Nat) := [(1976, .iload 4, 2), (1978, .iconst 1, 1), (1979, .iadd, 1), (1980, .iaload, 1), (1981, .aload_n 3, 1), (1982, .invokestatic 220, 3), (1985, .istore 5, 2), (1987, .aload_n 2, 1), (1988, .aload_n 0, 1), (1989, .iload 4, 2), (1991, .iconst 1, 1), (1992, .iadd, 1), (1993, .iaload, 1), (1994, .invokevirtual 222, 3), (1997, .istore 6, 2), (1999, .aload_n 2, 1), (2000, .invokevirtual 134, 3), (2003, .iload 5, 2), (2005, .if_icmp .eq 5, 3), (2008, .iconst 0, 1), (2009, .ireturn, 1), (2010, .iload 5, 2), (2012, .ifCond .ne 15, 3), (2015, .aload_n 3, 1), (2016, .iconst 0, 1), (2017, .laload, 1), (2018, .iload 6, 2), (2020, .i2l, 1), (2021, .lcmp, 1), (2022, .ifCond .eq 5, 3), (2025, .iconst 0, 1), (2026, .ireturn, 1), (2027, .goto 638, 3), (2030, .aload_n 1, 1), (2031, .aload_n 0, 1), (2032, .iload 4, 2), (2034, .iconst 1, 1), (2035, .iadd, 1), (2036, .iaload, 1), (2037, .invokevirtual 223, 3), (2040, .aload_n 2, 1), (2041, .aload_n 0, 1), (2042, .iload 4, 2), (2044, .iconst 1, 1), (2045, .iadd, 1), (2046, .iaload, 1), (2047, .invokevirtual 226, 3), (2050, .if_icmp .eq 615, 3), (2053, .iconst 0, 1), (2054, .ireturn, 1), (2055, .aload_n 1, 1), (2056, .aload_n 0, 1), (2057, .iload 4, 2), (2059, .iconst 1, 1), (2060, .iadd, 1), (2061, .iaload, 1), (2062, .aload_n 3, 1), (2063, .invokestatic 227, 3), (2066, .istore 5, 2), (2068, .aload_n 2, 1)]
theorem dlc_1200 : (dlb_1200.all fun q => decide (decode cL_law_ q.1 = .ok q.2)) = true := by decide +kernel
theorem dL_law__1976 : decode cL_law_ 1976 = .ok (.iload 4, 2) := dcr dlc_1200 0 rfl
theorem dL_law__1978 : decode cL_law_ 1978 = .ok (.iconst 1, 1) := dcr dlc_1200 1 rfl
theorem dL_law__1979 : decode cL_law_ 1979 = .ok (.iadd, 1) := dcr dlc_1200 2 rfl
theorem dL_law__1980 : decode cL_law_ 1980 = .ok (.iaload, 1) := dcr dlc_1200 3 rfl
theorem dL_law__1981 : decode cL_law_ 1981 = .ok (.aload_n 3, 1) := dcr dlc_1200 4 rfl
theorem dL_law__1982 : decode cL_law_ 1982 = .ok (.invokestatic 220, 3) := dcr dlc_1200 5 rfl
theorem dL_law__1985 : decode cL_law_ 1985 = .ok (.istore 5, 2) := dcr dlc_1200 6 rfl
theorem dL_law__1987 : decode cL_law_ 1987 = .ok (.aload_n 2, 1) := dcr dlc_1200 7 rfl
theorem dL_law__1988 : decode cL_law_ 1988 = .ok (.aload_n 0, 1) := dcr dlc_1200 8 rfl
theorem dL_law__1989 : decode cL_law_ 1989 = .ok (.iload 4, 2) := dcr dlc_1200 9 rfl
theorem dL_law__1991 : decode cL_law_ 1991 = .ok (.iconst 1, 1) := dcr dlc_1200 10 rfl
theorem dL_law__1992 : decode cL_law_ 1992 = .ok (.iadd, 1) := dcr dlc_1200 11 rfl
theorem dL_law__1993 : decode cL_law_ 1993 = .ok (.iaload, 1) := dcr dlc_1200 12 rfl
theorem dL_law__1994 : decode cL_law_ 1994 = .ok (.invokevirtual 222, 3) := dcr dlc_1200 13 rfl
theorem dL_law__1997 : decode cL_law_ 1997 = .ok (.istore 6, 2) := dcr dlc_1200 14 rfl
theorem dL_law__1999 : decode cL_law_ 1999 = .ok (.aload_n 2, 1) := dcr dlc_1200 15 rfl
theorem dL_law__2000 : decode cL_law_ 2000 = .ok (.invokevirtual 134, 3) := dcr dlc_1200 16 rfl
theorem dL_law__2003 : decode cL_law_ 2003 = .ok (.iload 5, 2) := dcr dlc_1200 17 rfl
theorem dL_law__2005 : decode cL_law_ 2005 = .ok (.if_icmp .eq 5, 3) := dcr dlc_1200 18 rfl
theorem dL_law__2008 : decode cL_law_ 2008 = .ok (.iconst 0, 1) := dcr dlc_1200 19 rfl
theorem dL_law__2009 : decode cL_law_ 2009 = .ok (.ireturn, 1) := dcr dlc_1200 20 rfl
theorem dL_law__2010 : decode cL_law_ 2010 = .ok (.iload 5, 2) := dcr dlc_1200 21 rfl
theorem dL_law__2012 : decode cL_law_ 2012 = .ok (.ifCond .ne 15, 3) := dcr dlc_1200 22 rfl
theorem dL_law__2015 : decode cL_law_ 2015 = .ok (.aload_n 3, 1) := dcr dlc_1200 23 rfl
theorem dL_law__2016 : decode cL_law_ 2016 = .ok (.iconst 0, 1) := dcr dlc_1200 24 rfl
theorem dL_law__2017 : decode cL_law_ 2017 = .ok (.laload, 1) := dcr dlc_1200 25 rfl
theorem dL_law__2018 : decode cL_law_ 2018 = .ok (.iload 6, 2) := dcr dlc_1200 26 rfl
theorem dL_law__2020 : decode cL_law_ 2020 = .ok (.i2l, 1) := dcr dlc_1200 27 rfl
theorem dL_law__2021 : decode cL_law_ 2021 = .ok (.lcmp, 1) := dcr dlc_1200 28 rfl
theorem dL_law__2022 : decode cL_law_ 2022 = .ok (.ifCond .eq 5, 3) := dcr dlc_1200 29 rfl
theorem dL_law__2025 : decode cL_law_ 2025 = .ok (.iconst 0, 1) := dcr dlc_1200 30 rfl
theorem dL_law__2026 : decode cL_law_ 2026 = .ok (.ireturn, 1) := dcr dlc_1200 31 rfl
theorem dL_law__2027 : decode cL_law_ 2027 = .ok (.goto 638, 3) := dcr dlc_1200 32 rfl
theorem dL_law__2030 : decode cL_law_ 2030 = .ok (.aload_n 1, 1) := dcr dlc_1200 33 rfl
theorem dL_law__2031 : decode cL_law_ 2031 = .ok (.aload_n 0, 1) := dcr dlc_1200 34 rfl
theorem dL_law__2032 : decode cL_law_ 2032 = .ok (.iload 4, 2) := dcr dlc_1200 35 rfl
theorem dL_law__2034 : decode cL_law_ 2034 = .ok (.iconst 1, 1) := dcr dlc_1200 36 rfl
theorem dL_law__2035 : decode cL_law_ 2035 = .ok (.iadd, 1) := dcr dlc_1200 37 rfl
theorem dL_law__2036 : decode cL_law_ 2036 = .ok (.iaload, 1) := dcr dlc_1200 38 rfl
theorem dL_law__2037 : decode cL_law_ 2037 = .ok (.invokevirtual 223, 3) := dcr dlc_1200 39 rfl
theorem dL_law__2040 : decode cL_law_ 2040 = .ok (.aload_n 2, 1) := dcr dlc_1200 40 rfl
theorem dL_law__2041 : decode cL_law_ 2041 = .ok (.aload_n 0, 1) := dcr dlc_1200 41 rfl
theorem dL_law__2042 : decode cL_law_ 2042 = .ok (.iload 4, 2) := dcr dlc_1200 42 rfl
theorem dL_law__2044 : decode cL_law_ 2044 = .ok (.iconst 1, 1) := dcr dlc_1200 43 rfl
theorem dL_law__2045 : decode cL_law_ 2045 = .ok (.iadd, 1) := dcr dlc_1200 44 rfl
theorem dL_law__2046 : decode cL_law_ 2046 = .ok (.iaload, 1) := dcr dlc_1200 45 rfl
theorem dL_law__2047 : decode cL_law_ 2047 = .ok (.invokevirtual 226, 3) := dcr dlc_1200 46 rfl
theorem dL_law__2050 : decode cL_law_ 2050 = .ok (.if_icmp .eq 615, 3) := dcr dlc_1200 47 rfl
theorem dL_law__2053 : decode cL_law_ 2053 = .ok (.iconst 0, 1) := dcr dlc_1200 48 rfl
theorem dL_law__2054 : decode cL_law_ 2054 = .ok (.ireturn, 1) := dcr dlc_1200 49 rfl
theorem dL_law__2055 : decode cL_law_ 2055 = .ok (.aload_n 1, 1) := dcr dlc_1200 50 rfl
theorem dL_law__2056 : decode cL_law_ 2056 = .ok (.aload_n 0, 1) := dcr dlc_1200 51 rfl
theorem dL_law__2057 : decode cL_law_ 2057 = .ok (.iload 4, 2) := dcr dlc_1200 52 rfl
theorem dL_law__2059 : decode cL_law_ 2059 = .ok (.iconst 1, 1) := dcr dlc_1200 53 rfl
theorem dL_law__2060 : decode cL_law_ 2060 = .ok (.iadd, 1) := dcr dlc_1200 54 rfl
theorem dL_law__2061 : decode cL_law_ 2061 = .ok (.iaload, 1) := dcr dlc_1200 55 rfl
theorem dL_law__2062 : decode cL_law_ 2062 = .ok (.aload_n 3, 1) := dcr dlc_1200 56 rfl
theorem dL_law__2063 : decode cL_law_ 2063 = .ok (.invokestatic 227, 3) := dcr dlc_1200 57 rfl
theorem dL_law__2066 : decode cL_law_ 2066 = .ok (.istore 5, 2) := dcr dlc_1200 58 rfl
theorem dL_law__2068 : decode cL_law_ 2068 = .ok (.aload_n 2, 1) := dcr dlc_1200 59 rfl
