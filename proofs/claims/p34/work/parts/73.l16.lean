/-! the law's loop, printed by wip/p34/genall.py -/
theorem zt_l1519 : zchk zRUL 3 xBY zIN zCF [] zgl_l1519 20000 [(12, 3, 92), (12, 3, 93), (5, 0, 0), (5, 1, 0)] zc_l1519 = true := by decide +kernel
theorem zt_l1520 : zchk zRUL 3 xBY zIN zCF [] zgl_l1519 20000 [(12, 2, 91), (21, 2, 90)] zc_l1520 = true := by decide +kernel
theorem zt_l1521 : zchk zRUL 3 xBY zIN zCF [] zgl_l1519 20000 [(12, 2, 91), (21, 2, 90)] zc_l1521 = true := by decide +kernel
theorem zt_l1522 : zchk zRUL 3 xBY zIN zCF [] zgl_l1519 20000 [(12, 2, 91), (21, 2, 90)] zc_l1522 = true := by decide +kernel
theorem zt_l1523 : zchk zRUL 3 xBY zIN zCF [] zgl_l1519 20000 [(12, 2, 91), (21, 2, 90)] zc_l1523 = true := by decide +kernel
theorem zt_l1524 : zchk zRUL 3 xBY zIN zCF [] zgl_l1519 20000 [(12, 2, 91), (21, 2, 90)] zc_l1524 = true := by decide +kernel
theorem zt_l1525 : zchk zRUL 3 xBY zIN zCF [] zgl_l1519 20000 [(12, 2, 91), (21, 2, 90)] zc_l1525 = true := by decide +kernel
theorem zt_l1526 : zchk zRUL 3 xBY zIN zCF [] zgl_l1519 20000 [(12, 2, 91), (21, 2, 90)] zc_l1526 = true := by decide +kernel
theorem zt_l1527 : zchk zRUL 3 xBY zIN zCF [] zgl_l1519 20000 [(12, 2, 91), (21, 2, 90)] zc_l1527 = true := by decide +kernel
theorem zt_l1528 : zchk zRUL 3 xBY zIN zCF [] zgl_l1519 20000 [(12, 2, 91), (21, 2, 90)] zc_l1528 = true := by decide +kernel
theorem zt_l1529 : zchk zRUL 3 xBY zIN zCF [] zgl_l1519 20000 [(12, 2, 91), (21, 2, 90)] zc_l1529 = true := by decide +kernel
theorem zt_l1530 : zchk zRUL 3 xBY zIN zCF [] zgl_l1519 20000 [(12, 2, 91), (21, 2, 90)] zc_l1530 = true := by decide +kernel
theorem zt_l1531 : zchk zRUL 3 xBY zIN zCF [] zgl_l1519 20000 [(12, 2, 91), (21, 2, 90)] zc_l1531 = true := by decide +kernel
theorem zt_l1532 : zchk zRUL 3 xBY zIN zCF [] zgl_l1519 20000 [(12, 2, 91), (21, 2, 90)] zc_l1532 = true := by decide +kernel
theorem zt_l1533 : zchk zRUL 3 xBY zIN zCF [] zgl_l1519 20000 [(12, 2, 91), (21, 2, 90)] zc_l1533 = true := by decide +kernel
theorem zt_l1534 : zchk zRUL 3 xBY zIN zCF [] zgl_l1519 20000 [(12, 2, 91), (21, 2, 90)] zc_l1534 = true := by decide +kernel
theorem zga_l1519_0 : ∀ p ∈ zgh_l1519_0, zchk zRUL 3 xBY zIN zCF [] zgl_l1519 20000 p.2 p.1 = true := List.forall_mem_cons.mpr ⟨zt_l1519, List.forall_mem_cons.mpr ⟨zt_l1520, List.forall_mem_cons.mpr ⟨zt_l1521, List.forall_mem_cons.mpr ⟨zt_l1522, List.forall_mem_cons.mpr ⟨zt_l1523, List.forall_mem_cons.mpr ⟨zt_l1524, List.forall_mem_cons.mpr ⟨zt_l1525, List.forall_mem_cons.mpr ⟨zt_l1526, List.forall_mem_cons.mpr ⟨zt_l1527, List.forall_mem_cons.mpr ⟨zt_l1528, List.forall_mem_cons.mpr ⟨zt_l1529, List.forall_mem_cons.mpr ⟨zt_l1530, List.forall_mem_cons.mpr ⟨zt_l1531, List.forall_mem_cons.mpr ⟨zt_l1532, List.forall_mem_cons.mpr ⟨zt_l1533, List.forall_mem_cons.mpr ⟨zt_l1534, fun _ h => absurd h List.not_mem_nil⟩⟩⟩⟩⟩⟩⟩⟩⟩⟩⟩⟩⟩⟩⟩⟩
theorem zt_l1535 : zchk zRUL 3 xBY zIN zCF [] zgl_l1519 20000 [(12, 2, 91), (21, 2, 90)] zc_l1535 = true := by decide +kernel
theorem zt_l1536 : zchk zRUL 3 xBY zIN zCF [] zgl_l1519 20000 [(12, 2, 91), (21, 2, 90)] zc_l1536 = true := by decide +kernel
theorem zt_l1537 : zchk zRUL 3 xBY zIN zCF [] zgl_l1519 20000 [(12, 2, 91), (21, 2, 90)] zc_l1537 = true := by decide +kernel
theorem zt_l1538 : zchk zRUL 3 xBY zIN zCF [] zgl_l1519 20000 [(12, 2, 91), (21, 2, 90)] zc_l1538 = true := by decide +kernel
theorem zt_l1539 : zchk zRUL 3 xBY zIN zCF [] zgl_l1519 20000 [(12, 2, 91), (21, 2, 90)] zc_l1539 = true := by decide +kernel
theorem zt_l1540 : zchk zRUL 3 xBY zIN zCF [] zgl_l1519 20000 [(12, 2, 91), (21, 2, 90)] zc_l1540 = true := by decide +kernel
theorem zt_l1541 : zchk zRUL 3 xBY zIN zCF [] zgl_l1519 20000 [(12, 2, 91), (21, 2, 90)] zc_l1541 = true := by decide +kernel
theorem zt_l1542 : zchk zRUL 3 xBY zIN zCF [] zgl_l1519 20000 [(12, 2, 91), (21, 2, 90)] zc_l1542 = true := by decide +kernel
theorem zt_l1543 : zchk zRUL 3 xBY zIN zCF [] zgl_l1519 20000 [(12, 2, 91), (21, 2, 90)] zc_l1543 = true := by decide +kernel
theorem zt_l1544 : zchk zRUL 3 xBY zIN zCF [] zgl_l1519 20000 [(12, 2, 91), (21, 2, 90)] zc_l1544 = true := by decide +kernel
theorem zt_l1545 : zchk zRUL 3 xBY zIN zCF [] zgl_l1519 20000 [(12, 2, 91), (21, 2, 90)] zc_l1545 = true := by decide +kernel
theorem zt_l1546 : zchk zRUL 3 xBY zIN zCF [] zgl_l1519 20000 [(12, 2, 91), (21, 2, 90)] zc_l1546 = true := by decide +kernel
theorem zt_l1547 : zchk zRUL 3 xBY zIN zCF [] zgl_l1519 20000 [(12, 2, 91), (21, 2, 90)] zc_l1547 = true := by decide +kernel
theorem zt_l1548 : zchk zRUL 3 xBY zIN zCF [] zgl_l1519 20000 [(12, 2, 91), (21, 2, 90)] zc_l1548 = true := by decide +kernel
theorem zt_l1549 : zchk zRUL 3 xBY zIN zCF [] zgl_l1519 20000 [(12, 2, 91), (21, 2, 90)] zc_l1549 = true := by decide +kernel
theorem zt_l1550 : zchk zRUL 3 xBY zIN zCF [] zgl_l1519 20000 [(12, 2, 91), (21, 2, 90)] zc_l1550 = true := by decide +kernel
theorem zga_l1519_1 : ∀ p ∈ zgh_l1519_1, zchk zRUL 3 xBY zIN zCF [] zgl_l1519 20000 p.2 p.1 = true := List.forall_mem_cons.mpr ⟨zt_l1535, List.forall_mem_cons.mpr ⟨zt_l1536, List.forall_mem_cons.mpr ⟨zt_l1537, List.forall_mem_cons.mpr ⟨zt_l1538, List.forall_mem_cons.mpr ⟨zt_l1539, List.forall_mem_cons.mpr ⟨zt_l1540, List.forall_mem_cons.mpr ⟨zt_l1541, List.forall_mem_cons.mpr ⟨zt_l1542, List.forall_mem_cons.mpr ⟨zt_l1543, List.forall_mem_cons.mpr ⟨zt_l1544, List.forall_mem_cons.mpr ⟨zt_l1545, List.forall_mem_cons.mpr ⟨zt_l1546, List.forall_mem_cons.mpr ⟨zt_l1547, List.forall_mem_cons.mpr ⟨zt_l1548, List.forall_mem_cons.mpr ⟨zt_l1549, List.forall_mem_cons.mpr ⟨zt_l1550, fun _ h => absurd h List.not_mem_nil⟩⟩⟩⟩⟩⟩⟩⟩⟩⟩⟩⟩⟩⟩⟩⟩
theorem zt_l1551 : zchk zRUL 3 xBY zIN zCF [] zgl_l1519 20000 [(12, 2, 91), (21, 2, 90)] zc_l1551 = true := by decide +kernel
theorem zt_l1552 : zchk zRUL 3 xBY zIN zCF [] zgl_l1519 20000 [(12, 2, 91), (21, 2, 90)] zc_l1552 = true := by decide +kernel
theorem zt_l1553 : zchk zRUL 3 xBY zIN zCF [] zgl_l1519 20000 [(12, 2, 91), (21, 2, 90)] zc_l1553 = true := by decide +kernel
theorem zt_l1554 : zchk zRUL 3 xBY zIN zCF [] zgl_l1519 20000 [(12, 2, 91), (21, 2, 90)] zc_l1554 = true := by decide +kernel
theorem zt_l1555 : zchk zRUL 3 xBY zIN zCF [] zgl_l1519 20000 [(12, 2, 91), (21, 2, 90)] zc_l1555 = true := by decide +kernel
theorem zt_l1556 : zchk zRUL 3 xBY zIN zCF [] zgl_l1519 20000 [(12, 2, 91), (21, 2, 90)] zc_l1556 = true := by decide +kernel
theorem zt_l1557 : zchk zRUL 3 xBY zIN zCF [] zgl_l1519 20000 [(12, 2, 91), (21, 2, 90)] zc_l1557 = true := by decide +kernel
theorem zt_l1558 : zchk zRUL 3 xBY zIN zCF [] zgl_l1519 20000 [(12, 2, 91), (21, 2, 90)] zc_l1558 = true := by decide +kernel
theorem zt_l1559 : zchk zRUL 3 xBY zIN zCF [] zgl_l1519 20000 [(12, 2, 91), (21, 2, 90)] zc_l1559 = true := by decide +kernel
theorem zt_l1560 : zchk zRUL 3 xBY zIN zCF [] zgl_l1519 20000 [(12, 2, 91), (21, 2, 90)] zc_l1560 = true := by decide +kernel
theorem zt_l1561 : zchk zRUL 3 xBY zIN zCF [] zgl_l1519 20000 [(12, 2, 91), (21, 2, 90)] zc_l1561 = true := by decide +kernel
theorem zt_l1562 : zchk zRUL 3 xBY zIN zCF [] zgl_l1519 20000 [(12, 2, 91), (21, 2, 90)] zc_l1562 = true := by decide +kernel
theorem zt_l1563 : zchk zRUL 3 xBY zIN zCF [] zgl_l1519 20000 [(12, 2, 91), (21, 2, 90)] zc_l1563 = true := by decide +kernel
theorem zt_l1564 : zchk zRUL 3 xBY zIN zCF [] zgl_l1519 20000 [(12, 2, 91), (21, 2, 90)] zc_l1564 = true := by decide +kernel
theorem zt_l1565 : zchk zRUL 3 xBY zIN zCF [] zgl_l1519 20000 [(12, 2, 91), (21, 2, 90)] zc_l1565 = true := by decide +kernel
theorem zt_l1566 : zchk zRUL 3 xBY zIN zCF [] zgl_l1519 20000 [(12, 2, 91), (21, 2, 90)] zc_l1566 = true := by decide +kernel
theorem zga_l1519_2 : ∀ p ∈ zgh_l1519_2, zchk zRUL 3 xBY zIN zCF [] zgl_l1519 20000 p.2 p.1 = true := List.forall_mem_cons.mpr ⟨zt_l1551, List.forall_mem_cons.mpr ⟨zt_l1552, List.forall_mem_cons.mpr ⟨zt_l1553, List.forall_mem_cons.mpr ⟨zt_l1554, List.forall_mem_cons.mpr ⟨zt_l1555, List.forall_mem_cons.mpr ⟨zt_l1556, List.forall_mem_cons.mpr ⟨zt_l1557, List.forall_mem_cons.mpr ⟨zt_l1558, List.forall_mem_cons.mpr ⟨zt_l1559, List.forall_mem_cons.mpr ⟨zt_l1560, List.forall_mem_cons.mpr ⟨zt_l1561, List.forall_mem_cons.mpr ⟨zt_l1562, List.forall_mem_cons.mpr ⟨zt_l1563, List.forall_mem_cons.mpr ⟨zt_l1564, List.forall_mem_cons.mpr ⟨zt_l1565, List.forall_mem_cons.mpr ⟨zt_l1566, fun _ h => absurd h List.not_mem_nil⟩⟩⟩⟩⟩⟩⟩⟩⟩⟩⟩⟩⟩⟩⟩⟩
theorem zt_l1567 : zchk zRUL 3 xBY zIN zCF [] zgl_l1519 20000 [(12, 2, 91), (21, 2, 90)] zc_l1567 = true := by decide +kernel
theorem zt_l1568 : zchk zRUL 3 xBY zIN zCF [] zgl_l1519 20000 [(12, 2, 91), (21, 2, 90)] zc_l1568 = true := by decide +kernel
theorem zt_l1569 : zchk zRUL 3 xBY zIN zCF [] zgl_l1519 20000 [(12, 2, 91), (21, 2, 90)] zc_l1569 = true := by decide +kernel
theorem zt_l1570 : zchk zRUL 3 xBY zIN zCF [] zgl_l1519 20000 [(12, 2, 91), (21, 2, 90)] zc_l1570 = true := by decide +kernel
theorem zt_l1571 : zchk zRUL 3 xBY zIN zCF [] zgl_l1519 20000 [(12, 2, 91), (21, 2, 90)] zc_l1571 = true := by decide +kernel
theorem zt_l1572 : zchk zRUL 3 xBY zIN zCF [] zgl_l1519 20000 [(12, 2, 91), (21, 2, 90)] zc_l1572 = true := by decide +kernel
theorem zt_l1573 : zchk zRUL 3 xBY zIN zCF [] zgl_l1519 20000 [(12, 2, 91), (21, 2, 90)] zc_l1573 = true := by decide +kernel
theorem zt_l1574 : zchk zRUL 3 xBY zIN zCF [] zgl_l1519 20000 [(12, 2, 91), (21, 2, 90)] zc_l1574 = true := by decide +kernel
theorem zt_l1575 : zchk zRUL 3 xBY zIN zCF [] zgl_l1519 20000 [(12, 2, 91), (21, 2, 90)] zc_l1575 = true := by decide +kernel
theorem zt_l1576 : zchk zRUL 3 xBY zIN zCF [] zgl_l1519 20000 [(12, 2, 91), (21, 2, 90)] zc_l1576 = true := by decide +kernel
theorem zt_l1577 : zchk zRUL 3 xBY zIN zCF [] zgl_l1519 20000 [(12, 2, 91), (21, 2, 90)] zc_l1577 = true := by decide +kernel
theorem zt_l1578 : zchk zRUL 3 xBY zIN zCF [] zgl_l1519 20000 [(12, 2, 91), (21, 2, 90)] zc_l1578 = true := by decide +kernel
theorem zt_l1579 : zchk zRUL 3 xBY zIN zCF [] zgl_l1519 20000 [(12, 2, 91), (21, 2, 90)] zc_l1579 = true := by decide +kernel
theorem zt_l1580 : zchk zRUL 3 xBY zIN zCF [] zgl_l1519 20000 [(12, 2, 91), (21, 2, 90)] zc_l1580 = true := by decide +kernel
theorem zt_l1581 : zchk zRUL 3 xBY zIN zCF [] zgl_l1519 20000 [(12, 2, 91), (21, 2, 90)] zc_l1581 = true := by decide +kernel
theorem zt_l1582 : zchk zRUL 3 xBY zIN zCF [] zgl_l1519 20000 [(12, 2, 91), (21, 2, 90)] zc_l1582 = true := by decide +kernel
theorem zga_l1519_3 : ∀ p ∈ zgh_l1519_3, zchk zRUL 3 xBY zIN zCF [] zgl_l1519 20000 p.2 p.1 = true := List.forall_mem_cons.mpr ⟨zt_l1567, List.forall_mem_cons.mpr ⟨zt_l1568, List.forall_mem_cons.mpr ⟨zt_l1569, List.forall_mem_cons.mpr ⟨zt_l1570, List.forall_mem_cons.mpr ⟨zt_l1571, List.forall_mem_cons.mpr ⟨zt_l1572, List.forall_mem_cons.mpr ⟨zt_l1573, List.forall_mem_cons.mpr ⟨zt_l1574, List.forall_mem_cons.mpr ⟨zt_l1575, List.forall_mem_cons.mpr ⟨zt_l1576, List.forall_mem_cons.mpr ⟨zt_l1577, List.forall_mem_cons.mpr ⟨zt_l1578, List.forall_mem_cons.mpr ⟨zt_l1579, List.forall_mem_cons.mpr ⟨zt_l1580, List.forall_mem_cons.mpr ⟨zt_l1581, List.forall_mem_cons.mpr ⟨zt_l1582, fun _ h => absurd h List.not_mem_nil⟩⟩⟩⟩⟩⟩⟩⟩⟩⟩⟩⟩⟩⟩⟩⟩
theorem zt_l1583 : zchk zRUL 3 xBY zIN zCF [] zgl_l1519 20000 [(12, 2, 91), (21, 2, 90)] zc_l1583 = true := by decide +kernel
theorem zt_l1584 : zchk zRUL 3 xBY zIN zCF [] zgl_l1519 20000 [(12, 2, 91), (21, 2, 90)] zc_l1584 = true := by decide +kernel
theorem zt_l1585 : zchk zRUL 3 xBY zIN zCF [] zgl_l1519 20000 [(12, 2, 91), (21, 2, 90)] zc_l1585 = true := by decide +kernel
theorem zt_l1586 : zchk zRUL 3 xBY zIN zCF [] zgl_l1519 20000 [(12, 2, 91), (21, 2, 90)] zc_l1586 = true := by decide +kernel
theorem zt_l1587 : zchk zRUL 3 xBY zIN zCF [] zgl_l1519 20000 [(12, 2, 91), (21, 2, 90)] zc_l1587 = true := by decide +kernel
theorem zt_l1588 : zchk zRUL 3 xBY zIN zCF [] zgl_l1519 20000 [(12, 2, 91), (21, 2, 90)] zc_l1588 = true := by decide +kernel
theorem zt_l1589 : zchk zRUL 3 xBY zIN zCF [] zgl_l1519 20000 [(12, 2, 91), (21, 2, 90)] zc_l1589 = true := by decide +kernel
theorem zt_l1590 : zchk zRUL 3 xBY zIN zCF [] zgl_l1519 20000 [(12, 2, 91), (21, 2, 90)] zc_l1590 = true := by decide +kernel
theorem zt_l1591 : zchk zRUL 3 xBY zIN zCF [] zgl_l1519 20000 [(12, 2, 91), (21, 2, 90)] zc_l1591 = true := by decide +kernel
theorem zt_l1592 : zchk zRUL 3 xBY zIN zCF [] zgl_l1519 20000 [(12, 2, 91), (21, 2, 90)] zc_l1592 = true := by decide +kernel
theorem zt_l1593 : zchk zRUL 3 xBY zIN zCF [] zgl_l1519 20000 [(12, 2, 91), (21, 2, 90)] zc_l1593 = true := by decide +kernel
theorem zt_l1594 : zchk zRUL 3 xBY zIN zCF [] zgl_l1519 20000 [(12, 2, 91), (21, 2, 90)] zc_l1594 = true := by decide +kernel
theorem zt_l1595 : zchk zRUL 3 xBY zIN zCF [] zgl_l1519 20000 [(12, 2, 91), (21, 2, 90)] zc_l1595 = true := by decide +kernel
theorem zt_l1596 : zchk zRUL 3 xBY zIN zCF [] zgl_l1519 20000 [(12, 2, 91), (21, 2, 90)] zc_l1596 = true := by decide +kernel
theorem zt_l1597 : zchk zRUL 3 xBY zIN zCF [] zgl_l1519 20000 [(12, 2, 91), (21, 2, 90)] zc_l1597 = true := by decide +kernel
theorem zt_l1598 : zchk zRUL 3 xBY zIN zCF [] zgl_l1519 20000 [(12, 2, 91), (21, 2, 90)] zc_l1598 = true := by decide +kernel
theorem zga_l1519_4 : ∀ p ∈ zgh_l1519_4, zchk zRUL 3 xBY zIN zCF [] zgl_l1519 20000 p.2 p.1 = true := List.forall_mem_cons.mpr ⟨zt_l1583, List.forall_mem_cons.mpr ⟨zt_l1584, List.forall_mem_cons.mpr ⟨zt_l1585, List.forall_mem_cons.mpr ⟨zt_l1586, List.forall_mem_cons.mpr ⟨zt_l1587, List.forall_mem_cons.mpr ⟨zt_l1588, List.forall_mem_cons.mpr ⟨zt_l1589, List.forall_mem_cons.mpr ⟨zt_l1590, List.forall_mem_cons.mpr ⟨zt_l1591, List.forall_mem_cons.mpr ⟨zt_l1592, List.forall_mem_cons.mpr ⟨zt_l1593, List.forall_mem_cons.mpr ⟨zt_l1594, List.forall_mem_cons.mpr ⟨zt_l1595, List.forall_mem_cons.mpr ⟨zt_l1596, List.forall_mem_cons.mpr ⟨zt_l1597, List.forall_mem_cons.mpr ⟨zt_l1598, fun _ h => absurd h List.not_mem_nil⟩⟩⟩⟩⟩⟩⟩⟩⟩⟩⟩⟩⟩⟩⟩⟩
theorem zt_l1599 : zchk zRUL 3 xBY zIN zCF [] zgl_l1519 20000 [(12, 2, 91), (21, 2, 90)] zc_l1599 = true := by decide +kernel
theorem zt_l1600 : zchk zRUL 3 xBY zIN zCF [] zgl_l1519 20000 [(12, 2, 91), (21, 2, 90)] zc_l1600 = true := by decide +kernel
theorem zt_l1601 : zchk zRUL 3 xBY zIN zCF [] zgl_l1519 20000 [(12, 2, 91), (21, 2, 90)] zc_l1601 = true := by decide +kernel
theorem zt_l1602 : zchk zRUL 3 xBY zIN zCF [] zgl_l1519 20000 [(12, 2, 91), (21, 2, 90)] zc_l1602 = true := by decide +kernel
theorem zt_l1603 : zchk zRUL 3 xBY zIN zCF [] zgl_l1519 20000 [(12, 2, 91), (21, 2, 90)] zc_l1603 = true := by decide +kernel
theorem zt_l1604 : zchk zRUL 3 xBY zIN zCF [] zgl_l1519 20000 [(12, 2, 91), (21, 2, 90)] zc_l1604 = true := by decide +kernel
theorem zt_l1605 : zchk zRUL 3 xBY zIN zCF [] zgl_l1519 20000 [(12, 2, 91), (21, 2, 90)] zc_l1605 = true := by decide +kernel
theorem zt_l1606 : zchk zRUL 3 xBY zIN zCF [] zgl_l1519 20000 [(12, 2, 91), (21, 2, 90)] zc_l1606 = true := by decide +kernel
theorem zt_l1607 : zchk zRUL 3 xBY zIN zCF [] zgl_l1519 20000 [(12, 2, 91), (21, 2, 90)] zc_l1607 = true := by decide +kernel
theorem zt_l1608 : zchk zRUL 3 xBY zIN zCF [] zgl_l1519 20000 [(12, 2, 91), (21, 2, 90)] zc_l1608 = true := by decide +kernel
theorem zt_l1609 : zchk zRUL 3 xBY zIN zCF [] zgl_l1519 20000 [(12, 2, 91), (21, 2, 90)] zc_l1609 = true := by decide +kernel
theorem zt_l1610 : zchk zRUL 3 xBY zIN zCF [] zgl_l1519 20000 [(12, 2, 91), (21, 2, 90)] zc_l1610 = true := by decide +kernel
theorem zt_l1611 : zchk zRUL 3 xBY zIN zCF [] zgl_l1519 20000 [(12, 2, 91), (21, 2, 90)] zc_l1611 = true := by decide +kernel
theorem zt_l1612 : zchk zRUL 3 xBY zIN zCF [] zgl_l1519 20000 [(12, 2, 91), (21, 2, 90)] zc_l1612 = true := by decide +kernel
theorem zt_l1613 : zchk zRUL 3 xBY zIN zCF [] zgl_l1519 20000 [(12, 2, 91), (21, 2, 90)] zc_l1613 = true := by decide +kernel
theorem zt_l1614 : zchk zRUL 3 xBY zIN zCF [] zgl_l1519 20000 [(12, 2, 91), (21, 2, 90)] zc_l1614 = true := by decide +kernel
theorem zga_l1519_5 : ∀ p ∈ zgh_l1519_5, zchk zRUL 3 xBY zIN zCF [] zgl_l1519 20000 p.2 p.1 = true := List.forall_mem_cons.mpr ⟨zt_l1599, List.forall_mem_cons.mpr ⟨zt_l1600, List.forall_mem_cons.mpr ⟨zt_l1601, List.forall_mem_cons.mpr ⟨zt_l1602, List.forall_mem_cons.mpr ⟨zt_l1603, List.forall_mem_cons.mpr ⟨zt_l1604, List.forall_mem_cons.mpr ⟨zt_l1605, List.forall_mem_cons.mpr ⟨zt_l1606, List.forall_mem_cons.mpr ⟨zt_l1607, List.forall_mem_cons.mpr ⟨zt_l1608, List.forall_mem_cons.mpr ⟨zt_l1609, List.forall_mem_cons.mpr ⟨zt_l1610, List.forall_mem_cons.mpr ⟨zt_l1611, List.forall_mem_cons.mpr ⟨zt_l1612, List.forall_mem_cons.mpr ⟨zt_l1613, List.forall_mem_cons.mpr ⟨zt_l1614, fun _ h => absurd h List.not_mem_nil⟩⟩⟩⟩⟩⟩⟩⟩⟩⟩⟩⟩⟩⟩⟩⟩
theorem zt_l1615 : zchk zRUL 3 xBY zIN zCF [] zgl_l1519 20000 [(12, 2, 91), (21, 2, 90)] zc_l1615 = true := by decide +kernel
theorem zt_l1616 : zchk zRUL 3 xBY zIN zCF [] zgl_l1519 20000 [(12, 2, 91), (21, 2, 90)] zc_l1616 = true := by decide +kernel
theorem zt_l1617 : zchk zRUL 3 xBY zIN zCF [] zgl_l1519 20000 [(12, 2, 91), (21, 2, 90)] zc_l1617 = true := by decide +kernel
theorem zt_l1618 : zchk zRUL 3 xBY zIN zCF [] zgl_l1519 20000 [(12, 2, 91), (21, 2, 90)] zc_l1618 = true := by decide +kernel
theorem zt_l1619 : zchk zRUL 3 xBY zIN zCF [] zgl_l1519 20000 [(12, 2, 91), (21, 2, 90)] zc_l1619 = true := by decide +kernel
theorem zga_l1519_6 : ∀ p ∈ zgh_l1519_6, zchk zRUL 3 xBY zIN zCF [] zgl_l1519 20000 p.2 p.1 = true := List.forall_mem_cons.mpr ⟨zt_l1615, List.forall_mem_cons.mpr ⟨zt_l1616, List.forall_mem_cons.mpr ⟨zt_l1617, List.forall_mem_cons.mpr ⟨zt_l1618, List.forall_mem_cons.mpr ⟨zt_l1619, fun _ h => absurd h List.not_mem_nil⟩⟩⟩⟩⟩
theorem zk_l1519 {g : yG} {J : zJp} (hy : zHy g J) : zCok g zCF J zc_l1519 := zgp2 hy (CT := []) (fun _ h => absurd h List.not_mem_nil) (fuel := 20000) (L := zgh_l1519_0 ++ (zgh_l1519_1 ++ (zgh_l1519_2 ++ (zgh_l1519_3 ++ (zgh_l1519_4 ++ (zgh_l1519_5 ++ (zgh_l1519_6))))))) zge_l1519 (List.forall_mem_append.mpr ⟨zga_l1519_0, List.forall_mem_append.mpr ⟨zga_l1519_1, List.forall_mem_append.mpr ⟨zga_l1519_2, List.forall_mem_append.mpr ⟨zga_l1519_3, List.forall_mem_append.mpr ⟨zga_l1519_4, List.forall_mem_append.mpr ⟨zga_l1519_5, zga_l1519_6⟩⟩⟩⟩⟩⟩) (zc_l1519, [(12, 3, 92), (12, 3, 93), (5, 0, 0), (5, 1, 0)]) (List.mem_append_left _ List.mem_cons_self)
/-- GridLawsModel.later, row 0 -/
def zc_l1620 : zC := (287, 0, 1, [(3, 88, .ofNat 0), (1, 0, .ofNat 0)], ([(88, (0, 0, .ofNat 28), (1, 1, .ofNat 0)), (1049, (1, 0, .ofNat 0), (0, 0, .ofNat 0))], []), [(.ofNat 500, .ofNat 599, 0, .ofNat 0), (.ofNat 0, .ofNat 100000, 0, .ofNat 0)], [], [(some (0, 0, .negSucc 0), ([], []), [(.ofNat 500, .ofNat 599, 0, .ofNat 0), (.ofNat 0, .ofNat 100000, 0, .ofNat 0)])], [(false, (0, 0, .ofNat 1))])
/-- GridLawsModel.later, row 5 -/
def zc_l1621 : zC := (287, 5, 1, [(3, 88, .ofNat 0), (0, 0, .ofNat 500)], ([(88, (0, 0, .ofNat 28), (1, 0, .ofNat 0)), (1049, (0, 0, .ofNat 500), (0, 0, .ofNat 0))], []), [(.ofNat 0, .ofNat 100000, 0, .ofNat 0)], [], [(some (0, 0, .negSucc 0), ([], []), [(.ofNat 0, .ofNat 100000, 0, .ofNat 0)])], [(false, (0, 0, .ofNat 0))])
/-- GridLawsModel.later, row 5 -/
def zc_l1622 : zC := (287, 5, 1, [(3, 88, .ofNat 0), (0, 0, .ofNat 501)], ([(88, (0, 0, .ofNat 28), (1, 0, .ofNat 0)), (1049, (0, 0, .ofNat 501), (0, 0, .ofNat 0))], []), [(.ofNat 0, .ofNat 100000, 0, .ofNat 0)], [], [(some (0, 0, .negSucc 0), ([], []), [(.ofNat 0, .ofNat 100000, 0, .ofNat 0)])], [(false, (0, 0, .ofNat 0))])
/-- GridLawsModel.later, row 5 -/
def zc_l1623 : zC := (287, 5, 1, [(3, 88, .ofNat 0), (0, 0, .ofNat 502)], ([(88, (0, 0, .ofNat 28), (1, 0, .ofNat 0)), (1049, (0, 0, .ofNat 502), (0, 0, .ofNat 0))], []), [(.ofNat 0, .ofNat 100000, 0, .ofNat 0)], [], [(some (0, 0, .negSucc 0), ([], []), [(.ofNat 0, .ofNat 100000, 0, .ofNat 0)])], [(false, (0, 0, .ofNat 0))])
/-- GridLawsModel.later, row 5 -/
def zc_l1624 : zC := (287, 5, 1, [(3, 88, .ofNat 0), (0, 0, .ofNat 503)], ([(88, (0, 0, .ofNat 28), (1, 0, .ofNat 0)), (1049, (0, 0, .ofNat 503), (0, 0, .ofNat 0))], []), [(.ofNat 0, .ofNat 100000, 0, .ofNat 0)], [], [(some (0, 0, .negSucc 0), ([], []), [(.ofNat 0, .ofNat 100000, 0, .ofNat 0)])], [(false, (0, 0, .ofNat 0))])
/-- GridLawsModel.later, row 5 -/
def zc_l1625 : zC := (287, 5, 1, [(3, 88, .ofNat 0), (0, 0, .ofNat 504)], ([(88, (0, 0, .ofNat 28), (1, 0, .ofNat 0)), (1049, (0, 0, .ofNat 504), (0, 0, .ofNat 0))], []), [(.ofNat 0, .ofNat 100000, 0, .ofNat 0)], [], [(some (0, 0, .negSucc 0), ([], []), [(.ofNat 0, .ofNat 100000, 0, .ofNat 0)])], [(false, (0, 0, .ofNat 0))])
/-- GridLawsModel.later, row 5 -/
def zc_l1626 : zC := (287, 5, 1, [(3, 88, .ofNat 0), (0, 0, .ofNat 505)], ([(88, (0, 0, .ofNat 28), (1, 0, .ofNat 0)), (1049, (0, 0, .ofNat 505), (0, 0, .ofNat 0))], []), [(.ofNat 0, .ofNat 100000, 0, .ofNat 0)], [], [(some (0, 0, .negSucc 0), ([], []), [(.ofNat 0, .ofNat 100000, 0, .ofNat 0)])], [(false, (0, 0, .ofNat 0))])
/-- GridLawsModel.later, row 5 -/
def zc_l1627 : zC := (287, 5, 1, [(3, 88, .ofNat 0), (0, 0, .ofNat 506)], ([(88, (0, 0, .ofNat 28), (1, 0, .ofNat 0)), (1049, (0, 0, .ofNat 506), (0, 0, .ofNat 0))], []), [(.ofNat 0, .ofNat 100000, 0, .ofNat 0)], [], [(some (0, 0, .negSucc 0), ([], []), [(.ofNat 0, .ofNat 100000, 0, .ofNat 0)])], [(false, (0, 0, .ofNat 0))])
/-- GridLawsModel.later, row 5 -/
def zc_l1628 : zC := (287, 5, 1, [(3, 88, .ofNat 0), (0, 0, .ofNat 507)], ([(88, (0, 0, .ofNat 28), (1, 0, .ofNat 0)), (1049, (0, 0, .ofNat 507), (0, 0, .ofNat 0))], []), [(.ofNat 0, .ofNat 100000, 0, .ofNat 0)], [], [(some (0, 0, .negSucc 0), ([], []), [(.ofNat 0, .ofNat 100000, 0, .ofNat 0)])], [(false, (0, 0, .ofNat 0))])
/-- GridLawsModel.later, row 5 -/
def zc_l1629 : zC := (287, 5, 1, [(3, 88, .ofNat 0), (0, 0, .ofNat 508)], ([(88, (0, 0, .ofNat 28), (1, 0, .ofNat 0)), (1049, (0, 0, .ofNat 508), (0, 0, .ofNat 0))], []), [(.ofNat 0, .ofNat 100000, 0, .ofNat 0)], [], [(some (0, 0, .negSucc 0), ([], []), [(.ofNat 0, .ofNat 100000, 0, .ofNat 0)])], [(false, (0, 0, .ofNat 0))])
/-- GridLawsModel.later, row 5 -/
def zc_l1630 : zC := (287, 5, 1, [(3, 88, .ofNat 0), (0, 0, .ofNat 509)], ([(88, (0, 0, .ofNat 28), (1, 0, .ofNat 0)), (1049, (0, 0, .ofNat 509), (0, 0, .ofNat 0))], []), [(.ofNat 0, .ofNat 100000, 0, .ofNat 0)], [], [(some (0, 0, .negSucc 0), ([], []), [(.ofNat 0, .ofNat 100000, 0, .ofNat 0)])], [(false, (0, 0, .ofNat 0))])
/-- GridLawsModel.later, row 5 -/
def zc_l1631 : zC := (287, 5, 1, [(3, 88, .ofNat 0), (0, 0, .ofNat 510)], ([(88, (0, 0, .ofNat 28), (1, 0, .ofNat 0)), (1049, (0, 0, .ofNat 510), (0, 0, .ofNat 0))], []), [(.ofNat 0, .ofNat 100000, 0, .ofNat 0)], [], [(some (0, 0, .negSucc 0), ([], []), [(.ofNat 0, .ofNat 100000, 0, .ofNat 0)])], [(false, (0, 0, .ofNat 0))])
/-- GridLawsModel.later, row 5 -/
def zc_l1632 : zC := (287, 5, 1, [(3, 88, .ofNat 0), (0, 0, .ofNat 511)], ([(88, (0, 0, .ofNat 28), (1, 0, .ofNat 0)), (1049, (0, 0, .ofNat 511), (0, 0, .ofNat 0))], []), [(.ofNat 0, .ofNat 100000, 0, .ofNat 0)], [], [(some (0, 0, .negSucc 0), ([], []), [(.ofNat 0, .ofNat 100000, 0, .ofNat 0)])], [(false, (0, 0, .ofNat 0))])
/-- GridLawsModel.later, row 5 -/
def zc_l1633 : zC := (287, 5, 1, [(3, 88, .ofNat 0), (0, 0, .ofNat 512)], ([(88, (0, 0, .ofNat 28), (1, 0, .ofNat 0)), (1049, (0, 0, .ofNat 512), (0, 0, .ofNat 0))], []), [(.ofNat 0, .ofNat 100000, 0, .ofNat 0)], [], [(some (0, 0, .negSucc 0), ([], []), [(.ofNat 0, .ofNat 100000, 0, .ofNat 0)])], [(false, (0, 0, .ofNat 0))])
/-- GridLawsModel.later, row 5 -/
def zc_l1634 : zC := (287, 5, 1, [(3, 88, .ofNat 0), (0, 0, .ofNat 513)], ([(88, (0, 0, .ofNat 28), (1, 0, .ofNat 0)), (1049, (0, 0, .ofNat 513), (0, 0, .ofNat 0))], []), [(.ofNat 0, .ofNat 100000, 0, .ofNat 0)], [], [(some (0, 0, .negSucc 0), ([], []), [(.ofNat 0, .ofNat 100000, 0, .ofNat 0)])], [(false, (0, 0, .ofNat 0))])
/-- GridLawsModel.later, row 5 -/
def zc_l1635 : zC := (287, 5, 1, [(3, 88, .ofNat 0), (0, 0, .ofNat 514)], ([(88, (0, 0, .ofNat 28), (1, 0, .ofNat 0)), (1049, (0, 0, .ofNat 514), (0, 0, .ofNat 0))], []), [(.ofNat 0, .ofNat 100000, 0, .ofNat 0)], [], [(some (0, 0, .negSucc 0), ([], []), [(.ofNat 0, .ofNat 100000, 0, .ofNat 0)])], [(false, (0, 0, .ofNat 0))])
/-- GridLawsModel.later, row 5 -/
def zc_l1636 : zC := (287, 5, 1, [(3, 88, .ofNat 0), (0, 0, .ofNat 515)], ([(88, (0, 0, .ofNat 28), (1, 0, .ofNat 0)), (1049, (0, 0, .ofNat 515), (0, 0, .ofNat 0))], []), [(.ofNat 0, .ofNat 100000, 0, .ofNat 0)], [], [(some (0, 0, .negSucc 0), ([], []), [(.ofNat 0, .ofNat 100000, 0, .ofNat 0)])], [(false, (0, 0, .ofNat 0))])
/-- GridLawsModel.later, row 5 -/
def zc_l1637 : zC := (287, 5, 1, [(3, 88, .ofNat 0), (0, 0, .ofNat 516)], ([(88, (0, 0, .ofNat 28), (1, 0, .ofNat 0)), (1049, (0, 0, .ofNat 516), (0, 0, .ofNat 0))], []), [(.ofNat 0, .ofNat 100000, 0, .ofNat 0)], [], [(some (0, 0, .negSucc 0), ([], []), [(.ofNat 0, .ofNat 100000, 0, .ofNat 0)])], [(false, (0, 0, .ofNat 0))])
/-- GridLawsModel.later, row 5 -/
def zc_l1638 : zC := (287, 5, 1, [(3, 88, .ofNat 0), (0, 0, .ofNat 517)], ([(88, (0, 0, .ofNat 28), (1, 0, .ofNat 0)), (1049, (0, 0, .ofNat 517), (0, 0, .ofNat 0))], []), [(.ofNat 0, .ofNat 100000, 0, .ofNat 0)], [], [(some (0, 0, .negSucc 0), ([], []), [(.ofNat 0, .ofNat 100000, 0, .ofNat 0)])], [(false, (0, 0, .ofNat 0))])
/-- GridLawsModel.later, row 5 -/
def zc_l1639 : zC := (287, 5, 1, [(3, 88, .ofNat 0), (0, 0, .ofNat 518)], ([(88, (0, 0, .ofNat 28), (1, 0, .ofNat 0)), (1049, (0, 0, .ofNat 518), (0, 0, .ofNat 0))], []), [(.ofNat 0, .ofNat 100000, 0, .ofNat 0)], [], [(some (0, 0, .negSucc 0), ([], []), [(.ofNat 0, .ofNat 100000, 0, .ofNat 0)])], [(false, (0, 0, .ofNat 0))])
/-- GridLawsModel.later, row 5 -/
def zc_l1640 : zC := (287, 5, 1, [(3, 88, .ofNat 0), (0, 0, .ofNat 519)], ([(88, (0, 0, .ofNat 28), (1, 0, .ofNat 0)), (1049, (0, 0, .ofNat 519), (0, 0, .ofNat 0))], []), [(.ofNat 0, .ofNat 100000, 0, .ofNat 0)], [], [(some (0, 0, .negSucc 0), ([], []), [(.ofNat 0, .ofNat 100000, 0, .ofNat 0)])], [(false, (0, 0, .ofNat 0))])
/-- GridLawsModel.later, row 5 -/
def zc_l1641 : zC := (287, 5, 1, [(3, 88, .ofNat 0), (0, 0, .ofNat 520)], ([(88, (0, 0, .ofNat 28), (1, 0, .ofNat 0)), (1049, (0, 0, .ofNat 520), (0, 0, .ofNat 0))], []), [(.ofNat 0, .ofNat 100000, 0, .ofNat 0)], [], [(some (0, 0, .negSucc 0), ([], []), [(.ofNat 0, .ofNat 100000, 0, .ofNat 0)])], [(false, (0, 0, .ofNat 0))])
/-- GridLawsModel.later, row 5 -/
def zc_l1642 : zC := (287, 5, 1, [(3, 88, .ofNat 0), (0, 0, .ofNat 521)], ([(88, (0, 0, .ofNat 28), (1, 0, .ofNat 0)), (1049, (0, 0, .ofNat 521), (0, 0, .ofNat 0))], []), [(.ofNat 0, .ofNat 100000, 0, .ofNat 0)], [], [(some (0, 0, .negSucc 0), ([], []), [(.ofNat 0, .ofNat 100000, 0, .ofNat 0)])], [(false, (0, 0, .ofNat 0))])
/-- GridLawsModel.later, row 5 -/
def zc_l1643 : zC := (287, 5, 1, [(3, 88, .ofNat 0), (0, 0, .ofNat 522)], ([(88, (0, 0, .ofNat 28), (1, 0, .ofNat 0)), (1049, (0, 0, .ofNat 522), (0, 0, .ofNat 0))], []), [(.ofNat 0, .ofNat 100000, 0, .ofNat 0)], [], [(some (0, 0, .negSucc 0), ([], []), [(.ofNat 0, .ofNat 100000, 0, .ofNat 0)])], [(false, (0, 0, .ofNat 0))])
/-- GridLawsModel.later, row 5 -/
def zc_l1644 : zC := (287, 5, 1, [(3, 88, .ofNat 0), (0, 0, .ofNat 523)], ([(88, (0, 0, .ofNat 28), (1, 0, .ofNat 0)), (1049, (0, 0, .ofNat 523), (0, 0, .ofNat 0))], []), [(.ofNat 0, .ofNat 100000, 0, .ofNat 0)], [], [(some (0, 0, .negSucc 0), ([], []), [(.ofNat 0, .ofNat 100000, 0, .ofNat 0)])], [(false, (0, 0, .ofNat 0))])
/-- GridLawsModel.later, row 5 -/
def zc_l1645 : zC := (287, 5, 1, [(3, 88, .ofNat 0), (0, 0, .ofNat 524)], ([(88, (0, 0, .ofNat 28), (1, 0, .ofNat 0)), (1049, (0, 0, .ofNat 524), (0, 0, .ofNat 0))], []), [(.ofNat 0, .ofNat 100000, 0, .ofNat 0)], [], [(some (0, 0, .negSucc 0), ([], []), [(.ofNat 0, .ofNat 100000, 0, .ofNat 0)])], [(false, (0, 0, .ofNat 0))])
/-- GridLawsModel.later, row 5 -/
def zc_l1646 : zC := (287, 5, 1, [(3, 88, .ofNat 0), (0, 0, .ofNat 525)], ([(88, (0, 0, .ofNat 28), (1, 0, .ofNat 0)), (1049, (0, 0, .ofNat 525), (0, 0, .ofNat 0))], []), [(.ofNat 0, .ofNat 100000, 0, .ofNat 0)], [], [(some (0, 0, .negSucc 0), ([], []), [(.ofNat 0, .ofNat 100000, 0, .ofNat 0)])], [(false, (0, 0, .ofNat 0))])
/-- GridLawsModel.later, row 5 -/
def zc_l1647 : zC := (287, 5, 1, [(3, 88, .ofNat 0), (0, 0, .ofNat 526)], ([(88, (0, 0, .ofNat 28), (1, 0, .ofNat 0)), (1049, (0, 0, .ofNat 526), (0, 0, .ofNat 0))], []), [(.ofNat 0, .ofNat 100000, 0, .ofNat 0)], [], [(some (0, 0, .negSucc 0), ([], []), [(.ofNat 0, .ofNat 100000, 0, .ofNat 0)])], [(false, (0, 0, .ofNat 0))])
/-- GridLawsModel.later, row 5 -/
def zc_l1648 : zC := (287, 5, 1, [(3, 88, .ofNat 0), (0, 0, .ofNat 527)], ([(88, (0, 0, .ofNat 28), (1, 0, .ofNat 0)), (1049, (0, 0, .ofNat 527), (0, 0, .ofNat 0))], []), [(.ofNat 0, .ofNat 100000, 0, .ofNat 0)], [], [(some (0, 0, .negSucc 0), ([], []), [(.ofNat 0, .ofNat 100000, 0, .ofNat 0)])], [(false, (0, 0, .ofNat 0))])
/-- GridLawsModel.later, row 5 -/
def zc_l1649 : zC := (287, 5, 1, [(3, 88, .ofNat 0), (0, 0, .ofNat 528)], ([(88, (0, 0, .ofNat 28), (1, 0, .ofNat 0)), (1049, (0, 0, .ofNat 528), (0, 0, .ofNat 0))], []), [(.ofNat 0, .ofNat 100000, 0, .ofNat 0)], [], [(some (0, 0, .negSucc 0), ([], []), [(.ofNat 0, .ofNat 100000, 0, .ofNat 0)])], [(false, (0, 0, .ofNat 0))])
/-- GridLawsModel.later, row 5 -/
def zc_l1650 : zC := (287, 5, 1, [(3, 88, .ofNat 0), (0, 0, .ofNat 529)], ([(88, (0, 0, .ofNat 28), (1, 0, .ofNat 0)), (1049, (0, 0, .ofNat 529), (0, 0, .ofNat 0))], []), [(.ofNat 0, .ofNat 100000, 0, .ofNat 0)], [], [(some (0, 0, .negSucc 0), ([], []), [(.ofNat 0, .ofNat 100000, 0, .ofNat 0)])], [(false, (0, 0, .ofNat 0))])
/-- GridLawsModel.later, row 5 -/
def zc_l1651 : zC := (287, 5, 1, [(3, 88, .ofNat 0), (0, 0, .ofNat 530)], ([(88, (0, 0, .ofNat 28), (1, 0, .ofNat 0)), (1049, (0, 0, .ofNat 530), (0, 0, .ofNat 0))], []), [(.ofNat 0, .ofNat 100000, 0, .ofNat 0)], [], [(some (0, 0, .negSucc 0), ([], []), [(.ofNat 0, .ofNat 100000, 0, .ofNat 0)])], [(false, (0, 0, .ofNat 0))])
/-- GridLawsModel.later, row 5 -/
def zc_l1652 : zC := (287, 5, 1, [(3, 88, .ofNat 0), (0, 0, .ofNat 531)], ([(88, (0, 0, .ofNat 28), (1, 0, .ofNat 0)), (1049, (0, 0, .ofNat 531), (0, 0, .ofNat 0))], []), [(.ofNat 0, .ofNat 100000, 0, .ofNat 0)], [], [(some (0, 0, .negSucc 0), ([], []), [(.ofNat 0, .ofNat 100000, 0, .ofNat 0)])], [(false, (0, 0, .ofNat 0))])
/-- GridLawsModel.later, row 5 -/
def zc_l1653 : zC := (287, 5, 1, [(3, 88, .ofNat 0), (0, 0, .ofNat 532)], ([(88, (0, 0, .ofNat 28), (1, 0, .ofNat 0)), (1049, (0, 0, .ofNat 532), (0, 0, .ofNat 0))], []), [(.ofNat 0, .ofNat 100000, 0, .ofNat 0)], [], [(some (0, 0, .negSucc 0), ([], []), [(.ofNat 0, .ofNat 100000, 0, .ofNat 0)])], [(false, (0, 0, .ofNat 0))])
/-- GridLawsModel.later, row 5 -/
def zc_l1654 : zC := (287, 5, 1, [(3, 88, .ofNat 0), (0, 0, .ofNat 533)], ([(88, (0, 0, .ofNat 28), (1, 0, .ofNat 0)), (1049, (0, 0, .ofNat 533), (0, 0, .ofNat 0))], []), [(.ofNat 0, .ofNat 100000, 0, .ofNat 0)], [], [(some (0, 0, .negSucc 0), ([], []), [(.ofNat 0, .ofNat 100000, 0, .ofNat 0)])], [(false, (0, 0, .ofNat 0))])
/-- GridLawsModel.later, row 5 -/
def zc_l1655 : zC := (287, 5, 1, [(3, 88, .ofNat 0), (0, 0, .ofNat 534)], ([(88, (0, 0, .ofNat 28), (1, 0, .ofNat 0)), (1049, (0, 0, .ofNat 534), (0, 0, .ofNat 0))], []), [(.ofNat 0, .ofNat 100000, 0, .ofNat 0)], [], [(some (0, 0, .negSucc 0), ([], []), [(.ofNat 0, .ofNat 100000, 0, .ofNat 0)])], [(false, (0, 0, .ofNat 0))])
/-- GridLawsModel.later, row 5 -/
def zc_l1656 : zC := (287, 5, 1, [(3, 88, .ofNat 0), (0, 0, .ofNat 535)], ([(88, (0, 0, .ofNat 28), (1, 0, .ofNat 0)), (1049, (0, 0, .ofNat 535), (0, 0, .ofNat 0))], []), [(.ofNat 0, .ofNat 100000, 0, .ofNat 0)], [], [(some (0, 0, .negSucc 0), ([], []), [(.ofNat 0, .ofNat 100000, 0, .ofNat 0)])], [(false, (0, 0, .ofNat 0))])
/-- GridLawsModel.later, row 5 -/
def zc_l1657 : zC := (287, 5, 1, [(3, 88, .ofNat 0), (0, 0, .ofNat 536)], ([(88, (0, 0, .ofNat 28), (1, 0, .ofNat 0)), (1049, (0, 0, .ofNat 536), (0, 0, .ofNat 0))], []), [(.ofNat 0, .ofNat 100000, 0, .ofNat 0)], [], [(some (0, 0, .negSucc 0), ([], []), [(.ofNat 0, .ofNat 100000, 0, .ofNat 0)])], [(false, (0, 0, .ofNat 0))])
/-- GridLawsModel.later, row 5 -/
def zc_l1658 : zC := (287, 5, 1, [(3, 88, .ofNat 0), (0, 0, .ofNat 537)], ([(88, (0, 0, .ofNat 28), (1, 0, .ofNat 0)), (1049, (0, 0, .ofNat 537), (0, 0, .ofNat 0))], []), [(.ofNat 0, .ofNat 100000, 0, .ofNat 0)], [], [(some (0, 0, .negSucc 0), ([], []), [(.ofNat 0, .ofNat 100000, 0, .ofNat 0)])], [(false, (0, 0, .ofNat 0))])
/-- GridLawsModel.later, row 5 -/
def zc_l1659 : zC := (287, 5, 1, [(3, 88, .ofNat 0), (0, 0, .ofNat 538)], ([(88, (0, 0, .ofNat 28), (1, 0, .ofNat 0)), (1049, (0, 0, .ofNat 538), (0, 0, .ofNat 0))], []), [(.ofNat 0, .ofNat 100000, 0, .ofNat 0)], [], [(some (0, 0, .negSucc 0), ([], []), [(.ofNat 0, .ofNat 100000, 0, .ofNat 0)])], [(false, (0, 0, .ofNat 0))])
/-- GridLawsModel.later, row 5 -/
def zc_l1660 : zC := (287, 5, 1, [(3, 88, .ofNat 0), (0, 0, .ofNat 539)], ([(88, (0, 0, .ofNat 28), (1, 0, .ofNat 0)), (1049, (0, 0, .ofNat 539), (0, 0, .ofNat 0))], []), [(.ofNat 0, .ofNat 100000, 0, .ofNat 0)], [], [(some (0, 0, .negSucc 0), ([], []), [(.ofNat 0, .ofNat 100000, 0, .ofNat 0)])], [(false, (0, 0, .ofNat 0))])
/-- GridLawsModel.later, row 5 -/
def zc_l1661 : zC := (287, 5, 1, [(3, 88, .ofNat 0), (0, 0, .ofNat 540)], ([(88, (0, 0, .ofNat 28), (1, 0, .ofNat 0)), (1049, (0, 0, .ofNat 540), (0, 0, .ofNat 0))], []), [(.ofNat 0, .ofNat 100000, 0, .ofNat 0)], [], [(some (0, 0, .negSucc 0), ([], []), [(.ofNat 0, .ofNat 100000, 0, .ofNat 0)])], [(false, (0, 0, .ofNat 0))])
/-- GridLawsModel.later, row 5 -/
def zc_l1662 : zC := (287, 5, 1, [(3, 88, .ofNat 0), (0, 0, .ofNat 541)], ([(88, (0, 0, .ofNat 28), (1, 0, .ofNat 0)), (1049, (0, 0, .ofNat 541), (0, 0, .ofNat 0))], []), [(.ofNat 0, .ofNat 100000, 0, .ofNat 0)], [], [(some (0, 0, .negSucc 0), ([], []), [(.ofNat 0, .ofNat 100000, 0, .ofNat 0)])], [(false, (0, 0, .ofNat 0))])
/-- GridLawsModel.later, row 5 -/
def zc_l1663 : zC := (287, 5, 1, [(3, 88, .ofNat 0), (0, 0, .ofNat 542)], ([(88, (0, 0, .ofNat 28), (1, 0, .ofNat 0)), (1049, (0, 0, .ofNat 542), (0, 0, .ofNat 0))], []), [(.ofNat 0, .ofNat 100000, 0, .ofNat 0)], [], [(some (0, 0, .negSucc 0), ([], []), [(.ofNat 0, .ofNat 100000, 0, .ofNat 0)])], [(false, (0, 0, .ofNat 0))])
/-- GridLawsModel.later, row 5 -/
def zc_l1664 : zC := (287, 5, 1, [(3, 88, .ofNat 0), (0, 0, .ofNat 543)], ([(88, (0, 0, .ofNat 28), (1, 0, .ofNat 0)), (1049, (0, 0, .ofNat 543), (0, 0, .ofNat 0))], []), [(.ofNat 0, .ofNat 100000, 0, .ofNat 0)], [], [(some (0, 0, .negSucc 0), ([], []), [(.ofNat 0, .ofNat 100000, 0, .ofNat 0)])], [(false, (0, 0, .ofNat 0))])
/-- GridLawsModel.later, row 5 -/
def zc_l1665 : zC := (287, 5, 1, [(3, 88, .ofNat 0), (0, 0, .ofNat 544)], ([(88, (0, 0, .ofNat 28), (1, 0, .ofNat 0)), (1049, (0, 0, .ofNat 544), (0, 0, .ofNat 0))], []), [(.ofNat 0, .ofNat 100000, 0, .ofNat 0)], [], [(some (0, 0, .negSucc 0), ([], []), [(.ofNat 0, .ofNat 100000, 0, .ofNat 0)])], [(false, (0, 0, .ofNat 0))])
/-- GridLawsModel.later, row 5 -/
def zc_l1666 : zC := (287, 5, 1, [(3, 88, .ofNat 0), (0, 0, .ofNat 545)], ([(88, (0, 0, .ofNat 28), (1, 0, .ofNat 0)), (1049, (0, 0, .ofNat 545), (0, 0, .ofNat 0))], []), [(.ofNat 0, .ofNat 100000, 0, .ofNat 0)], [], [(some (0, 0, .negSucc 0), ([], []), [(.ofNat 0, .ofNat 100000, 0, .ofNat 0)])], [(false, (0, 0, .ofNat 0))])
/-- GridLawsModel.later, row 5 -/
def zc_l1667 : zC := (287, 5, 1, [(3, 88, .ofNat 0), (0, 0, .ofNat 546)], ([(88, (0, 0, .ofNat 28), (1, 0, .ofNat 0)), (1049, (0, 0, .ofNat 546), (0, 0, .ofNat 0))], []), [(.ofNat 0, .ofNat 100000, 0, .ofNat 0)], [], [(some (0, 0, .negSucc 0), ([], []), [(.ofNat 0, .ofNat 100000, 0, .ofNat 0)])], [(false, (0, 0, .ofNat 0))])
/-- GridLawsModel.later, row 5 -/
def zc_l1668 : zC := (287, 5, 1, [(3, 88, .ofNat 0), (0, 0, .ofNat 547)], ([(88, (0, 0, .ofNat 28), (1, 0, .ofNat 0)), (1049, (0, 0, .ofNat 547), (0, 0, .ofNat 0))], []), [(.ofNat 0, .ofNat 100000, 0, .ofNat 0)], [], [(some (0, 0, .negSucc 0), ([], []), [(.ofNat 0, .ofNat 100000, 0, .ofNat 0)])], [(false, (0, 0, .ofNat 0))])
/-- GridLawsModel.later, row 5 -/
def zc_l1669 : zC := (287, 5, 1, [(3, 88, .ofNat 0), (0, 0, .ofNat 548)], ([(88, (0, 0, .ofNat 28), (1, 0, .ofNat 0)), (1049, (0, 0, .ofNat 548), (0, 0, .ofNat 0))], []), [(.ofNat 0, .ofNat 100000, 0, .ofNat 0)], [], [(some (0, 0, .negSucc 0), ([], []), [(.ofNat 0, .ofNat 100000, 0, .ofNat 0)])], [(false, (0, 0, .ofNat 0))])
/-- GridLawsModel.later, row 5 -/
def zc_l1670 : zC := (287, 5, 1, [(3, 88, .ofNat 0), (0, 0, .ofNat 549)], ([(88, (0, 0, .ofNat 28), (1, 0, .ofNat 0)), (1049, (0, 0, .ofNat 549), (0, 0, .ofNat 0))], []), [(.ofNat 0, .ofNat 100000, 0, .ofNat 0)], [], [(some (0, 0, .negSucc 0), ([], []), [(.ofNat 0, .ofNat 100000, 0, .ofNat 0)])], [(false, (0, 0, .ofNat 0))])
/-- GridLawsModel.later, row 5 -/
def zc_l1671 : zC := (287, 5, 1, [(3, 88, .ofNat 0), (0, 0, .ofNat 550)], ([(88, (0, 0, .ofNat 28), (1, 0, .ofNat 0)), (1049, (0, 0, .ofNat 550), (0, 0, .ofNat 0))], []), [(.ofNat 0, .ofNat 100000, 0, .ofNat 0)], [], [(some (0, 0, .negSucc 0), ([], []), [(.ofNat 0, .ofNat 100000, 0, .ofNat 0)])], [(false, (0, 0, .ofNat 0))])
/-- GridLawsModel.later, row 5 -/
def zc_l1672 : zC := (287, 5, 1, [(3, 88, .ofNat 0), (0, 0, .ofNat 551)], ([(88, (0, 0, .ofNat 28), (1, 0, .ofNat 0)), (1049, (0, 0, .ofNat 551), (0, 0, .ofNat 0))], []), [(.ofNat 0, .ofNat 100000, 0, .ofNat 0)], [], [(some (0, 0, .negSucc 0), ([], []), [(.ofNat 0, .ofNat 100000, 0, .ofNat 0)])], [(false, (0, 0, .ofNat 0))])
/-- GridLawsModel.later, row 5 -/
def zc_l1673 : zC := (287, 5, 1, [(3, 88, .ofNat 0), (0, 0, .ofNat 552)], ([(88, (0, 0, .ofNat 28), (1, 0, .ofNat 0)), (1049, (0, 0, .ofNat 552), (0, 0, .ofNat 0))], []), [(.ofNat 0, .ofNat 100000, 0, .ofNat 0)], [], [(some (0, 0, .negSucc 0), ([], []), [(.ofNat 0, .ofNat 100000, 0, .ofNat 0)])], [(false, (0, 0, .ofNat 0))])
/-- GridLawsModel.later, row 5 -/
def zc_l1674 : zC := (287, 5, 1, [(3, 88, .ofNat 0), (0, 0, .ofNat 553)], ([(88, (0, 0, .ofNat 28), (1, 0, .ofNat 0)), (1049, (0, 0, .ofNat 553), (0, 0, .ofNat 0))], []), [(.ofNat 0, .ofNat 100000, 0, .ofNat 0)], [], [(some (0, 0, .negSucc 0), ([], []), [(.ofNat 0, .ofNat 100000, 0, .ofNat 0)])], [(false, (0, 0, .ofNat 0))])
/-- GridLawsModel.later, row 5 -/
def zc_l1675 : zC := (287, 5, 1, [(3, 88, .ofNat 0), (0, 0, .ofNat 554)], ([(88, (0, 0, .ofNat 28), (1, 0, .ofNat 0)), (1049, (0, 0, .ofNat 554), (0, 0, .ofNat 0))], []), [(.ofNat 0, .ofNat 100000, 0, .ofNat 0)], [], [(some (0, 0, .negSucc 0), ([], []), [(.ofNat 0, .ofNat 100000, 0, .ofNat 0)])], [(false, (0, 0, .ofNat 0))])
/-- GridLawsModel.later, row 5 -/
def zc_l1676 : zC := (287, 5, 1, [(3, 88, .ofNat 0), (0, 0, .ofNat 555)], ([(88, (0, 0, .ofNat 28), (1, 0, .ofNat 0)), (1049, (0, 0, .ofNat 555), (0, 0, .ofNat 0))], []), [(.ofNat 0, .ofNat 100000, 0, .ofNat 0)], [], [(some (0, 0, .negSucc 0), ([], []), [(.ofNat 0, .ofNat 100000, 0, .ofNat 0)])], [(false, (0, 0, .ofNat 0))])
/-- GridLawsModel.later, row 5 -/
def zc_l1677 : zC := (287, 5, 1, [(3, 88, .ofNat 0), (0, 0, .ofNat 556)], ([(88, (0, 0, .ofNat 28), (1, 0, .ofNat 0)), (1049, (0, 0, .ofNat 556), (0, 0, .ofNat 0))], []), [(.ofNat 0, .ofNat 100000, 0, .ofNat 0)], [], [(some (0, 0, .negSucc 0), ([], []), [(.ofNat 0, .ofNat 100000, 0, .ofNat 0)])], [(false, (0, 0, .ofNat 0))])
/-- GridLawsModel.later, row 5 -/
def zc_l1678 : zC := (287, 5, 1, [(3, 88, .ofNat 0), (0, 0, .ofNat 557)], ([(88, (0, 0, .ofNat 28), (1, 0, .ofNat 0)), (1049, (0, 0, .ofNat 557), (0, 0, .ofNat 0))], []), [(.ofNat 0, .ofNat 100000, 0, .ofNat 0)], [], [(some (0, 0, .negSucc 0), ([], []), [(.ofNat 0, .ofNat 100000, 0, .ofNat 0)])], [(false, (0, 0, .ofNat 0))])
/-- GridLawsModel.later, row 5 -/
def zc_l1679 : zC := (287, 5, 1, [(3, 88, .ofNat 0), (0, 0, .ofNat 558)], ([(88, (0, 0, .ofNat 28), (1, 0, .ofNat 0)), (1049, (0, 0, .ofNat 558), (0, 0, .ofNat 0))], []), [(.ofNat 0, .ofNat 100000, 0, .ofNat 0)], [], [(some (0, 0, .negSucc 0), ([], []), [(.ofNat 0, .ofNat 100000, 0, .ofNat 0)])], [(false, (0, 0, .ofNat 0))])
/-- GridLawsModel.later, row 5 -/
def zc_l1680 : zC := (287, 5, 1, [(3, 88, .ofNat 0), (0, 0, .ofNat 559)], ([(88, (0, 0, .ofNat 28), (1, 0, .ofNat 0)), (1049, (0, 0, .ofNat 559), (0, 0, .ofNat 0))], []), [(.ofNat 0, .ofNat 100000, 0, .ofNat 0)], [], [(some (0, 0, .negSucc 0), ([], []), [(.ofNat 0, .ofNat 100000, 0, .ofNat 0)])], [(false, (0, 0, .ofNat 0))])
/-- GridLawsModel.later, row 5 -/
def zc_l1681 : zC := (287, 5, 1, [(3, 88, .ofNat 0), (0, 0, .ofNat 560)], ([(88, (0, 0, .ofNat 28), (1, 0, .ofNat 0)), (1049, (0, 0, .ofNat 560), (0, 0, .ofNat 0))], []), [(.ofNat 0, .ofNat 100000, 0, .ofNat 0)], [], [(some (0, 0, .negSucc 0), ([], []), [(.ofNat 0, .ofNat 100000, 0, .ofNat 0)])], [(false, (0, 0, .ofNat 0))])
/-- GridLawsModel.later, row 5 -/
def zc_l1682 : zC := (287, 5, 1, [(3, 88, .ofNat 0), (0, 0, .ofNat 561)], ([(88, (0, 0, .ofNat 28), (1, 0, .ofNat 0)), (1049, (0, 0, .ofNat 561), (0, 0, .ofNat 0))], []), [(.ofNat 0, .ofNat 100000, 0, .ofNat 0)], [], [(some (0, 0, .negSucc 0), ([], []), [(.ofNat 0, .ofNat 100000, 0, .ofNat 0)])], [(false, (0, 0, .ofNat 0))])
/-- GridLawsModel.later, row 5 -/
def zc_l1683 : zC := (287, 5, 1, [(3, 88, .ofNat 0), (0, 0, .ofNat 562)], ([(88, (0, 0, .ofNat 28), (1, 0, .ofNat 0)), (1049, (0, 0, .ofNat 562), (0, 0, .ofNat 0))], []), [(.ofNat 0, .ofNat 100000, 0, .ofNat 0)], [], [(some (0, 0, .negSucc 0), ([], []), [(.ofNat 0, .ofNat 100000, 0, .ofNat 0)])], [(false, (0, 0, .ofNat 0))])
/-- GridLawsModel.later, row 5 -/
def zc_l1684 : zC := (287, 5, 1, [(3, 88, .ofNat 0), (0, 0, .ofNat 563)], ([(88, (0, 0, .ofNat 28), (1, 0, .ofNat 0)), (1049, (0, 0, .ofNat 563), (0, 0, .ofNat 0))], []), [(.ofNat 0, .ofNat 100000, 0, .ofNat 0)], [], [(some (0, 0, .negSucc 0), ([], []), [(.ofNat 0, .ofNat 100000, 0, .ofNat 0)])], [(false, (0, 0, .ofNat 0))])
/-- GridLawsModel.later, row 5 -/
def zc_l1685 : zC := (287, 5, 1, [(3, 88, .ofNat 0), (0, 0, .ofNat 564)], ([(88, (0, 0, .ofNat 28), (1, 0, .ofNat 0)), (1049, (0, 0, .ofNat 564), (0, 0, .ofNat 0))], []), [(.ofNat 0, .ofNat 100000, 0, .ofNat 0)], [], [(some (0, 0, .negSucc 0), ([], []), [(.ofNat 0, .ofNat 100000, 0, .ofNat 0)])], [(false, (0, 0, .ofNat 0))])
/-- GridLawsModel.later, row 5 -/
def zc_l1686 : zC := (287, 5, 1, [(3, 88, .ofNat 0), (0, 0, .ofNat 565)], ([(88, (0, 0, .ofNat 28), (1, 0, .ofNat 0)), (1049, (0, 0, .ofNat 565), (0, 0, .ofNat 0))], []), [(.ofNat 0, .ofNat 100000, 0, .ofNat 0)], [], [(some (0, 0, .negSucc 0), ([], []), [(.ofNat 0, .ofNat 100000, 0, .ofNat 0)])], [(false, (0, 0, .ofNat 0))])
/-- GridLawsModel.later, row 5 -/
def zc_l1687 : zC := (287, 5, 1, [(3, 88, .ofNat 0), (0, 0, .ofNat 566)], ([(88, (0, 0, .ofNat 28), (1, 0, .ofNat 0)), (1049, (0, 0, .ofNat 566), (0, 0, .ofNat 0))], []), [(.ofNat 0, .ofNat 100000, 0, .ofNat 0)], [], [(some (0, 0, .negSucc 0), ([], []), [(.ofNat 0, .ofNat 100000, 0, .ofNat 0)])], [(false, (0, 0, .ofNat 0))])
/-- GridLawsModel.later, row 5 -/
def zc_l1688 : zC := (287, 5, 1, [(3, 88, .ofNat 0), (0, 0, .ofNat 567)], ([(88, (0, 0, .ofNat 28), (1, 0, .ofNat 0)), (1049, (0, 0, .ofNat 567), (0, 0, .ofNat 0))], []), [(.ofNat 0, .ofNat 100000, 0, .ofNat 0)], [], [(some (0, 0, .negSucc 0), ([], []), [(.ofNat 0, .ofNat 100000, 0, .ofNat 0)])], [(false, (0, 0, .ofNat 0))])
/-- GridLawsModel.later, row 5 -/
def zc_l1689 : zC := (287, 5, 1, [(3, 88, .ofNat 0), (0, 0, .ofNat 568)], ([(88, (0, 0, .ofNat 28), (1, 0, .ofNat 0)), (1049, (0, 0, .ofNat 568), (0, 0, .ofNat 0))], []), [(.ofNat 0, .ofNat 100000, 0, .ofNat 0)], [], [(some (0, 0, .negSucc 0), ([], []), [(.ofNat 0, .ofNat 100000, 0, .ofNat 0)])], [(false, (0, 0, .ofNat 0))])
/-- GridLawsModel.later, row 5 -/
def zc_l1690 : zC := (287, 5, 1, [(3, 88, .ofNat 0), (0, 0, .ofNat 569)], ([(88, (0, 0, .ofNat 28), (1, 0, .ofNat 0)), (1049, (0, 0, .ofNat 569), (0, 0, .ofNat 0))], []), [(.ofNat 0, .ofNat 100000, 0, .ofNat 0)], [], [(some (0, 0, .negSucc 0), ([], []), [(.ofNat 0, .ofNat 100000, 0, .ofNat 0)])], [(false, (0, 0, .ofNat 0))])
/-- GridLawsModel.later, row 5 -/
def zc_l1691 : zC := (287, 5, 1, [(3, 88, .ofNat 0), (0, 0, .ofNat 570)], ([(88, (0, 0, .ofNat 28), (1, 0, .ofNat 0)), (1049, (0, 0, .ofNat 570), (0, 0, .ofNat 0))], []), [(.ofNat 0, .ofNat 100000, 0, .ofNat 0)], [], [(some (0, 0, .negSucc 0), ([], []), [(.ofNat 0, .ofNat 100000, 0, .ofNat 0)])], [(false, (0, 0, .ofNat 0))])
/-- GridLawsModel.later, row 5 -/
def zc_l1692 : zC := (287, 5, 1, [(3, 88, .ofNat 0), (0, 0, .ofNat 571)], ([(88, (0, 0, .ofNat 28), (1, 0, .ofNat 0)), (1049, (0, 0, .ofNat 571), (0, 0, .ofNat 0))], []), [(.ofNat 0, .ofNat 100000, 0, .ofNat 0)], [], [(some (0, 0, .negSucc 0), ([], []), [(.ofNat 0, .ofNat 100000, 0, .ofNat 0)])], [(false, (0, 0, .ofNat 0))])
/-- GridLawsModel.later, row 5 -/
def zc_l1693 : zC := (287, 5, 1, [(3, 88, .ofNat 0), (0, 0, .ofNat 572)], ([(88, (0, 0, .ofNat 28), (1, 0, .ofNat 0)), (1049, (0, 0, .ofNat 572), (0, 0, .ofNat 0))], []), [(.ofNat 0, .ofNat 100000, 0, .ofNat 0)], [], [(some (0, 0, .negSucc 0), ([], []), [(.ofNat 0, .ofNat 100000, 0, .ofNat 0)])], [(false, (0, 0, .ofNat 0))])
/-- GridLawsModel.later, row 5 -/
def zc_l1694 : zC := (287, 5, 1, [(3, 88, .ofNat 0), (0, 0, .ofNat 573)], ([(88, (0, 0, .ofNat 28), (1, 0, .ofNat 0)), (1049, (0, 0, .ofNat 573), (0, 0, .ofNat 0))], []), [(.ofNat 0, .ofNat 100000, 0, .ofNat 0)], [], [(some (0, 0, .negSucc 0), ([], []), [(.ofNat 0, .ofNat 100000, 0, .ofNat 0)])], [(false, (0, 0, .ofNat 0))])
/-- GridLawsModel.later, row 5 -/
def zc_l1695 : zC := (287, 5, 1, [(3, 88, .ofNat 0), (0, 0, .ofNat 574)], ([(88, (0, 0, .ofNat 28), (1, 0, .ofNat 0)), (1049, (0, 0, .ofNat 574), (0, 0, .ofNat 0))], []), [(.ofNat 0, .ofNat 100000, 0, .ofNat 0)], [], [(some (0, 0, .negSucc 0), ([], []), [(.ofNat 0, .ofNat 100000, 0, .ofNat 0)])], [(false, (0, 0, .ofNat 0))])
/-- GridLawsModel.later, row 5 -/
def zc_l1696 : zC := (287, 5, 1, [(3, 88, .ofNat 0), (0, 0, .ofNat 575)], ([(88, (0, 0, .ofNat 28), (1, 0, .ofNat 0)), (1049, (0, 0, .ofNat 575), (0, 0, .ofNat 0))], []), [(.ofNat 0, .ofNat 100000, 0, .ofNat 0)], [], [(some (0, 0, .negSucc 0), ([], []), [(.ofNat 0, .ofNat 100000, 0, .ofNat 0)])], [(false, (0, 0, .ofNat 0))])
/-- GridLawsModel.later, row 5 -/
def zc_l1697 : zC := (287, 5, 1, [(3, 88, .ofNat 0), (0, 0, .ofNat 576)], ([(88, (0, 0, .ofNat 28), (1, 0, .ofNat 0)), (1049, (0, 0, .ofNat 576), (0, 0, .ofNat 0))], []), [(.ofNat 0, .ofNat 100000, 0, .ofNat 0)], [], [(some (0, 0, .negSucc 0), ([], []), [(.ofNat 0, .ofNat 100000, 0, .ofNat 0)])], [(false, (0, 0, .ofNat 0))])
/-- GridLawsModel.later, row 5 -/
def zc_l1698 : zC := (287, 5, 1, [(3, 88, .ofNat 0), (0, 0, .ofNat 577)], ([(88, (0, 0, .ofNat 28), (1, 0, .ofNat 0)), (1049, (0, 0, .ofNat 577), (0, 0, .ofNat 0))], []), [(.ofNat 0, .ofNat 100000, 0, .ofNat 0)], [], [(some (0, 0, .negSucc 0), ([], []), [(.ofNat 0, .ofNat 100000, 0, .ofNat 0)])], [(false, (0, 0, .ofNat 0))])
/-- GridLawsModel.later, row 5 -/
def zc_l1699 : zC := (287, 5, 1, [(3, 88, .ofNat 0), (0, 0, .ofNat 578)], ([(88, (0, 0, .ofNat 28), (1, 0, .ofNat 0)), (1049, (0, 0, .ofNat 578), (0, 0, .ofNat 0))], []), [(.ofNat 0, .ofNat 100000, 0, .ofNat 0)], [], [(some (0, 0, .negSucc 0), ([], []), [(.ofNat 0, .ofNat 100000, 0, .ofNat 0)])], [(false, (0, 0, .ofNat 0))])
/-- GridLawsModel.later, row 5 -/
def zc_l1700 : zC := (287, 5, 1, [(3, 88, .ofNat 0), (0, 0, .ofNat 579)], ([(88, (0, 0, .ofNat 28), (1, 0, .ofNat 0)), (1049, (0, 0, .ofNat 579), (0, 0, .ofNat 0))], []), [(.ofNat 0, .ofNat 100000, 0, .ofNat 0)], [], [(some (0, 0, .negSucc 0), ([], []), [(.ofNat 0, .ofNat 100000, 0, .ofNat 0)])], [(false, (0, 0, .ofNat 0))])
/-- GridLawsModel.later, row 5 -/
def zc_l1701 : zC := (287, 5, 1, [(3, 88, .ofNat 0), (0, 0, .ofNat 580)], ([(88, (0, 0, .ofNat 28), (1, 0, .ofNat 0)), (1049, (0, 0, .ofNat 580), (0, 0, .ofNat 0))], []), [(.ofNat 0, .ofNat 100000, 0, .ofNat 0)], [], [(some (0, 0, .negSucc 0), ([], []), [(.ofNat 0, .ofNat 100000, 0, .ofNat 0)])], [(false, (0, 0, .ofNat 0))])
/-- GridLawsModel.later, row 5 -/
def zc_l1702 : zC := (287, 5, 1, [(3, 88, .ofNat 0), (0, 0, .ofNat 581)], ([(88, (0, 0, .ofNat 28), (1, 0, .ofNat 0)), (1049, (0, 0, .ofNat 581), (0, 0, .ofNat 0))], []), [(.ofNat 0, .ofNat 100000, 0, .ofNat 0)], [], [(some (0, 0, .negSucc 0), ([], []), [(.ofNat 0, .ofNat 100000, 0, .ofNat 0)])], [(false, (0, 0, .ofNat 0))])
/-- GridLawsModel.later, row 5 -/
def zc_l1703 : zC := (287, 5, 1, [(3, 88, .ofNat 0), (0, 0, .ofNat 582)], ([(88, (0, 0, .ofNat 28), (1, 0, .ofNat 0)), (1049, (0, 0, .ofNat 582), (0, 0, .ofNat 0))], []), [(.ofNat 0, .ofNat 100000, 0, .ofNat 0)], [], [(some (0, 0, .negSucc 0), ([], []), [(.ofNat 0, .ofNat 100000, 0, .ofNat 0)])], [(false, (0, 0, .ofNat 0))])
/-- GridLawsModel.later, row 5 -/
def zc_l1704 : zC := (287, 5, 1, [(3, 88, .ofNat 0), (0, 0, .ofNat 583)], ([(88, (0, 0, .ofNat 28), (1, 0, .ofNat 0)), (1049, (0, 0, .ofNat 583), (0, 0, .ofNat 0))], []), [(.ofNat 0, .ofNat 100000, 0, .ofNat 0)], [], [(some (0, 0, .negSucc 0), ([], []), [(.ofNat 0, .ofNat 100000, 0, .ofNat 0)])], [(false, (0, 0, .ofNat 0))])
/-- GridLawsModel.later, row 5 -/
def zc_l1705 : zC := (287, 5, 1, [(3, 88, .ofNat 0), (0, 0, .ofNat 584)], ([(88, (0, 0, .ofNat 28), (1, 0, .ofNat 0)), (1049, (0, 0, .ofNat 584), (0, 0, .ofNat 0))], []), [(.ofNat 0, .ofNat 100000, 0, .ofNat 0)], [], [(some (0, 0, .negSucc 0), ([], []), [(.ofNat 0, .ofNat 100000, 0, .ofNat 0)])], [(false, (0, 0, .ofNat 0))])
/-- GridLawsModel.later, row 5 -/
def zc_l1706 : zC := (287, 5, 1, [(3, 88, .ofNat 0), (0, 0, .ofNat 585)], ([(88, (0, 0, .ofNat 28), (1, 0, .ofNat 0)), (1049, (0, 0, .ofNat 585), (0, 0, .ofNat 0))], []), [(.ofNat 0, .ofNat 100000, 0, .ofNat 0)], [], [(some (0, 0, .negSucc 0), ([], []), [(.ofNat 0, .ofNat 100000, 0, .ofNat 0)])], [(false, (0, 0, .ofNat 0))])
/-- GridLawsModel.later, row 5 -/
def zc_l1707 : zC := (287, 5, 1, [(3, 88, .ofNat 0), (0, 0, .ofNat 586)], ([(88, (0, 0, .ofNat 28), (1, 0, .ofNat 0)), (1049, (0, 0, .ofNat 586), (0, 0, .ofNat 0))], []), [(.ofNat 0, .ofNat 100000, 0, .ofNat 0)], [], [(some (0, 0, .negSucc 0), ([], []), [(.ofNat 0, .ofNat 100000, 0, .ofNat 0)])], [(false, (0, 0, .ofNat 0))])
/-- GridLawsModel.later, row 5 -/
def zc_l1708 : zC := (287, 5, 1, [(3, 88, .ofNat 0), (0, 0, .ofNat 587)], ([(88, (0, 0, .ofNat 28), (1, 0, .ofNat 0)), (1049, (0, 0, .ofNat 587), (0, 0, .ofNat 0))], []), [(.ofNat 0, .ofNat 100000, 0, .ofNat 0)], [], [(some (0, 0, .negSucc 0), ([], []), [(.ofNat 0, .ofNat 100000, 0, .ofNat 0)])], [(false, (0, 0, .ofNat 0))])
/-- GridLawsModel.later, row 5 -/
def zc_l1709 : zC := (287, 5, 1, [(3, 88, .ofNat 0), (0, 0, .ofNat 588)], ([(88, (0, 0, .ofNat 28), (1, 0, .ofNat 0)), (1049, (0, 0, .ofNat 588), (0, 0, .ofNat 0))], []), [(.ofNat 0, .ofNat 100000, 0, .ofNat 0)], [], [(some (0, 0, .negSucc 0), ([], []), [(.ofNat 0, .ofNat 100000, 0, .ofNat 0)])], [(false, (0, 0, .ofNat 0))])
/-- GridLawsModel.later, row 5 -/
def zc_l1710 : zC := (287, 5, 1, [(3, 88, .ofNat 0), (0, 0, .ofNat 589)], ([(88, (0, 0, .ofNat 28), (1, 0, .ofNat 0)), (1049, (0, 0, .ofNat 589), (0, 0, .ofNat 0))], []), [(.ofNat 0, .ofNat 100000, 0, .ofNat 0)], [], [(some (0, 0, .negSucc 0), ([], []), [(.ofNat 0, .ofNat 100000, 0, .ofNat 0)])], [(false, (0, 0, .ofNat 0))])
/-- GridLawsModel.later, row 5 -/
def zc_l1711 : zC := (287, 5, 1, [(3, 88, .ofNat 0), (0, 0, .ofNat 590)], ([(88, (0, 0, .ofNat 28), (1, 0, .ofNat 0)), (1049, (0, 0, .ofNat 590), (0, 0, .ofNat 0))], []), [(.ofNat 0, .ofNat 100000, 0, .ofNat 0)], [], [(some (0, 0, .negSucc 0), ([], []), [(.ofNat 0, .ofNat 100000, 0, .ofNat 0)])], [(false, (0, 0, .ofNat 0))])
/-- GridLawsModel.later, row 5 -/
def zc_l1712 : zC := (287, 5, 1, [(3, 88, .ofNat 0), (0, 0, .ofNat 591)], ([(88, (0, 0, .ofNat 28), (1, 0, .ofNat 0)), (1049, (0, 0, .ofNat 591), (0, 0, .ofNat 0))], []), [(.ofNat 0, .ofNat 100000, 0, .ofNat 0)], [], [(some (0, 0, .negSucc 0), ([], []), [(.ofNat 0, .ofNat 100000, 0, .ofNat 0)])], [(false, (0, 0, .ofNat 0))])
/-- GridLawsModel.later, row 5 -/
def zc_l1713 : zC := (287, 5, 1, [(3, 88, .ofNat 0), (0, 0, .ofNat 592)], ([(88, (0, 0, .ofNat 28), (1, 0, .ofNat 0)), (1049, (0, 0, .ofNat 592), (0, 0, .ofNat 0))], []), [(.ofNat 0, .ofNat 100000, 0, .ofNat 0)], [], [(some (0, 0, .negSucc 0), ([], []), [(.ofNat 0, .ofNat 100000, 0, .ofNat 0)])], [(false, (0, 0, .ofNat 0))])
/-- GridLawsModel.later, row 5 -/
def zc_l1714 : zC := (287, 5, 1, [(3, 88, .ofNat 0), (0, 0, .ofNat 593)], ([(88, (0, 0, .ofNat 28), (1, 0, .ofNat 0)), (1049, (0, 0, .ofNat 593), (0, 0, .ofNat 0))], []), [(.ofNat 0, .ofNat 100000, 0, .ofNat 0)], [], [(some (0, 0, .negSucc 0), ([], []), [(.ofNat 0, .ofNat 100000, 0, .ofNat 0)])], [(false, (0, 0, .ofNat 0))])
/-- GridLawsModel.later, row 5 -/
def zc_l1715 : zC := (287, 5, 1, [(3, 88, .ofNat 0), (0, 0, .ofNat 594)], ([(88, (0, 0, .ofNat 28), (1, 0, .ofNat 0)), (1049, (0, 0, .ofNat 594), (0, 0, .ofNat 0))], []), [(.ofNat 0, .ofNat 100000, 0, .ofNat 0)], [], [(some (0, 0, .negSucc 0), ([], []), [(.ofNat 0, .ofNat 100000, 0, .ofNat 0)])], [(false, (0, 0, .ofNat 0))])
/-- GridLawsModel.later, row 5 -/
def zc_l1716 : zC := (287, 5, 1, [(3, 88, .ofNat 0), (0, 0, .ofNat 595)], ([(88, (0, 0, .ofNat 28), (1, 0, .ofNat 0)), (1049, (0, 0, .ofNat 595), (0, 0, .ofNat 0))], []), [(.ofNat 0, .ofNat 100000, 0, .ofNat 0)], [], [(some (0, 0, .negSucc 0), ([], []), [(.ofNat 0, .ofNat 100000, 0, .ofNat 0)])], [(false, (0, 0, .ofNat 0))])
/-- GridLawsModel.later, row 5 -/
def zc_l1717 : zC := (287, 5, 1, [(3, 88, .ofNat 0), (0, 0, .ofNat 596)], ([(88, (0, 0, .ofNat 28), (1, 0, .ofNat 0)), (1049, (0, 0, .ofNat 596), (0, 0, .ofNat 0))], []), [(.ofNat 0, .ofNat 100000, 0, .ofNat 0)], [], [(some (0, 0, .negSucc 0), ([], []), [(.ofNat 0, .ofNat 100000, 0, .ofNat 0)])], [(false, (0, 0, .ofNat 0))])
/-- GridLawsModel.later, row 5 -/
def zc_l1718 : zC := (287, 5, 1, [(3, 88, .ofNat 0), (0, 0, .ofNat 597)], ([(88, (0, 0, .ofNat 28), (1, 0, .ofNat 0)), (1049, (0, 0, .ofNat 597), (0, 0, .ofNat 0))], []), [(.ofNat 0, .ofNat 100000, 0, .ofNat 0)], [], [(some (0, 0, .negSucc 0), ([], []), [(.ofNat 0, .ofNat 100000, 0, .ofNat 0)])], [(false, (0, 0, .ofNat 0))])
/-- GridLawsModel.later, row 5 -/
def zc_l1719 : zC := (287, 5, 1, [(3, 88, .ofNat 0), (0, 0, .ofNat 598)], ([(88, (0, 0, .ofNat 28), (1, 0, .ofNat 0)), (1049, (0, 0, .ofNat 598), (0, 0, .ofNat 0))], []), [(.ofNat 0, .ofNat 100000, 0, .ofNat 0)], [], [(some (0, 0, .negSucc 0), ([], []), [(.ofNat 0, .ofNat 100000, 0, .ofNat 0)])], [(false, (0, 0, .ofNat 0))])
/-- GridLawsModel.later, row 5 -/
def zc_l1720 : zC := (287, 5, 1, [(3, 88, .ofNat 0), (0, 0, .ofNat 599)], ([(88, (0, 0, .ofNat 28), (1, 0, .ofNat 0)), (1049, (0, 0, .ofNat 599), (0, 0, .ofNat 0))], []), [(.ofNat 0, .ofNat 100000, 0, .ofNat 0)], [], [(some (0, 0, .negSucc 0), ([], []), [(.ofNat 0, .ofNat 100000, 0, .ofNat 0)])], [(false, (0, 0, .ofNat 0))])
def zgl_l1620_0 : List zC := [zc_l1620, zc_l1621, zc_l1622, zc_l1623, zc_l1624, zc_l1625, zc_l1626, zc_l1627, zc_l1628, zc_l1629, zc_l1630, zc_l1631, zc_l1632, zc_l1633, zc_l1634, zc_l1635]
def zgl_l1620_1 : List zC := [zc_l1636, zc_l1637, zc_l1638, zc_l1639, zc_l1640, zc_l1641, zc_l1642, zc_l1643, zc_l1644, zc_l1645, zc_l1646, zc_l1647, zc_l1648, zc_l1649, zc_l1650, zc_l1651]
def zgl_l1620_2 : List zC := [zc_l1652, zc_l1653, zc_l1654, zc_l1655, zc_l1656, zc_l1657, zc_l1658, zc_l1659, zc_l1660, zc_l1661, zc_l1662, zc_l1663, zc_l1664, zc_l1665, zc_l1666, zc_l1667]
def zgl_l1620_3 : List zC := [zc_l1668, zc_l1669, zc_l1670, zc_l1671, zc_l1672, zc_l1673, zc_l1674, zc_l1675, zc_l1676, zc_l1677, zc_l1678, zc_l1679, zc_l1680, zc_l1681, zc_l1682, zc_l1683]
def zgl_l1620_4 : List zC := [zc_l1684, zc_l1685, zc_l1686, zc_l1687, zc_l1688, zc_l1689, zc_l1690, zc_l1691, zc_l1692, zc_l1693, zc_l1694, zc_l1695, zc_l1696, zc_l1697, zc_l1698, zc_l1699]
def zgl_l1620_5 : List zC := [zc_l1700, zc_l1701, zc_l1702, zc_l1703, zc_l1704, zc_l1705, zc_l1706, zc_l1707, zc_l1708, zc_l1709, zc_l1710, zc_l1711, zc_l1712, zc_l1713, zc_l1714, zc_l1715]
def zgl_l1620_6 : List zC := [zc_l1716, zc_l1717, zc_l1718, zc_l1719, zc_l1720]
def zgl_l1620 : List zC := zgl_l1620_0 ++ (zgl_l1620_1 ++ (zgl_l1620_2 ++ (zgl_l1620_3 ++ (zgl_l1620_4 ++ (zgl_l1620_5 ++ (zgl_l1620_6))))))
def zgh_l1620_0 : List (zC × zHt) := [(zc_l1620, [(5, 0, 0), (5, 1, 0)]), (zc_l1621, [(13, 2, 94)]), (zc_l1622, [(13, 2, 94)]), (zc_l1623, [(13, 2, 94)]), (zc_l1624, [(13, 2, 94)]), (zc_l1625, [(13, 2, 94)]), (zc_l1626, [(13, 2, 94)]), (zc_l1627, [(13, 2, 94)]), (zc_l1628, [(13, 2, 94)]), (zc_l1629, [(13, 2, 94)]), (zc_l1630, [(13, 2, 94)]), (zc_l1631, [(13, 2, 94)]), (zc_l1632, [(13, 2, 94)]), (zc_l1633, [(13, 2, 94)]), (zc_l1634, [(13, 2, 94)]), (zc_l1635, [(13, 2, 94)])]
def zgh_l1620_1 : List (zC × zHt) := [(zc_l1636, [(13, 2, 94)]), (zc_l1637, [(13, 2, 94)]), (zc_l1638, [(13, 2, 94)]), (zc_l1639, [(13, 2, 94)]), (zc_l1640, [(13, 2, 94)]), (zc_l1641, [(13, 2, 94)]), (zc_l1642, [(13, 2, 94)]), (zc_l1643, [(13, 2, 94)]), (zc_l1644, [(13, 2, 94)]), (zc_l1645, [(13, 2, 94)]), (zc_l1646, [(13, 2, 94)]), (zc_l1647, [(13, 2, 94)]), (zc_l1648, [(13, 2, 94)]), (zc_l1649, [(13, 2, 94)]), (zc_l1650, [(13, 2, 94)]), (zc_l1651, [(13, 2, 94)])]
def zgh_l1620_2 : List (zC × zHt) := [(zc_l1652, [(13, 2, 94)]), (zc_l1653, [(13, 2, 94)]), (zc_l1654, [(13, 2, 94)]), (zc_l1655, [(13, 2, 94)]), (zc_l1656, [(13, 2, 94)]), (zc_l1657, [(13, 2, 94)]), (zc_l1658, [(13, 2, 94)]), (zc_l1659, [(13, 2, 94)]), (zc_l1660, [(13, 2, 94)]), (zc_l1661, [(13, 2, 94)]), (zc_l1662, [(13, 2, 94)]), (zc_l1663, [(13, 2, 94)]), (zc_l1664, [(13, 2, 94)]), (zc_l1665, [(13, 2, 94)]), (zc_l1666, [(13, 2, 94)]), (zc_l1667, [(13, 2, 94)])]
def zgh_l1620_3 : List (zC × zHt) := [(zc_l1668, [(13, 2, 94)]), (zc_l1669, [(13, 2, 94)]), (zc_l1670, [(13, 2, 94)]), (zc_l1671, [(13, 2, 94)]), (zc_l1672, [(13, 2, 94)]), (zc_l1673, [(13, 2, 94)]), (zc_l1674, [(13, 2, 94)]), (zc_l1675, [(13, 2, 94)]), (zc_l1676, [(13, 2, 94)]), (zc_l1677, [(13, 2, 94)]), (zc_l1678, [(13, 2, 94)]), (zc_l1679, [(13, 2, 94)]), (zc_l1680, [(13, 2, 94)]), (zc_l1681, [(13, 2, 94)]), (zc_l1682, [(13, 2, 94)]), (zc_l1683, [(13, 2, 94)])]
def zgh_l1620_4 : List (zC × zHt) := [(zc_l1684, [(13, 2, 94)]), (zc_l1685, [(13, 2, 94)]), (zc_l1686, [(13, 2, 94)]), (zc_l1687, [(13, 2, 94)]), (zc_l1688, [(13, 2, 94)]), (zc_l1689, [(13, 2, 94)]), (zc_l1690, [(13, 2, 94)]), (zc_l1691, [(13, 2, 94)]), (zc_l1692, [(13, 2, 94)]), (zc_l1693, [(13, 2, 94)]), (zc_l1694, [(13, 2, 94)]), (zc_l1695, [(13, 2, 94)]), (zc_l1696, [(13, 2, 94)]), (zc_l1697, [(13, 2, 94)]), (zc_l1698, [(13, 2, 94)]), (zc_l1699, [(13, 2, 94)])]
def zgh_l1620_5 : List (zC × zHt) := [(zc_l1700, [(13, 2, 94)]), (zc_l1701, [(13, 2, 94)]), (zc_l1702, [(13, 2, 94)]), (zc_l1703, [(13, 2, 94)]), (zc_l1704, [(13, 2, 94)]), (zc_l1705, [(13, 2, 94)]), (zc_l1706, [(13, 2, 94)]), (zc_l1707, [(13, 2, 94)]), (zc_l1708, [(13, 2, 94)]), (zc_l1709, [(13, 2, 94)]), (zc_l1710, [(13, 2, 94)]), (zc_l1711, [(13, 2, 94)]), (zc_l1712, [(13, 2, 94)]), (zc_l1713, [(13, 2, 94)]), (zc_l1714, [(13, 2, 94)]), (zc_l1715, [(13, 2, 94)])]
def zgh_l1620_6 : List (zC × zHt) := [(zc_l1716, [(13, 2, 94)]), (zc_l1717, [(13, 2, 94)]), (zc_l1718, [(13, 2, 94)]), (zc_l1719, [(13, 2, 94)]), (zc_l1720, [(13, 2, 94)])]
theorem zge_l1620_0 : zgh_l1620_0.map Prod.fst = zgl_l1620_0 := rfl
theorem zge_l1620_1 : zgh_l1620_1.map Prod.fst = zgl_l1620_1 := rfl
theorem zge_l1620_2 : zgh_l1620_2.map Prod.fst = zgl_l1620_2 := rfl
theorem zge_l1620_3 : zgh_l1620_3.map Prod.fst = zgl_l1620_3 := rfl
theorem zge_l1620_4 : zgh_l1620_4.map Prod.fst = zgl_l1620_4 := rfl
theorem zge_l1620_5 : zgh_l1620_5.map Prod.fst = zgl_l1620_5 := rfl
theorem zge_l1620_6 : zgh_l1620_6.map Prod.fst = zgl_l1620_6 := rfl
theorem zge_l1620 : (zgh_l1620_0 ++ (zgh_l1620_1 ++ (zgh_l1620_2 ++ (zgh_l1620_3 ++ (zgh_l1620_4 ++ (zgh_l1620_5 ++ (zgh_l1620_6))))))).map Prod.fst = zgl_l1620 := by
  rw [List.map_append, zge_l1620_0, List.map_append, zge_l1620_1, List.map_append, zge_l1620_2, List.map_append, zge_l1620_3, List.map_append, zge_l1620_4, List.map_append, zge_l1620_5, zge_l1620_6]
  rfl
