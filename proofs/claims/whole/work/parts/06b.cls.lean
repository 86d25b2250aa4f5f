theorem wsIn {ws : List Cond} (ps : List Nat) (hp : ws = ps.filterMap (fun i => lw_tbl[i]?)) (h : ws.all goodWord = true) : ∀ w ∈ ws, w ∈ wgT := by
  intro w hw
  have h1 := List.all_eq_true.mp h w hw
  rw [hp] at hw
  obtain ⟨i, -, hi⟩ := List.mem_filterMap.mp hw
  exact wgT_in (List.mem_of_getElem? hi) h1
theorem cwX0 : ∀ w ∈ u_ws RX0 TX0 4, w ∈ wgT := wsIn [535, 537, 539, 541] (by decide +kernel) (by decide +kernel)
theorem cwX1 : ∀ w ∈ u_ws RX1 TX1 20, w ∈ wgT := wsIn [395, 397, 399, 401, 403, 405, 407, 409, 411, 413, 415, 417, 419, 421, 423, 425, 427, 429, 431, 433] (by decide +kernel) (by decide +kernel)
theorem cwX2 : ∀ w ∈ u_ws RX2 TX2 4, w ∈ wgT := wsIn [308, 310, 312, 314] (by decide +kernel) (by decide +kernel)
theorem cwX3 : ∀ w ∈ u_ws RX3 TX3 6, w ∈ wgT := wsIn [626, 628, 630, 632, 634, 636] (by decide +kernel) (by decide +kernel)
theorem cwX4 : ∀ w ∈ u_ws RX4 TX4 13, w ∈ wgT := wsIn [585, 587, 589, 591, 593, 595, 597, 599, 601, 603, 605, 607, 609] (by decide +kernel) (by decide +kernel)
theorem cwX5 : ∀ w ∈ u_ws RX5 TX5 11, w ∈ wgT := wsIn [451, 453, 455, 457, 459, 461, 463, 465, 467, 469, 471] (by decide +kernel) (by decide +kernel)
theorem cwX6 : ∀ w ∈ u_ws RX6 TX6 8, w ∈ wgT := wsIn [335, 337, 339, 341, 343, 345, 347, 349] (by decide +kernel) (by decide +kernel)
theorem cwX7 : ∀ w ∈ u_ws RX7 TX7 7, w ∈ wgT := wsIn [508, 510, 512, 514, 516, 518, 520] (by decide +kernel) (by decide +kernel)
theorem cwX8 : ∀ w ∈ u_ws RX8 TX8 8, w ∈ wgT := wsIn [270, 272, 274, 276, 278, 280, 282, 284] (by decide +kernel) (by decide +kernel)
theorem cwX9 : ∀ w ∈ u_ws RX9 TX9 3, w ∈ wgT := wsIn [557, 559, 561] (by decide +kernel) (by decide +kernel)
theorem cwX10 : ∀ w ∈ u_ws RX10 TX10 10, w ∈ wgT := wsIn [650, 652, 654, 656, 658, 660, 662, 664, 666, 668] (by decide +kernel) (by decide +kernel)
theorem cwX11 : ∀ w ∈ u_ws RX11 TX11 87, w ∈ wgT := wsIn [1593, 1595, 1597, 1599, 1601, 1603, 1605, 1607, 1609, 1611, 1613, 1615, 1617, 1619, 1621, 1623, 1625, 1627, 1629, 1631, 1633, 1635, 1637, 1639, 1641, 1643, 1645, 1647, 1649, 1651, 1653, 1655, 1657, 1659, 1661, 1663, 1665, 1667, 1669, 1671, 1673, 1675, 1677, 1679, 1681, 1683, 1685, 1687, 1689, 1691, 1693, 1695, 1697, 1699, 1701, 1703, 1705, 1707, 1709, 1711, 1713, 1715, 1717, 1719, 1721, 1723, 1725, 1727, 1729, 1731, 1733, 1735, 1737, 1739, 1741, 1743, 1745, 1747, 1749, 1751, 1753, 1755, 1757, 1759, 1761, 1763, 1765] (by decide +kernel) (by decide +kernel)
