theorem wsIn {ws : List Cond} (ps : List Nat) (hp : ws = ps.filterMap (fun i => lw_tbl[i]?)) (h : ws.all goodWord = true) : ∀ w ∈ ws, w ∈ wgT := by
  intro w hw
  have h1 := List.all_eq_true.mp h w hw
  rw [hp] at hw
  obtain ⟨i, -, hi⟩ := List.mem_filterMap.mp hw
  exact wgT_in (List.mem_of_getElem? hi) h1
theorem cwX0 : ∀ w ∈ u_ws RX0 TX0 4, w ∈ wgT := wsIn [538, 540, 542, 544] (by decide +kernel) (by decide +kernel)
theorem cwX1 : ∀ w ∈ u_ws RX1 TX1 20, w ∈ wgT := wsIn [398, 400, 402, 404, 406, 408, 410, 412, 414, 416, 418, 420, 422, 424, 426, 428, 430, 432, 434, 436] (by decide +kernel) (by decide +kernel)
theorem cwX2 : ∀ w ∈ u_ws RX2 TX2 4, w ∈ wgT := wsIn [311, 313, 315, 317] (by decide +kernel) (by decide +kernel)
theorem cwX3 : ∀ w ∈ u_ws RX3 TX3 6, w ∈ wgT := wsIn [637, 639, 641, 643, 645, 647] (by decide +kernel) (by decide +kernel)
theorem cwX4 : ∀ w ∈ u_ws RX4 TX4 13, w ∈ wgT := wsIn [596, 598, 600, 602, 604, 606, 608, 610, 612, 614, 616, 618, 620] (by decide +kernel) (by decide +kernel)
theorem cwX5 : ∀ w ∈ u_ws RX5 TX5 11, w ∈ wgT := wsIn [454, 456, 458, 460, 462, 464, 466, 468, 470, 472, 474] (by decide +kernel) (by decide +kernel)
theorem cwX6 : ∀ w ∈ u_ws RX6 TX6 8, w ∈ wgT := wsIn [338, 340, 342, 344, 346, 348, 350, 352] (by decide +kernel) (by decide +kernel)
theorem cwX7 : ∀ w ∈ u_ws RX7 TX7 7, w ∈ wgT := wsIn [511, 513, 515, 517, 519, 521, 523] (by decide +kernel) (by decide +kernel)
theorem cwX8 : ∀ w ∈ u_ws RX8 TX8 8, w ∈ wgT := wsIn [273, 275, 277, 279, 281, 283, 285, 287] (by decide +kernel) (by decide +kernel)
theorem cwX9 : ∀ w ∈ u_ws RX9 TX9 7, w ∈ wgT := wsIn [561, 563, 565, 567, 569, 571, 573] (by decide +kernel) (by decide +kernel)
theorem cwX10 : ∀ w ∈ u_ws RX10 TX10 10, w ∈ wgT := wsIn [661, 663, 665, 667, 669, 671, 673, 675, 677, 679] (by decide +kernel) (by decide +kernel)
theorem cwX11 : ∀ w ∈ u_ws RX11 TX11 87, w ∈ wgT := wsIn [1623, 1625, 1627, 1629, 1631, 1633, 1635, 1637, 1639, 1641, 1643, 1645, 1647, 1649, 1651, 1653, 1655, 1657, 1659, 1661, 1663, 1665, 1667, 1669, 1671, 1673, 1675, 1677, 1679, 1681, 1683, 1685, 1687, 1689, 1691, 1693, 1695, 1697, 1699, 1701, 1703, 1705, 1707, 1709, 1711, 1713, 1715, 1717, 1719, 1721, 1723, 1725, 1727, 1729, 1731, 1733, 1735, 1737, 1739, 1741, 1743, 1745, 1747, 1749, 1751, 1753, 1755, 1757, 1759, 1761, 1763, 1765, 1767, 1769, 1771, 1773, 1775, 1777, 1779, 1781, 1783, 1785, 1787, 1789, 1791, 1793, 1795] (by decide +kernel) (by decide +kernel)
