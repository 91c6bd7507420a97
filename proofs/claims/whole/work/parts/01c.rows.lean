theorem lw_len : lw_tbl.length = 2360 := by decide +kernel
theorem iWX0 : ∀ w ∈ u_ws RX0 TX0 12, w ∈ GW := by
  have h : u_ws RX0 TX0 12 = [476, 478, 480, 482, 484, 486, 488, 490, 492, 494, 496, 498].map (fun i => lw_tbl.getD i (.initialized "")) := by decide +kernel
  have g : (u_ws RX0 TX0 12).all goodWord = true := by decide +kernel
  have z : [476, 478, 480, 482, 484, 486, 488, 490, 492, 494, 496, 498].all (fun i => decide (i < 2360)) = true := by decide +kernel
  intro w hw
  have gw := List.all_eq_true.mp g w hw
  rw [h] at hw
  obtain ⟨i, hi, rfl⟩ := List.mem_map.mp hw
  have hl : i < lw_tbl.length := by
    have := List.all_eq_true.mp z i hi
    rw [lw_len]; simpa using this
  refine List.mem_filter.mpr ⟨?_, gw⟩
  rw [List.getD_eq_getElem?_getD, List.getElem?_eq_getElem hl]
  exact List.getElem_mem hl
theorem iWX1 : ∀ w ∈ u_ws RX1 TX1 8, w ∈ GW := by
  have h : u_ws RX1 TX1 8 = [320, 322, 324, 326, 328, 330, 332, 334].map (fun i => lw_tbl.getD i (.initialized "")) := by decide +kernel
  have g : (u_ws RX1 TX1 8).all goodWord = true := by decide +kernel
  have z : [320, 322, 324, 326, 328, 330, 332, 334].all (fun i => decide (i < 2360)) = true := by decide +kernel
  intro w hw
  have gw := List.all_eq_true.mp g w hw
  rw [h] at hw
  obtain ⟨i, hi, rfl⟩ := List.mem_map.mp hw
  have hl : i < lw_tbl.length := by
    have := List.all_eq_true.mp z i hi
    rw [lw_len]; simpa using this
  refine List.mem_filter.mpr ⟨?_, gw⟩
  rw [List.getD_eq_getElem?_getD, List.getElem?_eq_getElem hl]
  exact List.getElem_mem hl
theorem iWX2 : ∀ w ∈ u_ws RX2 TX2 10, w ∈ GW := by
  have h : u_ws RX2 TX2 10 = [376, 378, 380, 382, 384, 386, 388, 390, 392, 394].map (fun i => lw_tbl.getD i (.initialized "")) := by decide +kernel
  have g : (u_ws RX2 TX2 10).all goodWord = true := by decide +kernel
  have z : [376, 378, 380, 382, 384, 386, 388, 390, 392, 394].all (fun i => decide (i < 2360)) = true := by decide +kernel
  intro w hw
  have gw := List.all_eq_true.mp g w hw
  rw [h] at hw
  obtain ⟨i, hi, rfl⟩ := List.mem_map.mp hw
  have hl : i < lw_tbl.length := by
    have := List.all_eq_true.mp z i hi
    rw [lw_len]; simpa using this
  refine List.mem_filter.mpr ⟨?_, gw⟩
  rw [List.getD_eq_getElem?_getD, List.getElem?_eq_getElem hl]
  exact List.getElem_mem hl
theorem iWX3 : ∀ w ∈ u_ws RX3 TX3 5, w ∈ GW := by
  have h : u_ws RX3 TX3 5 = [512, 514, 516, 518, 520].map (fun i => lw_tbl.getD i (.initialized "")) := by decide +kernel
  have g : (u_ws RX3 TX3 5).all goodWord = true := by decide +kernel
  have z : [512, 514, 516, 518, 520].all (fun i => decide (i < 2360)) = true := by decide +kernel
  intro w hw
  have gw := List.all_eq_true.mp g w hw
  rw [h] at hw
  obtain ⟨i, hi, rfl⟩ := List.mem_map.mp hw
  have hl : i < lw_tbl.length := by
    have := List.all_eq_true.mp z i hi
    rw [lw_len]; simpa using this
  refine List.mem_filter.mpr ⟨?_, gw⟩
  rw [List.getD_eq_getElem?_getD, List.getElem?_eq_getElem hl]
  exact List.getElem_mem hl
theorem iWX4 : ∀ w ∈ u_ws RX4 TX4 2, w ∈ GW := by
  have h : u_ws RX4 TX4 2 = [301, 303].map (fun i => lw_tbl.getD i (.initialized "")) := by decide +kernel
  have g : (u_ws RX4 TX4 2).all goodWord = true := by decide +kernel
  have z : [301, 303].all (fun i => decide (i < 2360)) = true := by decide +kernel
  intro w hw
  have gw := List.all_eq_true.mp g w hw
  rw [h] at hw
  obtain ⟨i, hi, rfl⟩ := List.mem_map.mp hw
  have hl : i < lw_tbl.length := by
    have := List.all_eq_true.mp z i hi
    rw [lw_len]; simpa using this
  refine List.mem_filter.mpr ⟨?_, gw⟩
  rw [List.getD_eq_getElem?_getD, List.getElem?_eq_getElem hl]
  exact List.getElem_mem hl
theorem iWX5 : ∀ w ∈ u_ws RX5 TX5 18, w ∈ GW := by
  have h : u_ws RX5 TX5 18 = [421, 423, 425, 427, 429, 431, 433, 435, 437, 439, 441, 443, 445, 447, 449, 451, 453, 455].map (fun i => lw_tbl.getD i (.initialized "")) := by decide +kernel
  have g : (u_ws RX5 TX5 18).all goodWord = true := by decide +kernel
  have z : [421, 423, 425, 427, 429, 431, 433, 435, 437, 439, 441, 443, 445, 447, 449, 451, 453, 455].all (fun i => decide (i < 2360)) = true := by decide +kernel
  intro w hw
  have gw := List.all_eq_true.mp g w hw
  rw [h] at hw
  obtain ⟨i, hi, rfl⟩ := List.mem_map.mp hw
  have hl : i < lw_tbl.length := by
    have := List.all_eq_true.mp z i hi
    rw [lw_len]; simpa using this
  refine List.mem_filter.mpr ⟨?_, gw⟩
  rw [List.getD_eq_getElem?_getD, List.getElem?_eq_getElem hl]
  exact List.getElem_mem hl
theorem iWX6 : ∀ w ∈ u_ws RX6 TX6 5, w ∈ GW := by
  have h : u_ws RX6 TX6 5 = [279, 281, 283, 285, 287].map (fun i => lw_tbl.getD i (.initialized "")) := by decide +kernel
  have g : (u_ws RX6 TX6 5).all goodWord = true := by decide +kernel
  have z : [279, 281, 283, 285, 287].all (fun i => decide (i < 2360)) = true := by decide +kernel
  intro w hw
  have gw := List.all_eq_true.mp g w hw
  rw [h] at hw
  obtain ⟨i, hi, rfl⟩ := List.mem_map.mp hw
  have hl : i < lw_tbl.length := by
    have := List.all_eq_true.mp z i hi
    rw [lw_len]; simpa using this
  refine List.mem_filter.mpr ⟨?_, gw⟩
  rw [List.getD_eq_getElem?_getD, List.getElem?_eq_getElem hl]
  exact List.getElem_mem hl
theorem iWX7 : ∀ w ∈ u_ws RX7 TX7 18, w ∈ GW := by
  have h : u_ws RX7 TX7 18 = [191, 193, 195, 197, 199, 201, 203, 205, 207, 209, 211, 213, 215, 217, 219, 221, 223, 225].map (fun i => lw_tbl.getD i (.initialized "")) := by decide +kernel
  have g : (u_ws RX7 TX7 18).all goodWord = true := by decide +kernel
  have z : [191, 193, 195, 197, 199, 201, 203, 205, 207, 209, 211, 213, 215, 217, 219, 221, 223, 225].all (fun i => decide (i < 2360)) = true := by decide +kernel
  intro w hw
  have gw := List.all_eq_true.mp g w hw
  rw [h] at hw
  obtain ⟨i, hi, rfl⟩ := List.mem_map.mp hw
  have hl : i < lw_tbl.length := by
    have := List.all_eq_true.mp z i hi
    rw [lw_len]; simpa using this
  refine List.mem_filter.mpr ⟨?_, gw⟩
  rw [List.getD_eq_getElem?_getD, List.getElem?_eq_getElem hl]
  exact List.getElem_mem hl
theorem iWX8 : ∀ w ∈ u_ws RX8 TX8 5, w ∈ GW := by
  have h : u_ws RX8 TX8 5 = [355, 357, 359, 361, 363].map (fun i => lw_tbl.getD i (.initialized "")) := by decide +kernel
  have g : (u_ws RX8 TX8 5).all goodWord = true := by decide +kernel
  have z : [355, 357, 359, 361, 363].all (fun i => decide (i < 2360)) = true := by decide +kernel
  intro w hw
  have gw := List.all_eq_true.mp g w hw
  rw [h] at hw
  obtain ⟨i, hi, rfl⟩ := List.mem_map.mp hw
  have hl : i < lw_tbl.length := by
    have := List.all_eq_true.mp z i hi
    rw [lw_len]; simpa using this
  refine List.mem_filter.mpr ⟨?_, gw⟩
  rw [List.getD_eq_getElem?_getD, List.getElem?_eq_getElem hl]
  exact List.getElem_mem hl
theorem iWX9 : ∀ w ∈ u_ws RX9 TX9 2, w ∈ GW := by
  have h : u_ws RX9 TX9 2 = [161, 163].map (fun i => lw_tbl.getD i (.initialized "")) := by decide +kernel
  have g : (u_ws RX9 TX9 2).all goodWord = true := by decide +kernel
  have z : [161, 163].all (fun i => decide (i < 2360)) = true := by decide +kernel
  intro w hw
  have gw := List.all_eq_true.mp g w hw
  rw [h] at hw
  obtain ⟨i, hi, rfl⟩ := List.mem_map.mp hw
  have hl : i < lw_tbl.length := by
    have := List.all_eq_true.mp z i hi
    rw [lw_len]; simpa using this
  refine List.mem_filter.mpr ⟨?_, gw⟩
  rw [List.getD_eq_getElem?_getD, List.getElem?_eq_getElem hl]
  exact List.getElem_mem hl
theorem iWX10 : ∀ w ∈ u_ws RX10 TX10 11, w ∈ GW := by
  have h : u_ws RX10 TX10 11 = [251, 253, 255, 257, 259, 261, 263, 265, 267, 269, 271].map (fun i => lw_tbl.getD i (.initialized "")) := by decide +kernel
  have g : (u_ws RX10 TX10 11).all goodWord = true := by decide +kernel
  have z : [251, 253, 255, 257, 259, 261, 263, 265, 267, 269, 271].all (fun i => decide (i < 2360)) = true := by decide +kernel
  intro w hw
  have gw := List.all_eq_true.mp g w hw
  rw [h] at hw
  obtain ⟨i, hi, rfl⟩ := List.mem_map.mp hw
  have hl : i < lw_tbl.length := by
    have := List.all_eq_true.mp z i hi
    rw [lw_len]; simpa using this
  refine List.mem_filter.mpr ⟨?_, gw⟩
  rw [List.getD_eq_getElem?_getD, List.getElem?_eq_getElem hl]
  exact List.getElem_mem hl
theorem iWX11 : ∀ w ∈ u_ws RX11 TX11 16, w ∈ GW := by
  have h : u_ws RX11 TX11 16 = [539, 541, 543, 545, 547, 549, 551, 553, 555, 557, 559, 561, 563, 565, 567, 569].map (fun i => lw_tbl.getD i (.initialized "")) := by decide +kernel
  have g : (u_ws RX11 TX11 16).all goodWord = true := by decide +kernel
  have z : [539, 541, 543, 545, 547, 549, 551, 553, 555, 557, 559, 561, 563, 565, 567, 569].all (fun i => decide (i < 2360)) = true := by decide +kernel
  intro w hw
  have gw := List.all_eq_true.mp g w hw
  rw [h] at hw
  obtain ⟨i, hi, rfl⟩ := List.mem_map.mp hw
  have hl : i < lw_tbl.length := by
    have := List.all_eq_true.mp z i hi
    rw [lw_len]; simpa using this
  refine List.mem_filter.mpr ⟨?_, gw⟩
  rw [List.getD_eq_getElem?_getD, List.getElem?_eq_getElem hl]
  exact List.getElem_mem hl
theorem iWX12 : ∀ w ∈ u_ws RX12 TX12 92, w ∈ GW := by
  have h : u_ws RX12 TX12 92 = [1688, 1690, 1692, 1694, 1696, 1698, 1700, 1702, 1704, 1706, 1708, 1710, 1712, 1714, 1716, 1718, 1720, 1722, 1724, 1726, 1728, 1730, 1732, 1734, 1736, 1738, 1740, 1742, 1744, 1746, 1748, 1750, 1752, 1754, 1756, 1758, 1760, 1762, 1764, 1766, 1768, 1770, 1772, 1774, 1776, 1778, 1780, 1782, 1784, 1786, 1788, 1790, 1792, 1794, 1796, 1798, 1800, 1802, 1804, 1806, 1808, 1810, 1812, 1814, 1816, 1818, 1820, 1822, 1824, 1826, 1828, 1830, 1832, 1834, 1836, 1838, 1840, 1842, 1844, 1846, 1848, 1850, 1852, 1854, 1856, 1858, 1860, 1862, 1864, 1866, 1868, 1870].map (fun i => lw_tbl.getD i (.initialized "")) := by decide +kernel
  have g : (u_ws RX12 TX12 92).all goodWord = true := by decide +kernel
  have z : [1688, 1690, 1692, 1694, 1696, 1698, 1700, 1702, 1704, 1706, 1708, 1710, 1712, 1714, 1716, 1718, 1720, 1722, 1724, 1726, 1728, 1730, 1732, 1734, 1736, 1738, 1740, 1742, 1744, 1746, 1748, 1750, 1752, 1754, 1756, 1758, 1760, 1762, 1764, 1766, 1768, 1770, 1772, 1774, 1776, 1778, 1780, 1782, 1784, 1786, 1788, 1790, 1792, 1794, 1796, 1798, 1800, 1802, 1804, 1806, 1808, 1810, 1812, 1814, 1816, 1818, 1820, 1822, 1824, 1826, 1828, 1830, 1832, 1834, 1836, 1838, 1840, 1842, 1844, 1846, 1848, 1850, 1852, 1854, 1856, 1858, 1860, 1862, 1864, 1866, 1868, 1870].all (fun i => decide (i < 2360)) = true := by decide +kernel
  intro w hw
  have gw := List.all_eq_true.mp g w hw
  rw [h] at hw
  obtain ⟨i, hi, rfl⟩ := List.mem_map.mp hw
  have hl : i < lw_tbl.length := by
    have := List.all_eq_true.mp z i hi
    rw [lw_len]; simpa using this
  refine List.mem_filter.mpr ⟨?_, gw⟩
  rw [List.getD_eq_getElem?_getD, List.getElem?_eq_getElem hl]
  exact List.getElem_mem hl
