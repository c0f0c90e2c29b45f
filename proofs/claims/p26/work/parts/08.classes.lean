theorem tb_of {w : Cond} (i : Nat) (h : tables_1[i]? = some w) (g : goodWord w = true) : w ∈ TB := List.mem_filter.mpr ⟨List.mem_append_right _ (List.mem_of_getElem? h), g⟩
theorem tb_sel {w : Cond} (i : Nat) (h : (k2_sels lw_privs)[i]? = some w) (g : goodWord w = true) : w ∈ TB := List.mem_filter.mpr ⟨List.mem_append_left _ (List.mem_of_getElem? h), g⟩
theorem tbk_1 : ∀ w ∈ tables_1_1, w ∈ tables_1 := fun w h => by unfold tables_1; simp only [List.mem_append]; simp [h]
theorem tbk_2 : ∀ w ∈ tables_1_2, w ∈ tables_1 := fun w h => by unfold tables_1; simp only [List.mem_append]; simp [h]
theorem tbk_3 : ∀ w ∈ tables_1_3, w ∈ tables_1 := fun w h => by unfold tables_1; simp only [List.mem_append]; simp [h]
theorem tbk_4 : ∀ w ∈ tables_1_4, w ∈ tables_1 := fun w h => by unfold tables_1; simp only [List.mem_append]; simp [h]
theorem tbk_5 : ∀ w ∈ tables_1_5, w ∈ tables_1 := fun w h => by unfold tables_1; simp only [List.mem_append]; simp [h]
theorem tbk_6 : ∀ w ∈ tables_1_6, w ∈ tables_1 := fun w h => by unfold tables_1; simp only [List.mem_append]; simp [h]
theorem tbk_7 : ∀ w ∈ tables_1_7, w ∈ tables_1 := fun w h => by unfold tables_1; simp only [List.mem_append]; simp [h]
theorem tbk_8 : ∀ w ∈ tables_1_8, w ∈ tables_1 := fun w h => by unfold tables_1; simp only [List.mem_append]; simp [h]
theorem tbk_9 : ∀ w ∈ tables_1_9, w ∈ tables_1 := fun w h => by unfold tables_1; simp only [List.mem_append]; simp [h]
theorem tbk_10 : ∀ w ∈ tables_1_10, w ∈ tables_1 := fun w h => by unfold tables_1; simp only [List.mem_append]; simp [h]
theorem tbk_11 : ∀ w ∈ tables_1_11, w ∈ tables_1 := fun w h => by unfold tables_1; simp only [List.mem_append]; simp [h]
theorem tbk_12 : ∀ w ∈ tables_1_12, w ∈ tables_1 := fun w h => by unfold tables_1; simp only [List.mem_append]; simp [h]
theorem tbL {w : Cond} {L : List Cond} (hL : ∀ w ∈ L, w ∈ tables_1) (i : Nat) (h : L[i]? = some w) (g : goodWord w = true) : w ∈ TB := List.mem_filter.mpr ⟨List.mem_append_right _ (hL w (List.mem_of_getElem? h)), g⟩
theorem nwL {w : Cond} {L : List Cond} (hL : ∀ w ∈ L, w ∈ tables_1) (i : Nat) (h : L[i]? = some w) (g : nwWord w = true) : w ∈ NWL := List.mem_filter.mpr ⟨List.mem_append_right _ (hL w (List.mem_of_getElem? h)), g⟩
set_option maxRecDepth 100000 in
theorem clw_0 : ∀ w ∈ u_ws (cls 0).1 (cls 0).2.1 (cls 0).2.2, w ∈ TB := by
  have h : (u_ws (cls 0).1 (cls 0).2.1 (cls 0).2.2).all (fun w => goodWord w) = true := by decide +kernel
  have h2 : (u_ws (cls 0).1 (cls 0).2.1 (cls 0).2.2).map some = ([1092] : List Nat).map (fun i => tables_1[i]?) := by decide +kernel
  intro w hw
  have h3 : some w ∈ ([1092] : List Nat).map (fun i => tables_1[i]?) := by rw [← h2]; exact List.mem_map_of_mem hw
  obtain ⟨i, -, hi⟩ := List.mem_map.mp h3
  exact tb_of i hi (List.all_eq_true.mp h w hw)
theorem clk_0 : clOK 0 := ⟨rfl, by decide +kernel, by decide +kernel, clw_0⟩
set_option maxRecDepth 100000 in
theorem clw_1 : ∀ w ∈ u_ws (cls 1).1 (cls 1).2.1 (cls 1).2.2, w ∈ TB := by
  have h : (u_ws (cls 1).1 (cls 1).2.1 (cls 1).2.2).all (fun w => goodWord w) = true := by decide +kernel
  have h2 : (u_ws (cls 1).1 (cls 1).2.1 (cls 1).2.2).map some = ([60, 56, 58] : List Nat).map (fun i => tables_1[i]?) := by decide +kernel
  intro w hw
  have h3 : some w ∈ ([60, 56, 58] : List Nat).map (fun i => tables_1[i]?) := by rw [← h2]; exact List.mem_map_of_mem hw
  obtain ⟨i, -, hi⟩ := List.mem_map.mp h3
  exact tb_of i hi (List.all_eq_true.mp h w hw)
theorem clk_1 : clOK 1 := ⟨rfl, by decide +kernel, by decide +kernel, clw_1⟩
set_option maxRecDepth 100000 in
theorem clw_2 : ∀ w ∈ u_ws (cls 2).1 (cls 2).2.1 (cls 2).2.2, w ∈ TB := by
  have h : (u_ws (cls 2).1 (cls 2).2.1 (cls 2).2.2).all (fun w => goodWord w) = true := by decide +kernel
  have h2 : (u_ws (cls 2).1 (cls 2).2.1 (cls 2).2.2).map some = ([404, 406, 408, 410, 412, 414, 416, 418, 420, 422, 424, 426, 428, 430, 432, 434, 436] : List Nat).map (fun i => tables_1[i]?) := by decide +kernel
  intro w hw
  have h3 : some w ∈ ([404, 406, 408, 410, 412, 414, 416, 418, 420, 422, 424, 426, 428, 430, 432, 434, 436] : List Nat).map (fun i => tables_1[i]?) := by rw [← h2]; exact List.mem_map_of_mem hw
  obtain ⟨i, -, hi⟩ := List.mem_map.mp h3
  exact tb_of i hi (List.all_eq_true.mp h w hw)
theorem clk_2 : clOK 2 := ⟨rfl, by decide +kernel, by decide +kernel, clw_2⟩
set_option maxRecDepth 100000 in
theorem clw_3 : ∀ w ∈ u_ws (cls 3).1 (cls 3).2.1 (cls 3).2.2, w ∈ TB := by
  have h : (u_ws (cls 3).1 (cls 3).2.1 (cls 3).2.2).all (fun w => goodWord w) = true := by decide +kernel
  have h2 : (u_ws (cls 3).1 (cls 3).2.1 (cls 3).2.2).map some = ([515, 517, 519, 521, 523, 525, 527, 529, 531, 533, 535, 537, 539, 541, 543, 545, 547, 549] : List Nat).map (fun i => tables_1[i]?) := by decide +kernel
  intro w hw
  have h3 : some w ∈ ([515, 517, 519, 521, 523, 525, 527, 529, 531, 533, 535, 537, 539, 541, 543, 545, 547, 549] : List Nat).map (fun i => tables_1[i]?) := by rw [← h2]; exact List.mem_map_of_mem hw
  obtain ⟨i, -, hi⟩ := List.mem_map.mp h3
  exact tb_of i hi (List.all_eq_true.mp h w hw)
theorem clk_3 : clOK 3 := ⟨rfl, by decide +kernel, by decide +kernel, clw_3⟩
set_option maxRecDepth 100000 in
theorem clw_4 : ∀ w ∈ u_ws (cls 4).1 (cls 4).2.1 (cls 4).2.2, w ∈ TB := by
  have h : (u_ws (cls 4).1 (cls 4).2.1 (cls 4).2.2).all (fun w => goodWord w) = true := by decide +kernel
  have h2 : (u_ws (cls 4).1 (cls 4).2.1 (cls 4).2.2).map some = ([1264, 1266, 1268, 1270, 1272, 1274, 1276, 1278, 1280, 1282, 1284, 1286, 1288, 1290] : List Nat).map (fun i => tables_1[i]?) := by decide +kernel
  intro w hw
  have h3 : some w ∈ ([1264, 1266, 1268, 1270, 1272, 1274, 1276, 1278, 1280, 1282, 1284, 1286, 1288, 1290] : List Nat).map (fun i => tables_1[i]?) := by rw [← h2]; exact List.mem_map_of_mem hw
  obtain ⟨i, -, hi⟩ := List.mem_map.mp h3
  exact tb_of i hi (List.all_eq_true.mp h w hw)
theorem clk_4 : clOK 4 := ⟨rfl, by decide +kernel, by decide +kernel, clw_4⟩
set_option maxRecDepth 100000 in
theorem clw_5 : ∀ w ∈ u_ws (cls 5).1 (cls 5).2.1 (cls 5).2.2, w ∈ TB := by
  have h : (u_ws (cls 5).1 (cls 5).2.1 (cls 5).2.2).all (fun w => goodWord w) = true := by decide +kernel
  have h2 : (u_ws (cls 5).1 (cls 5).2.1 (cls 5).2.2).map some = ([773, 775, 777, 779, 781, 783, 785, 787, 789, 791, 793, 795, 797] : List Nat).map (fun i => tables_1[i]?) := by decide +kernel
  intro w hw
  have h3 : some w ∈ ([773, 775, 777, 779, 781, 783, 785, 787, 789, 791, 793, 795, 797] : List Nat).map (fun i => tables_1[i]?) := by rw [← h2]; exact List.mem_map_of_mem hw
  obtain ⟨i, -, hi⟩ := List.mem_map.mp h3
  exact tb_of i hi (List.all_eq_true.mp h w hw)
theorem clk_5 : clOK 5 := ⟨rfl, by decide +kernel, by decide +kernel, clw_5⟩
set_option maxRecDepth 100000 in
theorem clw_6 : ∀ w ∈ u_ws (cls 6).1 (cls 6).2.1 (cls 6).2.2, w ∈ TB := by
  have h : (u_ws (cls 6).1 (cls 6).2.1 (cls 6).2.2).all (fun w => goodWord w) = true := by decide +kernel
  have h2 : (u_ws (cls 6).1 (cls 6).2.1 (cls 6).2.2).map some = ([238, 240, 242, 244, 246, 248, 250, 252] : List Nat).map (fun i => tables_1[i]?) := by decide +kernel
  intro w hw
  have h3 : some w ∈ ([238, 240, 242, 244, 246, 248, 250, 252] : List Nat).map (fun i => tables_1[i]?) := by rw [← h2]; exact List.mem_map_of_mem hw
  obtain ⟨i, -, hi⟩ := List.mem_map.mp h3
  exact tb_of i hi (List.all_eq_true.mp h w hw)
theorem clk_6 : clOK 6 := ⟨rfl, by decide +kernel, by decide +kernel, clw_6⟩
set_option maxRecDepth 100000 in
theorem clw_7 : ∀ w ∈ u_ws (cls 7).1 (cls 7).2.1 (cls 7).2.2, w ∈ TB := by
  have h : (u_ws (cls 7).1 (cls 7).2.1 (cls 7).2.2).all (fun w => goodWord w) = true := by decide +kernel
  have h2 : (u_ws (cls 7).1 (cls 7).2.1 (cls 7).2.2).map some = ([1531, 1533, 1535, 1537, 1539, 1541, 1543, 1545, 1547, 1549, 1551, 1553, 1555] : List Nat).map (fun i => tables_1[i]?) := by decide +kernel
  intro w hw
  have h3 : some w ∈ ([1531, 1533, 1535, 1537, 1539, 1541, 1543, 1545, 1547, 1549, 1551, 1553, 1555] : List Nat).map (fun i => tables_1[i]?) := by rw [← h2]; exact List.mem_map_of_mem hw
  obtain ⟨i, -, hi⟩ := List.mem_map.mp h3
  exact tb_of i hi (List.all_eq_true.mp h w hw)
theorem clk_7 : clOK 7 := ⟨rfl, by decide +kernel, by decide +kernel, clw_7⟩
set_option maxRecDepth 100000 in
theorem clw_8 : ∀ w ∈ u_ws (cls 8).1 (cls 8).2.1 (cls 8).2.2, w ∈ TB := by
  have h : (u_ws (cls 8).1 (cls 8).2.1 (cls 8).2.2).all (fun w => goodWord w) = true := by decide +kernel
  have h2 : (u_ws (cls 8).1 (cls 8).2.1 (cls 8).2.2).map some = ([452, 454, 456, 458, 460] : List Nat).map (fun i => tables_1[i]?) := by decide +kernel
  intro w hw
  have h3 : some w ∈ ([452, 454, 456, 458, 460] : List Nat).map (fun i => tables_1[i]?) := by rw [← h2]; exact List.mem_map_of_mem hw
  obtain ⟨i, -, hi⟩ := List.mem_map.mp h3
  exact tb_of i hi (List.all_eq_true.mp h w hw)
theorem clk_8 : clOK 8 := ⟨rfl, by decide +kernel, by decide +kernel, clw_8⟩
set_option maxRecDepth 100000 in
theorem clw_9 : ∀ w ∈ u_ws (cls 9).1 (cls 9).2.1 (cls 9).2.2, w ∈ TB := by
  have h : (u_ws (cls 9).1 (cls 9).2.1 (cls 9).2.2).all (fun w => goodWord w) = true := by decide +kernel
  have h2 : (u_ws (cls 9).1 (cls 9).2.1 (cls 9).2.2).map some = ([199, 201, 203, 205, 207, 209, 211, 213, 215, 217, 219, 221, 223, 225] : List Nat).map (fun i => tables_1[i]?) := by decide +kernel
  intro w hw
  have h3 : some w ∈ ([199, 201, 203, 205, 207, 209, 211, 213, 215, 217, 219, 221, 223, 225] : List Nat).map (fun i => tables_1[i]?) := by rw [← h2]; exact List.mem_map_of_mem hw
  obtain ⟨i, -, hi⟩ := List.mem_map.mp h3
  exact tb_of i hi (List.all_eq_true.mp h w hw)
theorem clk_9 : clOK 9 := ⟨rfl, by decide +kernel, by decide +kernel, clw_9⟩
set_option maxRecDepth 100000 in
theorem clw_10 : ∀ w ∈ u_ws (cls 10).1 (cls 10).2.1 (cls 10).2.2, w ∈ TB := by
  have h : (u_ws (cls 10).1 (cls 10).2.1 (cls 10).2.2).all (fun w => goodWord w) = true := by decide +kernel
  have h2 : (u_ws (cls 10).1 (cls 10).2.1 (cls 10).2.2).map some = ([89, 91, 93, 95, 97, 99, 101, 103, 105, 107, 109] : List Nat).map (fun i => tables_1[i]?) := by decide +kernel
  intro w hw
  have h3 : some w ∈ ([89, 91, 93, 95, 97, 99, 101, 103, 105, 107, 109] : List Nat).map (fun i => tables_1[i]?) := by rw [← h2]; exact List.mem_map_of_mem hw
  obtain ⟨i, -, hi⟩ := List.mem_map.mp h3
  exact tb_of i hi (List.all_eq_true.mp h w hw)
theorem clk_10 : clOK 10 := ⟨rfl, by decide +kernel, by decide +kernel, clw_10⟩
set_option maxRecDepth 100000 in
theorem clw_11 : ∀ w ∈ u_ws (cls 11).1 (cls 11).2.1 (cls 11).2.2, w ∈ TB := by
  have h : (u_ws (cls 11).1 (cls 11).2.1 (cls 11).2.2).all (fun w => goodWord w) = true := by decide +kernel
  have h2 : (u_ws (cls 11).1 (cls 11).2.1 (cls 11).2.2).map some = ([270, 272, 274, 276, 278, 280, 282, 284, 286] : List Nat).map (fun i => tables_1[i]?) := by decide +kernel
  intro w hw
  have h3 : some w ∈ ([270, 272, 274, 276, 278, 280, 282, 284, 286] : List Nat).map (fun i => tables_1[i]?) := by rw [← h2]; exact List.mem_map_of_mem hw
  obtain ⟨i, -, hi⟩ := List.mem_map.mp h3
  exact tb_of i hi (List.all_eq_true.mp h w hw)
theorem clk_11 : clOK 11 := ⟨rfl, by decide +kernel, by decide +kernel, clw_11⟩
set_option maxRecDepth 100000 in
theorem clw_12 : ∀ w ∈ u_ws (cls 12).1 (cls 12).2.1 (cls 12).2.2, w ∈ TB := by
  have h : (u_ws (cls 12).1 (cls 12).2.1 (cls 12).2.2).all (fun w => goodWord w) = true := by decide +kernel
  have h2 : (u_ws (cls 12).1 (cls 12).2.1 (cls 12).2.2).map some = ([298, 300, 302, 304, 306, 308, 310, 312, 314] : List Nat).map (fun i => tables_1[i]?) := by decide +kernel
  intro w hw
  have h3 : some w ∈ ([298, 300, 302, 304, 306, 308, 310, 312, 314] : List Nat).map (fun i => tables_1[i]?) := by rw [← h2]; exact List.mem_map_of_mem hw
  obtain ⟨i, -, hi⟩ := List.mem_map.mp h3
  exact tb_of i hi (List.all_eq_true.mp h w hw)
theorem clk_12 : clOK 12 := ⟨rfl, by decide +kernel, by decide +kernel, clw_12⟩
set_option maxRecDepth 100000 in
theorem clw_13 : ∀ w ∈ u_ws (cls 13).1 (cls 13).2.1 (cls 13).2.2, w ∈ TB := by
  have h : (u_ws (cls 13).1 (cls 13).2.1 (cls 13).2.2).all (fun w => goodWord w) = true := by decide +kernel
  have h2 : (u_ws (cls 13).1 (cls 13).2.1 (cls 13).2.2).map some = ([1785, 1787, 1789, 1791, 1793, 1795, 1797, 1799, 1801, 1803, 1805, 1807, 1809, 1811, 1813, 1815, 1817, 1819, 1821, 1823, 1825, 1827, 1829, 1831, 1833, 1835, 1837, 1839, 1841, 1843, 1845, 1847, 1849, 1851, 1853, 1855, 1857, 1859, 1861, 1863, 1865, 1867, 1869, 1871, 1873, 1875, 1877, 1879, 1881, 1883, 1885, 1887, 1889, 1891, 1893, 1895, 1897, 1899, 1901, 1903, 1905, 1907, 1909, 1911, 1913, 1915, 1917, 1919, 1921, 1923, 1925, 1927, 1929, 1931, 1933, 1935, 1937, 1939, 1941, 1943, 1945, 1947, 1949, 1951, 1953, 1955, 1957, 1959, 1961, 1963, 1965, 1967, 1969, 1971, 1973, 1975, 1977, 1979, 1981, 1983, 1985, 1987, 1989, 1991, 1993, 1995, 1997, 1999, 2001, 2003, 2005, 2007, 2009, 2011, 2013, 2015, 2017, 2019, 2021, 2023, 2025, 2027, 2029, 2031, 2033, 2035] : List Nat).map (fun i => tables_1[i]?) := by decide +kernel
  intro w hw
  have h3 : some w ∈ ([1785, 1787, 1789, 1791, 1793, 1795, 1797, 1799, 1801, 1803, 1805, 1807, 1809, 1811, 1813, 1815, 1817, 1819, 1821, 1823, 1825, 1827, 1829, 1831, 1833, 1835, 1837, 1839, 1841, 1843, 1845, 1847, 1849, 1851, 1853, 1855, 1857, 1859, 1861, 1863, 1865, 1867, 1869, 1871, 1873, 1875, 1877, 1879, 1881, 1883, 1885, 1887, 1889, 1891, 1893, 1895, 1897, 1899, 1901, 1903, 1905, 1907, 1909, 1911, 1913, 1915, 1917, 1919, 1921, 1923, 1925, 1927, 1929, 1931, 1933, 1935, 1937, 1939, 1941, 1943, 1945, 1947, 1949, 1951, 1953, 1955, 1957, 1959, 1961, 1963, 1965, 1967, 1969, 1971, 1973, 1975, 1977, 1979, 1981, 1983, 1985, 1987, 1989, 1991, 1993, 1995, 1997, 1999, 2001, 2003, 2005, 2007, 2009, 2011, 2013, 2015, 2017, 2019, 2021, 2023, 2025, 2027, 2029, 2031, 2033, 2035] : List Nat).map (fun i => tables_1[i]?) := by rw [← h2]; exact List.mem_map_of_mem hw
  obtain ⟨i, -, hi⟩ := List.mem_map.mp h3
  exact tb_of i hi (List.all_eq_true.mp h w hw)
theorem clk_13 : clOK 13 := ⟨rfl, by decide +kernel, by decide +kernel, clw_13⟩
