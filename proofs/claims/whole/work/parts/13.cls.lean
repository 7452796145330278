theorem tgd_t {w : Cond} (i : Nat) (h : tables_1[i]? = some w) (hg : goodWord w = true) : w ∈ tgd := List.mem_filter.mpr ⟨List.mem_append_right _ (List.mem_of_getElem? h), hg⟩
theorem tgd_p {w : Cond} (i : Nat) (h : (lw_privs[i]?).map (fun q => Cond.selects q.1.cls q.1 q.1) = some w) (hg : goodWord w = true) : w ∈ tgd := by
  refine List.mem_filter.mpr ⟨List.mem_append_left _ ?_, hg⟩
  cases hq : lw_privs[i]? with
  | none => rw [hq] at h; cases h
  | some q => rw [hq] at h; cases h; exact List.mem_map.mpr ⟨q, List.mem_of_getElem? hq, rfl⟩
theorem tgd_u {C : String} {T : u_T} {N : Nat} (ps : List Nat) (h : (List.range N).all (fun j => decide (tables_1[ps.getD j 0]? = some (u_lay C T j)) && goodWord (u_lay C T j)) = true) : ∀ w ∈ u_ws C T N, w ∈ tgd := by
  intro w hw
  obtain ⟨j, hj, rfl⟩ := List.mem_map.mp hw
  have h1 := List.all_eq_true.mp h j hj
  simp only [Bool.and_eq_true, decide_eq_true_eq] at h1
  exact tgd_t _ h1.1 h1.2
theorem kX0 : tCl 0 RX0 TX0 13 tyX0 := ⟨rfl, tgd_u [285, 287, 289, 291, 293, 295, 297, 299, 301, 303, 305, 307, 309] (by decide +kernel), tyX0_ok, nmX0⟩
theorem kX1 : tCl 1 RX1 TX1 10 tyX1 := ⟨rfl, tgd_u [73, 75, 77, 79, 81, 83, 85, 87, 89, 91] (by decide +kernel), tyX1_ok, nmX1⟩
theorem kX2 : tCl 2 RX2 TX2 6 tyX2 := ⟨rfl, tgd_u [181, 183, 185, 187, 189, 191] (by decide +kernel), tyX2_ok, nmX2⟩
theorem kX3 : tCl 3 RX3 TX3 9 tyX3 := ⟨rfl, tgd_u [211, 213, 215, 217, 219, 221, 223, 225, 227] (by decide +kernel), tyX3_ok, nmX3⟩
theorem kX4 : tCl 4 RX4 TX4 14 tyX4 := ⟨rfl, tgd_u [604, 606, 608, 610, 612, 614, 616, 618, 620, 622, 624, 626, 628, 630] (by decide +kernel), tyX4_ok, nmX4⟩
theorem kX5 : tCl 5 RX5 TX5 9 tyX5 := ⟨rfl, tgd_u [121, 123, 125, 127, 129, 131, 133, 135, 137] (by decide +kernel), tyX5_ok, nmX5⟩
theorem kX6 : tCl 6 RX6 TX6 9 tyX6 := ⟨rfl, tgd_u [245, 247, 249, 251, 253, 255, 257, 259, 261] (by decide +kernel), tyX6_ok, nmX6⟩
theorem kX7 : tCl 7 RX7 TX7 15 tyX7 := ⟨rfl, tgd_u [451, 453, 455, 457, 459, 461, 463, 465, 467, 469, 471, 473, 475, 477, 479] (by decide +kernel), tyX7_ok, nmX7⟩
theorem kX8 : tCl 8 RX8 TX8 6 tyX8 := ⟨rfl, tgd_u [156, 158, 160, 162, 164, 166] (by decide +kernel), tyX8_ok, nmX8⟩
theorem kX9 : tCl 9 RX9 TX9 7 tyX9 := ⟨rfl, tgd_u [328, 330, 332, 334, 336, 338, 340] (by decide +kernel), tyX9_ok, nmX9⟩
theorem kX10 : tCl 10 RX10 TX10 12 tyX10 := ⟨rfl, tgd_u [355, 357, 359, 361, 363, 365, 367, 369, 371, 373, 375, 377] (by decide +kernel), tyX10_ok, nmX10⟩
theorem kX11 : tCl 11 RX11 TX11 77 tyX11 := ⟨rfl, tgd_u [1302, 1304, 1306, 1308, 1310, 1312, 1314, 1316, 1318, 1320, 1322, 1324, 1326, 1328, 1330, 1332, 1334, 1336, 1338, 1340, 1342, 1344, 1346, 1348, 1350, 1352, 1354, 1356, 1358, 1360, 1362, 1364, 1366, 1368, 1370, 1372, 1374, 1376, 1378, 1380, 1382, 1384, 1386, 1388, 1390, 1392, 1394, 1396, 1398, 1400, 1402, 1404, 1406, 1408, 1410, 1412, 1414, 1416, 1418, 1420, 1422, 1424, 1426, 1428, 1430, 1432, 1434, 1436, 1438, 1440, 1442, 1444, 1446, 1448, 1450, 1452, 1454] (by decide +kernel), tyX11_ok, nmX11⟩
