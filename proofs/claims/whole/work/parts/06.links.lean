theorem tb_in {x : Cond} {ts : List Cond} (hs : ∀ y ∈ ts, y ∈ tables_1) (h : x ∈ ts) (h2 : goodWord x = true) : x ∈ lw_g := lw_g_in (List.mem_append_right _ (hs x h)) h2
theorem tb_1 : ∀ y ∈ tables_1_1, y ∈ tables_1 := fun _ h => List.mem_append_left _ h
theorem tb_2 : ∀ y ∈ tables_1_2, y ∈ tables_1 := fun _ h => List.mem_append_right _ (List.mem_append_left _ h)
theorem tb_3 : ∀ y ∈ tables_1_3, y ∈ tables_1 := fun _ h => List.mem_append_right _ (List.mem_append_right _ (List.mem_append_left _ h))
theorem tb_4 : ∀ y ∈ tables_1_4, y ∈ tables_1 := fun _ h => List.mem_append_right _ (List.mem_append_right _ (List.mem_append_right _ (List.mem_append_left _ h)))
theorem tb_5 : ∀ y ∈ tables_1_5, y ∈ tables_1 := fun _ h => List.mem_append_right _ (List.mem_append_right _ (List.mem_append_right _ (List.mem_append_right _ (List.mem_append_left _ h))))
theorem tb_6 : ∀ y ∈ tables_1_6, y ∈ tables_1 := fun _ h => List.mem_append_right _ (List.mem_append_right _ (List.mem_append_right _ (List.mem_append_right _ (List.mem_append_right _ (List.mem_append_left _ h)))))
theorem tb_7 : ∀ y ∈ tables_1_7, y ∈ tables_1 := fun _ h => List.mem_append_right _ (List.mem_append_right _ (List.mem_append_right _ (List.mem_append_right _ (List.mem_append_right _ (List.mem_append_right _ (List.mem_append_left _ h))))))
theorem tb_8 : ∀ y ∈ tables_1_8, y ∈ tables_1 := fun _ h => List.mem_append_right _ (List.mem_append_right _ (List.mem_append_right _ (List.mem_append_right _ (List.mem_append_right _ (List.mem_append_right _ (List.mem_append_right _ (h)))))))
theorem sh_words {ws : List Cond} (ps : List Nat) (hp : ws = ps.filterMap (fun i => lw_tbl[i]?)) (h : ws.all goodWord = true) : ∀ x ∈ ws, x ∈ lw_g := by
  intro x hx
  have h1 := List.all_eq_true.mp h x hx
  rw [hp] at hx
  obtain ⟨i, -, hi⟩ := List.mem_filterMap.mp hx
  exact lw_g_in (List.mem_of_getElem? hi) h1
theorem cf_X0 : sh_CF 0 RX0 TX0 11 tyX0 := ⟨rfl, by decide +kernel, sh_words [360, 362, 364, 366, 368, 370, 372, 374, 376, 378, 380] (by decide +kernel) (by decide +kernel), tyX0_ok, nmX0⟩
theorem cf_X1 : sh_CF 1 RX1 TX1 3 tyX1 := ⟨rfl, by decide +kernel, sh_words [254, 256, 258] (by decide +kernel) (by decide +kernel), tyX1_ok, nmX1⟩
theorem cf_X2 : sh_CF 2 RX2 TX2 3 tyX2 := ⟨rfl, by decide +kernel, sh_words [308, 310, 312] (by decide +kernel) (by decide +kernel), tyX2_ok, nmX2⟩
theorem cf_X3 : sh_CF 3 RX3 TX3 4 tyX3 := ⟨rfl, by decide +kernel, sh_words [421, 423, 425, 427] (by decide +kernel) (by decide +kernel), tyX3_ok, nmX3⟩
theorem cf_X4 : sh_CF 4 RX4 TX4 3 tyX4 := ⟨rfl, by decide +kernel, sh_words [215, 217, 219] (by decide +kernel) (by decide +kernel), tyX4_ok, nmX4⟩
theorem cf_X5 : sh_CF 5 RX5 TX5 3 tyX5 := ⟨rfl, by decide +kernel, sh_words [184, 186, 188] (by decide +kernel) (by decide +kernel), tyX5_ok, nmX5⟩
theorem cf_X6 : sh_CF 6 RX6 TX6 4 tyX6 := ⟨rfl, by decide +kernel, sh_words [233, 235, 237, 239] (by decide +kernel) (by decide +kernel), tyX6_ok, nmX6⟩
theorem cf_X7 : sh_CF 7 RX7 TX7 7 tyX7 := ⟨rfl, by decide +kernel, sh_words [276, 278, 280, 282, 284, 286, 288] (by decide +kernel) (by decide +kernel), tyX7_ok, nmX7⟩
theorem cf_X8 : sh_CF 8 RX8 TX8 1 tyX8 := ⟨rfl, by decide +kernel, sh_words [201] (by decide +kernel) (by decide +kernel), tyX8_ok, nmX8⟩
theorem cf_X9 : sh_CF 9 RX9 TX9 9 tyX9 := ⟨rfl, by decide +kernel, sh_words [155, 157, 159, 161, 163, 165, 167, 169, 171] (by decide +kernel) (by decide +kernel), tyX9_ok, nmX9⟩
theorem cf_X10 : sh_CF 10 RX10 TX10 4 tyX10 := ⟨rfl, by decide +kernel, sh_words [396, 398, 400, 402] (by decide +kernel) (by decide +kernel), tyX10_ok, nmX10⟩
theorem cf_X11 : sh_CF 11 RX11 TX11 13 tyX11 := ⟨rfl, by decide +kernel, sh_words [443, 445, 447, 449, 451, 453, 455, 457, 459, 461, 463, 465, 467] (by decide +kernel) (by decide +kernel), tyX11_ok, nmX11⟩
theorem cf_X12 : sh_CF 12 RX12 TX12 59 tyX12 := ⟨rfl, by decide +kernel, sh_words [1286, 1288, 1290, 1292, 1294, 1296, 1298, 1300, 1302, 1304, 1306, 1308, 1310, 1312, 1314, 1316, 1318, 1320, 1322, 1324, 1326, 1328, 1330, 1332, 1334, 1336, 1338, 1340, 1342, 1344, 1346, 1348, 1350, 1352, 1354, 1356, 1358, 1360, 1362, 1364, 1366, 1368, 1370, 1372, 1374, 1376, 1378, 1380, 1382, 1384, 1386, 1388, 1390, 1392, 1394, 1396, 1398, 1400, 1402] (by decide +kernel) (by decide +kernel), tyX12_ok, nmX12⟩
theorem fl_Sto_10 : sh_FL "StolenHolidays" 10 11 0 := ⟨_, _, _, _, cf_X11, by decide, tb_in tb_2 (List.mem_of_getElem? (i := 91) (by decide +kernel)) rfl⟩
theorem fl_Sto_21 : sh_FL "StolenHolidays" 21 11 1 := ⟨_, _, _, _, cf_X11, by decide, tb_in tb_2 (List.mem_of_getElem? (i := 92) (by decide +kernel)) rfl⟩
theorem fl_Sto_28 : sh_FL "StolenHolidays" 28 11 2 := ⟨_, _, _, _, cf_X11, by decide, tb_in tb_2 (List.mem_of_getElem? (i := 93) (by decide +kernel)) rfl⟩
theorem fl_Sto_32 : sh_FL "StolenHolidays" 32 11 3 := ⟨_, _, _, _, cf_X11, by decide, tb_in tb_2 (List.mem_of_getElem? (i := 94) (by decide +kernel)) rfl⟩
theorem fl_Sto_38 : sh_FL "StolenHolidays" 38 11 4 := ⟨_, _, _, _, cf_X11, by decide, tb_in tb_2 (List.mem_of_getElem? (i := 95) (by decide +kernel)) rfl⟩
theorem fl_Sto_45 : sh_FL "StolenHolidays" 45 11 5 := ⟨_, _, _, _, cf_X11, by decide, tb_in tb_2 (List.mem_of_getElem? (i := 96) (by decide +kernel)) rfl⟩
theorem fl_Sto_52 : sh_FL "StolenHolidays" 52 11 6 := ⟨_, _, _, _, cf_X11, by decide, tb_in tb_2 (List.mem_of_getElem? (i := 97) (by decide +kernel)) rfl⟩
theorem fl_Sto_59 : sh_FL "StolenHolidays" 59 11 7 := ⟨_, _, _, _, cf_X11, by decide, tb_in tb_2 (List.mem_of_getElem? (i := 98) (by decide +kernel)) rfl⟩
theorem fl_Sto_65 : sh_FL "StolenHolidays" 65 11 8 := ⟨_, _, _, _, cf_X11, by decide, tb_in tb_2 (List.mem_of_getElem? (i := 99) (by decide +kernel)) rfl⟩
theorem fl_Sto_72 : sh_FL "StolenHolidays" 72 11 9 := ⟨_, _, _, _, cf_X11, by decide, tb_in tb_2 (List.mem_of_getElem? (i := 100) (by decide +kernel)) rfl⟩
theorem pl_Sto_72 : sh_PL "StolenHolidays" 72 11 9 (.object "StolenHolidays$Almanac") := ⟨_, _, _, _, cf_X11, by decide, tb_in tb_2 (List.mem_of_getElem? (i := 100) (by decide +kernel)) rfl, rfl, rfl⟩
theorem fl_Sto_76 : sh_FL "StolenHolidays" 76 11 10 := ⟨_, _, _, _, cf_X11, by decide, tb_in tb_2 (List.mem_of_getElem? (i := 101) (by decide +kernel)) rfl⟩
theorem pl_Sto_76 : sh_PL "StolenHolidays" 76 11 10 (.object "StolenHolidays$Almanac") := ⟨_, _, _, _, cf_X11, by decide, tb_in tb_2 (List.mem_of_getElem? (i := 101) (by decide +kernel)) rfl, rfl, rfl⟩
theorem fl_Sto_82 : sh_FL "StolenHolidays" 82 11 11 := ⟨_, _, _, _, cf_X11, by decide, tb_in tb_2 (List.mem_of_getElem? (i := 102) (by decide +kernel)) rfl⟩
theorem pl_Sto_82 : sh_PL "StolenHolidays" 82 11 11 (.object "StolenHolidays$Year") := ⟨_, _, _, _, cf_X11, by decide, tb_in tb_2 (List.mem_of_getElem? (i := 102) (by decide +kernel)) rfl, rfl, rfl⟩
theorem fl_Sto_86 : sh_FL "StolenHolidays" 86 11 12 := ⟨_, _, _, _, cf_X11, by decide, tb_in tb_2 (List.mem_of_getElem? (i := 103) (by decide +kernel)) rfl⟩
theorem pl_Sto_86 : sh_PL "StolenHolidays" 86 11 12 (.object "StolenHolidays$Year") := ⟨_, _, _, _, cf_X11, by decide, tb_in tb_2 (List.mem_of_getElem? (i := 103) (by decide +kernel)) rfl, rfl, rfl⟩
theorem fl_Sto_94 : sh_FL "StolenHolidays" 94 9 1 := ⟨_, _, _, _, cf_X9, by decide, tb_in tb_1 (List.mem_of_getElem? (i := 41) (by decide +kernel)) rfl⟩
theorem fl_Sto_110 : sh_FL "StolenHolidays" 110 10 0 := ⟨_, _, _, _, cf_X10, by decide, tb_in tb_2 (List.mem_of_getElem? (i := 52) (by decide +kernel)) rfl⟩
theorem pl_Sto_110 : sh_PL "StolenHolidays" 110 10 0 .int := ⟨_, _, _, _, cf_X10, by decide, tb_in tb_2 (List.mem_of_getElem? (i := 52) (by decide +kernel)) rfl, rfl, rfl⟩
theorem fl_Sto_113 : sh_FL "StolenHolidays" 113 3 0 := ⟨_, _, _, _, cf_X3, by decide, tb_in tb_2 (List.mem_of_getElem? (i := 78) (by decide +kernel)) rfl⟩
theorem pl_Sto_113 : sh_PL "StolenHolidays" 113 3 0 .boolean := ⟨_, _, _, _, cf_X3, by decide, tb_in tb_2 (List.mem_of_getElem? (i := 78) (by decide +kernel)) rfl, rfl, rfl⟩
theorem fl_Sto_125 : sh_FL "StolenHolidays" 125 0 4 := ⟨_, _, _, _, cf_X0, by decide, tb_in tb_1 (List.mem_of_getElem? (i := 234) (by decide +kernel)) rfl⟩
theorem fl_Sto_129 : sh_FL "StolenHolidays" 129 0 5 := ⟨_, _, _, _, cf_X0, by decide, tb_in tb_2 (List.mem_of_getElem? (i := 0) (by decide +kernel)) rfl⟩
theorem fl_Sto_132 : sh_FL "StolenHolidays" 132 8 0 := ⟨_, _, _, _, cf_X8, by decide, tb_in tb_1 (List.mem_of_getElem? (i := 101) (by decide +kernel)) rfl⟩
theorem fl_Sto_135 : sh_FL "StolenHolidays" 135 0 6 := ⟨_, _, _, _, cf_X0, by decide, tb_in tb_2 (List.mem_of_getElem? (i := 5) (by decide +kernel)) rfl⟩
theorem fl_Sto_141 : sh_FL "StolenHolidays" 141 0 8 := ⟨_, _, _, _, cf_X0, by decide, tb_in tb_2 (List.mem_of_getElem? (i := 11) (by decide +kernel)) rfl⟩
theorem fl_Sto_144 : sh_FL "StolenHolidays" 144 0 9 := ⟨_, _, _, _, cf_X0, by decide, tb_in tb_2 (List.mem_of_getElem? (i := 16) (by decide +kernel)) rfl⟩
theorem fl_Sto_195 : sh_FL "StolenHolidays" 195 10 1 := ⟨_, _, _, _, cf_X10, by decide, tb_in tb_2 (List.mem_of_getElem? (i := 54) (by decide +kernel)) rfl⟩
theorem fl_Sto_201 : sh_FL "StolenHolidays" 201 0 0 := ⟨_, _, _, _, cf_X0, by decide, tb_in tb_1 (List.mem_of_getElem? (i := 222) (by decide +kernel)) rfl⟩
theorem fl_Sto_246 : sh_FL "StolenHolidays" 246 1 2 := ⟨_, _, _, _, cf_X1, by decide, tb_in tb_1 (List.mem_of_getElem? (i := 154) (by decide +kernel)) rfl⟩
theorem fl_Sto_249 : sh_FL "StolenHolidays" 249 1 1 := ⟨_, _, _, _, cf_X1, by decide, tb_in tb_1 (List.mem_of_getElem? (i := 152) (by decide +kernel)) rfl⟩
theorem fl_Sto_264 : sh_FL "StolenHolidays" 264 7 5 := ⟨_, _, _, _, cf_X7, by decide, tb_in tb_1 (List.mem_of_getElem? (i := 174) (by decide +kernel)) rfl⟩
theorem fl_Sto_265 : sh_FL "StolenHolidays" 265 7 6 := ⟨_, _, _, _, cf_X7, by decide, tb_in tb_1 (List.mem_of_getElem? (i := 176) (by decide +kernel)) rfl⟩
theorem fl_Sto_272 : sh_FL "StolenHolidays" 272 0 1 := ⟨_, _, _, _, cf_X0, by decide, tb_in tb_1 (List.mem_of_getElem? (i := 227) (by decide +kernel)) rfl⟩
theorem fl_Sto_328 : sh_FL "StolenHolidays" 328 6 0 := ⟨_, _, _, _, cf_X6, by decide, tb_in tb_1 (List.mem_of_getElem? (i := 130) (by decide +kernel)) rfl⟩
theorem fl_Sto_331 : sh_FL "StolenHolidays" 331 4 2 := ⟨_, _, _, _, cf_X4, by decide, tb_in tb_1 (List.mem_of_getElem? (i := 115) (by decide +kernel)) rfl⟩
theorem fl_Alm_9 : sh_FL "StolenHolidays$Almanac" 9 0 3 := ⟨_, _, _, _, cf_X0, by decide, tb_in tb_1 (List.mem_of_getElem? (i := 230) (by decide +kernel)) rfl⟩
theorem fl_Alm_25 : sh_FL "StolenHolidays$Almanac" 25 0 7 := ⟨_, _, _, _, cf_X0, by decide, tb_in tb_2 (List.mem_of_getElem? (i := 6) (by decide +kernel)) rfl⟩
theorem fl_Alm_37 : sh_FL "StolenHolidays$Almanac" 37 0 10 := ⟨_, _, _, _, cf_X0, by decide, tb_in tb_2 (List.mem_of_getElem? (i := 18) (by decide +kernel)) rfl⟩
theorem fl_Alm_41 : sh_FL "StolenHolidays$Almanac" 41 0 0 := ⟨_, _, _, _, cf_X0, by decide, tb_in tb_1 (List.mem_of_getElem? (i := 217) (by decide +kernel)) rfl⟩
theorem pl_Alm_41 : sh_PL "StolenHolidays$Almanac" 41 0 0 .int := ⟨_, _, _, _, cf_X0, by decide, tb_in tb_1 (List.mem_of_getElem? (i := 217) (by decide +kernel)) rfl, rfl, rfl⟩
theorem fl_Alm_45 : sh_FL "StolenHolidays$Almanac" 45 0 1 := ⟨_, _, _, _, cf_X0, by decide, tb_in tb_1 (List.mem_of_getElem? (i := 223) (by decide +kernel)) rfl⟩
theorem pl_Alm_45 : sh_PL "StolenHolidays$Almanac" 45 0 1 .int := ⟨_, _, _, _, cf_X0, by decide, tb_in tb_1 (List.mem_of_getElem? (i := 223) (by decide +kernel)) rfl, rfl, rfl⟩
theorem pl_Alm_48 : sh_PL "StolenHolidays$Almanac" 48 0 2 .boolean := ⟨_, _, _, _, cf_X0, by decide, tb_in tb_1 (List.mem_of_getElem? (i := 228) (by decide +kernel)) rfl, rfl, rfl⟩
theorem fl_Gang_9 : sh_FL "StolenHolidays$Gang" 9 1 0 := ⟨_, _, _, _, cf_X1, by decide, tb_in tb_1 (List.mem_of_getElem? (i := 150) (by decide +kernel)) rfl⟩
theorem fl_Gang_15 : sh_FL "StolenHolidays$Gang" 15 1 1 := ⟨_, _, _, _, cf_X1, by decide, tb_in tb_1 (List.mem_of_getElem? (i := 151) (by decide +kernel)) rfl⟩
theorem fl_Gang_18 : sh_FL "StolenHolidays$Gang" 18 1 2 := ⟨_, _, _, _, cf_X1, by decide, tb_in tb_1 (List.mem_of_getElem? (i := 153) (by decide +kernel)) rfl⟩
theorem pl_Gang_18 : sh_PL "StolenHolidays$Gang" 18 1 2 .int := ⟨_, _, _, _, cf_X1, by decide, tb_in tb_1 (List.mem_of_getElem? (i := 153) (by decide +kernel)) rfl, rfl, rfl⟩
theorem fl_Gang_26 : sh_FL "StolenHolidays$Gang" 26 0 1 := ⟨_, _, _, _, cf_X0, by decide, tb_in tb_1 (List.mem_of_getElem? (i := 224) (by decide +kernel)) rfl⟩
theorem fl_Gang_37 : sh_FL "StolenHolidays$Gang" 37 0 0 := ⟨_, _, _, _, cf_X0, by decide, tb_in tb_1 (List.mem_of_getElem? (i := 220) (by decide +kernel)) rfl⟩
theorem fl_Law_9 : sh_FL "StolenHolidays$Law" 9 2 0 := ⟨_, _, _, _, cf_X2, by decide, tb_in tb_1 (List.mem_of_getElem? (i := 206) (by decide +kernel)) rfl⟩
theorem fl_Law_15 : sh_FL "StolenHolidays$Law" 15 2 1 := ⟨_, _, _, _, cf_X2, by decide, tb_in tb_1 (List.mem_of_getElem? (i := 207) (by decide +kernel)) rfl⟩
theorem fl_Law_18 : sh_FL "StolenHolidays$Law" 18 2 2 := ⟨_, _, _, _, cf_X2, by decide, tb_in tb_1 (List.mem_of_getElem? (i := 208) (by decide +kernel)) rfl⟩
theorem pl_Law_18 : sh_PL "StolenHolidays$Law" 18 2 2 .int := ⟨_, _, _, _, cf_X2, by decide, tb_in tb_1 (List.mem_of_getElem? (i := 208) (by decide +kernel)) rfl, rfl, rfl⟩
theorem fl_Mark_10 : sh_FL "StolenHolidays$Mark" 10 3 1 := ⟨_, _, _, _, cf_X3, by decide, tb_in tb_2 (List.mem_of_getElem? (i := 79) (by decide +kernel)) rfl⟩
theorem fl_Mark_19 : sh_FL "StolenHolidays$Mark" 19 3 2 := ⟨_, _, _, _, cf_X3, by decide, tb_in tb_2 (List.mem_of_getElem? (i := 80) (by decide +kernel)) rfl⟩
theorem fl_Mark_26 : sh_FL "StolenHolidays$Mark" 26 3 3 := ⟨_, _, _, _, cf_X3, by decide, tb_in tb_2 (List.mem_of_getElem? (i := 81) (by decide +kernel)) rfl⟩
theorem pl_Mark_30 : sh_PL "StolenHolidays$Mark" 30 3 0 .boolean := ⟨_, _, _, _, cf_X3, by decide, tb_in tb_2 (List.mem_of_getElem? (i := 77) (by decide +kernel)) rfl, rfl, rfl⟩
theorem fl_Past_11 : sh_FL "StolenHolidays$Past" 11 4 0 := ⟨_, _, _, _, cf_X4, by decide, tb_in tb_1 (List.mem_of_getElem? (i := 112) (by decide +kernel)) rfl⟩
theorem fl_Past_17 : sh_FL "StolenHolidays$Past" 17 4 2 := ⟨_, _, _, _, cf_X4, by decide, tb_in tb_1 (List.mem_of_getElem? (i := 114) (by decide +kernel)) rfl⟩
theorem pl_Past_17 : sh_PL "StolenHolidays$Past" 17 4 2 .int := ⟨_, _, _, _, cf_X4, by decide, tb_in tb_1 (List.mem_of_getElem? (i := 114) (by decide +kernel)) rfl, rfl, rfl⟩
theorem fl_Past_21 : sh_FL "StolenHolidays$Past" 21 8 0 := ⟨_, _, _, _, cf_X8, by decide, tb_in tb_1 (List.mem_of_getElem? (i := 100) (by decide +kernel)) rfl⟩
theorem fl_Past_24 : sh_FL "StolenHolidays$Past" 24 4 1 := ⟨_, _, _, _, cf_X4, by decide, tb_in tb_1 (List.mem_of_getElem? (i := 113) (by decide +kernel)) rfl⟩
theorem pl_Past_24 : sh_PL "StolenHolidays$Past" 24 4 1 .int := ⟨_, _, _, _, cf_X4, by decide, tb_in tb_1 (List.mem_of_getElem? (i := 113) (by decide +kernel)) rfl, rfl, rfl⟩
theorem fl_Read_9 : sh_FL "StolenHolidays$Reader" 9 5 0 := ⟨_, _, _, _, cf_X5, by decide, tb_in tb_1 (List.mem_of_getElem? (i := 82) (by decide +kernel)) rfl⟩
theorem fl_Read_20 : sh_FL "StolenHolidays$Reader" 20 5 1 := ⟨_, _, _, _, cf_X5, by decide, tb_in tb_1 (List.mem_of_getElem? (i := 83) (by decide +kernel)) rfl⟩
theorem pl_Read_20 : sh_PL "StolenHolidays$Reader" 20 5 1 .int := ⟨_, _, _, _, cf_X5, by decide, tb_in tb_1 (List.mem_of_getElem? (i := 83) (by decide +kernel)) rfl, rfl, rfl⟩
theorem fl_Read_29 : sh_FL "StolenHolidays$Reader" 29 9 2 := ⟨_, _, _, _, cf_X9, by decide, tb_in tb_1 (List.mem_of_getElem? (i := 43) (by decide +kernel)) rfl⟩
theorem fl_Read_32 : sh_FL "StolenHolidays$Reader" 32 9 5 := ⟨_, _, _, _, cf_X9, by decide, tb_in tb_1 (List.mem_of_getElem? (i := 48) (by decide +kernel)) rfl⟩
theorem fl_Read_50 : sh_FL "StolenHolidays$Reader" 50 10 0 := ⟨_, _, _, _, cf_X10, by decide, tb_in tb_2 (List.mem_of_getElem? (i := 51) (by decide +kernel)) rfl⟩
theorem pl_Read_50 : sh_PL "StolenHolidays$Reader" 50 10 0 .int := ⟨_, _, _, _, cf_X10, by decide, tb_in tb_2 (List.mem_of_getElem? (i := 51) (by decide +kernel)) rfl, rfl, rfl⟩
theorem fl_Read_59 : sh_FL "StolenHolidays$Reader" 59 0 0 := ⟨_, _, _, _, cf_X0, by decide, tb_in tb_1 (List.mem_of_getElem? (i := 221) (by decide +kernel)) rfl⟩
theorem pl_Read_59 : sh_PL "StolenHolidays$Reader" 59 0 0 .int := ⟨_, _, _, _, cf_X0, by decide, tb_in tb_1 (List.mem_of_getElem? (i := 221) (by decide +kernel)) rfl, rfl, rfl⟩
theorem fl_Read_68 : sh_FL "StolenHolidays$Reader" 68 0 3 := ⟨_, _, _, _, cf_X0, by decide, tb_in tb_1 (List.mem_of_getElem? (i := 231) (by decide +kernel)) rfl⟩
theorem fl_Read_72 : sh_FL "StolenHolidays$Reader" 72 9 7 := ⟨_, _, _, _, cf_X9, by decide, tb_in tb_1 (List.mem_of_getElem? (i := 52) (by decide +kernel)) rfl⟩
theorem fl_Read_80 : sh_FL "StolenHolidays$Reader" 80 0 4 := ⟨_, _, _, _, cf_X0, by decide, tb_in tb_1 (List.mem_of_getElem? (i := 233) (by decide +kernel)) rfl⟩
theorem fl_Read_87 : sh_FL "StolenHolidays$Reader" 87 0 5 := ⟨_, _, _, _, cf_X0, by decide, tb_in tb_1 (List.mem_of_getElem? (i := 239) (by decide +kernel)) rfl⟩
theorem fl_Read_90 : sh_FL "StolenHolidays$Reader" 90 5 2 := ⟨_, _, _, _, cf_X5, by decide, tb_in tb_1 (List.mem_of_getElem? (i := 84) (by decide +kernel)) rfl⟩
theorem pl_Read_90 : sh_PL "StolenHolidays$Reader" 90 5 2 .int := ⟨_, _, _, _, cf_X5, by decide, tb_in tb_1 (List.mem_of_getElem? (i := 84) (by decide +kernel)) rfl, rfl, rfl⟩
theorem fl_Read_93 : sh_FL "StolenHolidays$Reader" 93 0 6 := ⟨_, _, _, _, cf_X0, by decide, tb_in tb_2 (List.mem_of_getElem? (i := 4) (by decide +kernel)) rfl⟩
theorem fl_Read_99 : sh_FL "StolenHolidays$Reader" 99 0 1 := ⟨_, _, _, _, cf_X0, by decide, tb_in tb_1 (List.mem_of_getElem? (i := 225) (by decide +kernel)) rfl⟩
theorem pl_Read_99 : sh_PL "StolenHolidays$Reader" 99 0 1 .int := ⟨_, _, _, _, cf_X0, by decide, tb_in tb_1 (List.mem_of_getElem? (i := 225) (by decide +kernel)) rfl, rfl, rfl⟩
theorem fl_Read_102 : sh_FL "StolenHolidays$Reader" 102 0 7 := ⟨_, _, _, _, cf_X0, by decide, tb_in tb_2 (List.mem_of_getElem? (i := 7) (by decide +kernel)) rfl⟩
theorem fl_Read_105 : sh_FL "StolenHolidays$Reader" 105 0 8 := ⟨_, _, _, _, cf_X0, by decide, tb_in tb_2 (List.mem_of_getElem? (i := 10) (by decide +kernel)) rfl⟩
theorem fl_Read_108 : sh_FL "StolenHolidays$Reader" 108 0 9 := ⟨_, _, _, _, cf_X0, by decide, tb_in tb_2 (List.mem_of_getElem? (i := 15) (by decide +kernel)) rfl⟩
theorem fl_Read_111 : sh_FL "StolenHolidays$Reader" 111 0 2 := ⟨_, _, _, _, cf_X0, by decide, tb_in tb_1 (List.mem_of_getElem? (i := 229) (by decide +kernel)) rfl⟩
theorem pl_Read_111 : sh_PL "StolenHolidays$Reader" 111 0 2 .boolean := ⟨_, _, _, _, cf_X0, by decide, tb_in tb_1 (List.mem_of_getElem? (i := 229) (by decide +kernel)) rfl, rfl, rfl⟩
theorem fl_Read_115 : sh_FL "StolenHolidays$Reader" 115 0 10 := ⟨_, _, _, _, cf_X0, by decide, tb_in tb_2 (List.mem_of_getElem? (i := 19) (by decide +kernel)) rfl⟩
theorem fl_Read_138 : sh_FL "StolenHolidays$Reader" 138 9 6 := ⟨_, _, _, _, cf_X9, by decide, tb_in tb_1 (List.mem_of_getElem? (i := 51) (by decide +kernel)) rfl⟩
theorem fl_Read_141 : sh_FL "StolenHolidays$Reader" 141 9 8 := ⟨_, _, _, _, cf_X9, by decide, tb_in tb_1 (List.mem_of_getElem? (i := 55) (by decide +kernel)) rfl⟩
theorem fl_Read_166 : sh_FL "StolenHolidays$Reader" 166 9 3 := ⟨_, _, _, _, cf_X9, by decide, tb_in tb_1 (List.mem_of_getElem? (i := 46) (by decide +kernel)) rfl⟩
theorem fl_Seen_9 : sh_FL "StolenHolidays$Seen" 9 6 1 := ⟨_, _, _, _, cf_X6, by decide, tb_in tb_1 (List.mem_of_getElem? (i := 131) (by decide +kernel)) rfl⟩
theorem fl_Seen_15 : sh_FL "StolenHolidays$Seen" 15 6 2 := ⟨_, _, _, _, cf_X6, by decide, tb_in tb_1 (List.mem_of_getElem? (i := 132) (by decide +kernel)) rfl⟩
theorem fl_Seen_18 : sh_FL "StolenHolidays$Seen" 18 6 3 := ⟨_, _, _, _, cf_X6, by decide, tb_in tb_1 (List.mem_of_getElem? (i := 133) (by decide +kernel)) rfl⟩
theorem fl_Seen_22 : sh_FL "StolenHolidays$Seen" 22 6 0 := ⟨_, _, _, _, cf_X6, by decide, tb_in tb_1 (List.mem_of_getElem? (i := 129) (by decide +kernel)) rfl⟩
theorem pl_Seen_22 : sh_PL "StolenHolidays$Seen" 22 6 0 .int := ⟨_, _, _, _, cf_X6, by decide, tb_in tb_1 (List.mem_of_getElem? (i := 129) (by decide +kernel)) rfl, rfl, rfl⟩
theorem fl_Spr_9 : sh_FL "StolenHolidays$Spree" 9 7 0 := ⟨_, _, _, _, cf_X7, by decide, tb_in tb_1 (List.mem_of_getElem? (i := 168) (by decide +kernel)) rfl⟩
theorem fl_Spr_15 : sh_FL "StolenHolidays$Spree" 15 7 1 := ⟨_, _, _, _, cf_X7, by decide, tb_in tb_1 (List.mem_of_getElem? (i := 169) (by decide +kernel)) rfl⟩
theorem fl_Spr_18 : sh_FL "StolenHolidays$Spree" 18 0 8 := ⟨_, _, _, _, cf_X0, by decide, tb_in tb_2 (List.mem_of_getElem? (i := 9) (by decide +kernel)) rfl⟩
theorem fl_Spr_23 : sh_FL "StolenHolidays$Spree" 23 7 2 := ⟨_, _, _, _, cf_X7, by decide, tb_in tb_1 (List.mem_of_getElem? (i := 170) (by decide +kernel)) rfl⟩
theorem pl_Spr_23 : sh_PL "StolenHolidays$Spree" 23 7 2 .int := ⟨_, _, _, _, cf_X7, by decide, tb_in tb_1 (List.mem_of_getElem? (i := 170) (by decide +kernel)) rfl, rfl, rfl⟩
theorem fl_Spr_27 : sh_FL "StolenHolidays$Spree" 27 0 9 := ⟨_, _, _, _, cf_X0, by decide, tb_in tb_2 (List.mem_of_getElem? (i := 14) (by decide +kernel)) rfl⟩
theorem fl_Spr_30 : sh_FL "StolenHolidays$Spree" 30 7 3 := ⟨_, _, _, _, cf_X7, by decide, tb_in tb_1 (List.mem_of_getElem? (i := 171) (by decide +kernel)) rfl⟩
theorem pl_Spr_30 : sh_PL "StolenHolidays$Spree" 30 7 3 .int := ⟨_, _, _, _, cf_X7, by decide, tb_in tb_1 (List.mem_of_getElem? (i := 171) (by decide +kernel)) rfl, rfl, rfl⟩
theorem fl_Spr_33 : sh_FL "StolenHolidays$Spree" 33 7 4 := ⟨_, _, _, _, cf_X7, by decide, tb_in tb_1 (List.mem_of_getElem? (i := 172) (by decide +kernel)) rfl⟩
theorem pl_Spr_33 : sh_PL "StolenHolidays$Spree" 33 7 4 .int := ⟨_, _, _, _, cf_X7, by decide, tb_in tb_1 (List.mem_of_getElem? (i := 172) (by decide +kernel)) rfl, rfl, rfl⟩
theorem fl_Spr_36 : sh_FL "StolenHolidays$Spree" 36 7 5 := ⟨_, _, _, _, cf_X7, by decide, tb_in tb_1 (List.mem_of_getElem? (i := 173) (by decide +kernel)) rfl⟩
theorem pl_Spr_36 : sh_PL "StolenHolidays$Spree" 36 7 5 .int := ⟨_, _, _, _, cf_X7, by decide, tb_in tb_1 (List.mem_of_getElem? (i := 173) (by decide +kernel)) rfl, rfl, rfl⟩
theorem pl_Spr_39 : sh_PL "StolenHolidays$Spree" 39 7 6 .int := ⟨_, _, _, _, cf_X7, by decide, tb_in tb_1 (List.mem_of_getElem? (i := 175) (by decide +kernel)) rfl, rfl, rfl⟩
theorem fl_Spr_42 : sh_FL "StolenHolidays$Spree" 42 0 0 := ⟨_, _, _, _, cf_X0, by decide, tb_in tb_1 (List.mem_of_getElem? (i := 218) (by decide +kernel)) rfl⟩
theorem fl_Spr_45 : sh_FL "StolenHolidays$Spree" 45 8 0 := ⟨_, _, _, _, cf_X8, by decide, tb_in tb_1 (List.mem_of_getElem? (i := 99) (by decide +kernel)) rfl⟩
theorem fl_Spr_71 : sh_FL "StolenHolidays$Spree" 71 0 6 := ⟨_, _, _, _, cf_X0, by decide, tb_in tb_2 (List.mem_of_getElem? (i := 3) (by decide +kernel)) rfl⟩
theorem fl_Spr_74 : sh_FL "StolenHolidays$Spree" 74 0 5 := ⟨_, _, _, _, cf_X0, by decide, tb_in tb_1 (List.mem_of_getElem? (i := 238) (by decide +kernel)) rfl⟩
theorem fl_State_11 : sh_FL "StolenHolidays$State" 11 8 0 := ⟨_, _, _, _, cf_X8, by decide, tb_in tb_1 (List.mem_of_getElem? (i := 98) (by decide +kernel)) rfl⟩
theorem fl_State_21 : sh_FL "StolenHolidays$State" 21 0 0 := ⟨_, _, _, _, cf_X0, by decide, tb_in tb_1 (List.mem_of_getElem? (i := 219) (by decide +kernel)) rfl⟩
theorem fl_State_27 : sh_FL "StolenHolidays$State" 27 0 5 := ⟨_, _, _, _, cf_X0, by decide, tb_in tb_1 (List.mem_of_getElem? (i := 237) (by decide +kernel)) rfl⟩
theorem fl_State_30 : sh_FL "StolenHolidays$State" 30 0 6 := ⟨_, _, _, _, cf_X0, by decide, tb_in tb_2 (List.mem_of_getElem? (i := 2) (by decide +kernel)) rfl⟩
theorem fl_State_47 : sh_FL "StolenHolidays$State" 47 0 8 := ⟨_, _, _, _, cf_X0, by decide, tb_in tb_2 (List.mem_of_getElem? (i := 12) (by decide +kernel)) rfl⟩
theorem fl_State_50 : sh_FL "StolenHolidays$State" 50 0 9 := ⟨_, _, _, _, cf_X0, by decide, tb_in tb_2 (List.mem_of_getElem? (i := 17) (by decide +kernel)) rfl⟩
theorem fl_State_63 : sh_FL "StolenHolidays$State" 63 0 4 := ⟨_, _, _, _, cf_X0, by decide, tb_in tb_1 (List.mem_of_getElem? (i := 235) (by decide +kernel)) rfl⟩
theorem fl_State_77 : sh_FL "StolenHolidays$State" 77 0 1 := ⟨_, _, _, _, cf_X0, by decide, tb_in tb_1 (List.mem_of_getElem? (i := 226) (by decide +kernel)) rfl⟩
theorem fl_State_102 : sh_FL "StolenHolidays$State" 102 0 10 := ⟨_, _, _, _, cf_X0, by decide, tb_in tb_2 (List.mem_of_getElem? (i := 20) (by decide +kernel)) rfl⟩
theorem fl_Tape_9 : sh_FL "StolenHolidays$Tape" 9 9 0 := ⟨_, _, _, _, cf_X9, by decide, tb_in tb_1 (List.mem_of_getElem? (i := 40) (by decide +kernel)) rfl⟩
theorem fl_Tape_15 : sh_FL "StolenHolidays$Tape" 15 9 1 := ⟨_, _, _, _, cf_X9, by decide, tb_in tb_1 (List.mem_of_getElem? (i := 42) (by decide +kernel)) rfl⟩
theorem pl_Tape_15 : sh_PL "StolenHolidays$Tape" 15 9 1 .int := ⟨_, _, _, _, cf_X9, by decide, tb_in tb_1 (List.mem_of_getElem? (i := 42) (by decide +kernel)) rfl, rfl, rfl⟩
theorem fl_Tape_19 : sh_FL "StolenHolidays$Tape" 19 9 4 := ⟨_, _, _, _, cf_X9, by decide, tb_in tb_1 (List.mem_of_getElem? (i := 47) (by decide +kernel)) rfl⟩
theorem pl_Tape_19 : sh_PL "StolenHolidays$Tape" 19 9 4 .int := ⟨_, _, _, _, cf_X9, by decide, tb_in tb_1 (List.mem_of_getElem? (i := 47) (by decide +kernel)) rfl, rfl, rfl⟩
theorem fl_Tape_25 : sh_FL "StolenHolidays$Tape" 25 9 3 := ⟨_, _, _, _, cf_X9, by decide, tb_in tb_1 (List.mem_of_getElem? (i := 45) (by decide +kernel)) rfl⟩
theorem pl_Tape_25 : sh_PL "StolenHolidays$Tape" 25 9 3 .int := ⟨_, _, _, _, cf_X9, by decide, tb_in tb_1 (List.mem_of_getElem? (i := 45) (by decide +kernel)) rfl, rfl, rfl⟩
theorem fl_Tape_42 : sh_FL "StolenHolidays$Tape" 42 9 2 := ⟨_, _, _, _, cf_X9, by decide, tb_in tb_1 (List.mem_of_getElem? (i := 44) (by decide +kernel)) rfl⟩
theorem pl_Tape_42 : sh_PL "StolenHolidays$Tape" 42 9 2 .int := ⟨_, _, _, _, cf_X9, by decide, tb_in tb_1 (List.mem_of_getElem? (i := 44) (by decide +kernel)) rfl, rfl, rfl⟩
theorem fl_Tape_51 : sh_FL "StolenHolidays$Tape" 51 9 5 := ⟨_, _, _, _, cf_X9, by decide, tb_in tb_1 (List.mem_of_getElem? (i := 49) (by decide +kernel)) rfl⟩
theorem pl_Tape_51 : sh_PL "StolenHolidays$Tape" 51 9 5 .int := ⟨_, _, _, _, cf_X9, by decide, tb_in tb_1 (List.mem_of_getElem? (i := 49) (by decide +kernel)) rfl, rfl, rfl⟩
theorem pl_Tape_56 : sh_PL "StolenHolidays$Tape" 56 9 6 .int := ⟨_, _, _, _, cf_X9, by decide, tb_in tb_1 (List.mem_of_getElem? (i := 50) (by decide +kernel)) rfl, rfl, rfl⟩
theorem fl_Tape_59 : sh_FL "StolenHolidays$Tape" 59 9 7 := ⟨_, _, _, _, cf_X9, by decide, tb_in tb_1 (List.mem_of_getElem? (i := 53) (by decide +kernel)) rfl⟩
theorem pl_Tape_59 : sh_PL "StolenHolidays$Tape" 59 9 7 .long := ⟨_, _, _, _, cf_X9, by decide, tb_in tb_1 (List.mem_of_getElem? (i := 53) (by decide +kernel)) rfl, rfl, rfl⟩
theorem fl_Tape_65 : sh_FL "StolenHolidays$Tape" 65 9 8 := ⟨_, _, _, _, cf_X9, by decide, tb_in tb_1 (List.mem_of_getElem? (i := 54) (by decide +kernel)) rfl⟩
theorem pl_Tape_65 : sh_PL "StolenHolidays$Tape" 65 9 8 .int := ⟨_, _, _, _, cf_X9, by decide, tb_in tb_1 (List.mem_of_getElem? (i := 54) (by decide +kernel)) rfl, rfl, rfl⟩
theorem fl_Year_9 : sh_FL "StolenHolidays$Year" 9 10 1 := ⟨_, _, _, _, cf_X10, by decide, tb_in tb_2 (List.mem_of_getElem? (i := 53) (by decide +kernel)) rfl⟩
theorem fl_Year_15 : sh_FL "StolenHolidays$Year" 15 10 2 := ⟨_, _, _, _, cf_X10, by decide, tb_in tb_2 (List.mem_of_getElem? (i := 55) (by decide +kernel)) rfl⟩
theorem fl_Year_18 : sh_FL "StolenHolidays$Year" 18 10 3 := ⟨_, _, _, _, cf_X10, by decide, tb_in tb_2 (List.mem_of_getElem? (i := 56) (by decide +kernel)) rfl⟩
theorem fl_Year_21 : sh_FL "StolenHolidays$Year" 21 10 0 := ⟨_, _, _, _, cf_X10, by decide, tb_in tb_2 (List.mem_of_getElem? (i := 50) (by decide +kernel)) rfl⟩
theorem pl_Year_21 : sh_PL "StolenHolidays$Year" 21 10 0 .int := ⟨_, _, _, _, cf_X10, by decide, tb_in tb_2 (List.mem_of_getElem? (i := 50) (by decide +kernel)) rfl, rfl, rfl⟩
theorem fl_Mod_7 : sh_FL "StolenHolidaysModel" 7 12 2 := ⟨_, _, _, _, cf_X12, by decide, tb_in tb_5 (List.mem_of_getElem? (i := 170) (by decide +kernel)) rfl⟩
theorem fl_Mod_13 : sh_FL "StolenHolidaysModel" 13 12 10 := ⟨_, _, _, _, cf_X12, by decide, tb_in tb_5 (List.mem_of_getElem? (i := 178) (by decide +kernel)) rfl⟩
theorem fl_Mod_16 : sh_FL "StolenHolidaysModel" 16 12 11 := ⟨_, _, _, _, cf_X12, by decide, tb_in tb_5 (List.mem_of_getElem? (i := 179) (by decide +kernel)) rfl⟩
theorem fl_Mod_20 : sh_FL "StolenHolidaysModel" 20 12 12 := ⟨_, _, _, _, cf_X12, by decide, tb_in tb_5 (List.mem_of_getElem? (i := 180) (by decide +kernel)) rfl⟩
theorem fl_Mod_23 : sh_FL "StolenHolidaysModel" 23 12 13 := ⟨_, _, _, _, cf_X12, by decide, tb_in tb_5 (List.mem_of_getElem? (i := 181) (by decide +kernel)) rfl⟩
theorem fl_Mod_26 : sh_FL "StolenHolidaysModel" 26 12 14 := ⟨_, _, _, _, cf_X12, by decide, tb_in tb_5 (List.mem_of_getElem? (i := 182) (by decide +kernel)) rfl⟩
theorem fl_Mod_29 : sh_FL "StolenHolidaysModel" 29 12 15 := ⟨_, _, _, _, cf_X12, by decide, tb_in tb_5 (List.mem_of_getElem? (i := 183) (by decide +kernel)) rfl⟩
theorem fl_Mod_32 : sh_FL "StolenHolidaysModel" 32 12 16 := ⟨_, _, _, _, cf_X12, by decide, tb_in tb_5 (List.mem_of_getElem? (i := 184) (by decide +kernel)) rfl⟩
theorem fl_Mod_35 : sh_FL "StolenHolidaysModel" 35 12 17 := ⟨_, _, _, _, cf_X12, by decide, tb_in tb_5 (List.mem_of_getElem? (i := 185) (by decide +kernel)) rfl⟩
theorem fl_Mod_38 : sh_FL "StolenHolidaysModel" 38 12 18 := ⟨_, _, _, _, cf_X12, by decide, tb_in tb_5 (List.mem_of_getElem? (i := 186) (by decide +kernel)) rfl⟩
theorem fl_Mod_41 : sh_FL "StolenHolidaysModel" 41 12 19 := ⟨_, _, _, _, cf_X12, by decide, tb_in tb_5 (List.mem_of_getElem? (i := 187) (by decide +kernel)) rfl⟩
theorem fl_Mod_44 : sh_FL "StolenHolidaysModel" 44 12 20 := ⟨_, _, _, _, cf_X12, by decide, tb_in tb_5 (List.mem_of_getElem? (i := 188) (by decide +kernel)) rfl⟩
theorem fl_Mod_47 : sh_FL "StolenHolidaysModel" 47 12 22 := ⟨_, _, _, _, cf_X12, by decide, tb_in tb_5 (List.mem_of_getElem? (i := 190) (by decide +kernel)) rfl⟩
theorem fl_Mod_50 : sh_FL "StolenHolidaysModel" 50 12 23 := ⟨_, _, _, _, cf_X12, by decide, tb_in tb_5 (List.mem_of_getElem? (i := 191) (by decide +kernel)) rfl⟩
theorem fl_Mod_54 : sh_FL "StolenHolidaysModel" 54 12 24 := ⟨_, _, _, _, cf_X12, by decide, tb_in tb_5 (List.mem_of_getElem? (i := 192) (by decide +kernel)) rfl⟩
theorem fl_Mod_57 : sh_FL "StolenHolidaysModel" 57 12 25 := ⟨_, _, _, _, cf_X12, by decide, tb_in tb_5 (List.mem_of_getElem? (i := 193) (by decide +kernel)) rfl⟩
theorem fl_Mod_60 : sh_FL "StolenHolidaysModel" 60 12 26 := ⟨_, _, _, _, cf_X12, by decide, tb_in tb_5 (List.mem_of_getElem? (i := 194) (by decide +kernel)) rfl⟩
theorem fl_Mod_63 : sh_FL "StolenHolidaysModel" 63 12 27 := ⟨_, _, _, _, cf_X12, by decide, tb_in tb_5 (List.mem_of_getElem? (i := 195) (by decide +kernel)) rfl⟩
theorem fl_Mod_66 : sh_FL "StolenHolidaysModel" 66 12 28 := ⟨_, _, _, _, cf_X12, by decide, tb_in tb_5 (List.mem_of_getElem? (i := 196) (by decide +kernel)) rfl⟩
theorem fl_Mod_69 : sh_FL "StolenHolidaysModel" 69 12 29 := ⟨_, _, _, _, cf_X12, by decide, tb_in tb_5 (List.mem_of_getElem? (i := 197) (by decide +kernel)) rfl⟩
theorem fl_Mod_72 : sh_FL "StolenHolidaysModel" 72 12 30 := ⟨_, _, _, _, cf_X12, by decide, tb_in tb_5 (List.mem_of_getElem? (i := 198) (by decide +kernel)) rfl⟩
theorem fl_Mod_75 : sh_FL "StolenHolidaysModel" 75 12 31 := ⟨_, _, _, _, cf_X12, by decide, tb_in tb_5 (List.mem_of_getElem? (i := 199) (by decide +kernel)) rfl⟩
theorem fl_Mod_78 : sh_FL "StolenHolidaysModel" 78 12 32 := ⟨_, _, _, _, cf_X12, by decide, tb_in tb_5 (List.mem_of_getElem? (i := 200) (by decide +kernel)) rfl⟩
theorem fl_Mod_81 : sh_FL "StolenHolidaysModel" 81 12 33 := ⟨_, _, _, _, cf_X12, by decide, tb_in tb_5 (List.mem_of_getElem? (i := 201) (by decide +kernel)) rfl⟩
theorem fl_Mod_84 : sh_FL "StolenHolidaysModel" 84 12 36 := ⟨_, _, _, _, cf_X12, by decide, tb_in tb_5 (List.mem_of_getElem? (i := 204) (by decide +kernel)) rfl⟩
theorem fl_Mod_87 : sh_FL "StolenHolidaysModel" 87 12 37 := ⟨_, _, _, _, cf_X12, by decide, tb_in tb_5 (List.mem_of_getElem? (i := 205) (by decide +kernel)) rfl⟩
theorem fl_Mod_90 : sh_FL "StolenHolidaysModel" 90 12 38 := ⟨_, _, _, _, cf_X12, by decide, tb_in tb_5 (List.mem_of_getElem? (i := 206) (by decide +kernel)) rfl⟩
theorem fl_Mod_93 : sh_FL "StolenHolidaysModel" 93 12 39 := ⟨_, _, _, _, cf_X12, by decide, tb_in tb_5 (List.mem_of_getElem? (i := 207) (by decide +kernel)) rfl⟩
theorem fl_Mod_96 : sh_FL "StolenHolidaysModel" 96 12 40 := ⟨_, _, _, _, cf_X12, by decide, tb_in tb_5 (List.mem_of_getElem? (i := 208) (by decide +kernel)) rfl⟩
theorem fl_Mod_99 : sh_FL "StolenHolidaysModel" 99 12 41 := ⟨_, _, _, _, cf_X12, by decide, tb_in tb_5 (List.mem_of_getElem? (i := 209) (by decide +kernel)) rfl⟩
theorem fl_Mod_102 : sh_FL "StolenHolidaysModel" 102 12 42 := ⟨_, _, _, _, cf_X12, by decide, tb_in tb_5 (List.mem_of_getElem? (i := 210) (by decide +kernel)) rfl⟩
theorem fl_Mod_105 : sh_FL "StolenHolidaysModel" 105 12 43 := ⟨_, _, _, _, cf_X12, by decide, tb_in tb_5 (List.mem_of_getElem? (i := 211) (by decide +kernel)) rfl⟩
theorem fl_Mod_108 : sh_FL "StolenHolidaysModel" 108 12 44 := ⟨_, _, _, _, cf_X12, by decide, tb_in tb_5 (List.mem_of_getElem? (i := 212) (by decide +kernel)) rfl⟩
theorem fl_Mod_111 : sh_FL "StolenHolidaysModel" 111 12 45 := ⟨_, _, _, _, cf_X12, by decide, tb_in tb_5 (List.mem_of_getElem? (i := 213) (by decide +kernel)) rfl⟩
theorem fl_Mod_114 : sh_FL "StolenHolidaysModel" 114 12 46 := ⟨_, _, _, _, cf_X12, by decide, tb_in tb_5 (List.mem_of_getElem? (i := 214) (by decide +kernel)) rfl⟩
theorem fl_Mod_117 : sh_FL "StolenHolidaysModel" 117 12 47 := ⟨_, _, _, _, cf_X12, by decide, tb_in tb_5 (List.mem_of_getElem? (i := 215) (by decide +kernel)) rfl⟩
theorem fl_Mod_120 : sh_FL "StolenHolidaysModel" 120 12 48 := ⟨_, _, _, _, cf_X12, by decide, tb_in tb_5 (List.mem_of_getElem? (i := 216) (by decide +kernel)) rfl⟩
theorem fl_Mod_123 : sh_FL "StolenHolidaysModel" 123 12 49 := ⟨_, _, _, _, cf_X12, by decide, tb_in tb_5 (List.mem_of_getElem? (i := 217) (by decide +kernel)) rfl⟩
theorem fl_Mod_126 : sh_FL "StolenHolidaysModel" 126 12 50 := ⟨_, _, _, _, cf_X12, by decide, tb_in tb_5 (List.mem_of_getElem? (i := 218) (by decide +kernel)) rfl⟩
theorem fl_Mod_129 : sh_FL "StolenHolidaysModel" 129 12 53 := ⟨_, _, _, _, cf_X12, by decide, tb_in tb_5 (List.mem_of_getElem? (i := 221) (by decide +kernel)) rfl⟩
theorem fl_Mod_132 : sh_FL "StolenHolidaysModel" 132 12 54 := ⟨_, _, _, _, cf_X12, by decide, tb_in tb_5 (List.mem_of_getElem? (i := 222) (by decide +kernel)) rfl⟩
theorem fl_Mod_135 : sh_FL "StolenHolidaysModel" 135 12 57 := ⟨_, _, _, _, cf_X12, by decide, tb_in tb_5 (List.mem_of_getElem? (i := 225) (by decide +kernel)) rfl⟩
theorem fl_Mod_141 : sh_FL "StolenHolidaysModel" 141 12 0 := ⟨_, _, _, _, cf_X12, by decide, tb_in tb_5 (List.mem_of_getElem? (i := 168) (by decide +kernel)) rfl⟩
theorem pl_Mod_141 : sh_PL "StolenHolidaysModel" 141 12 0 .int := ⟨_, _, _, _, cf_X12, by decide, tb_in tb_5 (List.mem_of_getElem? (i := 168) (by decide +kernel)) rfl, rfl, rfl⟩
theorem fl_Mod_147 : sh_FL "StolenHolidaysModel" 147 12 1 := ⟨_, _, _, _, cf_X12, by decide, tb_in tb_5 (List.mem_of_getElem? (i := 169) (by decide +kernel)) rfl⟩
theorem pl_Mod_147 : sh_PL "StolenHolidaysModel" 147 12 1 .int := ⟨_, _, _, _, cf_X12, by decide, tb_in tb_5 (List.mem_of_getElem? (i := 169) (by decide +kernel)) rfl, rfl, rfl⟩
theorem fl_Mod_150 : sh_FL "StolenHolidaysModel" 150 12 3 := ⟨_, _, _, _, cf_X12, by decide, tb_in tb_5 (List.mem_of_getElem? (i := 171) (by decide +kernel)) rfl⟩
theorem pl_Mod_150 : sh_PL "StolenHolidaysModel" 150 12 3 .int := ⟨_, _, _, _, cf_X12, by decide, tb_in tb_5 (List.mem_of_getElem? (i := 171) (by decide +kernel)) rfl, rfl, rfl⟩
theorem fl_Mod_153 : sh_FL "StolenHolidaysModel" 153 12 4 := ⟨_, _, _, _, cf_X12, by decide, tb_in tb_5 (List.mem_of_getElem? (i := 172) (by decide +kernel)) rfl⟩
theorem pl_Mod_153 : sh_PL "StolenHolidaysModel" 153 12 4 .int := ⟨_, _, _, _, cf_X12, by decide, tb_in tb_5 (List.mem_of_getElem? (i := 172) (by decide +kernel)) rfl, rfl, rfl⟩
theorem fl_Mod_156 : sh_FL "StolenHolidaysModel" 156 12 5 := ⟨_, _, _, _, cf_X12, by decide, tb_in tb_5 (List.mem_of_getElem? (i := 173) (by decide +kernel)) rfl⟩
theorem pl_Mod_156 : sh_PL "StolenHolidaysModel" 156 12 5 .int := ⟨_, _, _, _, cf_X12, by decide, tb_in tb_5 (List.mem_of_getElem? (i := 173) (by decide +kernel)) rfl, rfl, rfl⟩
theorem fl_Mod_159 : sh_FL "StolenHolidaysModel" 159 12 7 := ⟨_, _, _, _, cf_X12, by decide, tb_in tb_5 (List.mem_of_getElem? (i := 175) (by decide +kernel)) rfl⟩
theorem pl_Mod_159 : sh_PL "StolenHolidaysModel" 159 12 7 .long := ⟨_, _, _, _, cf_X12, by decide, tb_in tb_5 (List.mem_of_getElem? (i := 175) (by decide +kernel)) rfl, rfl, rfl⟩
theorem fl_Mod_163 : sh_FL "StolenHolidaysModel" 163 12 8 := ⟨_, _, _, _, cf_X12, by decide, tb_in tb_5 (List.mem_of_getElem? (i := 176) (by decide +kernel)) rfl⟩
theorem pl_Mod_163 : sh_PL "StolenHolidaysModel" 163 12 8 .int := ⟨_, _, _, _, cf_X12, by decide, tb_in tb_5 (List.mem_of_getElem? (i := 176) (by decide +kernel)) rfl, rfl, rfl⟩
theorem fl_Mod_166 : sh_FL "StolenHolidaysModel" 166 12 6 := ⟨_, _, _, _, cf_X12, by decide, tb_in tb_5 (List.mem_of_getElem? (i := 174) (by decide +kernel)) rfl⟩
theorem pl_Mod_166 : sh_PL "StolenHolidaysModel" 166 12 6 .int := ⟨_, _, _, _, cf_X12, by decide, tb_in tb_5 (List.mem_of_getElem? (i := 174) (by decide +kernel)) rfl, rfl, rfl⟩
theorem fl_Mod_177 : sh_FL "StolenHolidaysModel" 177 12 9 := ⟨_, _, _, _, cf_X12, by decide, tb_in tb_5 (List.mem_of_getElem? (i := 177) (by decide +kernel)) rfl⟩
theorem pl_Mod_177 : sh_PL "StolenHolidaysModel" 177 12 9 .int := ⟨_, _, _, _, cf_X12, by decide, tb_in tb_5 (List.mem_of_getElem? (i := 177) (by decide +kernel)) rfl, rfl, rfl⟩
theorem fl_Mod_180 : sh_FL "StolenHolidaysModel" 180 12 21 := ⟨_, _, _, _, cf_X12, by decide, tb_in tb_5 (List.mem_of_getElem? (i := 189) (by decide +kernel)) rfl⟩
theorem pl_Mod_180 : sh_PL "StolenHolidaysModel" 180 12 21 .int := ⟨_, _, _, _, cf_X12, by decide, tb_in tb_5 (List.mem_of_getElem? (i := 189) (by decide +kernel)) rfl, rfl, rfl⟩
theorem fl_Mod_268 : sh_FL "StolenHolidaysModel" 268 12 34 := ⟨_, _, _, _, cf_X12, by decide, tb_in tb_5 (List.mem_of_getElem? (i := 202) (by decide +kernel)) rfl⟩
theorem pl_Mod_268 : sh_PL "StolenHolidaysModel" 268 12 34 .int := ⟨_, _, _, _, cf_X12, by decide, tb_in tb_5 (List.mem_of_getElem? (i := 202) (by decide +kernel)) rfl, rfl, rfl⟩
theorem fl_Mod_285 : sh_FL "StolenHolidaysModel" 285 12 35 := ⟨_, _, _, _, cf_X12, by decide, tb_in tb_5 (List.mem_of_getElem? (i := 203) (by decide +kernel)) rfl⟩
theorem pl_Mod_285 : sh_PL "StolenHolidaysModel" 285 12 35 .long := ⟨_, _, _, _, cf_X12, by decide, tb_in tb_5 (List.mem_of_getElem? (i := 203) (by decide +kernel)) rfl, rfl, rfl⟩
theorem fl_Mod_333 : sh_FL "StolenHolidaysModel" 333 12 51 := ⟨_, _, _, _, cf_X12, by decide, tb_in tb_5 (List.mem_of_getElem? (i := 219) (by decide +kernel)) rfl⟩
theorem pl_Mod_333 : sh_PL "StolenHolidaysModel" 333 12 51 .int := ⟨_, _, _, _, cf_X12, by decide, tb_in tb_5 (List.mem_of_getElem? (i := 219) (by decide +kernel)) rfl, rfl, rfl⟩
theorem fl_Mod_441 : sh_FL "StolenHolidaysModel" 441 12 52 := ⟨_, _, _, _, cf_X12, by decide, tb_in tb_5 (List.mem_of_getElem? (i := 220) (by decide +kernel)) rfl⟩
theorem pl_Mod_441 : sh_PL "StolenHolidaysModel" 441 12 52 .int := ⟨_, _, _, _, cf_X12, by decide, tb_in tb_5 (List.mem_of_getElem? (i := 220) (by decide +kernel)) rfl, rfl, rfl⟩
theorem fl_Mod_448 : sh_FL "StolenHolidaysModel" 448 12 55 := ⟨_, _, _, _, cf_X12, by decide, tb_in tb_5 (List.mem_of_getElem? (i := 223) (by decide +kernel)) rfl⟩
theorem pl_Mod_448 : sh_PL "StolenHolidaysModel" 448 12 55 .int := ⟨_, _, _, _, cf_X12, by decide, tb_in tb_5 (List.mem_of_getElem? (i := 223) (by decide +kernel)) rfl, rfl, rfl⟩
theorem fl_Mod_461 : sh_FL "StolenHolidaysModel" 461 12 56 := ⟨_, _, _, _, cf_X12, by decide, tb_in tb_5 (List.mem_of_getElem? (i := 224) (by decide +kernel)) rfl⟩
theorem pl_Mod_461 : sh_PL "StolenHolidaysModel" 461 12 56 .int := ⟨_, _, _, _, cf_X12, by decide, tb_in tb_5 (List.mem_of_getElem? (i := 224) (by decide +kernel)) rfl, rfl, rfl⟩
theorem fl_Mod_484 : sh_FL "StolenHolidaysModel" 484 12 58 := ⟨_, _, _, _, cf_X12, by decide, tb_in tb_5 (List.mem_of_getElem? (i := 226) (by decide +kernel)) rfl⟩
theorem pl_Mod_484 : sh_PL "StolenHolidaysModel" 484 12 58 .long := ⟨_, _, _, _, cf_X12, by decide, tb_in tb_5 (List.mem_of_getElem? (i := 226) (by decide +kernel)) rfl, rfl, rfl⟩
def m_Alm_init : sh_M := (⟨"StolenHolidays$Almanac", "<init>", "()V"⟩, prog_2_method_1_code, 1, none)
def m_Alm_clear : sh_M := (⟨"StolenHolidays$Almanac", "clear", "()V"⟩, prog_2_method_2_code, 1, none)
theorem mo_Alm_clear : sh_MO m_Alm_clear 0 := ⟨⟨by decide +kernel, by decide +kernel, by decide +kernel⟩, tb_in tb_2 (List.mem_of_getElem? (i := 150) (by decide +kernel)) rfl, by decide, tb_in tb_1 (List.mem_of_getElem? (i := 9) (by decide +kernel)) rfl⟩
theorem im_Alm_clear : Cond.instanceMethod m_Alm_clear.1 ∈ lw_g := tb_in tb_2 (List.mem_of_getElem? (i := 148) (by decide +kernel)) rfl
theorem se_Alm_clear : Cond.selects m_Alm_clear.1.cls m_Alm_clear.1 m_Alm_clear.1 ∈ lw_g := tb_in tb_2 (List.mem_of_getElem? (i := 149) (by decide +kernel)) rfl
def m_Alm_dayNamed : sh_M := (⟨"StolenHolidays$Almanac", "dayNamed", "(J)I"⟩, prog_2_method_3_code, 4, some .int)
theorem mo_Alm_dayNamed : sh_MO m_Alm_dayNamed 1 := ⟨⟨by decide +kernel, by decide +kernel, by decide +kernel⟩, tb_in tb_3 (List.mem_of_getElem? (i := 78) (by decide +kernel)) rfl, by decide, tb_in tb_1 (List.mem_of_getElem? (i := 9) (by decide +kernel)) rfl⟩
theorem im_Alm_dayNamed : Cond.instanceMethod m_Alm_dayNamed.1 ∈ lw_g := tb_in tb_3 (List.mem_of_getElem? (i := 76) (by decide +kernel)) rfl
theorem se_Alm_dayNamed : Cond.selects m_Alm_dayNamed.1.cls m_Alm_dayNamed.1 m_Alm_dayNamed.1 ∈ lw_g := tb_in tb_3 (List.mem_of_getElem? (i := 77) (by decide +kernel)) rfl
def m_Alm_thiefNamed : sh_M := (⟨"StolenHolidays$Almanac", "thiefNamed", "(J)I"⟩, prog_2_method_4_code, 4, some .int)
theorem mo_Alm_thiefNamed : sh_MO m_Alm_thiefNamed 1 := ⟨⟨by decide +kernel, by decide +kernel, by decide +kernel⟩, tb_in tb_3 (List.mem_of_getElem? (i := 82) (by decide +kernel)) rfl, by decide, tb_in tb_1 (List.mem_of_getElem? (i := 9) (by decide +kernel)) rfl⟩
theorem im_Alm_thiefNamed : Cond.instanceMethod m_Alm_thiefNamed.1 ∈ lw_g := tb_in tb_3 (List.mem_of_getElem? (i := 80) (by decide +kernel)) rfl
theorem se_Alm_thiefNamed : Cond.selects m_Alm_thiefNamed.1.cls m_Alm_thiefNamed.1 m_Alm_thiefNamed.1 ∈ lw_g := tb_in tb_3 (List.mem_of_getElem? (i := 81) (by decide +kernel)) rfl
def m_Gang_init : sh_M := (⟨"StolenHolidays$Gang", "<init>", "()V"⟩, prog_3_method_1_code, 1, none)
def m_Gang_search : sh_M := (⟨"StolenHolidays$Gang", "search", "(LStolenHolidays$State;LStolenHolidays$Almanac;)V"⟩, prog_3_method_2_code, 3, none)
theorem mo_Gang_search : sh_MO m_Gang_search 2 := ⟨⟨by decide +kernel, by decide +kernel, by decide +kernel⟩, tb_in tb_4 (List.mem_of_getElem? (i := 179) (by decide +kernel)) rfl, by decide, tb_in tb_1 (List.mem_of_getElem? (i := 7) (by decide +kernel)) rfl⟩
theorem im_Gang_search : Cond.instanceMethod m_Gang_search.1 ∈ lw_g := tb_in tb_4 (List.mem_of_getElem? (i := 177) (by decide +kernel)) rfl
theorem se_Gang_search : Cond.selects m_Gang_search.1.cls m_Gang_search.1 m_Gang_search.1 ∈ lw_g := tb_in tb_4 (List.mem_of_getElem? (i := 178) (by decide +kernel)) rfl
def m_Gang_send : sh_M := (⟨"StolenHolidays$Gang", "send", "(LStolenHolidays$State;LStolenHolidays$Almanac;III)V"⟩, prog_3_method_3_code, 8, none)
theorem mo_Gang_send : sh_MO m_Gang_send 5 := ⟨⟨by decide +kernel, by decide +kernel, by decide +kernel⟩, tb_in tb_4 (List.mem_of_getElem? (i := 183) (by decide +kernel)) rfl, by decide, tb_in tb_1 (List.mem_of_getElem? (i := 7) (by decide +kernel)) rfl⟩
theorem im_Gang_send : Cond.instanceMethod m_Gang_send.1 ∈ lw_g := tb_in tb_4 (List.mem_of_getElem? (i := 182) (by decide +kernel)) rfl
theorem se_Gang_send : Cond.selects m_Gang_send.1.cls m_Gang_send.1 m_Gang_send.1 ∈ lw_g := lw_g_in (List.mem_append_left _ (List.mem_of_getElem? (i := 24) (by decide +kernel))) rfl
def m_Law_init : sh_M := (⟨"StolenHolidays$Law", "<init>", "()V"⟩, prog_4_method_1_code, 1, none)
def m_Law_clear : sh_M := (⟨"StolenHolidays$Law", "clear", "()V"⟩, prog_4_method_2_code, 1, none)
theorem mo_Law_clear : sh_MO m_Law_clear 0 := ⟨⟨by decide +kernel, by decide +kernel, by decide +kernel⟩, tb_in tb_2 (List.mem_of_getElem? (i := 154) (by decide +kernel)) rfl, by decide, tb_in tb_1 (List.mem_of_getElem? (i := 10) (by decide +kernel)) rfl⟩
theorem im_Law_clear : Cond.instanceMethod m_Law_clear.1 ∈ lw_g := tb_in tb_2 (List.mem_of_getElem? (i := 152) (by decide +kernel)) rfl
theorem se_Law_clear : Cond.selects m_Law_clear.1.cls m_Law_clear.1 m_Law_clear.1 ∈ lw_g := tb_in tb_2 (List.mem_of_getElem? (i := 153) (by decide +kernel)) rfl
def m_Law_put : sh_M := (⟨"StolenHolidays$Law", "put", "(I)V"⟩, prog_4_method_3_code, 2, none)
theorem mo_Law_put : sh_MO m_Law_put 1 := ⟨⟨by decide +kernel, by decide +kernel, by decide +kernel⟩, tb_in tb_2 (List.mem_of_getElem? (i := 158) (by decide +kernel)) rfl, by decide, tb_in tb_1 (List.mem_of_getElem? (i := 10) (by decide +kernel)) rfl⟩
theorem im_Law_put : Cond.instanceMethod m_Law_put.1 ∈ lw_g := tb_in tb_2 (List.mem_of_getElem? (i := 156) (by decide +kernel)) rfl
theorem se_Law_put : Cond.selects m_Law_put.1.cls m_Law_put.1 m_Law_put.1 ∈ lw_g := tb_in tb_2 (List.mem_of_getElem? (i := 157) (by decide +kernel)) rfl
def m_Law_priceOf : sh_M := (⟨"StolenHolidays$Law", "priceOf", "(IIII)I"⟩, prog_4_method_4_code, 8, some .int)
theorem mo_Law_priceOf : sh_MO m_Law_priceOf 4 := ⟨⟨by decide +kernel, by decide +kernel, by decide +kernel⟩, tb_in tb_3 (List.mem_of_getElem? (i := 237) (by decide +kernel)) rfl, by decide, tb_in tb_1 (List.mem_of_getElem? (i := 10) (by decide +kernel)) rfl⟩
theorem im_Law_priceOf : Cond.instanceMethod m_Law_priceOf.1 ∈ lw_g := tb_in tb_3 (List.mem_of_getElem? (i := 235) (by decide +kernel)) rfl
theorem se_Law_priceOf : Cond.selects m_Law_priceOf.1.cls m_Law_priceOf.1 m_Law_priceOf.1 ∈ lw_g := tb_in tb_3 (List.mem_of_getElem? (i := 236) (by decide +kernel)) rfl
def m_Law_fact : sh_M := (⟨"StolenHolidays$Law", "fact", "(IIIII)I"⟩, prog_4_method_5_code, 5, some .int)
theorem mo_Law_fact : sh_MO m_Law_fact 5 := ⟨⟨by decide +kernel, by decide +kernel, by decide +kernel⟩, tb_in tb_4 (List.mem_of_getElem? (i := 0) (by decide +kernel)) rfl, by decide, tb_in tb_1 (List.mem_of_getElem? (i := 10) (by decide +kernel)) rfl⟩
theorem sa_Law_fact : Cond.static m_Law_fact.1 ∈ lw_g := tb_in tb_3 (List.mem_of_getElem? (i := 239) (by decide +kernel)) rfl
def m_Law_join : sh_M := (⟨"StolenHolidays$Law", "join", "(III)I"⟩, prog_4_method_6_code, 3, some .int)
theorem mo_Law_join : sh_MO m_Law_join 3 := ⟨⟨by decide +kernel, by decide +kernel, by decide +kernel⟩, tb_in tb_4 (List.mem_of_getElem? (i := 3) (by decide +kernel)) rfl, by decide, tb_in tb_1 (List.mem_of_getElem? (i := 10) (by decide +kernel)) rfl⟩
theorem sa_Law_join : Cond.static m_Law_join.1 ∈ lw_g := tb_in tb_4 (List.mem_of_getElem? (i := 2) (by decide +kernel)) rfl
def m_Mark_init : sh_M := (⟨"StolenHolidays$Mark", "<init>", "()V"⟩, prog_5_method_1_code, 1, none)
def m_Mark_lay : sh_M := (⟨"StolenHolidays$Mark", "lay", "(LStolenHolidays$State;LStolenHolidays$Year;LStolenHolidays$Seen;)V"⟩, prog_5_method_2_code, 4, none)
theorem mo_Mark_lay : sh_MO m_Mark_lay 3 := ⟨⟨by decide +kernel, by decide +kernel, by decide +kernel⟩, tb_in tb_5 (List.mem_of_getElem? (i := 60) (by decide +kernel)) rfl, by decide, tb_in tb_1 (List.mem_of_getElem? (i := 12) (by decide +kernel)) rfl⟩
theorem im_Mark_lay : Cond.instanceMethod m_Mark_lay.1 ∈ lw_g := tb_in tb_5 (List.mem_of_getElem? (i := 58) (by decide +kernel)) rfl
theorem se_Mark_lay : Cond.selects m_Mark_lay.1.cls m_Mark_lay.1 m_Mark_lay.1 ∈ lw_g := tb_in tb_5 (List.mem_of_getElem? (i := 59) (by decide +kernel)) rfl
def m_Mark_goBack : sh_M := (⟨"StolenHolidays$Mark", "goBack", "(LStolenHolidays$State;LStolenHolidays$Year;LStolenHolidays$Seen;)V"⟩, prog_5_method_3_code, 4, none)
theorem mo_Mark_goBack : sh_MO m_Mark_goBack 3 := ⟨⟨by decide +kernel, by decide +kernel, by decide +kernel⟩, tb_in tb_5 (List.mem_of_getElem? (i := 74) (by decide +kernel)) rfl, by decide, tb_in tb_1 (List.mem_of_getElem? (i := 12) (by decide +kernel)) rfl⟩
theorem im_Mark_goBack : Cond.instanceMethod m_Mark_goBack.1 ∈ lw_g := tb_in tb_5 (List.mem_of_getElem? (i := 72) (by decide +kernel)) rfl
theorem se_Mark_goBack : Cond.selects m_Mark_goBack.1.cls m_Mark_goBack.1 m_Mark_goBack.1 ∈ lw_g := tb_in tb_5 (List.mem_of_getElem? (i := 73) (by decide +kernel)) rfl
def m_Past_init : sh_M := (⟨"StolenHolidays$Past", "<init>", "()V"⟩, prog_6_method_1_code, 1, none)
def m_Past_clear : sh_M := (⟨"StolenHolidays$Past", "clear", "()V"⟩, prog_6_method_2_code, 1, none)
theorem mo_Past_clear : sh_MO m_Past_clear 0 := ⟨⟨by decide +kernel, by decide +kernel, by decide +kernel⟩, tb_in tb_3 (List.mem_of_getElem? (i := 127) (by decide +kernel)) rfl, by decide, tb_in tb_1 (List.mem_of_getElem? (i := 5) (by decide +kernel)) rfl⟩
theorem im_Past_clear : Cond.instanceMethod m_Past_clear.1 ∈ lw_g := tb_in tb_3 (List.mem_of_getElem? (i := 125) (by decide +kernel)) rfl
theorem se_Past_clear : Cond.selects m_Past_clear.1.cls m_Past_clear.1 m_Past_clear.1 ∈ lw_g := tb_in tb_3 (List.mem_of_getElem? (i := 126) (by decide +kernel)) rfl
def m_Past_keep : sh_M := (⟨"StolenHolidays$Past", "keep", "(LStolenHolidays$State;)V"⟩, prog_6_method_3_code, 2, none)
theorem mo_Past_keep : sh_MO m_Past_keep 1 := ⟨⟨by decide +kernel, by decide +kernel, by decide +kernel⟩, tb_in tb_3 (List.mem_of_getElem? (i := 192) (by decide +kernel)) rfl, by decide, tb_in tb_1 (List.mem_of_getElem? (i := 5) (by decide +kernel)) rfl⟩
theorem im_Past_keep : Cond.instanceMethod m_Past_keep.1 ∈ lw_g := tb_in tb_3 (List.mem_of_getElem? (i := 190) (by decide +kernel)) rfl
theorem se_Past_keep : Cond.selects m_Past_keep.1.cls m_Past_keep.1 m_Past_keep.1 ∈ lw_g := tb_in tb_3 (List.mem_of_getElem? (i := 191) (by decide +kernel)) rfl
def m_Past_bringBack : sh_M := (⟨"StolenHolidays$Past", "bringBack", "(LStolenHolidays$State;)Z"⟩, prog_6_method_4_code, 2, some .boolean)
theorem mo_Past_bringBack : sh_MO m_Past_bringBack 1 := ⟨⟨by decide +kernel, by decide +kernel, by decide +kernel⟩, tb_in tb_4 (List.mem_of_getElem? (i := 67) (by decide +kernel)) rfl, by decide, tb_in tb_1 (List.mem_of_getElem? (i := 5) (by decide +kernel)) rfl⟩
theorem im_Past_bringBack : Cond.instanceMethod m_Past_bringBack.1 ∈ lw_g := tb_in tb_4 (List.mem_of_getElem? (i := 65) (by decide +kernel)) rfl
theorem se_Past_bringBack : Cond.selects m_Past_bringBack.1.cls m_Past_bringBack.1 m_Past_bringBack.1 ∈ lw_g := tb_in tb_4 (List.mem_of_getElem? (i := 66) (by decide +kernel)) rfl
def m_Read_init : sh_M := (⟨"StolenHolidays$Reader", "<init>", "(LStolenHolidays$Tape;)V"⟩, prog_7_method_1_code, 2, none)
def m_Read_readAlmanac : sh_M := (⟨"StolenHolidays$Reader", "readAlmanac", "(LStolenHolidays$Almanac;)I"⟩, prog_7_method_2_code, 4, some .int)
theorem mo_Read_readAlmanac : sh_MO m_Read_readAlmanac 1 := ⟨⟨by decide +kernel, by decide +kernel, by decide +kernel⟩, tb_in tb_2 (List.mem_of_getElem? (i := 146) (by decide +kernel)) rfl, by decide, tb_in tb_1 (List.mem_of_getElem? (i := 3) (by decide +kernel)) rfl⟩
theorem im_Read_readAlmanac : Cond.instanceMethod m_Read_readAlmanac.1 ∈ lw_g := tb_in tb_2 (List.mem_of_getElem? (i := 144) (by decide +kernel)) rfl
theorem se_Read_readAlmanac : Cond.selects m_Read_readAlmanac.1.cls m_Read_readAlmanac.1 m_Read_readAlmanac.1 ∈ lw_g := tb_in tb_2 (List.mem_of_getElem? (i := 145) (by decide +kernel)) rfl
def m_Read_readYear : sh_M := (⟨"StolenHolidays$Reader", "readYear", "(LStolenHolidays$Year;LStolenHolidays$Almanac;)I"⟩, prog_7_method_3_code, 5, some .int)
theorem mo_Read_readYear : sh_MO m_Read_readYear 2 := ⟨⟨by decide +kernel, by decide +kernel, by decide +kernel⟩, tb_in tb_3 (List.mem_of_getElem? (i := 139) (by decide +kernel)) rfl, by decide, tb_in tb_1 (List.mem_of_getElem? (i := 3) (by decide +kernel)) rfl⟩
theorem im_Read_readYear : Cond.instanceMethod m_Read_readYear.1 ∈ lw_g := tb_in tb_3 (List.mem_of_getElem? (i := 137) (by decide +kernel)) rfl
theorem se_Read_readYear : Cond.selects m_Read_readYear.1.cls m_Read_readYear.1 m_Read_readYear.1 ∈ lw_g := tb_in tb_3 (List.mem_of_getElem? (i := 138) (by decide +kernel)) rfl
def m_Read_readDay : sh_M := (⟨"StolenHolidays$Reader", "readDay", "(LStolenHolidays$Almanac;)Z"⟩, prog_7_method_4_code, 4, some .boolean)
theorem mo_Read_readDay : sh_MO m_Read_readDay 1 := ⟨⟨by decide +kernel, by decide +kernel, by decide +kernel⟩, tb_in tb_3 (List.mem_of_getElem? (i := 61) (by decide +kernel)) rfl, by decide, tb_in tb_1 (List.mem_of_getElem? (i := 3) (by decide +kernel)) rfl⟩
theorem im_Read_readDay : Cond.instanceMethod m_Read_readDay.1 ∈ lw_g := tb_in tb_3 (List.mem_of_getElem? (i := 60) (by decide +kernel)) rfl
theorem se_Read_readDay : Cond.selects m_Read_readDay.1.cls m_Read_readDay.1 m_Read_readDay.1 ∈ lw_g := lw_g_in (List.mem_append_left _ (List.mem_of_getElem? (i := 5) (by decide +kernel))) rfl
def m_Read_readThief : sh_M := (⟨"StolenHolidays$Reader", "readThief", "(LStolenHolidays$Almanac;)Z"⟩, prog_7_method_5_code, 3, some .boolean)
theorem mo_Read_readThief : sh_MO m_Read_readThief 1 := ⟨⟨by decide +kernel, by decide +kernel, by decide +kernel⟩, tb_in tb_3 (List.mem_of_getElem? (i := 97) (by decide +kernel)) rfl, by decide, tb_in tb_1 (List.mem_of_getElem? (i := 3) (by decide +kernel)) rfl⟩
theorem im_Read_readThief : Cond.instanceMethod m_Read_readThief.1 ∈ lw_g := tb_in tb_3 (List.mem_of_getElem? (i := 96) (by decide +kernel)) rfl
theorem se_Read_readThief : Cond.selects m_Read_readThief.1.cls m_Read_readThief.1 m_Read_readThief.1 ∈ lw_g := lw_g_in (List.mem_append_left _ (List.mem_of_getElem? (i := 10) (by decide +kernel))) rfl
def m_Read_readPays : sh_M := (⟨"StolenHolidays$Reader", "readPays", "(LStolenHolidays$Almanac;)Z"⟩, prog_7_method_6_code, 2, some .boolean)
theorem mo_Read_readPays : sh_MO m_Read_readPays 1 := ⟨⟨by decide +kernel, by decide +kernel, by decide +kernel⟩, tb_in tb_3 (List.mem_of_getElem? (i := 101) (by decide +kernel)) rfl, by decide, tb_in tb_1 (List.mem_of_getElem? (i := 3) (by decide +kernel)) rfl⟩
theorem im_Read_readPays : Cond.instanceMethod m_Read_readPays.1 ∈ lw_g := tb_in tb_3 (List.mem_of_getElem? (i := 100) (by decide +kernel)) rfl
theorem se_Read_readPays : Cond.selects m_Read_readPays.1.cls m_Read_readPays.1 m_Read_readPays.1 ∈ lw_g := lw_g_in (List.mem_append_left _ (List.mem_of_getElem? (i := 11) (by decide +kernel))) rfl
def m_Read_readJoined : sh_M := (⟨"StolenHolidays$Reader", "readJoined", "(LStolenHolidays$Law;II)Z"⟩, prog_7_method_7_code, 8, some .boolean)
theorem mo_Read_readJoined : sh_MO m_Read_readJoined 3 := ⟨⟨by decide +kernel, by decide +kernel, by decide +kernel⟩, tb_in tb_3 (List.mem_of_getElem? (i := 106) (by decide +kernel)) rfl, by decide, tb_in tb_1 (List.mem_of_getElem? (i := 3) (by decide +kernel)) rfl⟩
theorem im_Read_readJoined : Cond.instanceMethod m_Read_readJoined.1 ∈ lw_g := tb_in tb_3 (List.mem_of_getElem? (i := 105) (by decide +kernel)) rfl
theorem se_Read_readJoined : Cond.selects m_Read_readJoined.1.cls m_Read_readJoined.1 m_Read_readJoined.1 ∈ lw_g := lw_g_in (List.mem_append_left _ (List.mem_of_getElem? (i := 12) (by decide +kernel))) rfl
def m_Read_operationTold : sh_M := (⟨"StolenHolidays$Reader", "operationTold", "(I)I"⟩, prog_7_method_8_code, 2, some .int)
theorem mo_Read_operationTold : sh_MO m_Read_operationTold 1 := ⟨⟨by decide +kernel, by decide +kernel, by decide +kernel⟩, tb_in tb_3 (List.mem_of_getElem? (i := 115) (by decide +kernel)) rfl, by decide, tb_in tb_1 (List.mem_of_getElem? (i := 3) (by decide +kernel)) rfl⟩
theorem im_Read_operationTold : Cond.instanceMethod m_Read_operationTold.1 ∈ lw_g := tb_in tb_3 (List.mem_of_getElem? (i := 114) (by decide +kernel)) rfl
theorem se_Read_operationTold : Cond.selects m_Read_operationTold.1.cls m_Read_operationTold.1 m_Read_operationTold.1 ∈ lw_g := lw_g_in (List.mem_append_left _ (List.mem_of_getElem? (i := 14) (by decide +kernel))) rfl
def m_Read_readPart : sh_M := (⟨"StolenHolidays$Reader", "readPart", "(LStolenHolidays$Law;I)Z"⟩, prog_7_method_9_code, 8, some .boolean)
theorem mo_Read_readPart : sh_MO m_Read_readPart 2 := ⟨⟨by decide +kernel, by decide +kernel, by decide +kernel⟩, tb_in tb_3 (List.mem_of_getElem? (i := 110) (by decide +kernel)) rfl, by decide, tb_in tb_1 (List.mem_of_getElem? (i := 3) (by decide +kernel)) rfl⟩
theorem im_Read_readPart : Cond.instanceMethod m_Read_readPart.1 ∈ lw_g := tb_in tb_3 (List.mem_of_getElem? (i := 109) (by decide +kernel)) rfl
theorem se_Read_readPart : Cond.selects m_Read_readPart.1.cls m_Read_readPart.1 m_Read_readPart.1 ∈ lw_g := lw_g_in (List.mem_append_left _ (List.mem_of_getElem? (i := 13) (by decide +kernel))) rfl
def m_Read_readLine : sh_M := (⟨"StolenHolidays$Reader", "readLine", "(LStolenHolidays$Year;LStolenHolidays$Almanac;)Z"⟩, prog_7_method_10_code, 7, some .boolean)
theorem mo_Read_readLine : sh_MO m_Read_readLine 2 := ⟨⟨by decide +kernel, by decide +kernel, by decide +kernel⟩, tb_in tb_3 (List.mem_of_getElem? (i := 143) (by decide +kernel)) rfl, by decide, tb_in tb_1 (List.mem_of_getElem? (i := 3) (by decide +kernel)) rfl⟩
theorem im_Read_readLine : Cond.instanceMethod m_Read_readLine.1 ∈ lw_g := tb_in tb_3 (List.mem_of_getElem? (i := 142) (by decide +kernel)) rfl
theorem se_Read_readLine : Cond.selects m_Read_readLine.1.cls m_Read_readLine.1 m_Read_readLine.1 ∈ lw_g := lw_g_in (List.mem_append_left _ (List.mem_of_getElem? (i := 15) (by decide +kernel))) rfl
def m_Read_takeThief : sh_M := (⟨"StolenHolidays$Reader", "takeThief", "(LStolenHolidays$Almanac;I)Z"⟩, prog_7_method_11_code, 3, some .boolean)
theorem mo_Read_takeThief : sh_MO m_Read_takeThief 2 := ⟨⟨by decide +kernel, by decide +kernel, by decide +kernel⟩, tb_in tb_3 (List.mem_of_getElem? (i := 147) (by decide +kernel)) rfl, by decide, tb_in tb_1 (List.mem_of_getElem? (i := 3) (by decide +kernel)) rfl⟩
theorem im_Read_takeThief : Cond.instanceMethod m_Read_takeThief.1 ∈ lw_g := tb_in tb_3 (List.mem_of_getElem? (i := 146) (by decide +kernel)) rfl
theorem se_Read_takeThief : Cond.selects m_Read_takeThief.1.cls m_Read_takeThief.1 m_Read_takeThief.1 ∈ lw_g := lw_g_in (List.mem_append_left _ (List.mem_of_getElem? (i := 16) (by decide +kernel))) rfl
def m_Read_takeDay : sh_M := (⟨"StolenHolidays$Reader", "takeDay", "(LStolenHolidays$Almanac;)Z"⟩, prog_7_method_12_code, 2, some .boolean)
theorem mo_Read_takeDay : sh_MO m_Read_takeDay 1 := ⟨⟨by decide +kernel, by decide +kernel, by decide +kernel⟩, tb_in tb_3 (List.mem_of_getElem? (i := 151) (by decide +kernel)) rfl, by decide, tb_in tb_1 (List.mem_of_getElem? (i := 3) (by decide +kernel)) rfl⟩
theorem im_Read_takeDay : Cond.instanceMethod m_Read_takeDay.1 ∈ lw_g := tb_in tb_3 (List.mem_of_getElem? (i := 150) (by decide +kernel)) rfl
theorem se_Read_takeDay : Cond.selects m_Read_takeDay.1.cls m_Read_takeDay.1 m_Read_takeDay.1 ∈ lw_g := lw_g_in (List.mem_append_left _ (List.mem_of_getElem? (i := 17) (by decide +kernel))) rfl
def m_Read_isNewName : sh_M := (⟨"StolenHolidays$Reader", "isNewName", "(LStolenHolidays$Almanac;)Z"⟩, prog_7_method_13_code, 3, some .boolean)
theorem mo_Read_isNewName : sh_MO m_Read_isNewName 1 := ⟨⟨by decide +kernel, by decide +kernel, by decide +kernel⟩, tb_in tb_3 (List.mem_of_getElem? (i := 70) (by decide +kernel)) rfl, by decide, tb_in tb_1 (List.mem_of_getElem? (i := 3) (by decide +kernel)) rfl⟩
theorem im_Read_isNewName : Cond.instanceMethod m_Read_isNewName.1 ∈ lw_g := tb_in tb_3 (List.mem_of_getElem? (i := 69) (by decide +kernel)) rfl
theorem se_Read_isNewName : Cond.selects m_Read_isNewName.1.cls m_Read_isNewName.1 m_Read_isNewName.1 ∈ lw_g := lw_g_in (List.mem_append_left _ (List.mem_of_getElem? (i := 7) (by decide +kernel))) rfl
def m_Read_takeNumber : sh_M := (⟨"StolenHolidays$Reader", "takeNumber", "(III)Z"⟩, prog_7_method_14_code, 4, some .boolean)
theorem mo_Read_takeNumber : sh_MO m_Read_takeNumber 3 := ⟨⟨by decide +kernel, by decide +kernel, by decide +kernel⟩, tb_in tb_3 (List.mem_of_getElem? (i := 89) (by decide +kernel)) rfl, by decide, tb_in tb_1 (List.mem_of_getElem? (i := 3) (by decide +kernel)) rfl⟩
theorem im_Read_takeNumber : Cond.instanceMethod m_Read_takeNumber.1 ∈ lw_g := tb_in tb_3 (List.mem_of_getElem? (i := 88) (by decide +kernel)) rfl
theorem se_Read_takeNumber : Cond.selects m_Read_takeNumber.1.cls m_Read_takeNumber.1 m_Read_takeNumber.1 ∈ lw_g := lw_g_in (List.mem_append_left _ (List.mem_of_getElem? (i := 8) (by decide +kernel))) rfl
def m_Read_takeSign : sh_M := (⟨"StolenHolidays$Reader", "takeSign", "(I)Z"⟩, prog_7_method_15_code, 2, some .boolean)
theorem mo_Read_takeSign : sh_MO m_Read_takeSign 1 := ⟨⟨by decide +kernel, by decide +kernel, by decide +kernel⟩, tb_in tb_3 (List.mem_of_getElem? (i := 93) (by decide +kernel)) rfl, by decide, tb_in tb_1 (List.mem_of_getElem? (i := 3) (by decide +kernel)) rfl⟩
theorem im_Read_takeSign : Cond.instanceMethod m_Read_takeSign.1 ∈ lw_g := tb_in tb_3 (List.mem_of_getElem? (i := 92) (by decide +kernel)) rfl
theorem se_Read_takeSign : Cond.selects m_Read_takeSign.1.cls m_Read_takeSign.1 m_Read_takeSign.1 ∈ lw_g := lw_g_in (List.mem_append_left _ (List.mem_of_getElem? (i := 9) (by decide +kernel))) rfl
def m_Read_refuse : sh_M := (⟨"StolenHolidays$Reader", "refuse", "(I)Z"⟩, prog_7_method_16_code, 2, some .boolean)
theorem mo_Read_refuse : sh_MO m_Read_refuse 1 := ⟨⟨by decide +kernel, by decide +kernel, by decide +kernel⟩, tb_in tb_3 (List.mem_of_getElem? (i := 65) (by decide +kernel)) rfl, by decide, tb_in tb_1 (List.mem_of_getElem? (i := 3) (by decide +kernel)) rfl⟩
theorem im_Read_refuse : Cond.instanceMethod m_Read_refuse.1 ∈ lw_g := tb_in tb_3 (List.mem_of_getElem? (i := 64) (by decide +kernel)) rfl
theorem se_Read_refuse : Cond.selects m_Read_refuse.1.cls m_Read_refuse.1 m_Read_refuse.1 ∈ lw_g := lw_g_in (List.mem_append_left _ (List.mem_of_getElem? (i := 6) (by decide +kernel))) rfl
def m_Seen_init : sh_M := (⟨"StolenHolidays$Seen", "<init>", "()V"⟩, prog_8_method_1_code, 1, none)
def m_Seen_clear : sh_M := (⟨"StolenHolidays$Seen", "clear", "()V"⟩, prog_8_method_2_code, 1, none)
theorem mo_Seen_clear : sh_MO m_Seen_clear 0 := ⟨⟨by decide +kernel, by decide +kernel, by decide +kernel⟩, tb_in tb_3 (List.mem_of_getElem? (i := 131) (by decide +kernel)) rfl, by decide, tb_in tb_1 (List.mem_of_getElem? (i := 6) (by decide +kernel)) rfl⟩
theorem im_Seen_clear : Cond.instanceMethod m_Seen_clear.1 ∈ lw_g := tb_in tb_3 (List.mem_of_getElem? (i := 129) (by decide +kernel)) rfl
theorem se_Seen_clear : Cond.selects m_Seen_clear.1.cls m_Seen_clear.1 m_Seen_clear.1 ∈ lw_g := tb_in tb_3 (List.mem_of_getElem? (i := 130) (by decide +kernel)) rfl
def m_Seen_add : sh_M := (⟨"StolenHolidays$Seen", "add", "(IIZ)Z"⟩, prog_8_method_3_code, 4, some .boolean)
theorem mo_Seen_add : sh_MO m_Seen_add 3 := ⟨⟨by decide +kernel, by decide +kernel, by decide +kernel⟩, tb_in tb_4 (List.mem_of_getElem? (i := 235) (by decide +kernel)) rfl, by decide, tb_in tb_1 (List.mem_of_getElem? (i := 6) (by decide +kernel)) rfl⟩
theorem im_Seen_add : Cond.instanceMethod m_Seen_add.1 ∈ lw_g := tb_in tb_4 (List.mem_of_getElem? (i := 233) (by decide +kernel)) rfl
theorem se_Seen_add : Cond.selects m_Seen_add.1.cls m_Seen_add.1 m_Seen_add.1 ∈ lw_g := tb_in tb_4 (List.mem_of_getElem? (i := 234) (by decide +kernel)) rfl
def m_Seen_copy : sh_M := (⟨"StolenHolidays$Seen", "copy", "(LStolenHolidays$Seen;)V"⟩, prog_8_method_4_code, 3, none)
theorem mo_Seen_copy : sh_MO m_Seen_copy 1 := ⟨⟨by decide +kernel, by decide +kernel, by decide +kernel⟩, tb_in tb_5 (List.mem_of_getElem? (i := 70) (by decide +kernel)) rfl, by decide, tb_in tb_1 (List.mem_of_getElem? (i := 6) (by decide +kernel)) rfl⟩
theorem im_Seen_copy : Cond.instanceMethod m_Seen_copy.1 ∈ lw_g := tb_in tb_5 (List.mem_of_getElem? (i := 68) (by decide +kernel)) rfl
theorem se_Seen_copy : Cond.selects m_Seen_copy.1.cls m_Seen_copy.1 m_Seen_copy.1 ∈ lw_g := tb_in tb_5 (List.mem_of_getElem? (i := 69) (by decide +kernel)) rfl
def m_Seen_fits : sh_M := (⟨"StolenHolidays$Seen", "fits", "(LStolenHolidays$State;LStolenHolidays$Almanac;I)Z"⟩, prog_8_method_5_code, 5, some .boolean)
theorem mo_Seen_fits : sh_MO m_Seen_fits 3 := ⟨⟨by decide +kernel, by decide +kernel, by decide +kernel⟩, tb_in tb_5 (List.mem_of_getElem? (i := 3) (by decide +kernel)) rfl, by decide, tb_in tb_1 (List.mem_of_getElem? (i := 6) (by decide +kernel)) rfl⟩
theorem im_Seen_fits : Cond.instanceMethod m_Seen_fits.1 ∈ lw_g := tb_in tb_5 (List.mem_of_getElem? (i := 1) (by decide +kernel)) rfl
theorem se_Seen_fits : Cond.selects m_Seen_fits.1.cls m_Seen_fits.1 m_Seen_fits.1 ∈ lw_g := tb_in tb_5 (List.mem_of_getElem? (i := 2) (by decide +kernel)) rfl
def m_Spr_init : sh_M := (⟨"StolenHolidays$Spree", "<init>", "()V"⟩, prog_9_method_1_code, 1, none)
def m_Spr_search : sh_M := (⟨"StolenHolidays$Spree", "search", "(LStolenHolidays$State;LStolenHolidays$Almanac;II)V"⟩, prog_9_method_2_code, 6, none)
theorem mo_Spr_search : sh_MO m_Spr_search 4 := ⟨⟨by decide +kernel, by decide +kernel, by decide +kernel⟩, tb_in tb_4 (List.mem_of_getElem? (i := 210) (by decide +kernel)) rfl, by decide, tb_in tb_1 (List.mem_of_getElem? (i := 8) (by decide +kernel)) rfl⟩
theorem im_Spr_search : Cond.instanceMethod m_Spr_search.1 ∈ lw_g := tb_in tb_4 (List.mem_of_getElem? (i := 208) (by decide +kernel)) rfl
theorem se_Spr_search : Cond.selects m_Spr_search.1.cls m_Spr_search.1 m_Spr_search.1 ∈ lw_g := tb_in tb_4 (List.mem_of_getElem? (i := 209) (by decide +kernel)) rfl
def m_Spr_go : sh_M := (⟨"StolenHolidays$Spree", "go", "(LStolenHolidays$Almanac;IIII)V"⟩, prog_9_method_3_code, 9, none)
theorem mo_Spr_go : sh_MO m_Spr_go 5 := ⟨⟨by decide +kernel, by decide +kernel, by decide +kernel⟩, tb_in tb_4 (List.mem_of_getElem? (i := 214) (by decide +kernel)) rfl, by decide, tb_in tb_1 (List.mem_of_getElem? (i := 8) (by decide +kernel)) rfl⟩
theorem im_Spr_go : Cond.instanceMethod m_Spr_go.1 ∈ lw_g := tb_in tb_4 (List.mem_of_getElem? (i := 213) (by decide +kernel)) rfl
theorem se_Spr_go : Cond.selects m_Spr_go.1.cls m_Spr_go.1 m_Spr_go.1 ∈ lw_g := lw_g_in (List.mem_append_left _ (List.mem_of_getElem? (i := 26) (by decide +kernel))) rfl
def m_Spr_hope : sh_M := (⟨"StolenHolidays$Spree", "hope", "(LStolenHolidays$Almanac;I)I"⟩, prog_9_method_4_code, 8, some .int)
theorem mo_Spr_hope : sh_MO m_Spr_hope 2 := ⟨⟨by decide +kernel, by decide +kernel, by decide +kernel⟩, tb_in tb_4 (List.mem_of_getElem? (i := 218) (by decide +kernel)) rfl, by decide, tb_in tb_1 (List.mem_of_getElem? (i := 8) (by decide +kernel)) rfl⟩
theorem im_Spr_hope : Cond.instanceMethod m_Spr_hope.1 ∈ lw_g := tb_in tb_4 (List.mem_of_getElem? (i := 217) (by decide +kernel)) rfl
theorem se_Spr_hope : Cond.selects m_Spr_hope.1.cls m_Spr_hope.1 m_Spr_hope.1 ∈ lw_g := lw_g_in (List.mem_append_left _ (List.mem_of_getElem? (i := 27) (by decide +kernel))) rfl
def m_Spr_passNight : sh_M := (⟨"StolenHolidays$Spree", "passNight", "(LStolenHolidays$Almanac;III)V"⟩, prog_9_method_5_code, 9, none)
theorem mo_Spr_passNight : sh_MO m_Spr_passNight 4 := ⟨⟨by decide +kernel, by decide +kernel, by decide +kernel⟩, tb_in tb_4 (List.mem_of_getElem? (i := 224) (by decide +kernel)) rfl, by decide, tb_in tb_1 (List.mem_of_getElem? (i := 8) (by decide +kernel)) rfl⟩
theorem im_Spr_passNight : Cond.instanceMethod m_Spr_passNight.1 ∈ lw_g := tb_in tb_4 (List.mem_of_getElem? (i := 223) (by decide +kernel)) rfl
theorem se_Spr_passNight : Cond.selects m_Spr_passNight.1.cls m_Spr_passNight.1 m_Spr_passNight.1 ∈ lw_g := lw_g_in (List.mem_append_left _ (List.mem_of_getElem? (i := 28) (by decide +kernel))) rfl
def m_State_init : sh_M := (⟨"StolenHolidays$State", "<init>", "()V"⟩, prog_10_method_1_code, 1, none)
def m_State_copy : sh_M := (⟨"StolenHolidays$State", "copy", "(LStolenHolidays$State;)V"⟩, prog_10_method_2_code, 2, none)
theorem mo_State_copy : sh_MO m_State_copy 1 := ⟨⟨by decide +kernel, by decide +kernel, by decide +kernel⟩, tb_in tb_5 (List.mem_of_getElem? (i := 38) (by decide +kernel)) rfl, by decide, tb_in tb_1 (List.mem_of_getElem? (i := 4) (by decide +kernel)) rfl⟩
theorem im_State_copy : Cond.instanceMethod m_State_copy.1 ∈ lw_g := tb_in tb_5 (List.mem_of_getElem? (i := 36) (by decide +kernel)) rfl
theorem se_State_copy : Cond.selects m_State_copy.1.cls m_State_copy.1 m_State_copy.1 ∈ lw_g := tb_in tb_5 (List.mem_of_getElem? (i := 37) (by decide +kernel)) rfl
def m_State_begin : sh_M := (⟨"StolenHolidays$State", "begin", "(LStolenHolidays$Almanac;)V"⟩, prog_10_method_3_code, 3, none)
theorem mo_State_begin : sh_MO m_State_begin 1 := ⟨⟨by decide +kernel, by decide +kernel, by decide +kernel⟩, tb_in tb_3 (List.mem_of_getElem? (i := 123) (by decide +kernel)) rfl, by decide, tb_in tb_1 (List.mem_of_getElem? (i := 4) (by decide +kernel)) rfl⟩
theorem im_State_begin : Cond.instanceMethod m_State_begin.1 ∈ lw_g := tb_in tb_3 (List.mem_of_getElem? (i := 121) (by decide +kernel)) rfl
theorem se_State_begin : Cond.selects m_State_begin.1.cls m_State_begin.1 m_State_begin.1 ∈ lw_g := tb_in tb_3 (List.mem_of_getElem? (i := 122) (by decide +kernel)) rfl
def m_State_hasPiece : sh_M := (⟨"StolenHolidays$State", "hasPiece", "(I)Z"⟩, prog_10_method_4_code, 2, some .boolean)
theorem mo_State_hasPiece : sh_MO m_State_hasPiece 1 := ⟨⟨by decide +kernel, by decide +kernel, by decide +kernel⟩, tb_in tb_3 (List.mem_of_getElem? (i := 175) (by decide +kernel)) rfl, by decide, tb_in tb_1 (List.mem_of_getElem? (i := 4) (by decide +kernel)) rfl⟩
theorem im_State_hasPiece : Cond.instanceMethod m_State_hasPiece.1 ∈ lw_g := tb_in tb_3 (List.mem_of_getElem? (i := 173) (by decide +kernel)) rfl
theorem se_State_hasPiece : Cond.selects m_State_hasPiece.1.cls m_State_hasPiece.1 m_State_hasPiece.1 ∈ lw_g := tb_in tb_3 (List.mem_of_getElem? (i := 174) (by decide +kernel)) rfl
def m_State_isReady : sh_M := (⟨"StolenHolidays$State", "isReady", "(I)Z"⟩, prog_10_method_5_code, 2, some .boolean)
theorem mo_State_isReady : sh_MO m_State_isReady 1 := ⟨⟨by decide +kernel, by decide +kernel, by decide +kernel⟩, tb_in tb_3 (List.mem_of_getElem? (i := 187) (by decide +kernel)) rfl, by decide, tb_in tb_1 (List.mem_of_getElem? (i := 4) (by decide +kernel)) rfl⟩
theorem im_State_isReady : Cond.instanceMethod m_State_isReady.1 ∈ lw_g := tb_in tb_3 (List.mem_of_getElem? (i := 185) (by decide +kernel)) rfl
theorem se_State_isReady : Cond.selects m_State_isReady.1.cls m_State_isReady.1 m_State_isReady.1 ∈ lw_g := tb_in tb_3 (List.mem_of_getElem? (i := 186) (by decide +kernel)) rfl
def m_State_canTake : sh_M := (⟨"StolenHolidays$State", "canTake", "(II)Z"⟩, prog_10_method_6_code, 3, some .boolean)
theorem mo_State_canTake : sh_MO m_State_canTake 2 := ⟨⟨by decide +kernel, by decide +kernel, by decide +kernel⟩, tb_in tb_3 (List.mem_of_getElem? (i := 183) (by decide +kernel)) rfl, by decide, tb_in tb_1 (List.mem_of_getElem? (i := 4) (by decide +kernel)) rfl⟩
theorem im_State_canTake : Cond.instanceMethod m_State_canTake.1 ∈ lw_g := tb_in tb_3 (List.mem_of_getElem? (i := 181) (by decide +kernel)) rfl
theorem se_State_canTake : Cond.selects m_State_canTake.1.cls m_State_canTake.1 m_State_canTake.1 ∈ lw_g := tb_in tb_3 (List.mem_of_getElem? (i := 182) (by decide +kernel)) rfl
def m_State_canPart : sh_M := (⟨"StolenHolidays$State", "canPart", "(I)Z"⟩, prog_10_method_7_code, 2, some .boolean)
theorem mo_State_canPart : sh_MO m_State_canPart 1 := ⟨⟨by decide +kernel, by decide +kernel, by decide +kernel⟩, tb_in tb_3 (List.mem_of_getElem? (i := 214) (by decide +kernel)) rfl, by decide, tb_in tb_1 (List.mem_of_getElem? (i := 4) (by decide +kernel)) rfl⟩
theorem im_State_canPart : Cond.instanceMethod m_State_canPart.1 ∈ lw_g := tb_in tb_3 (List.mem_of_getElem? (i := 212) (by decide +kernel)) rfl
theorem se_State_canPart : Cond.selects m_State_canPart.1.cls m_State_canPart.1 m_State_canPart.1 ∈ lw_g := tb_in tb_3 (List.mem_of_getElem? (i := 213) (by decide +kernel)) rfl
def m_State_canTrade : sh_M := (⟨"StolenHolidays$State", "canTrade", "(II)Z"⟩, prog_10_method_8_code, 3, some .boolean)
theorem mo_State_canTrade : sh_MO m_State_canTrade 2 := ⟨⟨by decide +kernel, by decide +kernel, by decide +kernel⟩, tb_in tb_4 (List.mem_of_getElem? (i := 22) (by decide +kernel)) rfl, by decide, tb_in tb_1 (List.mem_of_getElem? (i := 4) (by decide +kernel)) rfl⟩
theorem im_State_canTrade : Cond.instanceMethod m_State_canTrade.1 ∈ lw_g := tb_in tb_4 (List.mem_of_getElem? (i := 20) (by decide +kernel)) rfl
theorem se_State_canTrade : Cond.selects m_State_canTrade.1.cls m_State_canTrade.1 m_State_canTrade.1 ∈ lw_g := tb_in tb_4 (List.mem_of_getElem? (i := 21) (by decide +kernel)) rfl
def m_State_bagged : sh_M := (⟨"StolenHolidays$State", "bagged", "(LStolenHolidays$Almanac;II)I"⟩, prog_10_method_9_code, 4, some .int)
theorem mo_State_bagged : sh_MO m_State_bagged 3 := ⟨⟨by decide +kernel, by decide +kernel, by decide +kernel⟩, tb_in tb_3 (List.mem_of_getElem? (i := 204) (by decide +kernel)) rfl, by decide, tb_in tb_1 (List.mem_of_getElem? (i := 4) (by decide +kernel)) rfl⟩
theorem im_State_bagged : Cond.instanceMethod m_State_bagged.1 ∈ lw_g := tb_in tb_3 (List.mem_of_getElem? (i := 202) (by decide +kernel)) rfl
theorem se_State_bagged : Cond.selects m_State_bagged.1.cls m_State_bagged.1 m_State_bagged.1 ∈ lw_g := tb_in tb_3 (List.mem_of_getElem? (i := 203) (by decide +kernel)) rfl
def m_State_take : sh_M := (⟨"StolenHolidays$State", "take", "(LStolenHolidays$Almanac;II)I"⟩, prog_10_method_10_code, 6, some .int)
theorem mo_State_take : sh_MO m_State_take 3 := ⟨⟨by decide +kernel, by decide +kernel, by decide +kernel⟩, tb_in tb_3 (List.mem_of_getElem? (i := 200) (by decide +kernel)) rfl, by decide, tb_in tb_1 (List.mem_of_getElem? (i := 4) (by decide +kernel)) rfl⟩
theorem im_State_take : Cond.instanceMethod m_State_take.1 ∈ lw_g := tb_in tb_3 (List.mem_of_getElem? (i := 198) (by decide +kernel)) rfl
theorem se_State_take : Cond.selects m_State_take.1.cls m_State_take.1 m_State_take.1 ∈ lw_g := tb_in tb_3 (List.mem_of_getElem? (i := 199) (by decide +kernel)) rfl
def m_State_cashIn : sh_M := (⟨"StolenHolidays$State", "cashIn", "(LStolenHolidays$Almanac;I)I"⟩, prog_10_method_11_code, 4, some .int)
theorem mo_State_cashIn : sh_MO m_State_cashIn 2 := ⟨⟨by decide +kernel, by decide +kernel, by decide +kernel⟩, tb_in tb_3 (List.mem_of_getElem? (i := 218) (by decide +kernel)) rfl, by decide, tb_in tb_1 (List.mem_of_getElem? (i := 4) (by decide +kernel)) rfl⟩
theorem im_State_cashIn : Cond.instanceMethod m_State_cashIn.1 ∈ lw_g := tb_in tb_3 (List.mem_of_getElem? (i := 216) (by decide +kernel)) rfl
theorem se_State_cashIn : Cond.selects m_State_cashIn.1.cls m_State_cashIn.1 m_State_cashIn.1 ∈ lw_g := tb_in tb_3 (List.mem_of_getElem? (i := 217) (by decide +kernel)) rfl
def m_State_enjoy : sh_M := (⟨"StolenHolidays$State", "enjoy", "(I)I"⟩, prog_10_method_12_code, 3, some .int)
theorem mo_State_enjoy : sh_MO m_State_enjoy 1 := ⟨⟨by decide +kernel, by decide +kernel, by decide +kernel⟩, tb_in tb_4 (List.mem_of_getElem? (i := 13) (by decide +kernel)) rfl, by decide, tb_in tb_1 (List.mem_of_getElem? (i := 4) (by decide +kernel)) rfl⟩
theorem im_State_enjoy : Cond.instanceMethod m_State_enjoy.1 ∈ lw_g := tb_in tb_4 (List.mem_of_getElem? (i := 11) (by decide +kernel)) rfl
theorem se_State_enjoy : Cond.selects m_State_enjoy.1.cls m_State_enjoy.1 m_State_enjoy.1 ∈ lw_g := tb_in tb_4 (List.mem_of_getElem? (i := 12) (by decide +kernel)) rfl
def m_State_trade : sh_M := (⟨"StolenHolidays$State", "trade", "(II)V"⟩, prog_10_method_13_code, 3, none)
theorem mo_State_trade : sh_MO m_State_trade 2 := ⟨⟨by decide +kernel, by decide +kernel, by decide +kernel⟩, tb_in tb_4 (List.mem_of_getElem? (i := 27) (by decide +kernel)) rfl, by decide, tb_in tb_1 (List.mem_of_getElem? (i := 4) (by decide +kernel)) rfl⟩
theorem im_State_trade : Cond.instanceMethod m_State_trade.1 ∈ lw_g := tb_in tb_4 (List.mem_of_getElem? (i := 25) (by decide +kernel)) rfl
theorem se_State_trade : Cond.selects m_State_trade.1.cls m_State_trade.1 m_State_trade.1 ∈ lw_g := tb_in tb_4 (List.mem_of_getElem? (i := 26) (by decide +kernel)) rfl
def m_State_exchange : sh_M := (⟨"StolenHolidays$State", "exchange", "(II)V"⟩, prog_10_method_14_code, 4, none)
theorem mo_State_exchange : sh_MO m_State_exchange 2 := ⟨⟨by decide +kernel, by decide +kernel, by decide +kernel⟩, tb_in tb_4 (List.mem_of_getElem? (i := 31) (by decide +kernel)) rfl, by decide, tb_in tb_1 (List.mem_of_getElem? (i := 4) (by decide +kernel)) rfl⟩
theorem im_State_exchange : Cond.instanceMethod m_State_exchange.1 ∈ lw_g := tb_in tb_4 (List.mem_of_getElem? (i := 30) (by decide +kernel)) rfl
theorem se_State_exchange : Cond.selects m_State_exchange.1.cls m_State_exchange.1 m_State_exchange.1 ∈ lw_g := lw_g_in (List.mem_append_left _ (List.mem_of_getElem? (i := 20) (by decide +kernel))) rfl
def m_State_sleep : sh_M := (⟨"StolenHolidays$State", "sleep", "(LStolenHolidays$Almanac;)V"⟩, prog_10_method_15_code, 3, none)
theorem mo_State_sleep : sh_MO m_State_sleep 1 := ⟨⟨by decide +kernel, by decide +kernel, by decide +kernel⟩, tb_in tb_4 (List.mem_of_getElem? (i := 39) (by decide +kernel)) rfl, by decide, tb_in tb_1 (List.mem_of_getElem? (i := 4) (by decide +kernel)) rfl⟩
theorem im_State_sleep : Cond.instanceMethod m_State_sleep.1 ∈ lw_g := tb_in tb_4 (List.mem_of_getElem? (i := 37) (by decide +kernel)) rfl
theorem se_State_sleep : Cond.selects m_State_sleep.1.cls m_State_sleep.1 m_State_sleep.1 ∈ lw_g := tb_in tb_4 (List.mem_of_getElem? (i := 38) (by decide +kernel)) rfl
def m_State_leftBehind : sh_M := (⟨"StolenHolidays$State", "leftBehind", "(LStolenHolidays$Almanac;II)I"⟩, prog_10_method_16_code, 4, some .int)
theorem mo_State_leftBehind : sh_MO m_State_leftBehind 3 := ⟨⟨by decide +kernel, by decide +kernel, by decide +kernel⟩, tb_in tb_4 (List.mem_of_getElem? (i := 47) (by decide +kernel)) rfl, by decide, tb_in tb_1 (List.mem_of_getElem? (i := 4) (by decide +kernel)) rfl⟩
theorem im_State_leftBehind : Cond.instanceMethod m_State_leftBehind.1 ∈ lw_g := tb_in tb_4 (List.mem_of_getElem? (i := 45) (by decide +kernel)) rfl
theorem se_State_leftBehind : Cond.selects m_State_leftBehind.1.cls m_State_leftBehind.1 m_State_leftBehind.1 ∈ lw_g := tb_in tb_4 (List.mem_of_getElem? (i := 46) (by decide +kernel)) rfl
def m_State_guardBehind : sh_M := (⟨"StolenHolidays$State", "guardBehind", "(LStolenHolidays$Almanac;II)I"⟩, prog_10_method_17_code, 4, some .int)
theorem mo_State_guardBehind : sh_MO m_State_guardBehind 3 := ⟨⟨by decide +kernel, by decide +kernel, by decide +kernel⟩, tb_in tb_4 (List.mem_of_getElem? (i := 51) (by decide +kernel)) rfl, by decide, tb_in tb_1 (List.mem_of_getElem? (i := 4) (by decide +kernel)) rfl⟩
theorem im_State_guardBehind : Cond.instanceMethod m_State_guardBehind.1 ∈ lw_g := tb_in tb_4 (List.mem_of_getElem? (i := 49) (by decide +kernel)) rfl
theorem se_State_guardBehind : Cond.selects m_State_guardBehind.1.cls m_State_guardBehind.1 m_State_guardBehind.1 ∈ lw_g := tb_in tb_4 (List.mem_of_getElem? (i := 50) (by decide +kernel)) rfl
def m_State_relaxed : sh_M := (⟨"StolenHolidays$State", "relaxed", "(II)I"⟩, prog_10_method_18_code, 2, some .int)
theorem mo_State_relaxed : sh_MO m_State_relaxed 2 := ⟨⟨by decide +kernel, by decide +kernel, by decide +kernel⟩, tb_in tb_4 (List.mem_of_getElem? (i := 227) (by decide +kernel)) rfl, by decide, tb_in tb_1 (List.mem_of_getElem? (i := 4) (by decide +kernel)) rfl⟩
theorem sa_State_relaxed : Cond.static m_State_relaxed.1 ∈ lw_g := tb_in tb_4 (List.mem_of_getElem? (i := 226) (by decide +kernel)) rfl
def m_State_isFreeBehind : sh_M := (⟨"StolenHolidays$State", "isFreeBehind", "(II)Z"⟩, prog_10_method_19_code, 3, some .boolean)
theorem mo_State_isFreeBehind : sh_MO m_State_isFreeBehind 2 := ⟨⟨by decide +kernel, by decide +kernel, by decide +kernel⟩, tb_in tb_4 (List.mem_of_getElem? (i := 149) (by decide +kernel)) rfl, by decide, tb_in tb_1 (List.mem_of_getElem? (i := 4) (by decide +kernel)) rfl⟩
theorem im_State_isFreeBehind : Cond.instanceMethod m_State_isFreeBehind.1 ∈ lw_g := tb_in tb_4 (List.mem_of_getElem? (i := 147) (by decide +kernel)) rfl
theorem se_State_isFreeBehind : Cond.selects m_State_isFreeBehind.1.cls m_State_isFreeBehind.1 m_State_isFreeBehind.1 ∈ lw_g := tb_in tb_4 (List.mem_of_getElem? (i := 148) (by decide +kernel)) rfl
def m_State_isOpenBehind : sh_M := (⟨"StolenHolidays$State", "isOpenBehind", "(LStolenHolidays$Almanac;III)Z"⟩, prog_10_method_20_code, 5, some .boolean)
theorem mo_State_isOpenBehind : sh_MO m_State_isOpenBehind 4 := ⟨⟨by decide +kernel, by decide +kernel, by decide +kernel⟩, tb_in tb_4 (List.mem_of_getElem? (i := 145) (by decide +kernel)) rfl, by decide, tb_in tb_1 (List.mem_of_getElem? (i := 4) (by decide +kernel)) rfl⟩
theorem im_State_isOpenBehind : Cond.instanceMethod m_State_isOpenBehind.1 ∈ lw_g := tb_in tb_4 (List.mem_of_getElem? (i := 143) (by decide +kernel)) rfl
theorem se_State_isOpenBehind : Cond.selects m_State_isOpenBehind.1.cls m_State_isOpenBehind.1 m_State_isOpenBehind.1 ∈ lw_g := tb_in tb_4 (List.mem_of_getElem? (i := 144) (by decide +kernel)) rfl
def m_State_muchBehind : sh_M := (⟨"StolenHolidays$State", "muchBehind", "(II)I"⟩, prog_10_method_21_code, 6, some .int)
theorem mo_State_muchBehind : sh_MO m_State_muchBehind 2 := ⟨⟨by decide +kernel, by decide +kernel, by decide +kernel⟩, tb_in tb_3 (List.mem_of_getElem? (i := 230) (by decide +kernel)) rfl, by decide, tb_in tb_1 (List.mem_of_getElem? (i := 4) (by decide +kernel)) rfl⟩
theorem im_State_muchBehind : Cond.instanceMethod m_State_muchBehind.1 ∈ lw_g := tb_in tb_3 (List.mem_of_getElem? (i := 228) (by decide +kernel)) rfl
theorem se_State_muchBehind : Cond.selects m_State_muchBehind.1.cls m_State_muchBehind.1 m_State_muchBehind.1 ∈ lw_g := tb_in tb_3 (List.mem_of_getElem? (i := 229) (by decide +kernel)) rfl
def m_State_spoiled : sh_M := (⟨"StolenHolidays$State", "spoiled", "(III)I"⟩, prog_10_method_22_code, 3, some .int)
theorem mo_State_spoiled : sh_MO m_State_spoiled 3 := ⟨⟨by decide +kernel, by decide +kernel, by decide +kernel⟩, tb_in tb_3 (List.mem_of_getElem? (i := 233) (by decide +kernel)) rfl, by decide, tb_in tb_1 (List.mem_of_getElem? (i := 4) (by decide +kernel)) rfl⟩
theorem sa_State_spoiled : Cond.static m_State_spoiled.1 ∈ lw_g := tb_in tb_3 (List.mem_of_getElem? (i := 232) (by decide +kernel)) rfl
def m_State_guiltBehind : sh_M := (⟨"StolenHolidays$State", "guiltBehind", "(II)I"⟩, prog_10_method_23_code, 4, some .int)
theorem mo_State_guiltBehind : sh_MO m_State_guiltBehind 2 := ⟨⟨by decide +kernel, by decide +kernel, by decide +kernel⟩, tb_in tb_4 (List.mem_of_getElem? (i := 43) (by decide +kernel)) rfl, by decide, tb_in tb_1 (List.mem_of_getElem? (i := 4) (by decide +kernel)) rfl⟩
theorem im_State_guiltBehind : Cond.instanceMethod m_State_guiltBehind.1 ∈ lw_g := tb_in tb_4 (List.mem_of_getElem? (i := 42) (by decide +kernel)) rfl
theorem se_State_guiltBehind : Cond.selects m_State_guiltBehind.1.cls m_State_guiltBehind.1 m_State_guiltBehind.1 ∈ lw_g := lw_g_in (List.mem_append_left _ (List.mem_of_getElem? (i := 21) (by decide +kernel))) rfl
def m_State_joyBehind : sh_M := (⟨"StolenHolidays$State", "joyBehind", "(II)I"⟩, prog_10_method_24_code, 3, some .int)
theorem mo_State_joyBehind : sh_MO m_State_joyBehind 2 := ⟨⟨by decide +kernel, by decide +kernel, by decide +kernel⟩, tb_in tb_4 (List.mem_of_getElem? (i := 167) (by decide +kernel)) rfl, by decide, tb_in tb_1 (List.mem_of_getElem? (i := 4) (by decide +kernel)) rfl⟩
theorem im_State_joyBehind : Cond.instanceMethod m_State_joyBehind.1 ∈ lw_g := tb_in tb_4 (List.mem_of_getElem? (i := 165) (by decide +kernel)) rfl
theorem se_State_joyBehind : Cond.selects m_State_joyBehind.1.cls m_State_joyBehind.1 m_State_joyBehind.1 ∈ lw_g := tb_in tb_4 (List.mem_of_getElem? (i := 166) (by decide +kernel)) rfl
def m_State_paidFor : sh_M := (⟨"StolenHolidays$State", "paidFor", "(LStolenHolidays$Almanac;I)I"⟩, prog_10_method_25_code, 3, some .int)
theorem mo_State_paidFor : sh_MO m_State_paidFor 2 := ⟨⟨by decide +kernel, by decide +kernel, by decide +kernel⟩, tb_in tb_3 (List.mem_of_getElem? (i := 222) (by decide +kernel)) rfl, by decide, tb_in tb_1 (List.mem_of_getElem? (i := 4) (by decide +kernel)) rfl⟩
theorem im_State_paidFor : Cond.instanceMethod m_State_paidFor.1 ∈ lw_g := tb_in tb_3 (List.mem_of_getElem? (i := 220) (by decide +kernel)) rfl
theorem se_State_paidFor : Cond.selects m_State_paidFor.1.cls m_State_paidFor.1 m_State_paidFor.1 ∈ lw_g := tb_in tb_3 (List.mem_of_getElem? (i := 221) (by decide +kernel)) rfl
def m_State_paidBehind : sh_M := (⟨"StolenHolidays$State", "paidBehind", "(LStolenHolidays$Almanac;II)I"⟩, prog_10_method_26_code, 5, some .int)
theorem mo_State_paidBehind : sh_MO m_State_paidBehind 3 := ⟨⟨by decide +kernel, by decide +kernel, by decide +kernel⟩, tb_in tb_3 (List.mem_of_getElem? (i := 226) (by decide +kernel)) rfl, by decide, tb_in tb_1 (List.mem_of_getElem? (i := 4) (by decide +kernel)) rfl⟩
theorem im_State_paidBehind : Cond.instanceMethod m_State_paidBehind.1 ∈ lw_g := tb_in tb_3 (List.mem_of_getElem? (i := 224) (by decide +kernel)) rfl
theorem se_State_paidBehind : Cond.selects m_State_paidBehind.1.cls m_State_paidBehind.1 m_State_paidBehind.1 ∈ lw_g := tb_in tb_3 (List.mem_of_getElem? (i := 225) (by decide +kernel)) rfl
def m_State_bestReadySkill : sh_M := (⟨"StolenHolidays$State", "bestReadySkill", "(LStolenHolidays$Almanac;)I"⟩, prog_10_method_27_code, 4, some .int)
theorem mo_State_bestReadySkill : sh_MO m_State_bestReadySkill 1 := ⟨⟨by decide +kernel, by decide +kernel, by decide +kernel⟩, tb_in tb_4 (List.mem_of_getElem? (i := 193) (by decide +kernel)) rfl, by decide, tb_in tb_1 (List.mem_of_getElem? (i := 4) (by decide +kernel)) rfl⟩
theorem im_State_bestReadySkill : Cond.instanceMethod m_State_bestReadySkill.1 ∈ lw_g := tb_in tb_4 (List.mem_of_getElem? (i := 191) (by decide +kernel)) rfl
theorem se_State_bestReadySkill : Cond.selects m_State_bestReadySkill.1.cls m_State_bestReadySkill.1 m_State_bestReadySkill.1 ∈ lw_g := tb_in tb_4 (List.mem_of_getElem? (i := 192) (by decide +kernel)) rfl
def m_State_sumOfThieves : sh_M := (⟨"StolenHolidays$State", "sumOfThieves", "(I)I"⟩, prog_10_method_28_code, 4, some .int)
theorem mo_State_sumOfThieves : sh_MO m_State_sumOfThieves 1 := ⟨⟨by decide +kernel, by decide +kernel, by decide +kernel⟩, tb_in tb_4 (List.mem_of_getElem? (i := 87) (by decide +kernel)) rfl, by decide, tb_in tb_1 (List.mem_of_getElem? (i := 4) (by decide +kernel)) rfl⟩
theorem im_State_sumOfThieves : Cond.instanceMethod m_State_sumOfThieves.1 ∈ lw_g := tb_in tb_4 (List.mem_of_getElem? (i := 85) (by decide +kernel)) rfl
theorem se_State_sumOfThieves : Cond.selects m_State_sumOfThieves.1.cls m_State_sumOfThieves.1 m_State_sumOfThieves.1 ∈ lw_g := tb_in tb_4 (List.mem_of_getElem? (i := 86) (by decide +kernel)) rfl
def m_State_holders : sh_M := (⟨"StolenHolidays$State", "holders", "()I"⟩, prog_10_method_29_code, 1, some .int)
theorem mo_State_holders : sh_MO m_State_holders 0 := ⟨⟨by decide +kernel, by decide +kernel, by decide +kernel⟩, tb_in tb_4 (List.mem_of_getElem? (i := 55) (by decide +kernel)) rfl, by decide, tb_in tb_1 (List.mem_of_getElem? (i := 4) (by decide +kernel)) rfl⟩
theorem im_State_holders : Cond.instanceMethod m_State_holders.1 ∈ lw_g := tb_in tb_4 (List.mem_of_getElem? (i := 53) (by decide +kernel)) rfl
theorem se_State_holders : Cond.selects m_State_holders.1.cls m_State_holders.1 m_State_holders.1 ∈ lw_g := tb_in tb_4 (List.mem_of_getElem? (i := 54) (by decide +kernel)) rfl
def m_State_prisoners : sh_M := (⟨"StolenHolidays$State", "prisoners", "()I"⟩, prog_10_method_30_code, 1, some .int)
theorem mo_State_prisoners : sh_MO m_State_prisoners 0 := ⟨⟨by decide +kernel, by decide +kernel, by decide +kernel⟩, tb_in tb_5 (List.mem_of_getElem? (i := 52) (by decide +kernel)) rfl, by decide, tb_in tb_1 (List.mem_of_getElem? (i := 4) (by decide +kernel)) rfl⟩
theorem im_State_prisoners : Cond.instanceMethod m_State_prisoners.1 ∈ lw_g := tb_in tb_5 (List.mem_of_getElem? (i := 50) (by decide +kernel)) rfl
theorem se_State_prisoners : Cond.selects m_State_prisoners.1.cls m_State_prisoners.1 m_State_prisoners.1 ∈ lw_g := tb_in tb_5 (List.mem_of_getElem? (i := 51) (by decide +kernel)) rfl
def m_State_bitsOf : sh_M := (⟨"StolenHolidays$State", "bitsOf", "(I)I"⟩, prog_10_method_31_code, 4, some .int)
theorem mo_State_bitsOf : sh_MO m_State_bitsOf 1 := ⟨⟨by decide +kernel, by decide +kernel, by decide +kernel⟩, tb_in tb_4 (List.mem_of_getElem? (i := 59) (by decide +kernel)) rfl, by decide, tb_in tb_1 (List.mem_of_getElem? (i := 4) (by decide +kernel)) rfl⟩
theorem im_State_bitsOf : Cond.instanceMethod m_State_bitsOf.1 ∈ lw_g := tb_in tb_4 (List.mem_of_getElem? (i := 58) (by decide +kernel)) rfl
theorem se_State_bitsOf : Cond.selects m_State_bitsOf.1.cls m_State_bitsOf.1 m_State_bitsOf.1 ∈ lw_g := lw_g_in (List.mem_append_left _ (List.mem_of_getElem? (i := 22) (by decide +kernel))) rfl
def m_Tape_init : sh_M := (⟨"StolenHolidays$Tape", "<init>", "()V"⟩, prog_11_method_1_code, 1, none)
def m_Tape_put : sh_M := (⟨"StolenHolidays$Tape", "put", "(J)V"⟩, prog_11_method_2_code, 6, none)
theorem mo_Tape_put : sh_MO m_Tape_put 1 := ⟨⟨by decide +kernel, by decide +kernel, by decide +kernel⟩, tb_in tb_2 (List.mem_of_getElem? (i := 138) (by decide +kernel)) rfl, by decide, tb_in tb_1 (List.mem_of_getElem? (i := 2) (by decide +kernel)) rfl⟩
theorem im_Tape_put : Cond.instanceMethod m_Tape_put.1 ∈ lw_g := tb_in tb_2 (List.mem_of_getElem? (i := 136) (by decide +kernel)) rfl
theorem se_Tape_put : Cond.selects m_Tape_put.1.cls m_Tape_put.1 m_Tape_put.1 ∈ lw_g := tb_in tb_2 (List.mem_of_getElem? (i := 137) (by decide +kernel)) rfl
def m_Tape_clear : sh_M := (⟨"StolenHolidays$Tape", "clear", "()V"⟩, prog_11_method_3_code, 1, none)
theorem mo_Tape_clear : sh_MO m_Tape_clear 0 := ⟨⟨by decide +kernel, by decide +kernel, by decide +kernel⟩, tb_in tb_3 (List.mem_of_getElem? (i := 119) (by decide +kernel)) rfl, by decide, tb_in tb_1 (List.mem_of_getElem? (i := 2) (by decide +kernel)) rfl⟩
theorem im_Tape_clear : Cond.instanceMethod m_Tape_clear.1 ∈ lw_g := tb_in tb_3 (List.mem_of_getElem? (i := 117) (by decide +kernel)) rfl
theorem se_Tape_clear : Cond.selects m_Tape_clear.1.cls m_Tape_clear.1 m_Tape_clear.1 ∈ lw_g := tb_in tb_3 (List.mem_of_getElem? (i := 118) (by decide +kernel)) rfl
def m_Tape_rewind : sh_M := (⟨"StolenHolidays$Tape", "rewind", "()V"⟩, prog_11_method_4_code, 1, none)
theorem mo_Tape_rewind : sh_MO m_Tape_rewind 0 := ⟨⟨by decide +kernel, by decide +kernel, by decide +kernel⟩, tb_in tb_2 (List.mem_of_getElem? (i := 162) (by decide +kernel)) rfl, by decide, tb_in tb_1 (List.mem_of_getElem? (i := 2) (by decide +kernel)) rfl⟩
theorem im_Tape_rewind : Cond.instanceMethod m_Tape_rewind.1 ∈ lw_g := tb_in tb_2 (List.mem_of_getElem? (i := 160) (by decide +kernel)) rfl
theorem se_Tape_rewind : Cond.selects m_Tape_rewind.1.cls m_Tape_rewind.1 m_Tape_rewind.1 ∈ lw_g := tb_in tb_2 (List.mem_of_getElem? (i := 161) (by decide +kernel)) rfl
def m_Tape_step : sh_M := (⟨"StolenHolidays$Tape", "step", "()V"⟩, prog_11_method_5_code, 4, none)
theorem mo_Tape_step : sh_MO m_Tape_step 0 := ⟨⟨by decide +kernel, by decide +kernel, by decide +kernel⟩, tb_in tb_2 (List.mem_of_getElem? (i := 166) (by decide +kernel)) rfl, by decide, tb_in tb_1 (List.mem_of_getElem? (i := 2) (by decide +kernel)) rfl⟩
theorem im_Tape_step : Cond.instanceMethod m_Tape_step.1 ∈ lw_g := tb_in tb_2 (List.mem_of_getElem? (i := 164) (by decide +kernel)) rfl
theorem se_Tape_step : Cond.selects m_Tape_step.1.cls m_Tape_step.1 m_Tape_step.1 ∈ lw_g := tb_in tb_2 (List.mem_of_getElem? (i := 165) (by decide +kernel)) rfl
def m_Tape_signsWithin : sh_M := (⟨"StolenHolidays$Tape", "signsWithin", "(II)I"⟩, prog_11_method_6_code, 4, some .int)
theorem mo_Tape_signsWithin : sh_MO m_Tape_signsWithin 2 := ⟨⟨by decide +kernel, by decide +kernel, by decide +kernel⟩, tb_in tb_2 (List.mem_of_getElem? (i := 170) (by decide +kernel)) rfl, by decide, tb_in tb_1 (List.mem_of_getElem? (i := 2) (by decide +kernel)) rfl⟩
theorem im_Tape_signsWithin : Cond.instanceMethod m_Tape_signsWithin.1 ∈ lw_g := tb_in tb_2 (List.mem_of_getElem? (i := 169) (by decide +kernel)) rfl
theorem se_Tape_signsWithin : Cond.selects m_Tape_signsWithin.1.cls m_Tape_signsWithin.1 m_Tape_signsWithin.1 ∈ lw_g := lw_g_in (List.mem_append_left _ (List.mem_of_getElem? (i := 0) (by decide +kernel))) rfl
def m_Tape_readWord : sh_M := (⟨"StolenHolidays$Tape", "readWord", "(I)V"⟩, prog_11_method_7_code, 3, none)
theorem mo_Tape_readWord : sh_MO m_Tape_readWord 1 := ⟨⟨by decide +kernel, by decide +kernel, by decide +kernel⟩, tb_in tb_2 (List.mem_of_getElem? (i := 174) (by decide +kernel)) rfl, by decide, tb_in tb_1 (List.mem_of_getElem? (i := 2) (by decide +kernel)) rfl⟩
theorem im_Tape_readWord : Cond.instanceMethod m_Tape_readWord.1 ∈ lw_g := tb_in tb_2 (List.mem_of_getElem? (i := 173) (by decide +kernel)) rfl
theorem se_Tape_readWord : Cond.selects m_Tape_readWord.1.cls m_Tape_readWord.1 m_Tape_readWord.1 ∈ lw_g := lw_g_in (List.mem_append_left _ (List.mem_of_getElem? (i := 1) (by decide +kernel))) rfl
def m_Tape_readNumber : sh_M := (⟨"StolenHolidays$Tape", "readNumber", "(I)V"⟩, prog_11_method_8_code, 3, none)
theorem mo_Tape_readNumber : sh_MO m_Tape_readNumber 1 := ⟨⟨by decide +kernel, by decide +kernel, by decide +kernel⟩, tb_in tb_2 (List.mem_of_getElem? (i := 179) (by decide +kernel)) rfl, by decide, tb_in tb_1 (List.mem_of_getElem? (i := 2) (by decide +kernel)) rfl⟩
theorem im_Tape_readNumber : Cond.instanceMethod m_Tape_readNumber.1 ∈ lw_g := tb_in tb_2 (List.mem_of_getElem? (i := 178) (by decide +kernel)) rfl
theorem se_Tape_readNumber : Cond.selects m_Tape_readNumber.1.cls m_Tape_readNumber.1 m_Tape_readNumber.1 ∈ lw_g := lw_g_in (List.mem_append_left _ (List.mem_of_getElem? (i := 2) (by decide +kernel))) rfl
def m_Tape_readSign : sh_M := (⟨"StolenHolidays$Tape", "readSign", "()V"⟩, prog_11_method_9_code, 1, none)
theorem mo_Tape_readSign : sh_MO m_Tape_readSign 0 := ⟨⟨by decide +kernel, by decide +kernel, by decide +kernel⟩, tb_in tb_2 (List.mem_of_getElem? (i := 183) (by decide +kernel)) rfl, by decide, tb_in tb_1 (List.mem_of_getElem? (i := 2) (by decide +kernel)) rfl⟩
theorem im_Tape_readSign : Cond.instanceMethod m_Tape_readSign.1 ∈ lw_g := tb_in tb_2 (List.mem_of_getElem? (i := 182) (by decide +kernel)) rfl
theorem se_Tape_readSign : Cond.selects m_Tape_readSign.1.cls m_Tape_readSign.1 m_Tape_readSign.1 ∈ lw_g := lw_g_in (List.mem_append_left _ (List.mem_of_getElem? (i := 3) (by decide +kernel))) rfl
def m_Tape_numberAmong : sh_M := (⟨"StolenHolidays$Tape", "numberAmong", "(Ljava/lang/String;)I"⟩, prog_11_method_10_code, 7, some .int)
theorem mo_Tape_numberAmong : sh_MO m_Tape_numberAmong 1 := ⟨⟨by decide +kernel, by decide +kernel, by decide +kernel⟩, tb_in tb_3 (List.mem_of_getElem? (i := 35) (by decide +kernel)) rfl, by decide, tb_in tb_1 (List.mem_of_getElem? (i := 2) (by decide +kernel)) rfl⟩
theorem im_Tape_numberAmong : Cond.instanceMethod m_Tape_numberAmong.1 ∈ lw_g := tb_in tb_3 (List.mem_of_getElem? (i := 34) (by decide +kernel)) rfl
theorem se_Tape_numberAmong : Cond.selects m_Tape_numberAmong.1.cls m_Tape_numberAmong.1 m_Tape_numberAmong.1 ∈ lw_g := lw_g_in (List.mem_append_left _ (List.mem_of_getElem? (i := 4) (by decide +kernel))) rfl
def m_Tape_isName : sh_M := (⟨"StolenHolidays$Tape", "isName", "()Z"⟩, prog_11_method_11_code, 1, some .boolean)
theorem mo_Tape_isName : sh_MO m_Tape_isName 0 := ⟨⟨by decide +kernel, by decide +kernel, by decide +kernel⟩, tb_in tb_3 (List.mem_of_getElem? (i := 74) (by decide +kernel)) rfl, by decide, tb_in tb_1 (List.mem_of_getElem? (i := 2) (by decide +kernel)) rfl⟩
theorem im_Tape_isName : Cond.instanceMethod m_Tape_isName.1 ∈ lw_g := tb_in tb_3 (List.mem_of_getElem? (i := 72) (by decide +kernel)) rfl
theorem se_Tape_isName : Cond.selects m_Tape_isName.1.cls m_Tape_isName.1 m_Tape_isName.1 ∈ lw_g := tb_in tb_3 (List.mem_of_getElem? (i := 73) (by decide +kernel)) rfl
def m_Year_init : sh_M := (⟨"StolenHolidays$Year", "<init>", "()V"⟩, prog_12_method_1_code, 1, none)
def m_Year_add : sh_M := (⟨"StolenHolidays$Year", "add", "(III)V"⟩, prog_12_method_2_code, 4, none)
theorem mo_Year_add : sh_MO m_Year_add 3 := ⟨⟨by decide +kernel, by decide +kernel, by decide +kernel⟩, tb_in tb_3 (List.mem_of_getElem? (i := 155) (by decide +kernel)) rfl, by decide, tb_in tb_1 (List.mem_of_getElem? (i := 11) (by decide +kernel)) rfl⟩
theorem im_Year_add : Cond.instanceMethod m_Year_add.1 ∈ lw_g := tb_in tb_3 (List.mem_of_getElem? (i := 153) (by decide +kernel)) rfl
theorem se_Year_add : Cond.selects m_Year_add.1.cls m_Year_add.1 m_Year_add.1 ∈ lw_g := tb_in tb_3 (List.mem_of_getElem? (i := 154) (by decide +kernel)) rfl
def m_Year_copy : sh_M := (⟨"StolenHolidays$Year", "copy", "(LStolenHolidays$Year;)V"⟩, prog_12_method_3_code, 2, none)
theorem mo_Year_copy : sh_MO m_Year_copy 1 := ⟨⟨by decide +kernel, by decide +kernel, by decide +kernel⟩, tb_in tb_5 (List.mem_of_getElem? (i := 65) (by decide +kernel)) rfl, by decide, tb_in tb_1 (List.mem_of_getElem? (i := 11) (by decide +kernel)) rfl⟩
theorem im_Year_copy : Cond.instanceMethod m_Year_copy.1 ∈ lw_g := tb_in tb_5 (List.mem_of_getElem? (i := 63) (by decide +kernel)) rfl
theorem se_Year_copy : Cond.selects m_Year_copy.1.cls m_Year_copy.1 m_Year_copy.1 ∈ lw_g := tb_in tb_5 (List.mem_of_getElem? (i := 64) (by decide +kernel)) rfl
def m_Year_play : sh_M := (⟨"StolenHolidays$Year", "play", "(ILStolenHolidays$State;LStolenHolidays$Almanac;)I"⟩, prog_12_method_4_code, 6, some .int)
theorem mo_Year_play : sh_MO m_Year_play 3 := ⟨⟨by decide +kernel, by decide +kernel, by decide +kernel⟩, tb_in tb_4 (List.mem_of_getElem? (i := 75) (by decide +kernel)) rfl, by decide, tb_in tb_1 (List.mem_of_getElem? (i := 11) (by decide +kernel)) rfl⟩
theorem im_Year_play : Cond.instanceMethod m_Year_play.1 ∈ lw_g := tb_in tb_4 (List.mem_of_getElem? (i := 73) (by decide +kernel)) rfl
theorem se_Year_play : Cond.selects m_Year_play.1.cls m_Year_play.1 m_Year_play.1 ∈ lw_g := tb_in tb_4 (List.mem_of_getElem? (i := 74) (by decide +kernel)) rfl
def m_Sto_init : sh_M := (⟨"StolenHolidays", "<init>", "()V"⟩, prog_1_method_1_code, 2, none)
def m_Sto_feed : sh_M := (⟨"StolenHolidays", "feed", "(JJJ)I"⟩, prog_1_method_2_code, 7, some .int)
theorem mo_Sto_feed : sh_MO m_Sto_feed 3 := ⟨⟨by decide +kernel, by decide +kernel, by decide +kernel⟩, tb_in tb_2 (List.mem_of_getElem? (i := 134) (by decide +kernel)) rfl, by decide, tb_in tb_1 (List.mem_of_getElem? (i := 1) (by decide +kernel)) rfl⟩
theorem im_Sto_feed : Cond.instanceMethod m_Sto_feed.1 ∈ lw_g := tb_in tb_2 (List.mem_of_getElem? (i := 132) (by decide +kernel)) rfl
theorem se_Sto_feed : Cond.selects m_Sto_feed.1.cls m_Sto_feed.1 m_Sto_feed.1 ∈ lw_g := tb_in tb_2 (List.mem_of_getElem? (i := 133) (by decide +kernel)) rfl
def m_Sto_almanac : sh_M := (⟨"StolenHolidays", "almanac", "()I"⟩, prog_1_method_3_code, 4, some .int)
theorem mo_Sto_almanac : sh_MO m_Sto_almanac 0 := ⟨⟨by decide +kernel, by decide +kernel, by decide +kernel⟩, tb_in tb_2 (List.mem_of_getElem? (i := 142) (by decide +kernel)) rfl, by decide, tb_in tb_1 (List.mem_of_getElem? (i := 1) (by decide +kernel)) rfl⟩
theorem im_Sto_almanac : Cond.instanceMethod m_Sto_almanac.1 ∈ lw_g := tb_in tb_2 (List.mem_of_getElem? (i := 140) (by decide +kernel)) rfl
theorem se_Sto_almanac : Cond.selects m_Sto_almanac.1.cls m_Sto_almanac.1 m_Sto_almanac.1 ∈ lw_g := tb_in tb_2 (List.mem_of_getElem? (i := 141) (by decide +kernel)) rfl
def m_Sto_year : sh_M := (⟨"StolenHolidays", "year", "()I"⟩, prog_1_method_4_code, 3, some .int)
theorem mo_Sto_year : sh_MO m_Sto_year 0 := ⟨⟨by decide +kernel, by decide +kernel, by decide +kernel⟩, tb_in tb_3 (List.mem_of_getElem? (i := 135) (by decide +kernel)) rfl, by decide, tb_in tb_1 (List.mem_of_getElem? (i := 1) (by decide +kernel)) rfl⟩
theorem im_Sto_year : Cond.instanceMethod m_Sto_year.1 ∈ lw_g := tb_in tb_3 (List.mem_of_getElem? (i := 133) (by decide +kernel)) rfl
theorem se_Sto_year : Cond.selects m_Sto_year.1.cls m_Sto_year.1 m_Sto_year.1 ∈ lw_g := tb_in tb_3 (List.mem_of_getElem? (i := 134) (by decide +kernel)) rfl
def m_Sto_day : sh_M := (⟨"StolenHolidays", "day", "(II)I"⟩, prog_1_method_5_code, 3, some .int)
theorem mo_Sto_day : sh_MO m_Sto_day 2 := ⟨⟨by decide +kernel, by decide +kernel, by decide +kernel⟩, tb_in tb_3 (List.mem_of_getElem? (i := 159) (by decide +kernel)) rfl, by decide, tb_in tb_1 (List.mem_of_getElem? (i := 1) (by decide +kernel)) rfl⟩
theorem im_Sto_day : Cond.instanceMethod m_Sto_day.1 ∈ lw_g := tb_in tb_3 (List.mem_of_getElem? (i := 157) (by decide +kernel)) rfl
theorem se_Sto_day : Cond.selects m_Sto_day.1.cls m_Sto_day.1 m_Sto_day.1 ∈ lw_g := tb_in tb_3 (List.mem_of_getElem? (i := 158) (by decide +kernel)) rfl
def m_Sto_thief : sh_M := (⟨"StolenHolidays", "thief", "(II)I"⟩, prog_1_method_6_code, 3, some .int)
theorem mo_Sto_thief : sh_MO m_Sto_thief 2 := ⟨⟨by decide +kernel, by decide +kernel, by decide +kernel⟩, tb_in tb_3 (List.mem_of_getElem? (i := 167) (by decide +kernel)) rfl, by decide, tb_in tb_1 (List.mem_of_getElem? (i := 1) (by decide +kernel)) rfl⟩
theorem im_Sto_thief : Cond.instanceMethod m_Sto_thief.1 ∈ lw_g := tb_in tb_3 (List.mem_of_getElem? (i := 165) (by decide +kernel)) rfl
theorem se_Sto_thief : Cond.selects m_Sto_thief.1.cls m_Sto_thief.1 m_Sto_thief.1 ∈ lw_g := tb_in tb_3 (List.mem_of_getElem? (i := 166) (by decide +kernel)) rfl
def m_Sto_steal : sh_M := (⟨"StolenHolidays", "steal", "(II)I"⟩, prog_1_method_7_code, 3, some .int)
theorem mo_Sto_steal : sh_MO m_Sto_steal 2 := ⟨⟨by decide +kernel, by decide +kernel, by decide +kernel⟩, tb_in tb_3 (List.mem_of_getElem? (i := 179) (by decide +kernel)) rfl, by decide, tb_in tb_1 (List.mem_of_getElem? (i := 1) (by decide +kernel)) rfl⟩
theorem im_Sto_steal : Cond.instanceMethod m_Sto_steal.1 ∈ lw_g := tb_in tb_3 (List.mem_of_getElem? (i := 177) (by decide +kernel)) rfl
theorem se_Sto_steal : Cond.selects m_Sto_steal.1.cls m_Sto_steal.1 m_Sto_steal.1 ∈ lw_g := tb_in tb_3 (List.mem_of_getElem? (i := 178) (by decide +kernel)) rfl
def m_Sto_sell : sh_M := (⟨"StolenHolidays", "sell", "(I)I"⟩, prog_1_method_8_code, 2, some .int)
theorem mo_Sto_sell : sh_MO m_Sto_sell 1 := ⟨⟨by decide +kernel, by decide +kernel, by decide +kernel⟩, tb_in tb_3 (List.mem_of_getElem? (i := 210) (by decide +kernel)) rfl, by decide, tb_in tb_1 (List.mem_of_getElem? (i := 1) (by decide +kernel)) rfl⟩
theorem im_Sto_sell : Cond.instanceMethod m_Sto_sell.1 ∈ lw_g := tb_in tb_3 (List.mem_of_getElem? (i := 208) (by decide +kernel)) rfl
theorem se_Sto_sell : Cond.selects m_Sto_sell.1.cls m_Sto_sell.1 m_Sto_sell.1 ∈ lw_g := tb_in tb_3 (List.mem_of_getElem? (i := 209) (by decide +kernel)) rfl
def m_Sto_spend : sh_M := (⟨"StolenHolidays", "spend", "(I)I"⟩, prog_1_method_9_code, 2, some .int)
theorem mo_Sto_spend : sh_MO m_Sto_spend 1 := ⟨⟨by decide +kernel, by decide +kernel, by decide +kernel⟩, tb_in tb_4 (List.mem_of_getElem? (i := 9) (by decide +kernel)) rfl, by decide, tb_in tb_1 (List.mem_of_getElem? (i := 1) (by decide +kernel)) rfl⟩
theorem im_Sto_spend : Cond.instanceMethod m_Sto_spend.1 ∈ lw_g := tb_in tb_4 (List.mem_of_getElem? (i := 7) (by decide +kernel)) rfl
theorem se_Sto_spend : Cond.selects m_Sto_spend.1.cls m_Sto_spend.1 m_Sto_spend.1 ∈ lw_g := tb_in tb_4 (List.mem_of_getElem? (i := 8) (by decide +kernel)) rfl
def m_Sto_swap : sh_M := (⟨"StolenHolidays", "swap", "(II)Z"⟩, prog_1_method_10_code, 3, some .boolean)
theorem mo_Sto_swap : sh_MO m_Sto_swap 2 := ⟨⟨by decide +kernel, by decide +kernel, by decide +kernel⟩, tb_in tb_4 (List.mem_of_getElem? (i := 18) (by decide +kernel)) rfl, by decide, tb_in tb_1 (List.mem_of_getElem? (i := 1) (by decide +kernel)) rfl⟩
theorem im_Sto_swap : Cond.instanceMethod m_Sto_swap.1 ∈ lw_g := tb_in tb_4 (List.mem_of_getElem? (i := 16) (by decide +kernel)) rfl
theorem se_Sto_swap : Cond.selects m_Sto_swap.1.cls m_Sto_swap.1 m_Sto_swap.1 ∈ lw_g := tb_in tb_4 (List.mem_of_getElem? (i := 17) (by decide +kernel)) rfl
def m_Sto_night : sh_M := (⟨"StolenHolidays", "night", "()I"⟩, prog_1_method_11_code, 1, some .int)
theorem mo_Sto_night : sh_MO m_Sto_night 0 := ⟨⟨by decide +kernel, by decide +kernel, by decide +kernel⟩, tb_in tb_4 (List.mem_of_getElem? (i := 35) (by decide +kernel)) rfl, by decide, tb_in tb_1 (List.mem_of_getElem? (i := 1) (by decide +kernel)) rfl⟩
theorem im_Sto_night : Cond.instanceMethod m_Sto_night.1 ∈ lw_g := tb_in tb_4 (List.mem_of_getElem? (i := 33) (by decide +kernel)) rfl
theorem se_Sto_night : Cond.selects m_Sto_night.1.cls m_Sto_night.1 m_Sto_night.1 ∈ lw_g := tb_in tb_4 (List.mem_of_getElem? (i := 34) (by decide +kernel)) rfl
def m_Sto_undo : sh_M := (⟨"StolenHolidays", "undo", "()Z"⟩, prog_1_method_12_code, 1, some .boolean)
theorem mo_Sto_undo : sh_MO m_Sto_undo 0 := ⟨⟨by decide +kernel, by decide +kernel, by decide +kernel⟩, tb_in tb_4 (List.mem_of_getElem? (i := 63) (by decide +kernel)) rfl, by decide, tb_in tb_1 (List.mem_of_getElem? (i := 1) (by decide +kernel)) rfl⟩
theorem im_Sto_undo : Cond.instanceMethod m_Sto_undo.1 ∈ lw_g := tb_in tb_4 (List.mem_of_getElem? (i := 61) (by decide +kernel)) rfl
theorem se_Sto_undo : Cond.selects m_Sto_undo.1.cls m_Sto_undo.1 m_Sto_undo.1 ∈ lw_g := tb_in tb_4 (List.mem_of_getElem? (i := 62) (by decide +kernel)) rfl
def m_Sto_judged : sh_M := (⟨"StolenHolidays", "judged", "(I)I"⟩, prog_1_method_13_code, 6, some .int)
theorem mo_Sto_judged : sh_MO m_Sto_judged 1 := ⟨⟨by decide +kernel, by decide +kernel, by decide +kernel⟩, tb_in tb_4 (List.mem_of_getElem? (i := 71) (by decide +kernel)) rfl, by decide, tb_in tb_1 (List.mem_of_getElem? (i := 1) (by decide +kernel)) rfl⟩
theorem im_Sto_judged : Cond.instanceMethod m_Sto_judged.1 ∈ lw_g := tb_in tb_4 (List.mem_of_getElem? (i := 69) (by decide +kernel)) rfl
theorem se_Sto_judged : Cond.selects m_Sto_judged.1.cls m_Sto_judged.1 m_Sto_judged.1 ∈ lw_g := tb_in tb_4 (List.mem_of_getElem? (i := 70) (by decide +kernel)) rfl
def m_Sto_can : sh_M := (⟨"StolenHolidays", "can", "(I)I"⟩, prog_1_method_14_code, 4, some .int)
theorem mo_Sto_can : sh_MO m_Sto_can 1 := ⟨⟨by decide +kernel, by decide +kernel, by decide +kernel⟩, tb_in tb_4 (List.mem_of_getElem? (i := 91) (by decide +kernel)) rfl, by decide, tb_in tb_1 (List.mem_of_getElem? (i := 1) (by decide +kernel)) rfl⟩
theorem im_Sto_can : Cond.instanceMethod m_Sto_can.1 ∈ lw_g := tb_in tb_4 (List.mem_of_getElem? (i := 89) (by decide +kernel)) rfl
theorem se_Sto_can : Cond.selects m_Sto_can.1.cls m_Sto_can.1 m_Sto_can.1 ∈ lw_g := tb_in tb_4 (List.mem_of_getElem? (i := 90) (by decide +kernel)) rfl
def m_Sto_haul : sh_M := (⟨"StolenHolidays", "haul", "(II)I"⟩, prog_1_method_15_code, 3, some .int)
theorem mo_Sto_haul : sh_MO m_Sto_haul 2 := ⟨⟨by decide +kernel, by decide +kernel, by decide +kernel⟩, tb_in tb_4 (List.mem_of_getElem? (i := 96) (by decide +kernel)) rfl, by decide, tb_in tb_1 (List.mem_of_getElem? (i := 1) (by decide +kernel)) rfl⟩
theorem im_Sto_haul : Cond.instanceMethod m_Sto_haul.1 ∈ lw_g := tb_in tb_4 (List.mem_of_getElem? (i := 94) (by decide +kernel)) rfl
theorem se_Sto_haul : Cond.selects m_Sto_haul.1.cls m_Sto_haul.1 m_Sto_haul.1 ∈ lw_g := tb_in tb_4 (List.mem_of_getElem? (i := 95) (by decide +kernel)) rfl
def m_Sto_price : sh_M := (⟨"StolenHolidays", "price", "(I)I"⟩, prog_1_method_16_code, 2, some .int)
theorem mo_Sto_price : sh_MO m_Sto_price 1 := ⟨⟨by decide +kernel, by decide +kernel, by decide +kernel⟩, tb_in tb_4 (List.mem_of_getElem? (i := 100) (by decide +kernel)) rfl, by decide, tb_in tb_1 (List.mem_of_getElem? (i := 1) (by decide +kernel)) rfl⟩
theorem im_Sto_price : Cond.instanceMethod m_Sto_price.1 ∈ lw_g := tb_in tb_4 (List.mem_of_getElem? (i := 98) (by decide +kernel)) rfl
theorem se_Sto_price : Cond.selects m_Sto_price.1.cls m_Sto_price.1 m_Sto_price.1 ∈ lw_g := tb_in tb_4 (List.mem_of_getElem? (i := 99) (by decide +kernel)) rfl
def m_Sto_all : sh_M := (⟨"StolenHolidays", "all", "()I"⟩, prog_1_method_17_code, 1, some .int)
theorem mo_Sto_all : sh_MO m_Sto_all 0 := ⟨⟨by decide +kernel, by decide +kernel, by decide +kernel⟩, tb_in tb_4 (List.mem_of_getElem? (i := 105) (by decide +kernel)) rfl, by decide, tb_in tb_1 (List.mem_of_getElem? (i := 1) (by decide +kernel)) rfl⟩
theorem im_Sto_all : Cond.instanceMethod m_Sto_all.1 ∈ lw_g := tb_in tb_4 (List.mem_of_getElem? (i := 103) (by decide +kernel)) rfl
theorem se_Sto_all : Cond.selects m_Sto_all.1.cls m_Sto_all.1 m_Sto_all.1 ∈ lw_g := tb_in tb_4 (List.mem_of_getElem? (i := 104) (by decide +kernel)) rfl
def m_Sto_rich : sh_M := (⟨"StolenHolidays", "rich", "()I"⟩, prog_1_method_18_code, 1, some .int)
theorem mo_Sto_rich : sh_MO m_Sto_rich 0 := ⟨⟨by decide +kernel, by decide +kernel, by decide +kernel⟩, tb_in tb_4 (List.mem_of_getElem? (i := 109) (by decide +kernel)) rfl, by decide, tb_in tb_1 (List.mem_of_getElem? (i := 1) (by decide +kernel)) rfl⟩
theorem im_Sto_rich : Cond.instanceMethod m_Sto_rich.1 ∈ lw_g := tb_in tb_4 (List.mem_of_getElem? (i := 107) (by decide +kernel)) rfl
theorem se_Sto_rich : Cond.selects m_Sto_rich.1.cls m_Sto_rich.1 m_Sto_rich.1 ∈ lw_g := tb_in tb_4 (List.mem_of_getElem? (i := 108) (by decide +kernel)) rfl
def m_Sto_guilty : sh_M := (⟨"StolenHolidays", "guilty", "()I"⟩, prog_1_method_19_code, 1, some .int)
theorem mo_Sto_guilty : sh_MO m_Sto_guilty 0 := ⟨⟨by decide +kernel, by decide +kernel, by decide +kernel⟩, tb_in tb_4 (List.mem_of_getElem? (i := 117) (by decide +kernel)) rfl, by decide, tb_in tb_1 (List.mem_of_getElem? (i := 1) (by decide +kernel)) rfl⟩
theorem im_Sto_guilty : Cond.instanceMethod m_Sto_guilty.1 ∈ lw_g := tb_in tb_4 (List.mem_of_getElem? (i := 115) (by decide +kernel)) rfl
theorem se_Sto_guilty : Cond.selects m_Sto_guilty.1.cls m_Sto_guilty.1 m_Sto_guilty.1 ∈ lw_g := tb_in tb_4 (List.mem_of_getElem? (i := 116) (by decide +kernel)) rfl
def m_Sto_later : sh_M := (⟨"StolenHolidays", "later", "(II)I"⟩, prog_1_method_20_code, 3, some .int)
theorem mo_Sto_later : sh_MO m_Sto_later 2 := ⟨⟨by decide +kernel, by decide +kernel, by decide +kernel⟩, tb_in tb_4 (List.mem_of_getElem? (i := 121) (by decide +kernel)) rfl, by decide, tb_in tb_1 (List.mem_of_getElem? (i := 1) (by decide +kernel)) rfl⟩
theorem im_Sto_later : Cond.instanceMethod m_Sto_later.1 ∈ lw_g := tb_in tb_4 (List.mem_of_getElem? (i := 119) (by decide +kernel)) rfl
theorem se_Sto_later : Cond.selects m_Sto_later.1.cls m_Sto_later.1 m_Sto_later.1 ∈ lw_g := tb_in tb_4 (List.mem_of_getElem? (i := 120) (by decide +kernel)) rfl
def m_Sto_guards : sh_M := (⟨"StolenHolidays", "guards", "(II)I"⟩, prog_1_method_21_code, 3, some .int)
theorem mo_Sto_guards : sh_MO m_Sto_guards 2 := ⟨⟨by decide +kernel, by decide +kernel, by decide +kernel⟩, tb_in tb_4 (List.mem_of_getElem? (i := 127) (by decide +kernel)) rfl, by decide, tb_in tb_1 (List.mem_of_getElem? (i := 1) (by decide +kernel)) rfl⟩
theorem im_Sto_guards : Cond.instanceMethod m_Sto_guards.1 ∈ lw_g := tb_in tb_4 (List.mem_of_getElem? (i := 125) (by decide +kernel)) rfl
theorem se_Sto_guards : Cond.selects m_Sto_guards.1.cls m_Sto_guards.1 m_Sto_guards.1 ∈ lw_g := tb_in tb_4 (List.mem_of_getElem? (i := 126) (by decide +kernel)) rfl
def m_Sto_keeps : sh_M := (⟨"StolenHolidays", "keeps", "(II)I"⟩, prog_1_method_22_code, 3, some .int)
theorem mo_Sto_keeps : sh_MO m_Sto_keeps 2 := ⟨⟨by decide +kernel, by decide +kernel, by decide +kernel⟩, tb_in tb_4 (List.mem_of_getElem? (i := 132) (by decide +kernel)) rfl, by decide, tb_in tb_1 (List.mem_of_getElem? (i := 1) (by decide +kernel)) rfl⟩
theorem im_Sto_keeps : Cond.instanceMethod m_Sto_keeps.1 ∈ lw_g := tb_in tb_4 (List.mem_of_getElem? (i := 130) (by decide +kernel)) rfl
theorem se_Sto_keeps : Cond.selects m_Sto_keeps.1.cls m_Sto_keeps.1 m_Sto_keeps.1 ∈ lw_g := tb_in tb_4 (List.mem_of_getElem? (i := 131) (by decide +kernel)) rfl
def m_Sto_freed : sh_M := (⟨"StolenHolidays", "freed", "(I)I"⟩, prog_1_method_23_code, 2, some .int)
theorem mo_Sto_freed : sh_MO m_Sto_freed 1 := ⟨⟨by decide +kernel, by decide +kernel, by decide +kernel⟩, tb_in tb_4 (List.mem_of_getElem? (i := 137) (by decide +kernel)) rfl, by decide, tb_in tb_1 (List.mem_of_getElem? (i := 1) (by decide +kernel)) rfl⟩
theorem im_Sto_freed : Cond.instanceMethod m_Sto_freed.1 ∈ lw_g := tb_in tb_4 (List.mem_of_getElem? (i := 135) (by decide +kernel)) rfl
theorem se_Sto_freed : Cond.selects m_Sto_freed.1.cls m_Sto_freed.1 m_Sto_freed.1 ∈ lw_g := tb_in tb_4 (List.mem_of_getElem? (i := 136) (by decide +kernel)) rfl
def m_Sto_opens : sh_M := (⟨"StolenHolidays", "opens", "(II)I"⟩, prog_1_method_24_code, 4, some .int)
theorem mo_Sto_opens : sh_MO m_Sto_opens 2 := ⟨⟨by decide +kernel, by decide +kernel, by decide +kernel⟩, tb_in tb_4 (List.mem_of_getElem? (i := 141) (by decide +kernel)) rfl, by decide, tb_in tb_1 (List.mem_of_getElem? (i := 1) (by decide +kernel)) rfl⟩
theorem im_Sto_opens : Cond.instanceMethod m_Sto_opens.1 ∈ lw_g := tb_in tb_4 (List.mem_of_getElem? (i := 139) (by decide +kernel)) rfl
theorem se_Sto_opens : Cond.selects m_Sto_opens.1.cls m_Sto_opens.1 m_Sto_opens.1 ∈ lw_g := tb_in tb_4 (List.mem_of_getElem? (i := 140) (by decide +kernel)) rfl
def m_Sto_whole : sh_M := (⟨"StolenHolidays", "whole", "()I"⟩, prog_1_method_25_code, 3, some .int)
theorem mo_Sto_whole : sh_MO m_Sto_whole 0 := ⟨⟨by decide +kernel, by decide +kernel, by decide +kernel⟩, tb_in tb_4 (List.mem_of_getElem? (i := 153) (by decide +kernel)) rfl, by decide, tb_in tb_1 (List.mem_of_getElem? (i := 1) (by decide +kernel)) rfl⟩
theorem im_Sto_whole : Cond.instanceMethod m_Sto_whole.1 ∈ lw_g := tb_in tb_4 (List.mem_of_getElem? (i := 151) (by decide +kernel)) rfl
theorem se_Sto_whole : Cond.selects m_Sto_whole.1.cls m_Sto_whole.1 m_Sto_whole.1 ∈ lw_g := tb_in tb_4 (List.mem_of_getElem? (i := 152) (by decide +kernel)) rfl
def m_Sto_waits : sh_M := (⟨"StolenHolidays", "waits", "(II)I"⟩, prog_1_method_26_code, 7, some .int)
theorem mo_Sto_waits : sh_MO m_Sto_waits 2 := ⟨⟨by decide +kernel, by decide +kernel, by decide +kernel⟩, tb_in tb_4 (List.mem_of_getElem? (i := 158) (by decide +kernel)) rfl, by decide, tb_in tb_1 (List.mem_of_getElem? (i := 1) (by decide +kernel)) rfl⟩
theorem im_Sto_waits : Cond.instanceMethod m_Sto_waits.1 ∈ lw_g := tb_in tb_4 (List.mem_of_getElem? (i := 156) (by decide +kernel)) rfl
theorem se_Sto_waits : Cond.selects m_Sto_waits.1.cls m_Sto_waits.1 m_Sto_waits.1 ∈ lw_g := tb_in tb_4 (List.mem_of_getElem? (i := 157) (by decide +kernel)) rfl
def m_Sto_glads : sh_M := (⟨"StolenHolidays", "glads", "(II)I"⟩, prog_1_method_27_code, 7, some .int)
theorem mo_Sto_glads : sh_MO m_Sto_glads 2 := ⟨⟨by decide +kernel, by decide +kernel, by decide +kernel⟩, tb_in tb_4 (List.mem_of_getElem? (i := 163) (by decide +kernel)) rfl, by decide, tb_in tb_1 (List.mem_of_getElem? (i := 1) (by decide +kernel)) rfl⟩
theorem im_Sto_glads : Cond.instanceMethod m_Sto_glads.1 ∈ lw_g := tb_in tb_4 (List.mem_of_getElem? (i := 161) (by decide +kernel)) rfl
theorem se_Sto_glads : Cond.selects m_Sto_glads.1.cls m_Sto_glads.1 m_Sto_glads.1 ∈ lw_g := tb_in tb_4 (List.mem_of_getElem? (i := 162) (by decide +kernel)) rfl
def m_Sto_slack : sh_M := (⟨"StolenHolidays", "slack", "(I)I"⟩, prog_1_method_28_code, 6, some .int)
theorem mo_Sto_slack : sh_MO m_Sto_slack 1 := ⟨⟨by decide +kernel, by decide +kernel, by decide +kernel⟩, tb_in tb_4 (List.mem_of_getElem? (i := 171) (by decide +kernel)) rfl, by decide, tb_in tb_1 (List.mem_of_getElem? (i := 1) (by decide +kernel)) rfl⟩
theorem im_Sto_slack : Cond.instanceMethod m_Sto_slack.1 ∈ lw_g := tb_in tb_4 (List.mem_of_getElem? (i := 169) (by decide +kernel)) rfl
theorem se_Sto_slack : Cond.selects m_Sto_slack.1.cls m_Sto_slack.1 m_Sto_slack.1 ∈ lw_g := tb_in tb_4 (List.mem_of_getElem? (i := 170) (by decide +kernel)) rfl
def m_Sto_gang : sh_M := (⟨"StolenHolidays", "gang", "(I)I"⟩, prog_1_method_29_code, 2, some .int)
theorem mo_Sto_gang : sh_MO m_Sto_gang 1 := ⟨⟨by decide +kernel, by decide +kernel, by decide +kernel⟩, tb_in tb_4 (List.mem_of_getElem? (i := 175) (by decide +kernel)) rfl, by decide, tb_in tb_1 (List.mem_of_getElem? (i := 1) (by decide +kernel)) rfl⟩
theorem im_Sto_gang : Cond.instanceMethod m_Sto_gang.1 ∈ lw_g := tb_in tb_4 (List.mem_of_getElem? (i := 173) (by decide +kernel)) rfl
theorem se_Sto_gang : Cond.selects m_Sto_gang.1.cls m_Sto_gang.1 m_Sto_gang.1 ∈ lw_g := tb_in tb_4 (List.mem_of_getElem? (i := 174) (by decide +kernel)) rfl
def m_Sto_cover : sh_M := (⟨"StolenHolidays", "cover", "()I"⟩, prog_1_method_30_code, 4, some .int)
theorem mo_Sto_cover : sh_MO m_Sto_cover 0 := ⟨⟨by decide +kernel, by decide +kernel, by decide +kernel⟩, tb_in tb_4 (List.mem_of_getElem? (i := 189) (by decide +kernel)) rfl, by decide, tb_in tb_1 (List.mem_of_getElem? (i := 1) (by decide +kernel)) rfl⟩
theorem im_Sto_cover : Cond.instanceMethod m_Sto_cover.1 ∈ lw_g := tb_in tb_4 (List.mem_of_getElem? (i := 187) (by decide +kernel)) rfl
theorem se_Sto_cover : Cond.selects m_Sto_cover.1.cls m_Sto_cover.1 m_Sto_cover.1 ∈ lw_g := tb_in tb_4 (List.mem_of_getElem? (i := 188) (by decide +kernel)) rfl
def m_Sto_watch : sh_M := (⟨"StolenHolidays", "watch", "()I"⟩, prog_1_method_31_code, 5, some .int)
theorem mo_Sto_watch : sh_MO m_Sto_watch 0 := ⟨⟨by decide +kernel, by decide +kernel, by decide +kernel⟩, tb_in tb_4 (List.mem_of_getElem? (i := 197) (by decide +kernel)) rfl, by decide, tb_in tb_1 (List.mem_of_getElem? (i := 1) (by decide +kernel)) rfl⟩
theorem im_Sto_watch : Cond.instanceMethod m_Sto_watch.1 ∈ lw_g := tb_in tb_4 (List.mem_of_getElem? (i := 195) (by decide +kernel)) rfl
theorem se_Sto_watch : Cond.selects m_Sto_watch.1.cls m_Sto_watch.1 m_Sto_watch.1 ∈ lw_g := tb_in tb_4 (List.mem_of_getElem? (i := 196) (by decide +kernel)) rfl
def m_Sto_spree : sh_M := (⟨"StolenHolidays", "spree", "(III)I"⟩, prog_1_method_32_code, 4, some .int)
theorem mo_Sto_spree : sh_MO m_Sto_spree 3 := ⟨⟨by decide +kernel, by decide +kernel, by decide +kernel⟩, tb_in tb_4 (List.mem_of_getElem? (i := 205) (by decide +kernel)) rfl, by decide, tb_in tb_1 (List.mem_of_getElem? (i := 1) (by decide +kernel)) rfl⟩
theorem im_Sto_spree : Cond.instanceMethod m_Sto_spree.1 ∈ lw_g := tb_in tb_4 (List.mem_of_getElem? (i := 203) (by decide +kernel)) rfl
theorem se_Sto_spree : Cond.selects m_Sto_spree.1.cls m_Sto_spree.1 m_Sto_spree.1 ∈ lw_g := tb_in tb_4 (List.mem_of_getElem? (i := 204) (by decide +kernel)) rfl
def m_Sto_see : sh_M := (⟨"StolenHolidays", "see", "(IIZ)Z"⟩, prog_1_method_33_code, 4, some .boolean)
theorem mo_Sto_see : sh_MO m_Sto_see 3 := ⟨⟨by decide +kernel, by decide +kernel, by decide +kernel⟩, tb_in tb_4 (List.mem_of_getElem? (i := 231) (by decide +kernel)) rfl, by decide, tb_in tb_1 (List.mem_of_getElem? (i := 1) (by decide +kernel)) rfl⟩
theorem im_Sto_see : Cond.instanceMethod m_Sto_see.1 ∈ lw_g := tb_in tb_4 (List.mem_of_getElem? (i := 229) (by decide +kernel)) rfl
theorem se_Sto_see : Cond.selects m_Sto_see.1.cls m_Sto_see.1 m_Sto_see.1 ∈ lw_g := tb_in tb_4 (List.mem_of_getElem? (i := 230) (by decide +kernel)) rfl
def m_Sto_who : sh_M := (⟨"StolenHolidays", "who", "()I"⟩, prog_1_method_34_code, 3, some .int)
theorem mo_Sto_who : sh_MO m_Sto_who 0 := ⟨⟨by decide +kernel, by decide +kernel, by decide +kernel⟩, tb_in tb_4 (List.mem_of_getElem? (i := 239) (by decide +kernel)) rfl, by decide, tb_in tb_1 (List.mem_of_getElem? (i := 1) (by decide +kernel)) rfl⟩
theorem im_Sto_who : Cond.instanceMethod m_Sto_who.1 ∈ lw_g := tb_in tb_4 (List.mem_of_getElem? (i := 237) (by decide +kernel)) rfl
theorem se_Sto_who : Cond.selects m_Sto_who.1.cls m_Sto_who.1 m_Sto_who.1 ∈ lw_g := tb_in tb_4 (List.mem_of_getElem? (i := 238) (by decide +kernel)) rfl
def m_Sto_ask : sh_M := (⟨"StolenHolidays", "ask", "()I"⟩, prog_1_method_35_code, 9, some .int)
theorem mo_Sto_ask : sh_MO m_Sto_ask 0 := ⟨⟨by decide +kernel, by decide +kernel, by decide +kernel⟩, tb_in tb_5 (List.mem_of_getElem? (i := 8) (by decide +kernel)) rfl, by decide, tb_in tb_1 (List.mem_of_getElem? (i := 1) (by decide +kernel)) rfl⟩
theorem im_Sto_ask : Cond.instanceMethod m_Sto_ask.1 ∈ lw_g := tb_in tb_5 (List.mem_of_getElem? (i := 6) (by decide +kernel)) rfl
theorem se_Sto_ask : Cond.selects m_Sto_ask.1.cls m_Sto_ask.1 m_Sto_ask.1 ∈ lw_g := tb_in tb_5 (List.mem_of_getElem? (i := 7) (by decide +kernel)) rfl
def m_Sto_chance : sh_M := (⟨"StolenHolidays", "chance", "(IIII)I"⟩, prog_1_method_36_code, 7, some .int)
theorem mo_Sto_chance : sh_MO m_Sto_chance 4 := ⟨⟨by decide +kernel, by decide +kernel, by decide +kernel⟩, tb_in tb_5 (List.mem_of_getElem? (i := 23) (by decide +kernel)) rfl, by decide, tb_in tb_1 (List.mem_of_getElem? (i := 1) (by decide +kernel)) rfl⟩
theorem im_Sto_chance : Cond.instanceMethod m_Sto_chance.1 ∈ lw_g := tb_in tb_5 (List.mem_of_getElem? (i := 21) (by decide +kernel)) rfl
theorem se_Sto_chance : Cond.selects m_Sto_chance.1.cls m_Sto_chance.1 m_Sto_chance.1 ∈ lw_g := tb_in tb_5 (List.mem_of_getElem? (i := 22) (by decide +kernel)) rfl
def m_Sto_rests : sh_M := (⟨"StolenHolidays", "rests", "(IIII)I"⟩, prog_1_method_37_code, 9, some .int)
theorem mo_Sto_rests : sh_MO m_Sto_rests 4 := ⟨⟨by decide +kernel, by decide +kernel, by decide +kernel⟩, tb_in tb_5 (List.mem_of_getElem? (i := 90) (by decide +kernel)) rfl, by decide, tb_in tb_1 (List.mem_of_getElem? (i := 1) (by decide +kernel)) rfl⟩
theorem im_Sto_rests : Cond.instanceMethod m_Sto_rests.1 ∈ lw_g := tb_in tb_5 (List.mem_of_getElem? (i := 88) (by decide +kernel)) rfl
theorem se_Sto_rests : Cond.selects m_Sto_rests.1.cls m_Sto_rests.1 m_Sto_rests.1 ∈ lw_g := tb_in tb_5 (List.mem_of_getElem? (i := 89) (by decide +kernel)) rfl
def m_Sto_years : sh_M := (⟨"StolenHolidays", "years", "(III)I"⟩, prog_1_method_38_code, 9, some .int)
theorem mo_Sto_years : sh_MO m_Sto_years 3 := ⟨⟨by decide +kernel, by decide +kernel, by decide +kernel⟩, tb_in tb_5 (List.mem_of_getElem? (i := 34) (by decide +kernel)) rfl, by decide, tb_in tb_1 (List.mem_of_getElem? (i := 1) (by decide +kernel)) rfl⟩
theorem im_Sto_years : Cond.instanceMethod m_Sto_years.1 ∈ lw_g := tb_in tb_5 (List.mem_of_getElem? (i := 32) (by decide +kernel)) rfl
theorem se_Sto_years : Cond.selects m_Sto_years.1.cls m_Sto_years.1 m_Sto_years.1 ∈ lw_g := tb_in tb_5 (List.mem_of_getElem? (i := 33) (by decide +kernel)) rfl
def m_Sto_mark : sh_M := (⟨"StolenHolidays", "mark", "(IZ)Z"⟩, prog_1_method_39_code, 3, some .boolean)
theorem mo_Sto_mark : sh_MO m_Sto_mark 2 := ⟨⟨by decide +kernel, by decide +kernel, by decide +kernel⟩, tb_in tb_5 (List.mem_of_getElem? (i := 56) (by decide +kernel)) rfl, by decide, tb_in tb_1 (List.mem_of_getElem? (i := 1) (by decide +kernel)) rfl⟩
theorem im_Sto_mark : Cond.instanceMethod m_Sto_mark.1 ∈ lw_g := tb_in tb_5 (List.mem_of_getElem? (i := 54) (by decide +kernel)) rfl
theorem se_Sto_mark : Cond.selects m_Sto_mark.1.cls m_Sto_mark.1 m_Sto_mark.1 ∈ lw_g := tb_in tb_5 (List.mem_of_getElem? (i := 55) (by decide +kernel)) rfl
def m_Sto_count : sh_M := (⟨"StolenHolidays", "count", "(I)I"⟩, prog_1_method_40_code, 2, some .int)
theorem mo_Sto_count : sh_MO m_Sto_count 1 := ⟨⟨by decide +kernel, by decide +kernel, by decide +kernel⟩, tb_in tb_5 (List.mem_of_getElem? (i := 78) (by decide +kernel)) rfl, by decide, tb_in tb_1 (List.mem_of_getElem? (i := 1) (by decide +kernel)) rfl⟩
theorem im_Sto_count : Cond.instanceMethod m_Sto_count.1 ∈ lw_g := tb_in tb_5 (List.mem_of_getElem? (i := 76) (by decide +kernel)) rfl
theorem se_Sto_count : Cond.selects m_Sto_count.1.cls m_Sto_count.1 m_Sto_count.1 ∈ lw_g := tb_in tb_5 (List.mem_of_getElem? (i := 77) (by decide +kernel)) rfl
def m_Sto_isDay : sh_M := (⟨"StolenHolidays", "isDay", "(I)Z"⟩, prog_1_method_41_code, 2, some .boolean)
theorem mo_Sto_isDay : sh_MO m_Sto_isDay 1 := ⟨⟨by decide +kernel, by decide +kernel, by decide +kernel⟩, tb_in tb_3 (List.mem_of_getElem? (i := 163) (by decide +kernel)) rfl, by decide, tb_in tb_1 (List.mem_of_getElem? (i := 1) (by decide +kernel)) rfl⟩
theorem im_Sto_isDay : Cond.instanceMethod m_Sto_isDay.1 ∈ lw_g := tb_in tb_3 (List.mem_of_getElem? (i := 162) (by decide +kernel)) rfl
theorem se_Sto_isDay : Cond.selects m_Sto_isDay.1.cls m_Sto_isDay.1 m_Sto_isDay.1 ∈ lw_g := lw_g_in (List.mem_append_left _ (List.mem_of_getElem? (i := 18) (by decide +kernel))) rfl
def m_Sto_isThief : sh_M := (⟨"StolenHolidays", "isThief", "(I)Z"⟩, prog_1_method_42_code, 2, some .boolean)
theorem mo_Sto_isThief : sh_MO m_Sto_isThief 1 := ⟨⟨by decide +kernel, by decide +kernel, by decide +kernel⟩, tb_in tb_3 (List.mem_of_getElem? (i := 171) (by decide +kernel)) rfl, by decide, tb_in tb_1 (List.mem_of_getElem? (i := 1) (by decide +kernel)) rfl⟩
theorem im_Sto_isThief : Cond.instanceMethod m_Sto_isThief.1 ∈ lw_g := tb_in tb_3 (List.mem_of_getElem? (i := 170) (by decide +kernel)) rfl
theorem se_Sto_isThief : Cond.selects m_Sto_isThief.1.cls m_Sto_isThief.1 m_Sto_isThief.1 ∈ lw_g := lw_g_in (List.mem_append_left _ (List.mem_of_getElem? (i := 19) (by decide +kernel))) rfl
def m_Sto_isWithin : sh_M := (⟨"StolenHolidays", "isWithin", "(III)Z"⟩, prog_1_method_43_code, 3, some .boolean)
theorem mo_Sto_isWithin : sh_MO m_Sto_isWithin 3 := ⟨⟨by decide +kernel, by decide +kernel, by decide +kernel⟩, tb_in tb_3 (List.mem_of_getElem? (i := 85) (by decide +kernel)) rfl, by decide, tb_in tb_1 (List.mem_of_getElem? (i := 1) (by decide +kernel)) rfl⟩
theorem sa_Sto_isWithin : Cond.static m_Sto_isWithin.1 ∈ lw_g := tb_in tb_3 (List.mem_of_getElem? (i := 84) (by decide +kernel)) rfl
def m_Sto_leftOfAll : sh_M := (⟨"StolenHolidays", "leftOfAll", "()I"⟩, prog_1_method_44_code, 3, some .int)
theorem mo_Sto_leftOfAll : sh_MO m_Sto_leftOfAll 0 := ⟨⟨by decide +kernel, by decide +kernel, by decide +kernel⟩, tb_in tb_5 (List.mem_of_getElem? (i := 82) (by decide +kernel)) rfl, by decide, tb_in tb_1 (List.mem_of_getElem? (i := 1) (by decide +kernel)) rfl⟩
theorem im_Sto_leftOfAll : Cond.instanceMethod m_Sto_leftOfAll.1 ∈ lw_g := tb_in tb_5 (List.mem_of_getElem? (i := 81) (by decide +kernel)) rfl
theorem se_Sto_leftOfAll : Cond.selects m_Sto_leftOfAll.1.cls m_Sto_leftOfAll.1 m_Sto_leftOfAll.1 ∈ lw_g := lw_g_in (List.mem_append_left _ (List.mem_of_getElem? (i := 31) (by decide +kernel))) rfl
def m_Sto_firstWithMost : sh_M := (⟨"StolenHolidays", "firstWithMost", "(I)I"⟩, prog_1_method_45_code, 5, some .int)
theorem mo_Sto_firstWithMost : sh_MO m_Sto_firstWithMost 1 := ⟨⟨by decide +kernel, by decide +kernel, by decide +kernel⟩, tb_in tb_4 (List.mem_of_getElem? (i := 113) (by decide +kernel)) rfl, by decide, tb_in tb_1 (List.mem_of_getElem? (i := 1) (by decide +kernel)) rfl⟩
theorem im_Sto_firstWithMost : Cond.instanceMethod m_Sto_firstWithMost.1 ∈ lw_g := tb_in tb_4 (List.mem_of_getElem? (i := 112) (by decide +kernel)) rfl
theorem se_Sto_firstWithMost : Cond.selects m_Sto_firstWithMost.1.cls m_Sto_firstWithMost.1 m_Sto_firstWithMost.1 ∈ lw_g := lw_g_in (List.mem_append_left _ (List.mem_of_getElem? (i := 23) (by decide +kernel))) rfl
def m_Sto_mostWithout : sh_M := (⟨"StolenHolidays", "mostWithout", "(I)I"⟩, prog_1_method_46_code, 5, some .int)
theorem mo_Sto_mostWithout : sh_MO m_Sto_mostWithout 1 := ⟨⟨by decide +kernel, by decide +kernel, by decide +kernel⟩, tb_in tb_4 (List.mem_of_getElem? (i := 201) (by decide +kernel)) rfl, by decide, tb_in tb_1 (List.mem_of_getElem? (i := 1) (by decide +kernel)) rfl⟩
theorem im_Sto_mostWithout : Cond.instanceMethod m_Sto_mostWithout.1 ∈ lw_g := tb_in tb_4 (List.mem_of_getElem? (i := 200) (by decide +kernel)) rfl
theorem se_Sto_mostWithout : Cond.selects m_Sto_mostWithout.1.cls m_Sto_mostWithout.1 m_Sto_mostWithout.1 ∈ lw_g := lw_g_in (List.mem_append_left _ (List.mem_of_getElem? (i := 25) (by decide +kernel))) rfl
def m_Sto_openTo : sh_M := (⟨"StolenHolidays", "openTo", "(II)I"⟩, prog_1_method_47_code, 5, some .int)
theorem mo_Sto_openTo : sh_MO m_Sto_openTo 2 := ⟨⟨by decide +kernel, by decide +kernel, by decide +kernel⟩, tb_in tb_5 (List.mem_of_getElem? (i := 19) (by decide +kernel)) rfl, by decide, tb_in tb_1 (List.mem_of_getElem? (i := 1) (by decide +kernel)) rfl⟩
theorem im_Sto_openTo : Cond.instanceMethod m_Sto_openTo.1 ∈ lw_g := tb_in tb_5 (List.mem_of_getElem? (i := 18) (by decide +kernel)) rfl
theorem se_Sto_openTo : Cond.selects m_Sto_openTo.1.cls m_Sto_openTo.1 m_Sto_openTo.1 ∈ lw_g := lw_g_in (List.mem_append_left _ (List.mem_of_getElem? (i := 29) (by decide +kernel))) rfl
def m_Sto_weightOpen : sh_M := (⟨"StolenHolidays", "weightOpen", "(IIIII)I"⟩, prog_1_method_48_code, 7, some .int)
theorem mo_Sto_weightOpen : sh_MO m_Sto_weightOpen 5 := ⟨⟨by decide +kernel, by decide +kernel, by decide +kernel⟩, tb_in tb_5 (List.mem_of_getElem? (i := 28) (by decide +kernel)) rfl, by decide, tb_in tb_1 (List.mem_of_getElem? (i := 1) (by decide +kernel)) rfl⟩
theorem sa_Sto_weightOpen : Cond.static m_Sto_weightOpen.1 ∈ lw_g := tb_in tb_5 (List.mem_of_getElem? (i := 27) (by decide +kernel)) rfl
def m_Sto_isContent : sh_M := (⟨"StolenHolidays", "isContent", "(IIIII)Z"⟩, prog_1_method_49_code, 5, some .boolean)
theorem mo_Sto_isContent : sh_MO m_Sto_isContent 5 := ⟨⟨by decide +kernel, by decide +kernel, by decide +kernel⟩, tb_in tb_5 (List.mem_of_getElem? (i := 154) (by decide +kernel)) rfl, by decide, tb_in tb_1 (List.mem_of_getElem? (i := 1) (by decide +kernel)) rfl⟩
theorem sa_Sto_isContent : Cond.static m_Sto_isContent.1 ∈ lw_g := tb_in tb_5 (List.mem_of_getElem? (i := 153) (by decide +kernel)) rfl
def m_Sto_gain : sh_M := (⟨"StolenHolidays", "gain", "(IIIII)I"⟩, prog_1_method_50_code, 5, some .int)
theorem mo_Sto_gain : sh_MO m_Sto_gain 5 := ⟨⟨by decide +kernel, by decide +kernel, by decide +kernel⟩, tb_in tb_5 (List.mem_of_getElem? (i := 157) (by decide +kernel)) rfl, by decide, tb_in tb_1 (List.mem_of_getElem? (i := 1) (by decide +kernel)) rfl⟩
theorem sa_Sto_gain : Cond.static m_Sto_gain.1 ∈ lw_g := tb_in tb_5 (List.mem_of_getElem? (i := 156) (by decide +kernel)) rfl
def m_Sto_nextDraw : sh_M := (⟨"StolenHolidays", "nextDraw", "(I)I"⟩, prog_1_method_51_code, 1, some .int)
theorem mo_Sto_nextDraw : sh_MO m_Sto_nextDraw 1 := ⟨⟨by decide +kernel, by decide +kernel, by decide +kernel⟩, tb_in tb_5 (List.mem_of_getElem? (i := 42) (by decide +kernel)) rfl, by decide, tb_in tb_1 (List.mem_of_getElem? (i := 1) (by decide +kernel)) rfl⟩
theorem sa_Sto_nextDraw : Cond.static m_Sto_nextDraw.1 ∈ lw_g := tb_in tb_5 (List.mem_of_getElem? (i := 41) (by decide +kernel)) rfl
def m_Sto_tryDrawn : sh_M := (⟨"StolenHolidays", "tryDrawn", "(III)I"⟩, prog_1_method_52_code, 4, some .int)
theorem mo_Sto_tryDrawn : sh_MO m_Sto_tryDrawn 3 := ⟨⟨by decide +kernel, by decide +kernel, by decide +kernel⟩, tb_in tb_5 (List.mem_of_getElem? (i := 48) (by decide +kernel)) rfl, by decide, tb_in tb_1 (List.mem_of_getElem? (i := 1) (by decide +kernel)) rfl⟩
theorem im_Sto_tryDrawn : Cond.instanceMethod m_Sto_tryDrawn.1 ∈ lw_g := tb_in tb_5 (List.mem_of_getElem? (i := 47) (by decide +kernel)) rfl
theorem se_Sto_tryDrawn : Cond.selects m_Sto_tryDrawn.1.cls m_Sto_tryDrawn.1 m_Sto_tryDrawn.1 ∈ lw_g := lw_g_in (List.mem_append_left _ (List.mem_of_getElem? (i := 30) (by decide +kernel))) rfl
def m_Mod_init : sh_M := (⟨"StolenHolidaysModel", "<init>", "()V"⟩, prog_14_method_1_code, 1, none)
def m_Mod_thrown : sh_M := (⟨"StolenHolidaysModel", "thrown", "()I"⟩, prog_14_method_2_code, 1, some .int)
theorem mo_Mod_thrown : sh_MO m_Mod_thrown 0 := ⟨⟨by decide +kernel, by decide +kernel, by decide +kernel⟩, tb_in tb_6 (List.mem_of_getElem? (i := 109) (by decide +kernel)) rfl, by decide, tb_in tb_1 (List.mem_of_getElem? (i := 13) (by decide +kernel)) rfl⟩
theorem im_Mod_thrown : Cond.instanceMethod m_Mod_thrown.1 ∈ lw_g := tb_in tb_6 (List.mem_of_getElem? (i := 107) (by decide +kernel)) rfl
theorem se_Mod_thrown : Cond.selects m_Mod_thrown.1.cls m_Mod_thrown.1 m_Mod_thrown.1 ∈ lw_g := tb_in tb_6 (List.mem_of_getElem? (i := 108) (by decide +kernel)) rfl
def m_Mod_within : sh_M := (⟨"StolenHolidaysModel", "within", "(III)Z"⟩, prog_14_method_3_code, 3, some .boolean)
theorem mo_Mod_within : sh_MO m_Mod_within 3 := ⟨⟨by decide +kernel, by decide +kernel, by decide +kernel⟩, tb_in tb_6 (List.mem_of_getElem? (i := 198) (by decide +kernel)) rfl, by decide, tb_in tb_1 (List.mem_of_getElem? (i := 13) (by decide +kernel)) rfl⟩
theorem sa_Mod_within : Cond.static m_Mod_within.1 ∈ lw_g := tb_in tb_6 (List.mem_of_getElem? (i := 197) (by decide +kernel)) rfl
def m_Mod_between : sh_M := (⟨"StolenHolidaysModel", "between", "(III)I"⟩, prog_14_method_4_code, 3, some .int)
theorem mo_Mod_between : sh_MO m_Mod_between 3 := ⟨⟨by decide +kernel, by decide +kernel, by decide +kernel⟩, tb_in tb_7 (List.mem_of_getElem? (i := 107) (by decide +kernel)) rfl, by decide, tb_in tb_1 (List.mem_of_getElem? (i := 13) (by decide +kernel)) rfl⟩
theorem sa_Mod_between : Cond.static m_Mod_between.1 ∈ lw_g := tb_in tb_7 (List.mem_of_getElem? (i := 106) (by decide +kernel)) rfl
def m_Mod_bits : sh_M := (⟨"StolenHolidaysModel", "bits", "(I)I"⟩, prog_14_method_5_code, 3, some .int)
theorem mo_Mod_bits : sh_MO m_Mod_bits 1 := ⟨⟨by decide +kernel, by decide +kernel, by decide +kernel⟩, tb_in tb_8 (List.mem_of_getElem? (i := 60) (by decide +kernel)) rfl, by decide, tb_in tb_1 (List.mem_of_getElem? (i := 13) (by decide +kernel)) rfl⟩
theorem sa_Mod_bits : Cond.static m_Mod_bits.1 ∈ lw_g := tb_in tb_8 (List.mem_of_getElem? (i := 59) (by decide +kernel)) rfl
def m_Mod_feed : sh_M := (⟨"StolenHolidaysModel", "feed", "(JJJ)I"⟩, prog_14_method_6_code, 11, some .int)
theorem mo_Mod_feed : sh_MO m_Mod_feed 3 := ⟨⟨by decide +kernel, by decide +kernel, by decide +kernel⟩, tb_in tb_6 (List.mem_of_getElem? (i := 113) (by decide +kernel)) rfl, by decide, tb_in tb_1 (List.mem_of_getElem? (i := 13) (by decide +kernel)) rfl⟩
theorem im_Mod_feed : Cond.instanceMethod m_Mod_feed.1 ∈ lw_g := tb_in tb_6 (List.mem_of_getElem? (i := 111) (by decide +kernel)) rfl
theorem se_Mod_feed : Cond.selects m_Mod_feed.1.cls m_Mod_feed.1 m_Mod_feed.1 ∈ lw_g := tb_in tb_6 (List.mem_of_getElem? (i := 112) (by decide +kernel)) rfl
def m_Mod_signAt : sh_M := (⟨"StolenHolidaysModel", "signAt", "(I)I"⟩, prog_14_method_7_code, 2, some .int)
theorem mo_Mod_signAt : sh_MO m_Mod_signAt 1 := ⟨⟨by decide +kernel, by decide +kernel, by decide +kernel⟩, tb_in tb_6 (List.mem_of_getElem? (i := 134) (by decide +kernel)) rfl, by decide, tb_in tb_1 (List.mem_of_getElem? (i := 13) (by decide +kernel)) rfl⟩
theorem im_Mod_signAt : Cond.instanceMethod m_Mod_signAt.1 ∈ lw_g := tb_in tb_6 (List.mem_of_getElem? (i := 133) (by decide +kernel)) rfl
theorem se_Mod_signAt : Cond.selects m_Mod_signAt.1.cls m_Mod_signAt.1 m_Mod_signAt.1 ∈ lw_g := lw_g_in (List.mem_append_left _ (List.mem_of_getElem? (i := 37) (by decide +kernel))) rfl
def m_Mod_nextToken : sh_M := (⟨"StolenHolidaysModel", "nextToken", "()V"⟩, prog_14_method_8_code, 2, none)
theorem mo_Mod_nextToken : sh_MO m_Mod_nextToken 0 := ⟨⟨by decide +kernel, by decide +kernel, by decide +kernel⟩, tb_in tb_6 (List.mem_of_getElem? (i := 130) (by decide +kernel)) rfl, by decide, tb_in tb_1 (List.mem_of_getElem? (i := 13) (by decide +kernel)) rfl⟩
theorem im_Mod_nextToken : Cond.instanceMethod m_Mod_nextToken.1 ∈ lw_g := tb_in tb_6 (List.mem_of_getElem? (i := 129) (by decide +kernel)) rfl
theorem se_Mod_nextToken : Cond.selects m_Mod_nextToken.1.cls m_Mod_nextToken.1 m_Mod_nextToken.1 ∈ lw_g := lw_g_in (List.mem_append_left _ (List.mem_of_getElem? (i := 36) (by decide +kernel))) rfl
def m_Mod_isWord : sh_M := (⟨"StolenHolidaysModel", "isWord", "(J)Z"⟩, prog_14_method_9_code, 3, some .boolean)
theorem mo_Mod_isWord : sh_MO m_Mod_isWord 1 := ⟨⟨by decide +kernel, by decide +kernel, by decide +kernel⟩, tb_in tb_6 (List.mem_of_getElem? (i := 141) (by decide +kernel)) rfl, by decide, tb_in tb_1 (List.mem_of_getElem? (i := 13) (by decide +kernel)) rfl⟩
theorem im_Mod_isWord : Cond.instanceMethod m_Mod_isWord.1 ∈ lw_g := tb_in tb_6 (List.mem_of_getElem? (i := 140) (by decide +kernel)) rfl
theorem se_Mod_isWord : Cond.selects m_Mod_isWord.1.cls m_Mod_isWord.1 m_Mod_isWord.1 ∈ lw_g := lw_g_in (List.mem_append_left _ (List.mem_of_getElem? (i := 38) (by decide +kernel))) rfl
def m_Mod_isSign : sh_M := (⟨"StolenHolidaysModel", "isSign", "(I)Z"⟩, prog_14_method_10_code, 2, some .boolean)
theorem mo_Mod_isSign : sh_MO m_Mod_isSign 1 := ⟨⟨by decide +kernel, by decide +kernel, by decide +kernel⟩, tb_in tb_6 (List.mem_of_getElem? (i := 206) (by decide +kernel)) rfl, by decide, tb_in tb_1 (List.mem_of_getElem? (i := 13) (by decide +kernel)) rfl⟩
theorem im_Mod_isSign : Cond.instanceMethod m_Mod_isSign.1 ∈ lw_g := tb_in tb_6 (List.mem_of_getElem? (i := 205) (by decide +kernel)) rfl
theorem se_Mod_isSign : Cond.selects m_Mod_isSign.1.cls m_Mod_isSign.1 m_Mod_isSign.1 ∈ lw_g := lw_g_in (List.mem_append_left _ (List.mem_of_getElem? (i := 49) (by decide +kernel))) rfl
def m_Mod_fails : sh_M := (⟨"StolenHolidaysModel", "fails", "(I)Z"⟩, prog_14_method_11_code, 2, some .boolean)
theorem mo_Mod_fails : sh_MO m_Mod_fails 1 := ⟨⟨by decide +kernel, by decide +kernel, by decide +kernel⟩, tb_in tb_6 (List.mem_of_getElem? (i := 149) (by decide +kernel)) rfl, by decide, tb_in tb_1 (List.mem_of_getElem? (i := 13) (by decide +kernel)) rfl⟩
theorem im_Mod_fails : Cond.instanceMethod m_Mod_fails.1 ∈ lw_g := tb_in tb_6 (List.mem_of_getElem? (i := 148) (by decide +kernel)) rfl
theorem se_Mod_fails : Cond.selects m_Mod_fails.1.cls m_Mod_fails.1 m_Mod_fails.1 ∈ lw_g := lw_g_in (List.mem_append_left _ (List.mem_of_getElem? (i := 40) (by decide +kernel))) rfl
def m_Mod_puts : sh_M := (⟨"StolenHolidaysModel", "puts", "(I)V"⟩, prog_14_method_12_code, 2, none)
theorem mo_Mod_puts : sh_MO m_Mod_puts 1 := ⟨⟨by decide +kernel, by decide +kernel, by decide +kernel⟩, tb_in tb_6 (List.mem_of_getElem? (i := 230) (by decide +kernel)) rfl, by decide, tb_in tb_1 (List.mem_of_getElem? (i := 13) (by decide +kernel)) rfl⟩
theorem im_Mod_puts : Cond.instanceMethod m_Mod_puts.1 ∈ lw_g := tb_in tb_6 (List.mem_of_getElem? (i := 229) (by decide +kernel)) rfl
theorem se_Mod_puts : Cond.selects m_Mod_puts.1.cls m_Mod_puts.1 m_Mod_puts.1 ∈ lw_g := lw_g_in (List.mem_append_left _ (List.mem_of_getElem? (i := 54) (by decide +kernel))) rfl
def m_Mod_fact : sh_M := (⟨"StolenHolidaysModel", "fact", "()I"⟩, prog_14_method_13_code, 1, some .int)
theorem mo_Mod_fact : sh_MO m_Mod_fact 0 := ⟨⟨by decide +kernel, by decide +kernel, by decide +kernel⟩, tb_in tb_6 (List.mem_of_getElem? (i := 222) (by decide +kernel)) rfl, by decide, tb_in tb_1 (List.mem_of_getElem? (i := 13) (by decide +kernel)) rfl⟩
theorem im_Mod_fact : Cond.instanceMethod m_Mod_fact.1 ∈ lw_g := tb_in tb_6 (List.mem_of_getElem? (i := 221) (by decide +kernel)) rfl
theorem se_Mod_fact : Cond.selects m_Mod_fact.1.cls m_Mod_fact.1 m_Mod_fact.1 ∈ lw_g := lw_g_in (List.mem_append_left _ (List.mem_of_getElem? (i := 53) (by decide +kernel))) rfl
def m_Mod_reads : sh_M := (⟨"StolenHolidaysModel", "reads", "()Z"⟩, prog_14_method_14_code, 6, some .boolean)
theorem mo_Mod_reads : sh_MO m_Mod_reads 0 := ⟨⟨by decide +kernel, by decide +kernel, by decide +kernel⟩, tb_in tb_6 (List.mem_of_getElem? (i := 218) (by decide +kernel)) rfl, by decide, tb_in tb_1 (List.mem_of_getElem? (i := 13) (by decide +kernel)) rfl⟩
theorem im_Mod_reads : Cond.instanceMethod m_Mod_reads.1 ∈ lw_g := tb_in tb_6 (List.mem_of_getElem? (i := 217) (by decide +kernel)) rfl
theorem se_Mod_reads : Cond.selects m_Mod_reads.1.cls m_Mod_reads.1 m_Mod_reads.1 ∈ lw_g := lw_g_in (List.mem_append_left _ (List.mem_of_getElem? (i := 52) (by decide +kernel))) rfl
def m_Mod_openings : sh_M := (⟨"StolenHolidaysModel", "openings", "(I)V"⟩, prog_14_method_15_code, 2, none)
theorem mo_Mod_openings : sh_MO m_Mod_openings 1 := ⟨⟨by decide +kernel, by decide +kernel, by decide +kernel⟩, tb_in tb_7 (List.mem_of_getElem? (i := 96) (by decide +kernel)) rfl, by decide, tb_in tb_1 (List.mem_of_getElem? (i := 13) (by decide +kernel)) rfl⟩
theorem im_Mod_openings : Cond.instanceMethod m_Mod_openings.1 ∈ lw_g := tb_in tb_7 (List.mem_of_getElem? (i := 95) (by decide +kernel)) rfl
theorem se_Mod_openings : Cond.selects m_Mod_openings.1.cls m_Mod_openings.1 m_Mod_openings.1 ∈ lw_g := lw_g_in (List.mem_append_left _ (List.mem_of_getElem? (i := 73) (by decide +kernel))) rfl
def m_Mod_sums : sh_M := (⟨"StolenHolidaysModel", "sums", "(I)V"⟩, prog_14_method_16_code, 2, none)
theorem mo_Mod_sums : sh_MO m_Mod_sums 1 := ⟨⟨by decide +kernel, by decide +kernel, by decide +kernel⟩, tb_in tb_7 (List.mem_of_getElem? (i := 100) (by decide +kernel)) rfl, by decide, tb_in tb_1 (List.mem_of_getElem? (i := 13) (by decide +kernel)) rfl⟩
theorem im_Mod_sums : Cond.instanceMethod m_Mod_sums.1 ∈ lw_g := tb_in tb_7 (List.mem_of_getElem? (i := 99) (by decide +kernel)) rfl
theorem se_Mod_sums : Cond.selects m_Mod_sums.1.cls m_Mod_sums.1 m_Mod_sums.1 ∈ lw_g := lw_g_in (List.mem_append_left _ (List.mem_of_getElem? (i := 74) (by decide +kernel))) rfl
def m_Mod_tests : sh_M := (⟨"StolenHolidaysModel", "tests", "(I)V"⟩, prog_14_method_17_code, 3, none)
theorem mo_Mod_tests : sh_MO m_Mod_tests 1 := ⟨⟨by decide +kernel, by decide +kernel, by decide +kernel⟩, tb_in tb_7 (List.mem_of_getElem? (i := 104) (by decide +kernel)) rfl, by decide, tb_in tb_1 (List.mem_of_getElem? (i := 13) (by decide +kernel)) rfl⟩
theorem im_Mod_tests : Cond.instanceMethod m_Mod_tests.1 ∈ lw_g := tb_in tb_7 (List.mem_of_getElem? (i := 103) (by decide +kernel)) rfl
theorem se_Mod_tests : Cond.selects m_Mod_tests.1.cls m_Mod_tests.1 m_Mod_tests.1 ∈ lw_g := lw_g_in (List.mem_append_left _ (List.mem_of_getElem? (i := 75) (by decide +kernel))) rfl
def m_Mod_worked : sh_M := (⟨"StolenHolidaysModel", "worked", "(I)I"⟩, prog_14_method_18_code, 6, some .int)
theorem mo_Mod_worked : sh_MO m_Mod_worked 1 := ⟨⟨by decide +kernel, by decide +kernel, by decide +kernel⟩, tb_in tb_7 (List.mem_of_getElem? (i := 92) (by decide +kernel)) rfl, by decide, tb_in tb_1 (List.mem_of_getElem? (i := 13) (by decide +kernel)) rfl⟩
theorem im_Mod_worked : Cond.instanceMethod m_Mod_worked.1 ∈ lw_g := tb_in tb_7 (List.mem_of_getElem? (i := 91) (by decide +kernel)) rfl
theorem se_Mod_worked : Cond.selects m_Mod_worked.1.cls m_Mod_worked.1 m_Mod_worked.1 ∈ lw_g := lw_g_in (List.mem_append_left _ (List.mem_of_getElem? (i := 72) (by decide +kernel))) rfl
def m_Mod_isKept : sh_M := (⟨"StolenHolidaysModel", "isKept", "()Z"⟩, prog_14_method_19_code, 1, some .boolean)
theorem mo_Mod_isKept : sh_MO m_Mod_isKept 0 := ⟨⟨by decide +kernel, by decide +kernel, by decide +kernel⟩, tb_in tb_6 (List.mem_of_getElem? (i := 157) (by decide +kernel)) rfl, by decide, tb_in tb_1 (List.mem_of_getElem? (i := 13) (by decide +kernel)) rfl⟩
theorem im_Mod_isKept : Cond.instanceMethod m_Mod_isKept.1 ∈ lw_g := tb_in tb_6 (List.mem_of_getElem? (i := 156) (by decide +kernel)) rfl
theorem se_Mod_isKept : Cond.selects m_Mod_isKept.1.cls m_Mod_isKept.1 m_Mod_isKept.1 ∈ lw_g := lw_g_in (List.mem_append_left _ (List.mem_of_getElem? (i := 42) (by decide +kernel))) rfl
def m_Mod_namedIn : sh_M := (⟨"StolenHolidaysModel", "namedIn", "([JII)I"⟩, prog_14_method_20_code, 5, some .int)
theorem mo_Mod_namedIn : sh_MO m_Mod_namedIn 3 := ⟨⟨by decide +kernel, by decide +kernel, by decide +kernel⟩, tb_in tb_6 (List.mem_of_getElem? (i := 183) (by decide +kernel)) rfl, by decide, tb_in tb_1 (List.mem_of_getElem? (i := 13) (by decide +kernel)) rfl⟩
theorem im_Mod_namedIn : Cond.instanceMethod m_Mod_namedIn.1 ∈ lw_g := tb_in tb_6 (List.mem_of_getElem? (i := 182) (by decide +kernel)) rfl
theorem se_Mod_namedIn : Cond.selects m_Mod_namedIn.1.cls m_Mod_namedIn.1 m_Mod_namedIn.1 ∈ lw_g := lw_g_in (List.mem_append_left _ (List.mem_of_getElem? (i := 44) (by decide +kernel))) rfl
def m_Mod_dayNamed : sh_M := (⟨"StolenHolidaysModel", "dayNamed", "(I)I"⟩, prog_14_method_21_code, 2, some .int)
theorem mo_Mod_dayNamed : sh_MO m_Mod_dayNamed 1 := ⟨⟨by decide +kernel, by decide +kernel, by decide +kernel⟩, tb_in tb_6 (List.mem_of_getElem? (i := 179) (by decide +kernel)) rfl, by decide, tb_in tb_1 (List.mem_of_getElem? (i := 13) (by decide +kernel)) rfl⟩
theorem im_Mod_dayNamed : Cond.instanceMethod m_Mod_dayNamed.1 ∈ lw_g := tb_in tb_6 (List.mem_of_getElem? (i := 178) (by decide +kernel)) rfl
theorem se_Mod_dayNamed : Cond.selects m_Mod_dayNamed.1.cls m_Mod_dayNamed.1 m_Mod_dayNamed.1 ∈ lw_g := lw_g_in (List.mem_append_left _ (List.mem_of_getElem? (i := 43) (by decide +kernel))) rfl
def m_Mod_thiefNamed : sh_M := (⟨"StolenHolidaysModel", "thiefNamed", "(I)I"⟩, prog_14_method_22_code, 2, some .int)
theorem mo_Mod_thiefNamed : sh_MO m_Mod_thiefNamed 1 := ⟨⟨by decide +kernel, by decide +kernel, by decide +kernel⟩, tb_in tb_6 (List.mem_of_getElem? (i := 187) (by decide +kernel)) rfl, by decide, tb_in tb_1 (List.mem_of_getElem? (i := 13) (by decide +kernel)) rfl⟩
theorem im_Mod_thiefNamed : Cond.instanceMethod m_Mod_thiefNamed.1 ∈ lw_g := tb_in tb_6 (List.mem_of_getElem? (i := 186) (by decide +kernel)) rfl
theorem se_Mod_thiefNamed : Cond.selects m_Mod_thiefNamed.1.cls m_Mod_thiefNamed.1 m_Mod_thiefNamed.1 ∈ lw_g := lw_g_in (List.mem_append_left _ (List.mem_of_getElem? (i := 45) (by decide +kernel))) rfl
def m_Mod_needsNumber : sh_M := (⟨"StolenHolidaysModel", "needsNumber", "(II)Z"⟩, prog_14_method_23_code, 3, some .boolean)
theorem mo_Mod_needsNumber : sh_MO m_Mod_needsNumber 2 := ⟨⟨by decide +kernel, by decide +kernel, by decide +kernel⟩, tb_in tb_6 (List.mem_of_getElem? (i := 195) (by decide +kernel)) rfl, by decide, tb_in tb_1 (List.mem_of_getElem? (i := 13) (by decide +kernel)) rfl⟩
theorem im_Mod_needsNumber : Cond.instanceMethod m_Mod_needsNumber.1 ∈ lw_g := tb_in tb_6 (List.mem_of_getElem? (i := 194) (by decide +kernel)) rfl
theorem se_Mod_needsNumber : Cond.selects m_Mod_needsNumber.1.cls m_Mod_needsNumber.1 m_Mod_needsNumber.1 ∈ lw_g := lw_g_in (List.mem_append_left _ (List.mem_of_getElem? (i := 47) (by decide +kernel))) rfl
def m_Mod_needsBoth : sh_M := (⟨"StolenHolidaysModel", "needsBoth", "(JII)Z"⟩, prog_14_method_24_code, 5, some .boolean)
theorem mo_Mod_needsBoth : sh_MO m_Mod_needsBoth 3 := ⟨⟨by decide +kernel, by decide +kernel, by decide +kernel⟩, tb_in tb_6 (List.mem_of_getElem? (i := 191) (by decide +kernel)) rfl, by decide, tb_in tb_1 (List.mem_of_getElem? (i := 13) (by decide +kernel)) rfl⟩
theorem im_Mod_needsBoth : Cond.instanceMethod m_Mod_needsBoth.1 ∈ lw_g := tb_in tb_6 (List.mem_of_getElem? (i := 190) (by decide +kernel)) rfl
theorem se_Mod_needsBoth : Cond.selects m_Mod_needsBoth.1.cls m_Mod_needsBoth.1 m_Mod_needsBoth.1 ∈ lw_g := lw_g_in (List.mem_append_left _ (List.mem_of_getElem? (i := 46) (by decide +kernel))) rfl
def m_Mod_closes : sh_M := (⟨"StolenHolidaysModel", "closes", "()Z"⟩, prog_14_method_25_code, 1, some .boolean)
theorem mo_Mod_closes : sh_MO m_Mod_closes 0 := ⟨⟨by decide +kernel, by decide +kernel, by decide +kernel⟩, tb_in tb_6 (List.mem_of_getElem? (i := 202) (by decide +kernel)) rfl, by decide, tb_in tb_1 (List.mem_of_getElem? (i := 13) (by decide +kernel)) rfl⟩
theorem im_Mod_closes : Cond.instanceMethod m_Mod_closes.1 ∈ lw_g := tb_in tb_6 (List.mem_of_getElem? (i := 201) (by decide +kernel)) rfl
theorem se_Mod_closes : Cond.selects m_Mod_closes.1.cls m_Mod_closes.1 m_Mod_closes.1 ∈ lw_g := lw_g_in (List.mem_append_left _ (List.mem_of_getElem? (i := 48) (by decide +kernel))) rfl
def m_Mod_needsNew : sh_M := (⟨"StolenHolidaysModel", "needsNew", "()Z"⟩, prog_14_method_26_code, 1, some .boolean)
theorem mo_Mod_needsNew : sh_MO m_Mod_needsNew 0 := ⟨⟨by decide +kernel, by decide +kernel, by decide +kernel⟩, tb_in tb_6 (List.mem_of_getElem? (i := 153) (by decide +kernel)) rfl, by decide, tb_in tb_1 (List.mem_of_getElem? (i := 13) (by decide +kernel)) rfl⟩
theorem im_Mod_needsNew : Cond.instanceMethod m_Mod_needsNew.1 ∈ lw_g := tb_in tb_6 (List.mem_of_getElem? (i := 152) (by decide +kernel)) rfl
theorem se_Mod_needsNew : Cond.selects m_Mod_needsNew.1.cls m_Mod_needsNew.1 m_Mod_needsNew.1 ∈ lw_g := lw_g_in (List.mem_append_left _ (List.mem_of_getElem? (i := 41) (by decide +kernel))) rfl
def m_Mod_isFound : sh_M := (⟨"StolenHolidaysModel", "isFound", "(I)Z"⟩, prog_14_method_27_code, 2, some .boolean)
theorem mo_Mod_isFound : sh_MO m_Mod_isFound 1 := ⟨⟨by decide +kernel, by decide +kernel, by decide +kernel⟩, tb_in tb_7 (List.mem_of_getElem? (i := 16) (by decide +kernel)) rfl, by decide, tb_in tb_1 (List.mem_of_getElem? (i := 13) (by decide +kernel)) rfl⟩
theorem im_Mod_isFound : Cond.instanceMethod m_Mod_isFound.1 ∈ lw_g := tb_in tb_7 (List.mem_of_getElem? (i := 15) (by decide +kernel)) rfl
theorem se_Mod_isFound : Cond.selects m_Mod_isFound.1.cls m_Mod_isFound.1 m_Mod_isFound.1 ∈ lw_g := lw_g_in (List.mem_append_left _ (List.mem_of_getElem? (i := 58) (by decide +kernel))) rfl
def m_Mod_passesFound : sh_M := (⟨"StolenHolidaysModel", "passesFound", "(I)Z"⟩, prog_14_method_28_code, 2, some .boolean)
theorem mo_Mod_passesFound : sh_MO m_Mod_passesFound 1 := ⟨⟨by decide +kernel, by decide +kernel, by decide +kernel⟩, tb_in tb_7 (List.mem_of_getElem? (i := 12) (by decide +kernel)) rfl, by decide, tb_in tb_1 (List.mem_of_getElem? (i := 13) (by decide +kernel)) rfl⟩
theorem im_Mod_passesFound : Cond.instanceMethod m_Mod_passesFound.1 ∈ lw_g := tb_in tb_7 (List.mem_of_getElem? (i := 11) (by decide +kernel)) rfl
theorem se_Mod_passesFound : Cond.selects m_Mod_passesFound.1.cls m_Mod_passesFound.1 m_Mod_passesFound.1 ∈ lw_g := lw_g_in (List.mem_append_left _ (List.mem_of_getElem? (i := 57) (by decide +kernel))) rfl
def m_Mod_readsDay : sh_M := (⟨"StolenHolidaysModel", "readsDay", "()Z"⟩, prog_14_method_29_code, 2, some .boolean)
theorem mo_Mod_readsDay : sh_MO m_Mod_readsDay 0 := ⟨⟨by decide +kernel, by decide +kernel, by decide +kernel⟩, tb_in tb_6 (List.mem_of_getElem? (i := 145) (by decide +kernel)) rfl, by decide, tb_in tb_1 (List.mem_of_getElem? (i := 13) (by decide +kernel)) rfl⟩
theorem im_Mod_readsDay : Cond.instanceMethod m_Mod_readsDay.1 ∈ lw_g := tb_in tb_6 (List.mem_of_getElem? (i := 144) (by decide +kernel)) rfl
theorem se_Mod_readsDay : Cond.selects m_Mod_readsDay.1.cls m_Mod_readsDay.1 m_Mod_readsDay.1 ∈ lw_g := lw_g_in (List.mem_append_left _ (List.mem_of_getElem? (i := 39) (by decide +kernel))) rfl
def m_Mod_readsThief : sh_M := (⟨"StolenHolidaysModel", "readsThief", "()Z"⟩, prog_14_method_30_code, 2, some .boolean)
theorem mo_Mod_readsThief : sh_MO m_Mod_readsThief 0 := ⟨⟨by decide +kernel, by decide +kernel, by decide +kernel⟩, tb_in tb_6 (List.mem_of_getElem? (i := 210) (by decide +kernel)) rfl, by decide, tb_in tb_1 (List.mem_of_getElem? (i := 13) (by decide +kernel)) rfl⟩
theorem im_Mod_readsThief : Cond.instanceMethod m_Mod_readsThief.1 ∈ lw_g := tb_in tb_6 (List.mem_of_getElem? (i := 209) (by decide +kernel)) rfl
theorem se_Mod_readsThief : Cond.selects m_Mod_readsThief.1.cls m_Mod_readsThief.1 m_Mod_readsThief.1 ∈ lw_g := lw_g_in (List.mem_append_left _ (List.mem_of_getElem? (i := 50) (by decide +kernel))) rfl
def m_Mod_readsPays : sh_M := (⟨"StolenHolidaysModel", "readsPays", "()Z"⟩, prog_14_method_31_code, 1, some .boolean)
theorem mo_Mod_readsPays : sh_MO m_Mod_readsPays 0 := ⟨⟨by decide +kernel, by decide +kernel, by decide +kernel⟩, tb_in tb_6 (List.mem_of_getElem? (i := 214) (by decide +kernel)) rfl, by decide, tb_in tb_1 (List.mem_of_getElem? (i := 13) (by decide +kernel)) rfl⟩
theorem im_Mod_readsPays : Cond.instanceMethod m_Mod_readsPays.1 ∈ lw_g := tb_in tb_6 (List.mem_of_getElem? (i := 213) (by decide +kernel)) rfl
theorem se_Mod_readsPays : Cond.selects m_Mod_readsPays.1.cls m_Mod_readsPays.1 m_Mod_readsPays.1 ∈ lw_g := lw_g_in (List.mem_append_left _ (List.mem_of_getElem? (i := 51) (by decide +kernel))) rfl
def m_Mod_begins : sh_M := (⟨"StolenHolidaysModel", "begins", "()V"⟩, prog_14_method_32_code, 1, none)
theorem mo_Mod_begins : sh_MO m_Mod_begins 0 := ⟨⟨by decide +kernel, by decide +kernel, by decide +kernel⟩, tb_in tb_6 (List.mem_of_getElem? (i := 126) (by decide +kernel)) rfl, by decide, tb_in tb_1 (List.mem_of_getElem? (i := 13) (by decide +kernel)) rfl⟩
theorem im_Mod_begins : Cond.instanceMethod m_Mod_begins.1 ∈ lw_g := tb_in tb_6 (List.mem_of_getElem? (i := 125) (by decide +kernel)) rfl
theorem se_Mod_begins : Cond.selects m_Mod_begins.1.cls m_Mod_begins.1 m_Mod_begins.1 ∈ lw_g := lw_g_in (List.mem_append_left _ (List.mem_of_getElem? (i := 35) (by decide +kernel))) rfl
def m_Mod_readsAll : sh_M := (⟨"StolenHolidaysModel", "readsAll", "()Z"⟩, prog_14_method_33_code, 2, some .boolean)
theorem mo_Mod_readsAll : sh_MO m_Mod_readsAll 0 := ⟨⟨by decide +kernel, by decide +kernel, by decide +kernel⟩, tb_in tb_6 (List.mem_of_getElem? (i := 122) (by decide +kernel)) rfl, by decide, tb_in tb_1 (List.mem_of_getElem? (i := 13) (by decide +kernel)) rfl⟩
theorem im_Mod_readsAll : Cond.instanceMethod m_Mod_readsAll.1 ∈ lw_g := tb_in tb_6 (List.mem_of_getElem? (i := 121) (by decide +kernel)) rfl
theorem se_Mod_readsAll : Cond.selects m_Mod_readsAll.1.cls m_Mod_readsAll.1 m_Mod_readsAll.1 ∈ lw_g := lw_g_in (List.mem_append_left _ (List.mem_of_getElem? (i := 34) (by decide +kernel))) rfl
def m_Mod_shifts : sh_M := (⟨"StolenHolidaysModel", "shifts", "([II)V"⟩, prog_14_method_34_code, 3, none)
theorem mo_Mod_shifts : sh_MO m_Mod_shifts 2 := ⟨⟨by decide +kernel, by decide +kernel, by decide +kernel⟩, tb_in tb_6 (List.mem_of_getElem? (i := 237) (by decide +kernel)) rfl, by decide, tb_in tb_1 (List.mem_of_getElem? (i := 13) (by decide +kernel)) rfl⟩
theorem sa_Mod_shifts : Cond.static m_Mod_shifts.1 ∈ lw_g := tb_in tb_6 (List.mem_of_getElem? (i := 236) (by decide +kernel)) rfl
def m_Mod_shiftsNames : sh_M := (⟨"StolenHolidaysModel", "shiftsNames", "([JI)V"⟩, prog_14_method_35_code, 3, none)
theorem mo_Mod_shiftsNames : sh_MO m_Mod_shiftsNames 2 := ⟨⟨by decide +kernel, by decide +kernel, by decide +kernel⟩, tb_in tb_7 (List.mem_of_getElem? (i := 0) (by decide +kernel)) rfl, by decide, tb_in tb_1 (List.mem_of_getElem? (i := 13) (by decide +kernel)) rfl⟩
theorem sa_Mod_shiftsNames : Cond.static m_Mod_shiftsNames.1 ∈ lw_g := tb_in tb_6 (List.mem_of_getElem? (i := 239) (by decide +kernel)) rfl
def m_Mod_lays : sh_M := (⟨"StolenHolidaysModel", "lays", "()V"⟩, prog_14_method_36_code, 1, none)
theorem mo_Mod_lays : sh_MO m_Mod_lays 0 := ⟨⟨by decide +kernel, by decide +kernel, by decide +kernel⟩, tb_in tb_6 (List.mem_of_getElem? (i := 234) (by decide +kernel)) rfl, by decide, tb_in tb_1 (List.mem_of_getElem? (i := 13) (by decide +kernel)) rfl⟩
theorem im_Mod_lays : Cond.instanceMethod m_Mod_lays.1 ∈ lw_g := tb_in tb_6 (List.mem_of_getElem? (i := 233) (by decide +kernel)) rfl
theorem se_Mod_lays : Cond.selects m_Mod_lays.1.cls m_Mod_lays.1 m_Mod_lays.1 ∈ lw_g := lw_g_in (List.mem_append_left _ (List.mem_of_getElem? (i := 55) (by decide +kernel))) rfl
def m_Mod_copies : sh_M := (⟨"StolenHolidaysModel", "copies", "([II[II)V"⟩, prog_14_method_37_code, 5, none)
theorem mo_Mod_copies : sh_MO m_Mod_copies 4 := ⟨⟨by decide +kernel, by decide +kernel, by decide +kernel⟩, tb_in tb_7 (List.mem_of_getElem? (i := 59) (by decide +kernel)) rfl, by decide, tb_in tb_1 (List.mem_of_getElem? (i := 13) (by decide +kernel)) rfl⟩
theorem sa_Mod_copies : Cond.static m_Mod_copies.1 ∈ lw_g := tb_in tb_7 (List.mem_of_getElem? (i := 58) (by decide +kernel)) rfl
def m_Mod_readsLine : sh_M := (⟨"StolenHolidaysModel", "readsLine", "()Z"⟩, prog_14_method_38_code, 3, some .boolean)
theorem mo_Mod_readsLine : sh_MO m_Mod_readsLine 0 := ⟨⟨by decide +kernel, by decide +kernel, by decide +kernel⟩, tb_in tb_7 (List.mem_of_getElem? (i := 8) (by decide +kernel)) rfl, by decide, tb_in tb_1 (List.mem_of_getElem? (i := 13) (by decide +kernel)) rfl⟩
theorem im_Mod_readsLine : Cond.instanceMethod m_Mod_readsLine.1 ∈ lw_g := tb_in tb_7 (List.mem_of_getElem? (i := 7) (by decide +kernel)) rfl
theorem se_Mod_readsLine : Cond.selects m_Mod_readsLine.1.cls m_Mod_readsLine.1 m_Mod_readsLine.1 ∈ lw_g := lw_g_in (List.mem_append_left _ (List.mem_of_getElem? (i := 56) (by decide +kernel))) rfl
def m_Mod_laysLines : sh_M := (⟨"StolenHolidaysModel", "laysLines", "(II)V"⟩, prog_14_method_39_code, 4, none)
theorem mo_Mod_laysLines : sh_MO m_Mod_laysLines 2 := ⟨⟨by decide +kernel, by decide +kernel, by decide +kernel⟩, tb_in tb_7 (List.mem_of_getElem? (i := 20) (by decide +kernel)) rfl, by decide, tb_in tb_1 (List.mem_of_getElem? (i := 13) (by decide +kernel)) rfl⟩
theorem im_Mod_laysLines : Cond.instanceMethod m_Mod_laysLines.1 ∈ lw_g := tb_in tb_7 (List.mem_of_getElem? (i := 19) (by decide +kernel)) rfl
theorem se_Mod_laysLines : Cond.selects m_Mod_laysLines.1.cls m_Mod_laysLines.1 m_Mod_laysLines.1 ∈ lw_g := lw_g_in (List.mem_append_left _ (List.mem_of_getElem? (i := 59) (by decide +kernel))) rfl
def m_Mod_laysSeen : sh_M := (⟨"StolenHolidaysModel", "laysSeen", "(II)V"⟩, prog_14_method_40_code, 4, none)
theorem mo_Mod_laysSeen : sh_MO m_Mod_laysSeen 2 := ⟨⟨by decide +kernel, by decide +kernel, by decide +kernel⟩, tb_in tb_8 (List.mem_of_getElem? (i := 97) (by decide +kernel)) rfl, by decide, tb_in tb_1 (List.mem_of_getElem? (i := 13) (by decide +kernel)) rfl⟩
theorem im_Mod_laysSeen : Cond.instanceMethod m_Mod_laysSeen.1 ∈ lw_g := tb_in tb_8 (List.mem_of_getElem? (i := 96) (by decide +kernel)) rfl
theorem se_Mod_laysSeen : Cond.selects m_Mod_laysSeen.1.cls m_Mod_laysSeen.1 m_Mod_laysSeen.1 ∈ lw_g := lw_g_in (List.mem_append_left _ (List.mem_of_getElem? (i := 98) (by decide +kernel))) rfl
def m_Mod_fresh0 : sh_M := (⟨"StolenHolidaysModel", "fresh0", "()V"⟩, prog_14_method_41_code, 2, none)
theorem mo_Mod_fresh0 : sh_MO m_Mod_fresh0 0 := ⟨⟨by decide +kernel, by decide +kernel, by decide +kernel⟩, tb_in tb_5 (List.mem_of_getElem? (i := 167) (by decide +kernel)) rfl, by decide, tb_in tb_1 (List.mem_of_getElem? (i := 13) (by decide +kernel)) rfl⟩
theorem im_Mod_fresh0 : Cond.instanceMethod m_Mod_fresh0.1 ∈ lw_g := tb_in tb_5 (List.mem_of_getElem? (i := 166) (by decide +kernel)) rfl
theorem se_Mod_fresh0 : Cond.selects m_Mod_fresh0.1.cls m_Mod_fresh0.1 m_Mod_fresh0.1 ∈ lw_g := lw_g_in (List.mem_append_left _ (List.mem_of_getElem? (i := 33) (by decide +kernel))) rfl
def m_Mod_almanac : sh_M := (⟨"StolenHolidaysModel", "almanac", "()I"⟩, prog_14_method_42_code, 2, some .int)
theorem mo_Mod_almanac : sh_MO m_Mod_almanac 0 := ⟨⟨by decide +kernel, by decide +kernel, by decide +kernel⟩, tb_in tb_6 (List.mem_of_getElem? (i := 118) (by decide +kernel)) rfl, by decide, tb_in tb_1 (List.mem_of_getElem? (i := 13) (by decide +kernel)) rfl⟩
theorem im_Mod_almanac : Cond.instanceMethod m_Mod_almanac.1 ∈ lw_g := tb_in tb_6 (List.mem_of_getElem? (i := 116) (by decide +kernel)) rfl
theorem se_Mod_almanac : Cond.selects m_Mod_almanac.1.cls m_Mod_almanac.1 m_Mod_almanac.1 ∈ lw_g := tb_in tb_6 (List.mem_of_getElem? (i := 117) (by decide +kernel)) rfl
def m_Mod_year : sh_M := (⟨"StolenHolidaysModel", "year", "()I"⟩, prog_14_method_43_code, 1, some .int)
theorem mo_Mod_year : sh_MO m_Mod_year 0 := ⟨⟨by decide +kernel, by decide +kernel, by decide +kernel⟩, tb_in tb_7 (List.mem_of_getElem? (i := 4) (by decide +kernel)) rfl, by decide, tb_in tb_1 (List.mem_of_getElem? (i := 13) (by decide +kernel)) rfl⟩
theorem im_Mod_year : Cond.instanceMethod m_Mod_year.1 ∈ lw_g := tb_in tb_7 (List.mem_of_getElem? (i := 2) (by decide +kernel)) rfl
theorem se_Mod_year : Cond.selects m_Mod_year.1.cls m_Mod_year.1 m_Mod_year.1 ∈ lw_g := tb_in tb_7 (List.mem_of_getElem? (i := 3) (by decide +kernel)) rfl
def m_Mod_isDay : sh_M := (⟨"StolenHolidaysModel", "isDay", "(I)Z"⟩, prog_14_method_44_code, 2, some .boolean)
theorem mo_Mod_isDay : sh_MO m_Mod_isDay 1 := ⟨⟨by decide +kernel, by decide +kernel, by decide +kernel⟩, tb_in tb_7 (List.mem_of_getElem? (i := 28) (by decide +kernel)) rfl, by decide, tb_in tb_1 (List.mem_of_getElem? (i := 13) (by decide +kernel)) rfl⟩
theorem im_Mod_isDay : Cond.instanceMethod m_Mod_isDay.1 ∈ lw_g := tb_in tb_7 (List.mem_of_getElem? (i := 27) (by decide +kernel)) rfl
theorem se_Mod_isDay : Cond.selects m_Mod_isDay.1.cls m_Mod_isDay.1 m_Mod_isDay.1 ∈ lw_g := lw_g_in (List.mem_append_left _ (List.mem_of_getElem? (i := 60) (by decide +kernel))) rfl
def m_Mod_isThief : sh_M := (⟨"StolenHolidaysModel", "isThief", "(I)Z"⟩, prog_14_method_45_code, 2, some .boolean)
theorem mo_Mod_isThief : sh_MO m_Mod_isThief 1 := ⟨⟨by decide +kernel, by decide +kernel, by decide +kernel⟩, tb_in tb_7 (List.mem_of_getElem? (i := 36) (by decide +kernel)) rfl, by decide, tb_in tb_1 (List.mem_of_getElem? (i := 13) (by decide +kernel)) rfl⟩
theorem im_Mod_isThief : Cond.instanceMethod m_Mod_isThief.1 ∈ lw_g := tb_in tb_7 (List.mem_of_getElem? (i := 35) (by decide +kernel)) rfl
theorem se_Mod_isThief : Cond.selects m_Mod_isThief.1.cls m_Mod_isThief.1 m_Mod_isThief.1 ∈ lw_g := lw_g_in (List.mem_append_left _ (List.mem_of_getElem? (i := 61) (by decide +kernel))) rfl
def m_Mod_isFree : sh_M := (⟨"StolenHolidaysModel", "isFree", "(I)Z"⟩, prog_14_method_46_code, 2, some .boolean)
theorem mo_Mod_isFree : sh_MO m_Mod_isFree 1 := ⟨⟨by decide +kernel, by decide +kernel, by decide +kernel⟩, tb_in tb_7 (List.mem_of_getElem? (i := 48) (by decide +kernel)) rfl, by decide, tb_in tb_1 (List.mem_of_getElem? (i := 13) (by decide +kernel)) rfl⟩
theorem im_Mod_isFree : Cond.instanceMethod m_Mod_isFree.1 ∈ lw_g := tb_in tb_7 (List.mem_of_getElem? (i := 47) (by decide +kernel)) rfl
theorem se_Mod_isFree : Cond.selects m_Mod_isFree.1.cls m_Mod_isFree.1 m_Mod_isFree.1 ∈ lw_g := lw_g_in (List.mem_append_left _ (List.mem_of_getElem? (i := 63) (by decide +kernel))) rfl
def m_Mod_hasPiece : sh_M := (⟨"StolenHolidaysModel", "hasPiece", "(I)Z"⟩, prog_14_method_47_code, 2, some .boolean)
theorem mo_Mod_hasPiece : sh_MO m_Mod_hasPiece 1 := ⟨⟨by decide +kernel, by decide +kernel, by decide +kernel⟩, tb_in tb_7 (List.mem_of_getElem? (i := 52) (by decide +kernel)) rfl, by decide, tb_in tb_1 (List.mem_of_getElem? (i := 13) (by decide +kernel)) rfl⟩
theorem im_Mod_hasPiece : Cond.instanceMethod m_Mod_hasPiece.1 ∈ lw_g := tb_in tb_7 (List.mem_of_getElem? (i := 51) (by decide +kernel)) rfl
theorem se_Mod_hasPiece : Cond.selects m_Mod_hasPiece.1.cls m_Mod_hasPiece.1 m_Mod_hasPiece.1 ∈ lw_g := lw_g_in (List.mem_append_left _ (List.mem_of_getElem? (i := 64) (by decide +kernel))) rfl
def m_Mod_couldSteal : sh_M := (⟨"StolenHolidaysModel", "couldSteal", "(I)Z"⟩, prog_14_method_48_code, 2, some .boolean)
theorem mo_Mod_couldSteal : sh_MO m_Mod_couldSteal 1 := ⟨⟨by decide +kernel, by decide +kernel, by decide +kernel⟩, tb_in tb_7 (List.mem_of_getElem? (i := 44) (by decide +kernel)) rfl, by decide, tb_in tb_1 (List.mem_of_getElem? (i := 13) (by decide +kernel)) rfl⟩
theorem im_Mod_couldSteal : Cond.instanceMethod m_Mod_couldSteal.1 ∈ lw_g := tb_in tb_7 (List.mem_of_getElem? (i := 43) (by decide +kernel)) rfl
theorem se_Mod_couldSteal : Cond.selects m_Mod_couldSteal.1.cls m_Mod_couldSteal.1 m_Mod_couldSteal.1 ∈ lw_g := lw_g_in (List.mem_append_left _ (List.mem_of_getElem? (i := 62) (by decide +kernel))) rfl
def m_Mod_isOpen : sh_M := (⟨"StolenHolidaysModel", "isOpen", "(II)Z"⟩, prog_14_method_49_code, 3, some .boolean)
theorem mo_Mod_isOpen : sh_MO m_Mod_isOpen 2 := ⟨⟨by decide +kernel, by decide +kernel, by decide +kernel⟩, tb_in tb_7 (List.mem_of_getElem? (i := 71) (by decide +kernel)) rfl, by decide, tb_in tb_1 (List.mem_of_getElem? (i := 13) (by decide +kernel)) rfl⟩
theorem im_Mod_isOpen : Cond.instanceMethod m_Mod_isOpen.1 ∈ lw_g := tb_in tb_7 (List.mem_of_getElem? (i := 70) (by decide +kernel)) rfl
theorem se_Mod_isOpen : Cond.selects m_Mod_isOpen.1.cls m_Mod_isOpen.1 m_Mod_isOpen.1 ∈ lw_g := lw_g_in (List.mem_append_left _ (List.mem_of_getElem? (i := 68) (by decide +kernel))) rfl
def m_Mod_haulOf : sh_M := (⟨"StolenHolidaysModel", "haulOf", "(II)I"⟩, prog_14_method_50_code, 3, some .int)
theorem mo_Mod_haulOf : sh_MO m_Mod_haulOf 2 := ⟨⟨by decide +kernel, by decide +kernel, by decide +kernel⟩, tb_in tb_7 (List.mem_of_getElem? (i := 67) (by decide +kernel)) rfl, by decide, tb_in tb_1 (List.mem_of_getElem? (i := 13) (by decide +kernel)) rfl⟩
theorem im_Mod_haulOf : Cond.instanceMethod m_Mod_haulOf.1 ∈ lw_g := tb_in tb_7 (List.mem_of_getElem? (i := 66) (by decide +kernel)) rfl
theorem se_Mod_haulOf : Cond.selects m_Mod_haulOf.1.cls m_Mod_haulOf.1 m_Mod_haulOf.1 ∈ lw_g := lw_g_in (List.mem_append_left _ (List.mem_of_getElem? (i := 67) (by decide +kernel))) rfl
def m_Mod_takesAway : sh_M := (⟨"StolenHolidaysModel", "takesAway", "(I)V"⟩, prog_14_method_51_code, 2, none)
theorem mo_Mod_takesAway : sh_MO m_Mod_takesAway 1 := ⟨⟨by decide +kernel, by decide +kernel, by decide +kernel⟩, tb_in tb_7 (List.mem_of_getElem? (i := 111) (by decide +kernel)) rfl, by decide, tb_in tb_1 (List.mem_of_getElem? (i := 13) (by decide +kernel)) rfl⟩
theorem im_Mod_takesAway : Cond.instanceMethod m_Mod_takesAway.1 ∈ lw_g := tb_in tb_7 (List.mem_of_getElem? (i := 110) (by decide +kernel)) rfl
theorem se_Mod_takesAway : Cond.selects m_Mod_takesAway.1.cls m_Mod_takesAway.1 m_Mod_takesAway.1 ∈ lw_g := lw_g_in (List.mem_append_left _ (List.mem_of_getElem? (i := 76) (by decide +kernel))) rfl
def m_Mod_steals : sh_M := (⟨"StolenHolidaysModel", "steals", "(II)I"⟩, prog_14_method_52_code, 4, some .int)
theorem mo_Mod_steals : sh_MO m_Mod_steals 2 := ⟨⟨by decide +kernel, by decide +kernel, by decide +kernel⟩, tb_in tb_7 (List.mem_of_getElem? (i := 63) (by decide +kernel)) rfl, by decide, tb_in tb_1 (List.mem_of_getElem? (i := 13) (by decide +kernel)) rfl⟩
theorem im_Mod_steals : Cond.instanceMethod m_Mod_steals.1 ∈ lw_g := tb_in tb_7 (List.mem_of_getElem? (i := 62) (by decide +kernel)) rfl
theorem se_Mod_steals : Cond.selects m_Mod_steals.1.cls m_Mod_steals.1 m_Mod_steals.1 ∈ lw_g := lw_g_in (List.mem_append_left _ (List.mem_of_getElem? (i := 66) (by decide +kernel))) rfl
def m_Mod_priceOf : sh_M := (⟨"StolenHolidaysModel", "priceOf", "(I)I"⟩, prog_14_method_53_code, 3, some .int)
theorem mo_Mod_priceOf : sh_MO m_Mod_priceOf 1 := ⟨⟨by decide +kernel, by decide +kernel, by decide +kernel⟩, tb_in tb_7 (List.mem_of_getElem? (i := 88) (by decide +kernel)) rfl, by decide, tb_in tb_1 (List.mem_of_getElem? (i := 13) (by decide +kernel)) rfl⟩
theorem im_Mod_priceOf : Cond.instanceMethod m_Mod_priceOf.1 ∈ lw_g := tb_in tb_7 (List.mem_of_getElem? (i := 87) (by decide +kernel)) rfl
theorem se_Mod_priceOf : Cond.selects m_Mod_priceOf.1.cls m_Mod_priceOf.1 m_Mod_priceOf.1 ∈ lw_g := lw_g_in (List.mem_append_left _ (List.mem_of_getElem? (i := 71) (by decide +kernel))) rfl
def m_Mod_joyOf : sh_M := (⟨"StolenHolidaysModel", "joyOf", "(I)I"⟩, prog_14_method_54_code, 2, some .int)
theorem mo_Mod_joyOf : sh_MO m_Mod_joyOf 1 := ⟨⟨by decide +kernel, by decide +kernel, by decide +kernel⟩, tb_in tb_7 (List.mem_of_getElem? (i := 123) (by decide +kernel)) rfl, by decide, tb_in tb_1 (List.mem_of_getElem? (i := 13) (by decide +kernel)) rfl⟩
theorem im_Mod_joyOf : Cond.instanceMethod m_Mod_joyOf.1 ∈ lw_g := tb_in tb_7 (List.mem_of_getElem? (i := 122) (by decide +kernel)) rfl
theorem se_Mod_joyOf : Cond.selects m_Mod_joyOf.1.cls m_Mod_joyOf.1 m_Mod_joyOf.1 ∈ lw_g := lw_g_in (List.mem_append_left _ (List.mem_of_getElem? (i := 78) (by decide +kernel))) rfl
def m_Mod_sellsIt : sh_M := (⟨"StolenHolidaysModel", "sellsIt", "(I)I"⟩, prog_14_method_55_code, 3, some .int)
theorem mo_Mod_sellsIt : sh_MO m_Mod_sellsIt 1 := ⟨⟨by decide +kernel, by decide +kernel, by decide +kernel⟩, tb_in tb_7 (List.mem_of_getElem? (i := 84) (by decide +kernel)) rfl, by decide, tb_in tb_1 (List.mem_of_getElem? (i := 13) (by decide +kernel)) rfl⟩
theorem im_Mod_sellsIt : Cond.instanceMethod m_Mod_sellsIt.1 ∈ lw_g := tb_in tb_7 (List.mem_of_getElem? (i := 83) (by decide +kernel)) rfl
theorem se_Mod_sellsIt : Cond.selects m_Mod_sellsIt.1.cls m_Mod_sellsIt.1 m_Mod_sellsIt.1 ∈ lw_g := lw_g_in (List.mem_append_left _ (List.mem_of_getElem? (i := 70) (by decide +kernel))) rfl
def m_Mod_spendsIt : sh_M := (⟨"StolenHolidaysModel", "spendsIt", "(I)I"⟩, prog_14_method_56_code, 3, some .int)
theorem mo_Mod_spendsIt : sh_MO m_Mod_spendsIt 1 := ⟨⟨by decide +kernel, by decide +kernel, by decide +kernel⟩, tb_in tb_7 (List.mem_of_getElem? (i := 119) (by decide +kernel)) rfl, by decide, tb_in tb_1 (List.mem_of_getElem? (i := 13) (by decide +kernel)) rfl⟩
theorem im_Mod_spendsIt : Cond.instanceMethod m_Mod_spendsIt.1 ∈ lw_g := tb_in tb_7 (List.mem_of_getElem? (i := 118) (by decide +kernel)) rfl
theorem se_Mod_spendsIt : Cond.selects m_Mod_spendsIt.1.cls m_Mod_spendsIt.1 m_Mod_spendsIt.1 ∈ lw_g := lw_g_in (List.mem_append_left _ (List.mem_of_getElem? (i := 77) (by decide +kernel))) rfl
def m_Mod_canDeal : sh_M := (⟨"StolenHolidaysModel", "canDeal", "(I)Z"⟩, prog_14_method_57_code, 2, some .boolean)
theorem mo_Mod_canDeal : sh_MO m_Mod_canDeal 1 := ⟨⟨by decide +kernel, by decide +kernel, by decide +kernel⟩, tb_in tb_7 (List.mem_of_getElem? (i := 80) (by decide +kernel)) rfl, by decide, tb_in tb_1 (List.mem_of_getElem? (i := 13) (by decide +kernel)) rfl⟩
theorem im_Mod_canDeal : Cond.instanceMethod m_Mod_canDeal.1 ∈ lw_g := tb_in tb_7 (List.mem_of_getElem? (i := 79) (by decide +kernel)) rfl
theorem se_Mod_canDeal : Cond.selects m_Mod_canDeal.1.cls m_Mod_canDeal.1 m_Mod_canDeal.1 ∈ lw_g := lw_g_in (List.mem_append_left _ (List.mem_of_getElem? (i := 69) (by decide +kernel))) rfl
def m_Mod_swapsIt : sh_M := (⟨"StolenHolidaysModel", "swapsIt", "(II)V"⟩, prog_14_method_58_code, 5, none)
theorem mo_Mod_swapsIt : sh_MO m_Mod_swapsIt 2 := ⟨⟨by decide +kernel, by decide +kernel, by decide +kernel⟩, tb_in tb_7 (List.mem_of_getElem? (i := 132) (by decide +kernel)) rfl, by decide, tb_in tb_1 (List.mem_of_getElem? (i := 13) (by decide +kernel)) rfl⟩
theorem im_Mod_swapsIt : Cond.instanceMethod m_Mod_swapsIt.1 ∈ lw_g := tb_in tb_7 (List.mem_of_getElem? (i := 131) (by decide +kernel)) rfl
theorem se_Mod_swapsIt : Cond.selects m_Mod_swapsIt.1.cls m_Mod_swapsIt.1 m_Mod_swapsIt.1 ∈ lw_g := lw_g_in (List.mem_append_left _ (List.mem_of_getElem? (i := 79) (by decide +kernel))) rfl
def m_Mod_ages : sh_M := (⟨"StolenHolidaysModel", "ages", "(I)V"⟩, prog_14_method_59_code, 3, none)
theorem mo_Mod_ages : sh_MO m_Mod_ages 1 := ⟨⟨by decide +kernel, by decide +kernel, by decide +kernel⟩, tb_in tb_7 (List.mem_of_getElem? (i := 144) (by decide +kernel)) rfl, by decide, tb_in tb_1 (List.mem_of_getElem? (i := 13) (by decide +kernel)) rfl⟩
theorem im_Mod_ages : Cond.instanceMethod m_Mod_ages.1 ∈ lw_g := tb_in tb_7 (List.mem_of_getElem? (i := 143) (by decide +kernel)) rfl
theorem se_Mod_ages : Cond.selects m_Mod_ages.1.cls m_Mod_ages.1 m_Mod_ages.1 ∈ lw_g := lw_g_in (List.mem_append_left _ (List.mem_of_getElem? (i := 81) (by decide +kernel))) rfl
def m_Mod_passes : sh_M := (⟨"StolenHolidaysModel", "passes", "()V"⟩, prog_14_method_60_code, 2, none)
theorem mo_Mod_passes : sh_MO m_Mod_passes 0 := ⟨⟨by decide +kernel, by decide +kernel, by decide +kernel⟩, tb_in tb_7 (List.mem_of_getElem? (i := 140) (by decide +kernel)) rfl, by decide, tb_in tb_1 (List.mem_of_getElem? (i := 13) (by decide +kernel)) rfl⟩
theorem im_Mod_passes : Cond.instanceMethod m_Mod_passes.1 ∈ lw_g := tb_in tb_7 (List.mem_of_getElem? (i := 139) (by decide +kernel)) rfl
theorem se_Mod_passes : Cond.selects m_Mod_passes.1.cls m_Mod_passes.1 m_Mod_passes.1 ∈ lw_g := lw_g_in (List.mem_append_left _ (List.mem_of_getElem? (i := 80) (by decide +kernel))) rfl
def m_Mod_having : sh_M := (⟨"StolenHolidaysModel", "having", "()I"⟩, prog_14_method_61_code, 3, some .int)
theorem mo_Mod_having : sh_MO m_Mod_having 0 := ⟨⟨by decide +kernel, by decide +kernel, by decide +kernel⟩, tb_in tb_7 (List.mem_of_getElem? (i := 148) (by decide +kernel)) rfl, by decide, tb_in tb_1 (List.mem_of_getElem? (i := 13) (by decide +kernel)) rfl⟩
theorem im_Mod_having : Cond.instanceMethod m_Mod_having.1 ∈ lw_g := tb_in tb_7 (List.mem_of_getElem? (i := 147) (by decide +kernel)) rfl
theorem se_Mod_having : Cond.selects m_Mod_having.1.cls m_Mod_having.1 m_Mod_having.1 ∈ lw_g := lw_g_in (List.mem_append_left _ (List.mem_of_getElem? (i := 82) (by decide +kernel))) rfl
def m_Mod_caughtOnes : sh_M := (⟨"StolenHolidaysModel", "caughtOnes", "()I"⟩, prog_14_method_62_code, 3, some .int)
theorem mo_Mod_caughtOnes : sh_MO m_Mod_caughtOnes 0 := ⟨⟨by decide +kernel, by decide +kernel, by decide +kernel⟩, tb_in tb_7 (List.mem_of_getElem? (i := 164) (by decide +kernel)) rfl, by decide, tb_in tb_1 (List.mem_of_getElem? (i := 13) (by decide +kernel)) rfl⟩
theorem im_Mod_caughtOnes : Cond.instanceMethod m_Mod_caughtOnes.1 ∈ lw_g := tb_in tb_7 (List.mem_of_getElem? (i := 163) (by decide +kernel)) rfl
theorem se_Mod_caughtOnes : Cond.selects m_Mod_caughtOnes.1.cls m_Mod_caughtOnes.1 m_Mod_caughtOnes.1 ∈ lw_g := lw_g_in (List.mem_append_left _ (List.mem_of_getElem? (i := 84) (by decide +kernel))) rfl
def m_Mod_sumOf : sh_M := (⟨"StolenHolidaysModel", "sumOf", "(II)I"⟩, prog_14_method_63_code, 5, some .int)
theorem mo_Mod_sumOf : sh_MO m_Mod_sumOf 2 := ⟨⟨by decide +kernel, by decide +kernel, by decide +kernel⟩, tb_in tb_7 (List.mem_of_getElem? (i := 168) (by decide +kernel)) rfl, by decide, tb_in tb_1 (List.mem_of_getElem? (i := 13) (by decide +kernel)) rfl⟩
theorem im_Mod_sumOf : Cond.instanceMethod m_Mod_sumOf.1 ∈ lw_g := tb_in tb_7 (List.mem_of_getElem? (i := 167) (by decide +kernel)) rfl
theorem se_Mod_sumOf : Cond.selects m_Mod_sumOf.1.cls m_Mod_sumOf.1 m_Mod_sumOf.1 ∈ lw_g := lw_g_in (List.mem_append_left _ (List.mem_of_getElem? (i := 85) (by decide +kernel))) rfl
def m_Mod_day : sh_M := (⟨"StolenHolidaysModel", "day", "(II)I"⟩, prog_14_method_64_code, 3, some .int)
theorem mo_Mod_day : sh_MO m_Mod_day 2 := ⟨⟨by decide +kernel, by decide +kernel, by decide +kernel⟩, tb_in tb_7 (List.mem_of_getElem? (i := 24) (by decide +kernel)) rfl, by decide, tb_in tb_1 (List.mem_of_getElem? (i := 13) (by decide +kernel)) rfl⟩
theorem im_Mod_day : Cond.instanceMethod m_Mod_day.1 ∈ lw_g := tb_in tb_7 (List.mem_of_getElem? (i := 22) (by decide +kernel)) rfl
theorem se_Mod_day : Cond.selects m_Mod_day.1.cls m_Mod_day.1 m_Mod_day.1 ∈ lw_g := tb_in tb_7 (List.mem_of_getElem? (i := 23) (by decide +kernel)) rfl
def m_Mod_thief : sh_M := (⟨"StolenHolidaysModel", "thief", "(II)I"⟩, prog_14_method_65_code, 3, some .int)
theorem mo_Mod_thief : sh_MO m_Mod_thief 2 := ⟨⟨by decide +kernel, by decide +kernel, by decide +kernel⟩, tb_in tb_7 (List.mem_of_getElem? (i := 32) (by decide +kernel)) rfl, by decide, tb_in tb_1 (List.mem_of_getElem? (i := 13) (by decide +kernel)) rfl⟩
theorem im_Mod_thief : Cond.instanceMethod m_Mod_thief.1 ∈ lw_g := tb_in tb_7 (List.mem_of_getElem? (i := 30) (by decide +kernel)) rfl
theorem se_Mod_thief : Cond.selects m_Mod_thief.1.cls m_Mod_thief.1 m_Mod_thief.1 ∈ lw_g := tb_in tb_7 (List.mem_of_getElem? (i := 31) (by decide +kernel)) rfl
def m_Mod_keepsIt : sh_M := (⟨"StolenHolidaysModel", "keepsIt", "()V"⟩, prog_14_method_66_code, 2, none)
theorem mo_Mod_keepsIt : sh_MO m_Mod_keepsIt 0 := ⟨⟨by decide +kernel, by decide +kernel, by decide +kernel⟩, tb_in tb_7 (List.mem_of_getElem? (i := 56) (by decide +kernel)) rfl, by decide, tb_in tb_1 (List.mem_of_getElem? (i := 13) (by decide +kernel)) rfl⟩
theorem im_Mod_keepsIt : Cond.instanceMethod m_Mod_keepsIt.1 ∈ lw_g := tb_in tb_7 (List.mem_of_getElem? (i := 55) (by decide +kernel)) rfl
theorem se_Mod_keepsIt : Cond.selects m_Mod_keepsIt.1.cls m_Mod_keepsIt.1 m_Mod_keepsIt.1 ∈ lw_g := lw_g_in (List.mem_append_left _ (List.mem_of_getElem? (i := 65) (by decide +kernel))) rfl
def m_Mod_steal : sh_M := (⟨"StolenHolidaysModel", "steal", "(II)I"⟩, prog_14_method_67_code, 3, some .int)
theorem mo_Mod_steal : sh_MO m_Mod_steal 2 := ⟨⟨by decide +kernel, by decide +kernel, by decide +kernel⟩, tb_in tb_7 (List.mem_of_getElem? (i := 40) (by decide +kernel)) rfl, by decide, tb_in tb_1 (List.mem_of_getElem? (i := 13) (by decide +kernel)) rfl⟩
theorem im_Mod_steal : Cond.instanceMethod m_Mod_steal.1 ∈ lw_g := tb_in tb_7 (List.mem_of_getElem? (i := 38) (by decide +kernel)) rfl
theorem se_Mod_steal : Cond.selects m_Mod_steal.1.cls m_Mod_steal.1 m_Mod_steal.1 ∈ lw_g := tb_in tb_7 (List.mem_of_getElem? (i := 39) (by decide +kernel)) rfl
def m_Mod_sell : sh_M := (⟨"StolenHolidaysModel", "sell", "(I)I"⟩, prog_14_method_68_code, 2, some .int)
theorem mo_Mod_sell : sh_MO m_Mod_sell 1 := ⟨⟨by decide +kernel, by decide +kernel, by decide +kernel⟩, tb_in tb_7 (List.mem_of_getElem? (i := 76) (by decide +kernel)) rfl, by decide, tb_in tb_1 (List.mem_of_getElem? (i := 13) (by decide +kernel)) rfl⟩
theorem im_Mod_sell : Cond.instanceMethod m_Mod_sell.1 ∈ lw_g := tb_in tb_7 (List.mem_of_getElem? (i := 74) (by decide +kernel)) rfl
theorem se_Mod_sell : Cond.selects m_Mod_sell.1.cls m_Mod_sell.1 m_Mod_sell.1 ∈ lw_g := tb_in tb_7 (List.mem_of_getElem? (i := 75) (by decide +kernel)) rfl
def m_Mod_spend : sh_M := (⟨"StolenHolidaysModel", "spend", "(I)I"⟩, prog_14_method_69_code, 2, some .int)
theorem mo_Mod_spend : sh_MO m_Mod_spend 1 := ⟨⟨by decide +kernel, by decide +kernel, by decide +kernel⟩, tb_in tb_7 (List.mem_of_getElem? (i := 115) (by decide +kernel)) rfl, by decide, tb_in tb_1 (List.mem_of_getElem? (i := 13) (by decide +kernel)) rfl⟩
theorem im_Mod_spend : Cond.instanceMethod m_Mod_spend.1 ∈ lw_g := tb_in tb_7 (List.mem_of_getElem? (i := 113) (by decide +kernel)) rfl
theorem se_Mod_spend : Cond.selects m_Mod_spend.1.cls m_Mod_spend.1 m_Mod_spend.1 ∈ lw_g := tb_in tb_7 (List.mem_of_getElem? (i := 114) (by decide +kernel)) rfl
def m_Mod_swap : sh_M := (⟨"StolenHolidaysModel", "swap", "(II)Z"⟩, prog_14_method_70_code, 3, some .boolean)
theorem mo_Mod_swap : sh_MO m_Mod_swap 2 := ⟨⟨by decide +kernel, by decide +kernel, by decide +kernel⟩, tb_in tb_7 (List.mem_of_getElem? (i := 128) (by decide +kernel)) rfl, by decide, tb_in tb_1 (List.mem_of_getElem? (i := 13) (by decide +kernel)) rfl⟩
theorem im_Mod_swap : Cond.instanceMethod m_Mod_swap.1 ∈ lw_g := tb_in tb_7 (List.mem_of_getElem? (i := 126) (by decide +kernel)) rfl
theorem se_Mod_swap : Cond.selects m_Mod_swap.1.cls m_Mod_swap.1 m_Mod_swap.1 ∈ lw_g := tb_in tb_7 (List.mem_of_getElem? (i := 127) (by decide +kernel)) rfl
def m_Mod_night : sh_M := (⟨"StolenHolidaysModel", "night", "()I"⟩, prog_14_method_71_code, 1, some .int)
theorem mo_Mod_night : sh_MO m_Mod_night 0 := ⟨⟨by decide +kernel, by decide +kernel, by decide +kernel⟩, tb_in tb_7 (List.mem_of_getElem? (i := 136) (by decide +kernel)) rfl, by decide, tb_in tb_1 (List.mem_of_getElem? (i := 13) (by decide +kernel)) rfl⟩
theorem im_Mod_night : Cond.instanceMethod m_Mod_night.1 ∈ lw_g := tb_in tb_7 (List.mem_of_getElem? (i := 134) (by decide +kernel)) rfl
theorem se_Mod_night : Cond.selects m_Mod_night.1.cls m_Mod_night.1 m_Mod_night.1 ∈ lw_g := tb_in tb_7 (List.mem_of_getElem? (i := 135) (by decide +kernel)) rfl
def m_Mod_undo : sh_M := (⟨"StolenHolidaysModel", "undo", "()Z"⟩, prog_14_method_72_code, 1, some .boolean)
theorem mo_Mod_undo : sh_MO m_Mod_undo 0 := ⟨⟨by decide +kernel, by decide +kernel, by decide +kernel⟩, tb_in tb_7 (List.mem_of_getElem? (i := 152) (by decide +kernel)) rfl, by decide, tb_in tb_1 (List.mem_of_getElem? (i := 13) (by decide +kernel)) rfl⟩
theorem im_Mod_undo : Cond.instanceMethod m_Mod_undo.1 ∈ lw_g := tb_in tb_7 (List.mem_of_getElem? (i := 150) (by decide +kernel)) rfl
theorem se_Mod_undo : Cond.selects m_Mod_undo.1.cls m_Mod_undo.1 m_Mod_undo.1 ∈ lw_g := tb_in tb_7 (List.mem_of_getElem? (i := 151) (by decide +kernel)) rfl
def m_Mod_isDone : sh_M := (⟨"StolenHolidaysModel", "isDone", "(I)Z"⟩, prog_14_method_73_code, 5, some .boolean)
theorem mo_Mod_isDone : sh_MO m_Mod_isDone 1 := ⟨⟨by decide +kernel, by decide +kernel, by decide +kernel⟩, tb_in tb_7 (List.mem_of_getElem? (i := 160) (by decide +kernel)) rfl, by decide, tb_in tb_1 (List.mem_of_getElem? (i := 13) (by decide +kernel)) rfl⟩
theorem im_Mod_isDone : Cond.instanceMethod m_Mod_isDone.1 ∈ lw_g := tb_in tb_7 (List.mem_of_getElem? (i := 159) (by decide +kernel)) rfl
theorem se_Mod_isDone : Cond.selects m_Mod_isDone.1.cls m_Mod_isDone.1 m_Mod_isDone.1 ∈ lw_g := lw_g_in (List.mem_append_left _ (List.mem_of_getElem? (i := 83) (by decide +kernel))) rfl
def m_Mod_judged : sh_M := (⟨"StolenHolidaysModel", "judged", "(I)I"⟩, prog_14_method_74_code, 5, some .int)
theorem mo_Mod_judged : sh_MO m_Mod_judged 1 := ⟨⟨by decide +kernel, by decide +kernel, by decide +kernel⟩, tb_in tb_7 (List.mem_of_getElem? (i := 156) (by decide +kernel)) rfl, by decide, tb_in tb_1 (List.mem_of_getElem? (i := 13) (by decide +kernel)) rfl⟩
theorem im_Mod_judged : Cond.instanceMethod m_Mod_judged.1 ∈ lw_g := tb_in tb_7 (List.mem_of_getElem? (i := 154) (by decide +kernel)) rfl
theorem se_Mod_judged : Cond.selects m_Mod_judged.1.cls m_Mod_judged.1 m_Mod_judged.1 ∈ lw_g := tb_in tb_7 (List.mem_of_getElem? (i := 155) (by decide +kernel)) rfl
def m_Mod_canOf : sh_M := (⟨"StolenHolidaysModel", "canOf", "(I)I"⟩, prog_14_method_75_code, 4, some .int)
theorem mo_Mod_canOf : sh_MO m_Mod_canOf 1 := ⟨⟨by decide +kernel, by decide +kernel, by decide +kernel⟩, tb_in tb_7 (List.mem_of_getElem? (i := 176) (by decide +kernel)) rfl, by decide, tb_in tb_1 (List.mem_of_getElem? (i := 13) (by decide +kernel)) rfl⟩
theorem im_Mod_canOf : Cond.instanceMethod m_Mod_canOf.1 ∈ lw_g := tb_in tb_7 (List.mem_of_getElem? (i := 175) (by decide +kernel)) rfl
theorem se_Mod_canOf : Cond.selects m_Mod_canOf.1.cls m_Mod_canOf.1 m_Mod_canOf.1 ∈ lw_g := lw_g_in (List.mem_append_left _ (List.mem_of_getElem? (i := 86) (by decide +kernel))) rfl
def m_Mod_can : sh_M := (⟨"StolenHolidaysModel", "can", "(I)I"⟩, prog_14_method_76_code, 2, some .int)
theorem mo_Mod_can : sh_MO m_Mod_can 1 := ⟨⟨by decide +kernel, by decide +kernel, by decide +kernel⟩, tb_in tb_7 (List.mem_of_getElem? (i := 172) (by decide +kernel)) rfl, by decide, tb_in tb_1 (List.mem_of_getElem? (i := 13) (by decide +kernel)) rfl⟩
theorem im_Mod_can : Cond.instanceMethod m_Mod_can.1 ∈ lw_g := tb_in tb_7 (List.mem_of_getElem? (i := 170) (by decide +kernel)) rfl
theorem se_Mod_can : Cond.selects m_Mod_can.1.cls m_Mod_can.1 m_Mod_can.1 ∈ lw_g := tb_in tb_7 (List.mem_of_getElem? (i := 171) (by decide +kernel)) rfl
def m_Mod_haul : sh_M := (⟨"StolenHolidaysModel", "haul", "(II)I"⟩, prog_14_method_77_code, 3, some .int)
theorem mo_Mod_haul : sh_MO m_Mod_haul 2 := ⟨⟨by decide +kernel, by decide +kernel, by decide +kernel⟩, tb_in tb_7 (List.mem_of_getElem? (i := 180) (by decide +kernel)) rfl, by decide, tb_in tb_1 (List.mem_of_getElem? (i := 13) (by decide +kernel)) rfl⟩
theorem im_Mod_haul : Cond.instanceMethod m_Mod_haul.1 ∈ lw_g := tb_in tb_7 (List.mem_of_getElem? (i := 178) (by decide +kernel)) rfl
theorem se_Mod_haul : Cond.selects m_Mod_haul.1.cls m_Mod_haul.1 m_Mod_haul.1 ∈ lw_g := tb_in tb_7 (List.mem_of_getElem? (i := 179) (by decide +kernel)) rfl
def m_Mod_price : sh_M := (⟨"StolenHolidaysModel", "price", "(I)I"⟩, prog_14_method_78_code, 2, some .int)
theorem mo_Mod_price : sh_MO m_Mod_price 1 := ⟨⟨by decide +kernel, by decide +kernel, by decide +kernel⟩, tb_in tb_7 (List.mem_of_getElem? (i := 184) (by decide +kernel)) rfl, by decide, tb_in tb_1 (List.mem_of_getElem? (i := 13) (by decide +kernel)) rfl⟩
theorem im_Mod_price : Cond.instanceMethod m_Mod_price.1 ∈ lw_g := tb_in tb_7 (List.mem_of_getElem? (i := 182) (by decide +kernel)) rfl
theorem se_Mod_price : Cond.selects m_Mod_price.1.cls m_Mod_price.1 m_Mod_price.1 ∈ lw_g := tb_in tb_7 (List.mem_of_getElem? (i := 183) (by decide +kernel)) rfl
def m_Mod_all : sh_M := (⟨"StolenHolidaysModel", "all", "()I"⟩, prog_14_method_79_code, 1, some .int)
theorem mo_Mod_all : sh_MO m_Mod_all 0 := ⟨⟨by decide +kernel, by decide +kernel, by decide +kernel⟩, tb_in tb_7 (List.mem_of_getElem? (i := 188) (by decide +kernel)) rfl, by decide, tb_in tb_1 (List.mem_of_getElem? (i := 13) (by decide +kernel)) rfl⟩
theorem im_Mod_all : Cond.instanceMethod m_Mod_all.1 ∈ lw_g := tb_in tb_7 (List.mem_of_getElem? (i := 186) (by decide +kernel)) rfl
theorem se_Mod_all : Cond.selects m_Mod_all.1.cls m_Mod_all.1 m_Mod_all.1 ∈ lw_g := tb_in tb_7 (List.mem_of_getElem? (i := 187) (by decide +kernel)) rfl
def m_Mod_mostAt : sh_M := (⟨"StolenHolidaysModel", "mostAt", "(I)I"⟩, prog_14_method_80_code, 4, some .int)
theorem mo_Mod_mostAt : sh_MO m_Mod_mostAt 1 := ⟨⟨by decide +kernel, by decide +kernel, by decide +kernel⟩, tb_in tb_7 (List.mem_of_getElem? (i := 196) (by decide +kernel)) rfl, by decide, tb_in tb_1 (List.mem_of_getElem? (i := 13) (by decide +kernel)) rfl⟩
theorem im_Mod_mostAt : Cond.instanceMethod m_Mod_mostAt.1 ∈ lw_g := tb_in tb_7 (List.mem_of_getElem? (i := 195) (by decide +kernel)) rfl
theorem se_Mod_mostAt : Cond.selects m_Mod_mostAt.1.cls m_Mod_mostAt.1 m_Mod_mostAt.1 ∈ lw_g := lw_g_in (List.mem_append_left _ (List.mem_of_getElem? (i := 87) (by decide +kernel))) rfl
def m_Mod_rich : sh_M := (⟨"StolenHolidaysModel", "rich", "()I"⟩, prog_14_method_81_code, 1, some .int)
theorem mo_Mod_rich : sh_MO m_Mod_rich 0 := ⟨⟨by decide +kernel, by decide +kernel, by decide +kernel⟩, tb_in tb_7 (List.mem_of_getElem? (i := 192) (by decide +kernel)) rfl, by decide, tb_in tb_1 (List.mem_of_getElem? (i := 13) (by decide +kernel)) rfl⟩
theorem im_Mod_rich : Cond.instanceMethod m_Mod_rich.1 ∈ lw_g := tb_in tb_7 (List.mem_of_getElem? (i := 190) (by decide +kernel)) rfl
theorem se_Mod_rich : Cond.selects m_Mod_rich.1.cls m_Mod_rich.1 m_Mod_rich.1 ∈ lw_g := tb_in tb_7 (List.mem_of_getElem? (i := 191) (by decide +kernel)) rfl
def m_Mod_guilty : sh_M := (⟨"StolenHolidaysModel", "guilty", "()I"⟩, prog_14_method_82_code, 1, some .int)
theorem mo_Mod_guilty : sh_MO m_Mod_guilty 0 := ⟨⟨by decide +kernel, by decide +kernel, by decide +kernel⟩, tb_in tb_7 (List.mem_of_getElem? (i := 200) (by decide +kernel)) rfl, by decide, tb_in tb_1 (List.mem_of_getElem? (i := 13) (by decide +kernel)) rfl⟩
theorem im_Mod_guilty : Cond.instanceMethod m_Mod_guilty.1 ∈ lw_g := tb_in tb_7 (List.mem_of_getElem? (i := 198) (by decide +kernel)) rfl
theorem se_Mod_guilty : Cond.selects m_Mod_guilty.1.cls m_Mod_guilty.1 m_Mod_guilty.1 ∈ lw_g := tb_in tb_7 (List.mem_of_getElem? (i := 199) (by decide +kernel)) rfl
def m_Mod_laterAt : sh_M := (⟨"StolenHolidaysModel", "laterAt", "(II)I"⟩, prog_14_method_83_code, 4, some .int)
theorem mo_Mod_laterAt : sh_MO m_Mod_laterAt 2 := ⟨⟨by decide +kernel, by decide +kernel, by decide +kernel⟩, tb_in tb_7 (List.mem_of_getElem? (i := 208) (by decide +kernel)) rfl, by decide, tb_in tb_1 (List.mem_of_getElem? (i := 13) (by decide +kernel)) rfl⟩
theorem im_Mod_laterAt : Cond.instanceMethod m_Mod_laterAt.1 ∈ lw_g := tb_in tb_7 (List.mem_of_getElem? (i := 207) (by decide +kernel)) rfl
theorem se_Mod_laterAt : Cond.selects m_Mod_laterAt.1.cls m_Mod_laterAt.1 m_Mod_laterAt.1 ∈ lw_g := lw_g_in (List.mem_append_left _ (List.mem_of_getElem? (i := 88) (by decide +kernel))) rfl
def m_Mod_later : sh_M := (⟨"StolenHolidaysModel", "later", "(II)I"⟩, prog_14_method_84_code, 3, some .int)
theorem mo_Mod_later : sh_MO m_Mod_later 2 := ⟨⟨by decide +kernel, by decide +kernel, by decide +kernel⟩, tb_in tb_7 (List.mem_of_getElem? (i := 204) (by decide +kernel)) rfl, by decide, tb_in tb_1 (List.mem_of_getElem? (i := 13) (by decide +kernel)) rfl⟩
theorem im_Mod_later : Cond.instanceMethod m_Mod_later.1 ∈ lw_g := tb_in tb_7 (List.mem_of_getElem? (i := 202) (by decide +kernel)) rfl
theorem se_Mod_later : Cond.selects m_Mod_later.1.cls m_Mod_later.1 m_Mod_later.1 ∈ lw_g := tb_in tb_7 (List.mem_of_getElem? (i := 203) (by decide +kernel)) rfl
def m_Mod_guards : sh_M := (⟨"StolenHolidaysModel", "guards", "(II)I"⟩, prog_14_method_85_code, 3, some .int)
theorem mo_Mod_guards : sh_MO m_Mod_guards 2 := ⟨⟨by decide +kernel, by decide +kernel, by decide +kernel⟩, tb_in tb_7 (List.mem_of_getElem? (i := 212) (by decide +kernel)) rfl, by decide, tb_in tb_1 (List.mem_of_getElem? (i := 13) (by decide +kernel)) rfl⟩
theorem im_Mod_guards : Cond.instanceMethod m_Mod_guards.1 ∈ lw_g := tb_in tb_7 (List.mem_of_getElem? (i := 210) (by decide +kernel)) rfl
theorem se_Mod_guards : Cond.selects m_Mod_guards.1.cls m_Mod_guards.1 m_Mod_guards.1 ∈ lw_g := tb_in tb_7 (List.mem_of_getElem? (i := 211) (by decide +kernel)) rfl
def m_Mod_keeps : sh_M := (⟨"StolenHolidaysModel", "keeps", "(II)I"⟩, prog_14_method_86_code, 3, some .int)
theorem mo_Mod_keeps : sh_MO m_Mod_keeps 2 := ⟨⟨by decide +kernel, by decide +kernel, by decide +kernel⟩, tb_in tb_7 (List.mem_of_getElem? (i := 216) (by decide +kernel)) rfl, by decide, tb_in tb_1 (List.mem_of_getElem? (i := 13) (by decide +kernel)) rfl⟩
theorem im_Mod_keeps : Cond.instanceMethod m_Mod_keeps.1 ∈ lw_g := tb_in tb_7 (List.mem_of_getElem? (i := 214) (by decide +kernel)) rfl
theorem se_Mod_keeps : Cond.selects m_Mod_keeps.1.cls m_Mod_keeps.1 m_Mod_keeps.1 ∈ lw_g := tb_in tb_7 (List.mem_of_getElem? (i := 215) (by decide +kernel)) rfl
def m_Mod_freed : sh_M := (⟨"StolenHolidaysModel", "freed", "(I)I"⟩, prog_14_method_87_code, 2, some .int)
theorem mo_Mod_freed : sh_MO m_Mod_freed 1 := ⟨⟨by decide +kernel, by decide +kernel, by decide +kernel⟩, tb_in tb_7 (List.mem_of_getElem? (i := 220) (by decide +kernel)) rfl, by decide, tb_in tb_1 (List.mem_of_getElem? (i := 13) (by decide +kernel)) rfl⟩
theorem im_Mod_freed : Cond.instanceMethod m_Mod_freed.1 ∈ lw_g := tb_in tb_7 (List.mem_of_getElem? (i := 218) (by decide +kernel)) rfl
theorem se_Mod_freed : Cond.selects m_Mod_freed.1.cls m_Mod_freed.1 m_Mod_freed.1 ∈ lw_g := tb_in tb_7 (List.mem_of_getElem? (i := 219) (by decide +kernel)) rfl
def m_Mod_opens : sh_M := (⟨"StolenHolidaysModel", "opens", "(II)I"⟩, prog_14_method_88_code, 4, some .int)
theorem mo_Mod_opens : sh_MO m_Mod_opens 2 := ⟨⟨by decide +kernel, by decide +kernel, by decide +kernel⟩, tb_in tb_7 (List.mem_of_getElem? (i := 224) (by decide +kernel)) rfl, by decide, tb_in tb_1 (List.mem_of_getElem? (i := 13) (by decide +kernel)) rfl⟩
theorem im_Mod_opens : Cond.instanceMethod m_Mod_opens.1 ∈ lw_g := tb_in tb_7 (List.mem_of_getElem? (i := 222) (by decide +kernel)) rfl
theorem se_Mod_opens : Cond.selects m_Mod_opens.1.cls m_Mod_opens.1 m_Mod_opens.1 ∈ lw_g := tb_in tb_7 (List.mem_of_getElem? (i := 223) (by decide +kernel)) rfl
def m_Mod_areWhole : sh_M := (⟨"StolenHolidaysModel", "areWhole", "()Z"⟩, prog_14_method_89_code, 2, some .boolean)
theorem mo_Mod_areWhole : sh_MO m_Mod_areWhole 0 := ⟨⟨by decide +kernel, by decide +kernel, by decide +kernel⟩, tb_in tb_7 (List.mem_of_getElem? (i := 232) (by decide +kernel)) rfl, by decide, tb_in tb_1 (List.mem_of_getElem? (i := 13) (by decide +kernel)) rfl⟩
theorem im_Mod_areWhole : Cond.instanceMethod m_Mod_areWhole.1 ∈ lw_g := tb_in tb_7 (List.mem_of_getElem? (i := 231) (by decide +kernel)) rfl
theorem se_Mod_areWhole : Cond.selects m_Mod_areWhole.1.cls m_Mod_areWhole.1 m_Mod_areWhole.1 ∈ lw_g := lw_g_in (List.mem_append_left _ (List.mem_of_getElem? (i := 89) (by decide +kernel))) rfl
def m_Mod_whole : sh_M := (⟨"StolenHolidaysModel", "whole", "()I"⟩, prog_14_method_90_code, 2, some .int)
theorem mo_Mod_whole : sh_MO m_Mod_whole 0 := ⟨⟨by decide +kernel, by decide +kernel, by decide +kernel⟩, tb_in tb_7 (List.mem_of_getElem? (i := 228) (by decide +kernel)) rfl, by decide, tb_in tb_1 (List.mem_of_getElem? (i := 13) (by decide +kernel)) rfl⟩
theorem im_Mod_whole : Cond.instanceMethod m_Mod_whole.1 ∈ lw_g := tb_in tb_7 (List.mem_of_getElem? (i := 226) (by decide +kernel)) rfl
theorem se_Mod_whole : Cond.selects m_Mod_whole.1.cls m_Mod_whole.1 m_Mod_whole.1 ∈ lw_g := tb_in tb_7 (List.mem_of_getElem? (i := 227) (by decide +kernel)) rfl
def m_Mod_waitFor : sh_M := (⟨"StolenHolidaysModel", "waitFor", "(IZ)I"⟩, prog_14_method_91_code, 6, some .int)
theorem mo_Mod_waitFor : sh_MO m_Mod_waitFor 2 := ⟨⟨by decide +kernel, by decide +kernel, by decide +kernel⟩, tb_in tb_8 (List.mem_of_getElem? (i := 0) (by decide +kernel)) rfl, by decide, tb_in tb_1 (List.mem_of_getElem? (i := 13) (by decide +kernel)) rfl⟩
theorem im_Mod_waitFor : Cond.instanceMethod m_Mod_waitFor.1 ∈ lw_g := tb_in tb_7 (List.mem_of_getElem? (i := 239) (by decide +kernel)) rfl
theorem se_Mod_waitFor : Cond.selects m_Mod_waitFor.1.cls m_Mod_waitFor.1 m_Mod_waitFor.1 ∈ lw_g := lw_g_in (List.mem_append_left _ (List.mem_of_getElem? (i := 90) (by decide +kernel))) rfl
def m_Mod_waits : sh_M := (⟨"StolenHolidaysModel", "waits", "(II)I"⟩, prog_14_method_92_code, 4, some .int)
theorem mo_Mod_waits : sh_MO m_Mod_waits 2 := ⟨⟨by decide +kernel, by decide +kernel, by decide +kernel⟩, tb_in tb_7 (List.mem_of_getElem? (i := 236) (by decide +kernel)) rfl, by decide, tb_in tb_1 (List.mem_of_getElem? (i := 13) (by decide +kernel)) rfl⟩
theorem im_Mod_waits : Cond.instanceMethod m_Mod_waits.1 ∈ lw_g := tb_in tb_7 (List.mem_of_getElem? (i := 234) (by decide +kernel)) rfl
theorem se_Mod_waits : Cond.selects m_Mod_waits.1.cls m_Mod_waits.1 m_Mod_waits.1 ∈ lw_g := tb_in tb_7 (List.mem_of_getElem? (i := 235) (by decide +kernel)) rfl
def m_Mod_glads : sh_M := (⟨"StolenHolidaysModel", "glads", "(II)I"⟩, prog_14_method_93_code, 4, some .int)
theorem mo_Mod_glads : sh_MO m_Mod_glads 2 := ⟨⟨by decide +kernel, by decide +kernel, by decide +kernel⟩, tb_in tb_8 (List.mem_of_getElem? (i := 4) (by decide +kernel)) rfl, by decide, tb_in tb_1 (List.mem_of_getElem? (i := 13) (by decide +kernel)) rfl⟩
theorem im_Mod_glads : Cond.instanceMethod m_Mod_glads.1 ∈ lw_g := tb_in tb_8 (List.mem_of_getElem? (i := 2) (by decide +kernel)) rfl
theorem se_Mod_glads : Cond.selects m_Mod_glads.1.cls m_Mod_glads.1 m_Mod_glads.1 ∈ lw_g := tb_in tb_8 (List.mem_of_getElem? (i := 3) (by decide +kernel)) rfl
def m_Mod_slack : sh_M := (⟨"StolenHolidaysModel", "slack", "(I)I"⟩, prog_14_method_94_code, 4, some .int)
theorem mo_Mod_slack : sh_MO m_Mod_slack 1 := ⟨⟨by decide +kernel, by decide +kernel, by decide +kernel⟩, tb_in tb_8 (List.mem_of_getElem? (i := 8) (by decide +kernel)) rfl, by decide, tb_in tb_1 (List.mem_of_getElem? (i := 13) (by decide +kernel)) rfl⟩
theorem im_Mod_slack : Cond.instanceMethod m_Mod_slack.1 ∈ lw_g := tb_in tb_8 (List.mem_of_getElem? (i := 6) (by decide +kernel)) rfl
theorem se_Mod_slack : Cond.selects m_Mod_slack.1.cls m_Mod_slack.1 m_Mod_slack.1 ∈ lw_g := tb_in tb_8 (List.mem_of_getElem? (i := 7) (by decide +kernel)) rfl
def m_Mod_goesOut : sh_M := (⟨"StolenHolidaysModel", "goesOut", "(III)V"⟩, prog_14_method_95_code, 6, none)
theorem mo_Mod_goesOut : sh_MO m_Mod_goesOut 3 := ⟨⟨by decide +kernel, by decide +kernel, by decide +kernel⟩, tb_in tb_8 (List.mem_of_getElem? (i := 16) (by decide +kernel)) rfl, by decide, tb_in tb_1 (List.mem_of_getElem? (i := 13) (by decide +kernel)) rfl⟩
theorem im_Mod_goesOut : Cond.instanceMethod m_Mod_goesOut.1 ∈ lw_g := tb_in tb_8 (List.mem_of_getElem? (i := 15) (by decide +kernel)) rfl
theorem se_Mod_goesOut : Cond.selects m_Mod_goesOut.1.cls m_Mod_goesOut.1 m_Mod_goesOut.1 ∈ lw_g := lw_g_in (List.mem_append_left _ (List.mem_of_getElem? (i := 91) (by decide +kernel))) rfl
def m_Mod_gang : sh_M := (⟨"StolenHolidaysModel", "gang", "(I)I"⟩, prog_14_method_96_code, 2, some .int)
theorem mo_Mod_gang : sh_MO m_Mod_gang 1 := ⟨⟨by decide +kernel, by decide +kernel, by decide +kernel⟩, tb_in tb_8 (List.mem_of_getElem? (i := 12) (by decide +kernel)) rfl, by decide, tb_in tb_1 (List.mem_of_getElem? (i := 13) (by decide +kernel)) rfl⟩
theorem im_Mod_gang : Cond.instanceMethod m_Mod_gang.1 ∈ lw_g := tb_in tb_8 (List.mem_of_getElem? (i := 10) (by decide +kernel)) rfl
theorem se_Mod_gang : Cond.selects m_Mod_gang.1.cls m_Mod_gang.1 m_Mod_gang.1 ∈ lw_g := tb_in tb_8 (List.mem_of_getElem? (i := 11) (by decide +kernel)) rfl
def m_Mod_cover : sh_M := (⟨"StolenHolidaysModel", "cover", "()I"⟩, prog_14_method_97_code, 4, some .int)
theorem mo_Mod_cover : sh_MO m_Mod_cover 0 := ⟨⟨by decide +kernel, by decide +kernel, by decide +kernel⟩, tb_in tb_8 (List.mem_of_getElem? (i := 20) (by decide +kernel)) rfl, by decide, tb_in tb_1 (List.mem_of_getElem? (i := 13) (by decide +kernel)) rfl⟩
theorem im_Mod_cover : Cond.instanceMethod m_Mod_cover.1 ∈ lw_g := tb_in tb_8 (List.mem_of_getElem? (i := 18) (by decide +kernel)) rfl
theorem se_Mod_cover : Cond.selects m_Mod_cover.1.cls m_Mod_cover.1 m_Mod_cover.1 ∈ lw_g := tb_in tb_8 (List.mem_of_getElem? (i := 19) (by decide +kernel)) rfl
def m_Mod_mostBut : sh_M := (⟨"StolenHolidaysModel", "mostBut", "(I)I"⟩, prog_14_method_98_code, 5, some .int)
theorem mo_Mod_mostBut : sh_MO m_Mod_mostBut 1 := ⟨⟨by decide +kernel, by decide +kernel, by decide +kernel⟩, tb_in tb_8 (List.mem_of_getElem? (i := 28) (by decide +kernel)) rfl, by decide, tb_in tb_1 (List.mem_of_getElem? (i := 13) (by decide +kernel)) rfl⟩
theorem im_Mod_mostBut : Cond.instanceMethod m_Mod_mostBut.1 ∈ lw_g := tb_in tb_8 (List.mem_of_getElem? (i := 27) (by decide +kernel)) rfl
theorem se_Mod_mostBut : Cond.selects m_Mod_mostBut.1.cls m_Mod_mostBut.1 m_Mod_mostBut.1 ∈ lw_g := lw_g_in (List.mem_append_left _ (List.mem_of_getElem? (i := 92) (by decide +kernel))) rfl
def m_Mod_watch : sh_M := (⟨"StolenHolidaysModel", "watch", "()I"⟩, prog_14_method_99_code, 5, some .int)
theorem mo_Mod_watch : sh_MO m_Mod_watch 0 := ⟨⟨by decide +kernel, by decide +kernel, by decide +kernel⟩, tb_in tb_8 (List.mem_of_getElem? (i := 24) (by decide +kernel)) rfl, by decide, tb_in tb_1 (List.mem_of_getElem? (i := 13) (by decide +kernel)) rfl⟩
theorem im_Mod_watch : Cond.instanceMethod m_Mod_watch.1 ∈ lw_g := tb_in tb_8 (List.mem_of_getElem? (i := 22) (by decide +kernel)) rfl
theorem se_Mod_watch : Cond.selects m_Mod_watch.1.cls m_Mod_watch.1 m_Mod_watch.1 ∈ lw_g := tb_in tb_8 (List.mem_of_getElem? (i := 23) (by decide +kernel)) rfl
def m_Mod_spreeOf : sh_M := (⟨"StolenHolidaysModel", "spreeOf", "(II)I"⟩, prog_14_method_100_code, 8, some .int)
theorem mo_Mod_spreeOf : sh_MO m_Mod_spreeOf 2 := ⟨⟨by decide +kernel, by decide +kernel, by decide +kernel⟩, tb_in tb_8 (List.mem_of_getElem? (i := 36) (by decide +kernel)) rfl, by decide, tb_in tb_1 (List.mem_of_getElem? (i := 13) (by decide +kernel)) rfl⟩
theorem im_Mod_spreeOf : Cond.instanceMethod m_Mod_spreeOf.1 ∈ lw_g := tb_in tb_8 (List.mem_of_getElem? (i := 35) (by decide +kernel)) rfl
theorem se_Mod_spreeOf : Cond.selects m_Mod_spreeOf.1.cls m_Mod_spreeOf.1 m_Mod_spreeOf.1 ∈ lw_g := lw_g_in (List.mem_append_left _ (List.mem_of_getElem? (i := 93) (by decide +kernel))) rfl
def m_Mod_spree : sh_M := (⟨"StolenHolidaysModel", "spree", "(III)I"⟩, prog_14_method_101_code, 5, some .int)
theorem mo_Mod_spree : sh_MO m_Mod_spree 3 := ⟨⟨by decide +kernel, by decide +kernel, by decide +kernel⟩, tb_in tb_8 (List.mem_of_getElem? (i := 32) (by decide +kernel)) rfl, by decide, tb_in tb_1 (List.mem_of_getElem? (i := 13) (by decide +kernel)) rfl⟩
theorem im_Mod_spree : Cond.instanceMethod m_Mod_spree.1 ∈ lw_g := tb_in tb_8 (List.mem_of_getElem? (i := 30) (by decide +kernel)) rfl
theorem se_Mod_spree : Cond.selects m_Mod_spree.1.cls m_Mod_spree.1 m_Mod_spree.1 ∈ lw_g := tb_in tb_8 (List.mem_of_getElem? (i := 31) (by decide +kernel)) rfl
def m_Mod_laysOpen : sh_M := (⟨"StolenHolidaysModel", "laysOpen", "()V"⟩, prog_14_method_102_code, 5, none)
theorem mo_Mod_laysOpen : sh_MO m_Mod_laysOpen 0 := ⟨⟨by decide +kernel, by decide +kernel, by decide +kernel⟩, tb_in tb_8 (List.mem_of_getElem? (i := 48) (by decide +kernel)) rfl, by decide, tb_in tb_1 (List.mem_of_getElem? (i := 13) (by decide +kernel)) rfl⟩
theorem im_Mod_laysOpen : Cond.instanceMethod m_Mod_laysOpen.1 ∈ lw_g := tb_in tb_8 (List.mem_of_getElem? (i := 47) (by decide +kernel)) rfl
theorem se_Mod_laysOpen : Cond.selects m_Mod_laysOpen.1.cls m_Mod_laysOpen.1 m_Mod_laysOpen.1 ∈ lw_g := lw_g_in (List.mem_append_left _ (List.mem_of_getElem? (i := 94) (by decide +kernel))) rfl
def m_Mod_see : sh_M := (⟨"StolenHolidaysModel", "see", "(IIZ)Z"⟩, prog_14_method_103_code, 4, some .boolean)
theorem mo_Mod_see : sh_MO m_Mod_see 3 := ⟨⟨by decide +kernel, by decide +kernel, by decide +kernel⟩, tb_in tb_8 (List.mem_of_getElem? (i := 40) (by decide +kernel)) rfl, by decide, tb_in tb_1 (List.mem_of_getElem? (i := 13) (by decide +kernel)) rfl⟩
theorem im_Mod_see : Cond.instanceMethod m_Mod_see.1 ∈ lw_g := tb_in tb_8 (List.mem_of_getElem? (i := 38) (by decide +kernel)) rfl
theorem se_Mod_see : Cond.selects m_Mod_see.1.cls m_Mod_see.1 m_Mod_see.1 ∈ lw_g := tb_in tb_8 (List.mem_of_getElem? (i := 39) (by decide +kernel)) rfl
def m_Mod_isAsSeen : sh_M := (⟨"StolenHolidaysModel", "isAsSeen", "(I)Z"⟩, prog_14_method_104_code, 3, some .boolean)
theorem mo_Mod_isAsSeen : sh_MO m_Mod_isAsSeen 1 := ⟨⟨by decide +kernel, by decide +kernel, by decide +kernel⟩, tb_in tb_8 (List.mem_of_getElem? (i := 52) (by decide +kernel)) rfl, by decide, tb_in tb_1 (List.mem_of_getElem? (i := 13) (by decide +kernel)) rfl⟩
theorem im_Mod_isAsSeen : Cond.instanceMethod m_Mod_isAsSeen.1 ∈ lw_g := tb_in tb_8 (List.mem_of_getElem? (i := 51) (by decide +kernel)) rfl
theorem se_Mod_isAsSeen : Cond.selects m_Mod_isAsSeen.1.cls m_Mod_isAsSeen.1 m_Mod_isAsSeen.1 ∈ lw_g := lw_g_in (List.mem_append_left _ (List.mem_of_getElem? (i := 95) (by decide +kernel))) rfl
def m_Mod_who : sh_M := (⟨"StolenHolidaysModel", "who", "()I"⟩, prog_14_method_105_code, 3, some .int)
theorem mo_Mod_who : sh_MO m_Mod_who 0 := ⟨⟨by decide +kernel, by decide +kernel, by decide +kernel⟩, tb_in tb_8 (List.mem_of_getElem? (i := 44) (by decide +kernel)) rfl, by decide, tb_in tb_1 (List.mem_of_getElem? (i := 13) (by decide +kernel)) rfl⟩
theorem im_Mod_who : Cond.instanceMethod m_Mod_who.1 ∈ lw_g := tb_in tb_8 (List.mem_of_getElem? (i := 42) (by decide +kernel)) rfl
theorem se_Mod_who : Cond.selects m_Mod_who.1.cls m_Mod_who.1 m_Mod_who.1 ∈ lw_g := tb_in tb_8 (List.mem_of_getElem? (i := 43) (by decide +kernel)) rfl
def m_Mod_ask : sh_M := (⟨"StolenHolidaysModel", "ask", "()I"⟩, prog_14_method_106_code, 9, some .int)
theorem mo_Mod_ask : sh_MO m_Mod_ask 0 := ⟨⟨by decide +kernel, by decide +kernel, by decide +kernel⟩, tb_in tb_8 (List.mem_of_getElem? (i := 56) (by decide +kernel)) rfl, by decide, tb_in tb_1 (List.mem_of_getElem? (i := 13) (by decide +kernel)) rfl⟩
theorem im_Mod_ask : Cond.instanceMethod m_Mod_ask.1 ∈ lw_g := tb_in tb_8 (List.mem_of_getElem? (i := 54) (by decide +kernel)) rfl
theorem se_Mod_ask : Cond.selects m_Mod_ask.1.cls m_Mod_ask.1 m_Mod_ask.1 ∈ lw_g := tb_in tb_8 (List.mem_of_getElem? (i := 55) (by decide +kernel)) rfl
def m_Mod_chance : sh_M := (⟨"StolenHolidaysModel", "chance", "(IIII)I"⟩, prog_14_method_107_code, 15, some .int)
theorem mo_Mod_chance : sh_MO m_Mod_chance 4 := ⟨⟨by decide +kernel, by decide +kernel, by decide +kernel⟩, tb_in tb_8 (List.mem_of_getElem? (i := 64) (by decide +kernel)) rfl, by decide, tb_in tb_1 (List.mem_of_getElem? (i := 13) (by decide +kernel)) rfl⟩
theorem im_Mod_chance : Cond.instanceMethod m_Mod_chance.1 ∈ lw_g := tb_in tb_8 (List.mem_of_getElem? (i := 62) (by decide +kernel)) rfl
theorem se_Mod_chance : Cond.selects m_Mod_chance.1.cls m_Mod_chance.1 m_Mod_chance.1 ∈ lw_g := tb_in tb_8 (List.mem_of_getElem? (i := 63) (by decide +kernel)) rfl
def m_Mod_getsBy : sh_M := (⟨"StolenHolidaysModel", "getsBy", "(IIIII)I"⟩, prog_14_method_108_code, 5, some .int)
theorem mo_Mod_getsBy : sh_MO m_Mod_getsBy 5 := ⟨⟨by decide +kernel, by decide +kernel, by decide +kernel⟩, tb_in tb_8 (List.mem_of_getElem? (i := 73) (by decide +kernel)) rfl, by decide, tb_in tb_1 (List.mem_of_getElem? (i := 13) (by decide +kernel)) rfl⟩
theorem sa_Mod_getsBy : Cond.static m_Mod_getsBy.1 ∈ lw_g := tb_in tb_8 (List.mem_of_getElem? (i := 72) (by decide +kernel)) rfl
def m_Mod_rests : sh_M := (⟨"StolenHolidaysModel", "rests", "(IIII)I"⟩, prog_14_method_109_code, 9, some .int)
theorem mo_Mod_rests : sh_MO m_Mod_rests 4 := ⟨⟨by decide +kernel, by decide +kernel, by decide +kernel⟩, tb_in tb_8 (List.mem_of_getElem? (i := 70) (by decide +kernel)) rfl, by decide, tb_in tb_1 (List.mem_of_getElem? (i := 13) (by decide +kernel)) rfl⟩
theorem im_Mod_rests : Cond.instanceMethod m_Mod_rests.1 ∈ lw_g := tb_in tb_8 (List.mem_of_getElem? (i := 68) (by decide +kernel)) rfl
theorem se_Mod_rests : Cond.selects m_Mod_rests.1.cls m_Mod_rests.1 m_Mod_rests.1 ∈ lw_g := tb_in tb_8 (List.mem_of_getElem? (i := 69) (by decide +kernel)) rfl
def m_Mod_draws : sh_M := (⟨"StolenHolidaysModel", "draws", "(I)I"⟩, prog_14_method_110_code, 2, some .int)
theorem mo_Mod_draws : sh_MO m_Mod_draws 1 := ⟨⟨by decide +kernel, by decide +kernel, by decide +kernel⟩, tb_in tb_8 (List.mem_of_getElem? (i := 85) (by decide +kernel)) rfl, by decide, tb_in tb_1 (List.mem_of_getElem? (i := 13) (by decide +kernel)) rfl⟩
theorem im_Mod_draws : Cond.instanceMethod m_Mod_draws.1 ∈ lw_g := tb_in tb_8 (List.mem_of_getElem? (i := 84) (by decide +kernel)) rfl
theorem se_Mod_draws : Cond.selects m_Mod_draws.1.cls m_Mod_draws.1 m_Mod_draws.1 ∈ lw_g := lw_g_in (List.mem_append_left _ (List.mem_of_getElem? (i := 97) (by decide +kernel))) rfl
def m_Mod_lives : sh_M := (⟨"StolenHolidaysModel", "lives", "()I"⟩, prog_14_method_111_code, 5, some .int)
theorem mo_Mod_lives : sh_MO m_Mod_lives 0 := ⟨⟨by decide +kernel, by decide +kernel, by decide +kernel⟩, tb_in tb_8 (List.mem_of_getElem? (i := 81) (by decide +kernel)) rfl, by decide, tb_in tb_1 (List.mem_of_getElem? (i := 13) (by decide +kernel)) rfl⟩
theorem im_Mod_lives : Cond.instanceMethod m_Mod_lives.1 ∈ lw_g := tb_in tb_8 (List.mem_of_getElem? (i := 80) (by decide +kernel)) rfl
theorem se_Mod_lives : Cond.selects m_Mod_lives.1.cls m_Mod_lives.1 m_Mod_lives.1 ∈ lw_g := lw_g_in (List.mem_append_left _ (List.mem_of_getElem? (i := 96) (by decide +kernel))) rfl
def m_Mod_years : sh_M := (⟨"StolenHolidaysModel", "years", "(III)I"⟩, prog_14_method_112_code, 7, some .int)
theorem mo_Mod_years : sh_MO m_Mod_years 3 := ⟨⟨by decide +kernel, by decide +kernel, by decide +kernel⟩, tb_in tb_8 (List.mem_of_getElem? (i := 77) (by decide +kernel)) rfl, by decide, tb_in tb_1 (List.mem_of_getElem? (i := 13) (by decide +kernel)) rfl⟩
theorem im_Mod_years : Cond.instanceMethod m_Mod_years.1 ∈ lw_g := tb_in tb_8 (List.mem_of_getElem? (i := 75) (by decide +kernel)) rfl
theorem se_Mod_years : Cond.selects m_Mod_years.1.cls m_Mod_years.1 m_Mod_years.1 ∈ lw_g := tb_in tb_8 (List.mem_of_getElem? (i := 76) (by decide +kernel)) rfl
def m_Mod_mark : sh_M := (⟨"StolenHolidaysModel", "mark", "(IZ)Z"⟩, prog_14_method_113_code, 5, some .boolean)
theorem mo_Mod_mark : sh_MO m_Mod_mark 2 := ⟨⟨by decide +kernel, by decide +kernel, by decide +kernel⟩, tb_in tb_8 (List.mem_of_getElem? (i := 93) (by decide +kernel)) rfl, by decide, tb_in tb_1 (List.mem_of_getElem? (i := 13) (by decide +kernel)) rfl⟩
theorem im_Mod_mark : Cond.instanceMethod m_Mod_mark.1 ∈ lw_g := tb_in tb_8 (List.mem_of_getElem? (i := 91) (by decide +kernel)) rfl
theorem se_Mod_mark : Cond.selects m_Mod_mark.1.cls m_Mod_mark.1 m_Mod_mark.1 ∈ lw_g := tb_in tb_8 (List.mem_of_getElem? (i := 92) (by decide +kernel)) rfl
def m_Mod_count : sh_M := (⟨"StolenHolidaysModel", "count", "(I)I"⟩, prog_14_method_114_code, 2, some .int)
theorem mo_Mod_count : sh_MO m_Mod_count 1 := ⟨⟨by decide +kernel, by decide +kernel, by decide +kernel⟩, tb_in tb_8 (List.mem_of_getElem? (i := 101) (by decide +kernel)) rfl, by decide, tb_in tb_1 (List.mem_of_getElem? (i := 13) (by decide +kernel)) rfl⟩
theorem im_Mod_count : Cond.instanceMethod m_Mod_count.1 ∈ lw_g := tb_in tb_8 (List.mem_of_getElem? (i := 99) (by decide +kernel)) rfl
theorem se_Mod_count : Cond.selects m_Mod_count.1.cls m_Mod_count.1 m_Mod_count.1 ∈ lw_g := tb_in tb_8 (List.mem_of_getElem? (i := 100) (by decide +kernel)) rfl
def m_Math_max : sh_M := (⟨"java/lang/Math", "max", "(II)I"⟩, prog_21_method_65_code, 2, some .int)
theorem mo_Math_max : sh_MO m_Math_max 2 := ⟨⟨by decide +kernel, by decide +kernel, by decide +kernel⟩, tb_in tb_2 (List.mem_of_getElem? (i := 215) (by decide +kernel)) rfl, by decide, tb_in tb_1 (List.mem_of_getElem? (i := 16) (by decide +kernel)) rfl⟩
theorem sa_Math_max : Cond.static m_Math_max.1 ∈ lw_g := tb_in tb_2 (List.mem_of_getElem? (i := 214) (by decide +kernel)) rfl
def m_Math_min : sh_M := (⟨"java/lang/Math", "min", "(II)I"⟩, prog_21_method_69_code, 2, some .int)
theorem mo_Math_min : sh_MO m_Math_min 2 := ⟨⟨by decide +kernel, by decide +kernel, by decide +kernel⟩, tb_in tb_2 (List.mem_of_getElem? (i := 218) (by decide +kernel)) rfl, by decide, tb_in tb_1 (List.mem_of_getElem? (i := 16) (by decide +kernel)) rfl⟩
theorem sa_Math_min : Cond.static m_Math_min.1 ∈ lw_g := tb_in tb_2 (List.mem_of_getElem? (i := 217) (by decide +kernel)) rfl
def m_Int_bitCount : sh_M := (⟨"java/lang/Integer", "bitCount", "(I)I"⟩, prog_20_method_49_code, 1, some .int)
theorem mo_Int_bitCount : sh_MO m_Int_bitCount 1 := ⟨⟨by decide +kernel, by decide +kernel, by decide +kernel⟩, tb_in tb_5 (List.mem_of_getElem? (i := 12) (by decide +kernel)) rfl, by decide, tb_in tb_1 (List.mem_of_getElem? (i := 21) (by decide +kernel)) rfl⟩
theorem sa_Int_bitCount : Cond.static m_Int_bitCount.1 ∈ lw_g := tb_in tb_5 (List.mem_of_getElem? (i := 11) (by decide +kernel)) rfl
def m_Str_length : sh_M := (⟨"java/lang/String", "length", "()I"⟩, prog_23_method_54_code, 1, some .int)
theorem mo_Str_length : sh_MO m_Str_length 0 := ⟨⟨by decide +kernel, by decide +kernel, by decide +kernel⟩, tb_in tb_2 (List.mem_of_getElem? (i := 202) (by decide +kernel)) rfl, by decide, tb_in tb_1 (List.mem_of_getElem? (i := 14) (by decide +kernel)) rfl⟩
theorem im_Str_length : Cond.instanceMethod m_Str_length.1 ∈ lw_g := tb_in tb_2 (List.mem_of_getElem? (i := 200) (by decide +kernel)) rfl
theorem se_Str_length : Cond.selects m_Str_length.1.cls m_Str_length.1 m_Str_length.1 ∈ lw_g := tb_in tb_2 (List.mem_of_getElem? (i := 201) (by decide +kernel)) rfl
def m_Str_charAt : sh_M := (⟨"java/lang/String", "charAt", "(I)C"⟩, prog_23_method_56_code, 2, some .char)
theorem mo_Str_charAt : sh_MO m_Str_charAt 1 := ⟨⟨by decide +kernel, by decide +kernel, by decide +kernel⟩, tb_in tb_3 (List.mem_of_getElem? (i := 40) (by decide +kernel)) rfl, by decide, tb_in tb_1 (List.mem_of_getElem? (i := 14) (by decide +kernel)) rfl⟩
theorem im_Str_charAt : Cond.instanceMethod m_Str_charAt.1 ∈ lw_g := tb_in tb_3 (List.mem_of_getElem? (i := 38) (by decide +kernel)) rfl
theorem se_Str_charAt : Cond.selects m_Str_charAt.1.cls m_Str_charAt.1 m_Str_charAt.1 ∈ lw_g := tb_in tb_3 (List.mem_of_getElem? (i := 39) (by decide +kernel)) rfl
def m_Str_indexOf : sh_M := (⟨"java/lang/String", "indexOf", "(I)I"⟩, prog_23_method_79_code, 2, some .int)
theorem mo_Str_indexOf : sh_MO m_Str_indexOf 1 := ⟨⟨by decide +kernel, by decide +kernel, by decide +kernel⟩, tb_in tb_2 (List.mem_of_getElem? (i := 188) (by decide +kernel)) rfl, by decide, tb_in tb_1 (List.mem_of_getElem? (i := 14) (by decide +kernel)) rfl⟩
theorem im_Str_indexOf : Cond.instanceMethod m_Str_indexOf.1 ∈ lw_g := tb_in tb_2 (List.mem_of_getElem? (i := 186) (by decide +kernel)) rfl
theorem se_Str_indexOf : Cond.selects m_Str_indexOf.1.cls m_Str_indexOf.1 m_Str_indexOf.1 ∈ lw_g := tb_in tb_2 (List.mem_of_getElem? (i := 187) (by decide +kernel)) rfl
def m_Str_indexOf2 : sh_M := (⟨"java/lang/String", "indexOf", "(II)I"⟩, prog_23_method_80_code, 3, some .int)
theorem mo_Str_indexOf2 : sh_MO m_Str_indexOf2 2 := ⟨⟨by decide +kernel, by decide +kernel, by decide +kernel⟩, tb_in tb_2 (List.mem_of_getElem? (i := 192) (by decide +kernel)) rfl, by decide, tb_in tb_1 (List.mem_of_getElem? (i := 14) (by decide +kernel)) rfl⟩
theorem im_Str_indexOf2 : Cond.instanceMethod m_Str_indexOf2.1 ∈ lw_g := tb_in tb_2 (List.mem_of_getElem? (i := 190) (by decide +kernel)) rfl
theorem se_Str_indexOf2 : Cond.selects m_Str_indexOf2.1.cls m_Str_indexOf2.1 m_Str_indexOf2.1 ∈ lw_g := tb_in tb_2 (List.mem_of_getElem? (i := 191) (by decide +kernel)) rfl
def m_Str_coder : sh_M := (⟨"java/lang/String", "coder", "()B"⟩, prog_23_method_152_code, 1, some .byte)
theorem mo_Str_coder : sh_MO m_Str_coder 0 := ⟨⟨by decide +kernel, by decide +kernel, by decide +kernel⟩, tb_in tb_2 (List.mem_of_getElem? (i := 206) (by decide +kernel)) rfl, by decide, tb_in tb_1 (List.mem_of_getElem? (i := 14) (by decide +kernel)) rfl⟩
theorem im_Str_coder : Cond.instanceMethod m_Str_coder.1 ∈ lw_g := tb_in tb_2 (List.mem_of_getElem? (i := 204) (by decide +kernel)) rfl
theorem se_Str_coder : Cond.selects m_Str_coder.1.cls m_Str_coder.1 m_Str_coder.1 ∈ lw_g := tb_in tb_2 (List.mem_of_getElem? (i := 205) (by decide +kernel)) rfl
def m_Str_isLatin1 : sh_M := (⟨"java/lang/String", "isLatin1", "()Z"⟩, prog_23_method_154_code, 1, some .boolean)
theorem mo_Str_isLatin1 : sh_MO m_Str_isLatin1 0 := ⟨⟨by decide +kernel, by decide +kernel, by decide +kernel⟩, tb_in tb_2 (List.mem_of_getElem? (i := 196) (by decide +kernel)) rfl, by decide, tb_in tb_1 (List.mem_of_getElem? (i := 14) (by decide +kernel)) rfl⟩
theorem im_Str_isLatin1 : Cond.instanceMethod m_Str_isLatin1.1 ∈ lw_g := tb_in tb_2 (List.mem_of_getElem? (i := 194) (by decide +kernel)) rfl
theorem se_Str_isLatin1 : Cond.selects m_Str_isLatin1.1.cls m_Str_isLatin1.1 m_Str_isLatin1.1 ∈ lw_g := tb_in tb_2 (List.mem_of_getElem? (i := 195) (by decide +kernel)) rfl
def m_Lat_charAt : sh_M := (⟨"java/lang/StringLatin1", "charAt", "([BI)C"⟩, prog_24_method_2_code, 2, some .char)
theorem mo_Lat_charAt : sh_MO m_Lat_charAt 2 := ⟨⟨by decide +kernel, by decide +kernel, by decide +kernel⟩, tb_in tb_3 (List.mem_of_getElem? (i := 43) (by decide +kernel)) rfl, by decide, tb_in tb_1 (List.mem_of_getElem? (i := 15) (by decide +kernel)) rfl⟩
theorem sa_Lat_charAt : Cond.static m_Lat_charAt.1 ∈ lw_g := tb_in tb_3 (List.mem_of_getElem? (i := 42) (by decide +kernel)) rfl
def m_Lat_canEncode : sh_M := (⟨"java/lang/StringLatin1", "canEncode", "(I)Z"⟩, prog_24_method_4_code, 1, some .boolean)
theorem mo_Lat_canEncode : sh_MO m_Lat_canEncode 1 := ⟨⟨by decide +kernel, by decide +kernel, by decide +kernel⟩, tb_in tb_2 (List.mem_of_getElem? (i := 212) (by decide +kernel)) rfl, by decide, tb_in tb_1 (List.mem_of_getElem? (i := 15) (by decide +kernel)) rfl⟩
theorem sa_Lat_canEncode : Cond.static m_Lat_canEncode.1 ∈ lw_g := tb_in tb_2 (List.mem_of_getElem? (i := 211) (by decide +kernel)) rfl
theorem ml_Sto_90 : Cond.methodLink "StolenHolidays" 90 m_Tape_put.1 ∈ lw_g := tb_in tb_2 (List.mem_of_getElem? (i := 135) (by decide +kernel)) rfl
theorem ml_Sto_98 : Cond.methodLink "StolenHolidays" 98 m_Read_readAlmanac.1 ∈ lw_g := tb_in tb_2 (List.mem_of_getElem? (i := 143) (by decide +kernel)) rfl
theorem ml_Sto_102 : Cond.methodLink "StolenHolidays" 102 m_State_begin.1 ∈ lw_g := tb_in tb_3 (List.mem_of_getElem? (i := 120) (by decide +kernel)) rfl
theorem ml_Sto_106 : Cond.methodLink "StolenHolidays" 106 m_Past_clear.1 ∈ lw_g := tb_in tb_3 (List.mem_of_getElem? (i := 124) (by decide +kernel)) rfl
theorem ml_Sto_109 : Cond.methodLink "StolenHolidays" 109 m_Seen_clear.1 ∈ lw_g := tb_in tb_3 (List.mem_of_getElem? (i := 128) (by decide +kernel)) rfl
theorem ml_Sto_117 : Cond.methodLink "StolenHolidays" 117 m_Read_readYear.1 ∈ lw_g := tb_in tb_3 (List.mem_of_getElem? (i := 136) (by decide +kernel)) rfl
theorem ml_Sto_121 : Cond.methodLink "StolenHolidays" 121 m_Sto_isDay.1 ∈ lw_g := tb_in tb_3 (List.mem_of_getElem? (i := 160) (by decide +kernel)) rfl
theorem ml_Sto_138 : Cond.methodLink "StolenHolidays" 138 m_Sto_isThief.1 ∈ lw_g := tb_in tb_3 (List.mem_of_getElem? (i := 168) (by decide +kernel)) rfl
theorem ml_Sto_147 : Cond.methodLink "StolenHolidays" 147 m_State_hasPiece.1 ∈ lw_g := tb_in tb_3 (List.mem_of_getElem? (i := 172) (by decide +kernel)) rfl
theorem ml_Sto_150 : Cond.methodLink "StolenHolidays" 150 m_State_canTake.1 ∈ lw_g := tb_in tb_3 (List.mem_of_getElem? (i := 180) (by decide +kernel)) rfl
theorem ml_Sto_154 : Cond.methodLink "StolenHolidays" 154 m_Past_keep.1 ∈ lw_g := tb_in tb_3 (List.mem_of_getElem? (i := 189) (by decide +kernel)) rfl
theorem ml_Sto_158 : Cond.methodLink "StolenHolidays" 158 m_State_take.1 ∈ lw_g := tb_in tb_3 (List.mem_of_getElem? (i := 197) (by decide +kernel)) rfl
theorem ml_Sto_162 : Cond.methodLink "StolenHolidays" 162 m_State_canPart.1 ∈ lw_g := tb_in tb_3 (List.mem_of_getElem? (i := 211) (by decide +kernel)) rfl
theorem ml_Sto_165 : Cond.methodLink "StolenHolidays" 165 m_State_cashIn.1 ∈ lw_g := tb_in tb_3 (List.mem_of_getElem? (i := 215) (by decide +kernel)) rfl
theorem ml_Sto_169 : Cond.methodLink "StolenHolidays" 169 m_State_enjoy.1 ∈ lw_g := tb_in tb_4 (List.mem_of_getElem? (i := 10) (by decide +kernel)) rfl
theorem ml_Sto_173 : Cond.methodLink "StolenHolidays" 173 m_State_canTrade.1 ∈ lw_g := tb_in tb_4 (List.mem_of_getElem? (i := 19) (by decide +kernel)) rfl
theorem ml_Sto_176 : Cond.methodLink "StolenHolidays" 176 m_State_trade.1 ∈ lw_g := tb_in tb_4 (List.mem_of_getElem? (i := 24) (by decide +kernel)) rfl
theorem ml_Sto_180 : Cond.methodLink "StolenHolidays" 180 m_State_sleep.1 ∈ lw_g := tb_in tb_4 (List.mem_of_getElem? (i := 36) (by decide +kernel)) rfl
theorem ml_Sto_183 : Cond.methodLink "StolenHolidays" 183 m_State_holders.1 ∈ lw_g := tb_in tb_4 (List.mem_of_getElem? (i := 52) (by decide +kernel)) rfl
theorem ml_Sto_187 : Cond.methodLink "StolenHolidays" 187 m_Past_bringBack.1 ∈ lw_g := tb_in tb_4 (List.mem_of_getElem? (i := 64) (by decide +kernel)) rfl
theorem ml_Sto_191 : Cond.methodLink "StolenHolidays" 191 m_Year_play.1 ∈ lw_g := tb_in tb_4 (List.mem_of_getElem? (i := 72) (by decide +kernel)) rfl
theorem ml_Sto_198 : Cond.methodLink "StolenHolidays" 198 m_State_sumOfThieves.1 ∈ lw_g := tb_in tb_4 (List.mem_of_getElem? (i := 84) (by decide +kernel)) rfl
theorem ml_Sto_204 : Cond.methodLink "StolenHolidays" 204 m_State_bagged.1 ∈ lw_g := tb_in tb_4 (List.mem_of_getElem? (i := 92) (by decide +kernel)) rfl
theorem ml_Sto_207 : Cond.methodLink "StolenHolidays" 207 m_State_paidFor.1 ∈ lw_g := tb_in tb_4 (List.mem_of_getElem? (i := 101) (by decide +kernel)) rfl
theorem ml_Sto_210 : Cond.methodLink "StolenHolidays" 210 m_Sto_firstWithMost.1 ∈ lw_g := tb_in tb_4 (List.mem_of_getElem? (i := 110) (by decide +kernel)) rfl
theorem ml_Sto_213 : Cond.methodLink "StolenHolidays" 213 m_Sto_isWithin.1 ∈ lw_g := tb_in tb_4 (List.mem_of_getElem? (i := 122) (by decide +kernel)) rfl
theorem ml_Sto_217 : Cond.methodLink "StolenHolidays" 217 m_State_leftBehind.1 ∈ lw_g := tb_in tb_4 (List.mem_of_getElem? (i := 123) (by decide +kernel)) rfl
theorem ml_Sto_220 : Cond.methodLink "StolenHolidays" 220 m_State_guardBehind.1 ∈ lw_g := tb_in tb_4 (List.mem_of_getElem? (i := 128) (by decide +kernel)) rfl
theorem ml_Sto_223 : Cond.methodLink "StolenHolidays" 223 m_State_muchBehind.1 ∈ lw_g := tb_in tb_4 (List.mem_of_getElem? (i := 133) (by decide +kernel)) rfl
theorem ml_Sto_227 : Cond.methodLink "StolenHolidays" 227 m_State_isOpenBehind.1 ∈ lw_g := tb_in tb_4 (List.mem_of_getElem? (i := 142) (by decide +kernel)) rfl
theorem ml_Sto_231 : Cond.methodLink "StolenHolidays" 231 m_Math_max.1 ∈ lw_g := tb_in tb_4 (List.mem_of_getElem? (i := 154) (by decide +kernel)) rfl
theorem ml_Sto_236 : Cond.methodLink "StolenHolidays" 236 m_State_paidBehind.1 ∈ lw_g := tb_in tb_4 (List.mem_of_getElem? (i := 159) (by decide +kernel)) rfl
theorem ml_Sto_239 : Cond.methodLink "StolenHolidays" 239 m_State_joyBehind.1 ∈ lw_g := tb_in tb_4 (List.mem_of_getElem? (i := 164) (by decide +kernel)) rfl
theorem ml_Sto_242 : Cond.methodLink "StolenHolidays" 242 m_Gang_search.1 ∈ lw_g := tb_in tb_4 (List.mem_of_getElem? (i := 176) (by decide +kernel)) rfl
theorem ml_Sto_252 : Cond.methodLink "StolenHolidays" 252 m_State_bestReadySkill.1 ∈ lw_g := tb_in tb_4 (List.mem_of_getElem? (i := 190) (by decide +kernel)) rfl
theorem ml_Sto_255 : Cond.methodLink "StolenHolidays" 255 m_Sto_mostWithout.1 ∈ lw_g := tb_in tb_4 (List.mem_of_getElem? (i := 198) (by decide +kernel)) rfl
theorem ml_Sto_258 : Cond.methodLink "StolenHolidays" 258 m_State_isReady.1 ∈ lw_g := tb_in tb_4 (List.mem_of_getElem? (i := 206) (by decide +kernel)) rfl
theorem ml_Sto_261 : Cond.methodLink "StolenHolidays" 261 m_Spr_search.1 ∈ lw_g := tb_in tb_4 (List.mem_of_getElem? (i := 207) (by decide +kernel)) rfl
theorem ml_Sto_268 : Cond.methodLink "StolenHolidays" 268 m_Seen_add.1 ∈ lw_g := tb_in tb_4 (List.mem_of_getElem? (i := 232) (by decide +kernel)) rfl
theorem ml_Sto_275 : Cond.methodLink "StolenHolidays" 275 m_Seen_fits.1 ∈ lw_g := tb_in tb_5 (List.mem_of_getElem? (i := 0) (by decide +kernel)) rfl
theorem ml_Sto_279 : Cond.methodLink "StolenHolidays" 279 m_Sto_who.1 ∈ lw_g := tb_in tb_5 (List.mem_of_getElem? (i := 9) (by decide +kernel)) rfl
theorem ml_Sto_282 : Cond.methodLink "StolenHolidays" 282 m_Int_bitCount.1 ∈ lw_g := tb_in tb_5 (List.mem_of_getElem? (i := 10) (by decide +kernel)) rfl
theorem ml_Sto_287 : Cond.methodLink "StolenHolidays" 287 m_Sto_openTo.1 ∈ lw_g := tb_in tb_5 (List.mem_of_getElem? (i := 16) (by decide +kernel)) rfl
theorem ml_Sto_290 : Cond.methodLink "StolenHolidays" 290 m_State_isFreeBehind.1 ∈ lw_g := tb_in tb_5 (List.mem_of_getElem? (i := 24) (by decide +kernel)) rfl
theorem ml_Sto_294 : Cond.methodLink "StolenHolidays" 294 m_Sto_weightOpen.1 ∈ lw_g := tb_in tb_5 (List.mem_of_getElem? (i := 26) (by decide +kernel)) rfl
theorem ml_Sto_301 : Cond.methodLink "StolenHolidays" 301 m_Sto_isContent.1 ∈ lw_g := tb_in tb_5 (List.mem_of_getElem? (i := 152) (by decide +kernel)) rfl
theorem ml_Sto_305 : Cond.methodLink "StolenHolidays" 305 m_State_copy.1 ∈ lw_g := tb_in tb_5 (List.mem_of_getElem? (i := 35) (by decide +kernel)) rfl
theorem ml_Sto_308 : Cond.methodLink "StolenHolidays" 308 m_Sto_nextDraw.1 ∈ lw_g := tb_in tb_5 (List.mem_of_getElem? (i := 40) (by decide +kernel)) rfl
theorem ml_Sto_311 : Cond.methodLink "StolenHolidays" 311 m_Sto_tryDrawn.1 ∈ lw_g := tb_in tb_5 (List.mem_of_getElem? (i := 45) (by decide +kernel)) rfl
theorem ml_Sto_315 : Cond.methodLink "StolenHolidays" 315 m_State_prisoners.1 ∈ lw_g := tb_in tb_5 (List.mem_of_getElem? (i := 49) (by decide +kernel)) rfl
theorem ml_Sto_318 : Cond.methodLink "StolenHolidays" 318 m_Mark_lay.1 ∈ lw_g := tb_in tb_5 (List.mem_of_getElem? (i := 57) (by decide +kernel)) rfl
theorem ml_Sto_322 : Cond.methodLink "StolenHolidays" 322 m_Mark_goBack.1 ∈ lw_g := tb_in tb_5 (List.mem_of_getElem? (i := 71) (by decide +kernel)) rfl
theorem ml_Sto_325 : Cond.methodLink "StolenHolidays" 325 m_Sto_leftOfAll.1 ∈ lw_g := tb_in tb_5 (List.mem_of_getElem? (i := 79) (by decide +kernel)) rfl
theorem ml_Sto_332 : Cond.methodLink "StolenHolidays" 332 m_State_relaxed.1 ∈ lw_g := tb_in tb_5 (List.mem_of_getElem? (i := 29) (by decide +kernel)) rfl
theorem ml_Sto_335 : Cond.methodLink "StolenHolidays" 335 m_Math_min.1 ∈ lw_g := tb_in tb_5 (List.mem_of_getElem? (i := 30) (by decide +kernel)) rfl
theorem ml_Sto_338 : Cond.methodLink "StolenHolidays" 338 m_Sto_gain.1 ∈ lw_g := tb_in tb_5 (List.mem_of_getElem? (i := 155) (by decide +kernel)) rfl
theorem ml_Alm_52 : Cond.methodLink "StolenHolidays$Almanac" 52 m_Law_clear.1 ∈ lw_g := tb_in tb_2 (List.mem_of_getElem? (i := 151) (by decide +kernel)) rfl
theorem ml_Alm_55 : Cond.methodLink "StolenHolidays$Almanac" 55 m_Law_put.1 ∈ lw_g := tb_in tb_2 (List.mem_of_getElem? (i := 155) (by decide +kernel)) rfl
theorem ml_Gang_22 : Cond.methodLink "StolenHolidays$Gang" 22 m_Gang_send.1 ∈ lw_g := tb_in tb_4 (List.mem_of_getElem? (i := 180) (by decide +kernel)) rfl
theorem ml_Gang_31 : Cond.methodLink "StolenHolidays$Gang" 31 arraycopyName ∈ lw_g := tb_in tb_4 (List.mem_of_getElem? (i := 184) (by decide +kernel)) rfl
theorem ml_Gang_40 : Cond.methodLink "StolenHolidays$Gang" 40 m_State_bagged.1 ∈ lw_g := tb_in tb_4 (List.mem_of_getElem? (i := 185) (by decide +kernel)) rfl
theorem ml_Law_22 : Cond.methodLink "StolenHolidays$Law" 22 m_Law_fact.1 ∈ lw_g := tb_in tb_3 (List.mem_of_getElem? (i := 238) (by decide +kernel)) rfl
theorem ml_Law_26 : Cond.methodLink "StolenHolidays$Law" 26 m_Law_join.1 ∈ lw_g := tb_in tb_4 (List.mem_of_getElem? (i := 1) (by decide +kernel)) rfl
theorem ml_Law_30 : Cond.methodLink "StolenHolidays$Law" 30 m_Math_min.1 ∈ lw_g := tb_in tb_4 (List.mem_of_getElem? (i := 4) (by decide +kernel)) rfl
theorem ml_Law_36 : Cond.methodLink "StolenHolidays$Law" 36 m_Math_max.1 ∈ lw_g := tb_in tb_4 (List.mem_of_getElem? (i := 5) (by decide +kernel)) rfl
theorem ml_Mark_34 : Cond.methodLink "StolenHolidays$Mark" 34 m_State_copy.1 ∈ lw_g := tb_in tb_5 (List.mem_of_getElem? (i := 61) (by decide +kernel)) rfl
theorem ml_Mark_38 : Cond.methodLink "StolenHolidays$Mark" 38 m_Year_copy.1 ∈ lw_g := tb_in tb_5 (List.mem_of_getElem? (i := 62) (by decide +kernel)) rfl
theorem ml_Mark_41 : Cond.methodLink "StolenHolidays$Mark" 41 m_Seen_copy.1 ∈ lw_g := tb_in tb_5 (List.mem_of_getElem? (i := 67) (by decide +kernel)) rfl
theorem ml_Past_27 : Cond.methodLink "StolenHolidays$Past" 27 arraycopyName ∈ lw_g := tb_in tb_3 (List.mem_of_getElem? (i := 193) (by decide +kernel)) rfl
theorem ml_Past_33 : Cond.methodLink "StolenHolidays$Past" 33 m_Math_min.1 ∈ lw_g := tb_in tb_3 (List.mem_of_getElem? (i := 196) (by decide +kernel)) rfl
theorem ml_Read_15 : Cond.methodLink "StolenHolidays$Reader" 15 m_Alm_clear.1 ∈ lw_g := tb_in tb_2 (List.mem_of_getElem? (i := 147) (by decide +kernel)) rfl
theorem ml_Read_24 : Cond.methodLink "StolenHolidays$Reader" 24 m_Tape_rewind.1 ∈ lw_g := tb_in tb_2 (List.mem_of_getElem? (i := 159) (by decide +kernel)) rfl
theorem ml_Read_35 : Cond.methodLink "StolenHolidays$Reader" 35 m_Read_readDay.1 ∈ lw_g := tb_in tb_3 (List.mem_of_getElem? (i := 58) (by decide +kernel)) rfl
theorem ml_Read_39 : Cond.methodLink "StolenHolidays$Reader" 39 m_Read_readThief.1 ∈ lw_g := tb_in tb_3 (List.mem_of_getElem? (i := 94) (by decide +kernel)) rfl
theorem ml_Read_42 : Cond.methodLink "StolenHolidays$Reader" 42 m_Read_readPays.1 ∈ lw_g := tb_in tb_3 (List.mem_of_getElem? (i := 98) (by decide +kernel)) rfl
theorem ml_Read_45 : Cond.methodLink "StolenHolidays$Reader" 45 m_Read_refuse.1 ∈ lw_g := tb_in tb_3 (List.mem_of_getElem? (i := 62) (by decide +kernel)) rfl
theorem ml_Read_49 : Cond.methodLink "StolenHolidays$Reader" 49 m_Tape_clear.1 ∈ lw_g := tb_in tb_3 (List.mem_of_getElem? (i := 116) (by decide +kernel)) rfl
theorem ml_Read_55 : Cond.methodLink "StolenHolidays$Reader" 55 m_Read_readLine.1 ∈ lw_g := tb_in tb_3 (List.mem_of_getElem? (i := 140) (by decide +kernel)) rfl
theorem ml_Read_62 : Cond.methodLink "StolenHolidays$Reader" 62 m_Tape_step.1 ∈ lw_g := tb_in tb_3 (List.mem_of_getElem? (i := 66) (by decide +kernel)) rfl
theorem ml_Read_65 : Cond.methodLink "StolenHolidays$Reader" 65 m_Read_isNewName.1 ∈ lw_g := tb_in tb_3 (List.mem_of_getElem? (i := 67) (by decide +kernel)) rfl
theorem ml_Read_84 : Cond.methodLink "StolenHolidays$Reader" 84 m_Read_takeNumber.1 ∈ lw_g := tb_in tb_3 (List.mem_of_getElem? (i := 86) (by decide +kernel)) rfl
theorem ml_Read_96 : Cond.methodLink "StolenHolidays$Reader" 96 m_Read_takeSign.1 ∈ lw_g := tb_in tb_3 (List.mem_of_getElem? (i := 90) (by decide +kernel)) rfl
theorem ml_Read_119 : Cond.methodLink "StolenHolidays$Reader" 119 m_Law_clear.1 ∈ lw_g := tb_in tb_3 (List.mem_of_getElem? (i := 102) (by decide +kernel)) rfl
theorem ml_Read_122 : Cond.methodLink "StolenHolidays$Reader" 122 m_Read_readJoined.1 ∈ lw_g := tb_in tb_3 (List.mem_of_getElem? (i := 103) (by decide +kernel)) rfl
theorem ml_Read_126 : Cond.methodLink "StolenHolidays$Reader" 126 m_Read_readPart.1 ∈ lw_g := tb_in tb_3 (List.mem_of_getElem? (i := 107) (by decide +kernel)) rfl
theorem ml_Read_130 : Cond.methodLink "StolenHolidays$Reader" 130 m_Read_operationTold.1 ∈ lw_g := tb_in tb_3 (List.mem_of_getElem? (i := 112) (by decide +kernel)) rfl
theorem ml_Read_134 : Cond.methodLink "StolenHolidays$Reader" 134 m_Law_put.1 ∈ lw_g := tb_in tb_3 (List.mem_of_getElem? (i := 111) (by decide +kernel)) rfl
theorem ml_Read_144 : Cond.methodLink "StolenHolidays$Reader" 144 m_Read_takeThief.1 ∈ lw_g := tb_in tb_3 (List.mem_of_getElem? (i := 144) (by decide +kernel)) rfl
theorem ml_Read_148 : Cond.methodLink "StolenHolidays$Reader" 148 m_Read_takeDay.1 ∈ lw_g := tb_in tb_3 (List.mem_of_getElem? (i := 148) (by decide +kernel)) rfl
theorem ml_Read_151 : Cond.methodLink "StolenHolidays$Reader" 151 m_Year_add.1 ∈ lw_g := tb_in tb_3 (List.mem_of_getElem? (i := 152) (by decide +kernel)) rfl
theorem ml_Read_155 : Cond.methodLink "StolenHolidays$Reader" 155 m_Tape_isName.1 ∈ lw_g := tb_in tb_3 (List.mem_of_getElem? (i := 71) (by decide +kernel)) rfl
theorem ml_Read_159 : Cond.methodLink "StolenHolidays$Reader" 159 m_Alm_thiefNamed.1 ∈ lw_g := tb_in tb_3 (List.mem_of_getElem? (i := 79) (by decide +kernel)) rfl
theorem ml_Read_163 : Cond.methodLink "StolenHolidays$Reader" 163 m_Alm_dayNamed.1 ∈ lw_g := tb_in tb_3 (List.mem_of_getElem? (i := 75) (by decide +kernel)) rfl
theorem ml_Seen_26 : Cond.methodLink "StolenHolidays$Seen" 26 m_State_isOpenBehind.1 ∈ lw_g := tb_in tb_5 (List.mem_of_getElem? (i := 4) (by decide +kernel)) rfl
theorem ml_Spr_50 : Cond.methodLink "StolenHolidays$Spree" 50 m_Spr_go.1 ∈ lw_g := tb_in tb_4 (List.mem_of_getElem? (i := 211) (by decide +kernel)) rfl
theorem ml_Spr_54 : Cond.methodLink "StolenHolidays$Spree" 54 m_Spr_hope.1 ∈ lw_g := tb_in tb_4 (List.mem_of_getElem? (i := 215) (by decide +kernel)) rfl
theorem ml_Spr_58 : Cond.methodLink "StolenHolidays$Spree" 58 m_Math_min.1 ∈ lw_g := tb_in tb_4 (List.mem_of_getElem? (i := 220) (by decide +kernel)) rfl
theorem ml_Spr_64 : Cond.methodLink "StolenHolidays$Spree" 64 m_Spr_passNight.1 ∈ lw_g := tb_in tb_4 (List.mem_of_getElem? (i := 221) (by decide +kernel)) rfl
theorem ml_Spr_68 : Cond.methodLink "StolenHolidays$Spree" 68 m_Math_max.1 ∈ lw_g := tb_in tb_4 (List.mem_of_getElem? (i := 219) (by decide +kernel)) rfl
theorem ml_Spr_77 : Cond.methodLink "StolenHolidays$Spree" 77 m_State_relaxed.1 ∈ lw_g := tb_in tb_4 (List.mem_of_getElem? (i := 225) (by decide +kernel)) rfl
theorem ml_State_15 : Cond.methodLink "StolenHolidays$State" 15 arraycopyName ∈ lw_g := tb_in tb_5 (List.mem_of_getElem? (i := 39) (by decide +kernel)) rfl
theorem ml_State_33 : Cond.methodLink "StolenHolidays$State" 33 m_State_hasPiece.1 ∈ lw_g := tb_in tb_3 (List.mem_of_getElem? (i := 188) (by decide +kernel)) rfl
theorem ml_State_37 : Cond.methodLink "StolenHolidays$State" 37 m_State_isReady.1 ∈ lw_g := tb_in tb_3 (List.mem_of_getElem? (i := 184) (by decide +kernel)) rfl
theorem ml_State_40 : Cond.methodLink "StolenHolidays$State" 40 m_State_canPart.1 ∈ lw_g := tb_in tb_4 (List.mem_of_getElem? (i := 23) (by decide +kernel)) rfl
theorem ml_State_43 : Cond.methodLink "StolenHolidays$State" 43 m_State_canTake.1 ∈ lw_g := tb_in tb_3 (List.mem_of_getElem? (i := 205) (by decide +kernel)) rfl
theorem ml_State_53 : Cond.methodLink "StolenHolidays$State" 53 m_Math_min.1 ∈ lw_g := tb_in tb_3 (List.mem_of_getElem? (i := 206) (by decide +kernel)) rfl
theorem ml_State_59 : Cond.methodLink "StolenHolidays$State" 59 m_State_bagged.1 ∈ lw_g := tb_in tb_3 (List.mem_of_getElem? (i := 201) (by decide +kernel)) rfl
theorem ml_State_66 : Cond.methodLink "StolenHolidays$State" 66 m_State_paidFor.1 ∈ lw_g := tb_in tb_3 (List.mem_of_getElem? (i := 219) (by decide +kernel)) rfl
theorem ml_State_70 : Cond.methodLink "StolenHolidays$State" 70 m_Math_max.1 ∈ lw_g := tb_in tb_4 (List.mem_of_getElem? (i := 14) (by decide +kernel)) rfl
theorem ml_State_73 : Cond.methodLink "StolenHolidays$State" 73 m_State_exchange.1 ∈ lw_g := tb_in tb_4 (List.mem_of_getElem? (i := 28) (by decide +kernel)) rfl
theorem ml_State_80 : Cond.methodLink "StolenHolidays$State" 80 m_State_guiltBehind.1 ∈ lw_g := tb_in tb_4 (List.mem_of_getElem? (i := 40) (by decide +kernel)) rfl
theorem ml_State_83 : Cond.methodLink "StolenHolidays$State" 83 m_State_muchBehind.1 ∈ lw_g := tb_in tb_3 (List.mem_of_getElem? (i := 227) (by decide +kernel)) rfl
theorem ml_State_86 : Cond.methodLink "StolenHolidays$State" 86 m_State_leftBehind.1 ∈ lw_g := tb_in tb_4 (List.mem_of_getElem? (i := 44) (by decide +kernel)) rfl
theorem ml_State_89 : Cond.methodLink "StolenHolidays$State" 89 m_State_guardBehind.1 ∈ lw_g := tb_in tb_4 (List.mem_of_getElem? (i := 48) (by decide +kernel)) rfl
theorem ml_State_92 : Cond.methodLink "StolenHolidays$State" 92 m_State_isFreeBehind.1 ∈ lw_g := tb_in tb_4 (List.mem_of_getElem? (i := 146) (by decide +kernel)) rfl
theorem ml_State_95 : Cond.methodLink "StolenHolidays$State" 95 m_State_spoiled.1 ∈ lw_g := tb_in tb_3 (List.mem_of_getElem? (i := 231) (by decide +kernel)) rfl
theorem ml_State_99 : Cond.methodLink "StolenHolidays$State" 99 m_State_paidBehind.1 ∈ lw_g := tb_in tb_3 (List.mem_of_getElem? (i := 223) (by decide +kernel)) rfl
theorem ml_State_106 : Cond.methodLink "StolenHolidays$State" 106 m_Law_priceOf.1 ∈ lw_g := tb_in tb_3 (List.mem_of_getElem? (i := 234) (by decide +kernel)) rfl
theorem ml_State_112 : Cond.methodLink "StolenHolidays$State" 112 m_State_bitsOf.1 ∈ lw_g := tb_in tb_4 (List.mem_of_getElem? (i := 56) (by decide +kernel)) rfl
theorem ml_Tape_22 : Cond.methodLink "StolenHolidays$Tape" 22 m_Tape_step.1 ∈ lw_g := tb_in tb_2 (List.mem_of_getElem? (i := 163) (by decide +kernel)) rfl
theorem ml_Tape_28 : Cond.methodLink "StolenHolidays$Tape" 28 m_Tape_signsWithin.1 ∈ lw_g := tb_in tb_2 (List.mem_of_getElem? (i := 167) (by decide +kernel)) rfl
theorem ml_Tape_32 : Cond.methodLink "StolenHolidays$Tape" 32 m_Tape_readWord.1 ∈ lw_g := tb_in tb_2 (List.mem_of_getElem? (i := 171) (by decide +kernel)) rfl
theorem ml_Tape_36 : Cond.methodLink "StolenHolidays$Tape" 36 m_Tape_readNumber.1 ∈ lw_g := tb_in tb_2 (List.mem_of_getElem? (i := 176) (by decide +kernel)) rfl
theorem ml_Tape_39 : Cond.methodLink "StolenHolidays$Tape" 39 m_Tape_readSign.1 ∈ lw_g := tb_in tb_2 (List.mem_of_getElem? (i := 180) (by decide +kernel)) rfl
theorem ml_Tape_47 : Cond.methodLink "StolenHolidays$Tape" 47 m_Tape_numberAmong.1 ∈ lw_g := tb_in tb_3 (List.mem_of_getElem? (i := 32) (by decide +kernel)) rfl
theorem ml_Tape_70 : Cond.methodLink "StolenHolidays$Tape" 70 m_Str_indexOf.1 ∈ lw_g := tb_in tb_2 (List.mem_of_getElem? (i := 185) (by decide +kernel)) rfl
theorem ml_Tape_76 : Cond.methodLink "StolenHolidays$Tape" 76 m_Str_length.1 ∈ lw_g := tb_in tb_3 (List.mem_of_getElem? (i := 36) (by decide +kernel)) rfl
theorem ml_Tape_79 : Cond.methodLink "StolenHolidays$Tape" 79 m_Str_charAt.1 ∈ lw_g := tb_in tb_3 (List.mem_of_getElem? (i := 37) (by decide +kernel)) rfl
theorem ml_Year_25 : Cond.methodLink "StolenHolidays$Year" 25 arraycopyName ∈ lw_g := tb_in tb_5 (List.mem_of_getElem? (i := 66) (by decide +kernel)) rfl
theorem ml_Year_31 : Cond.methodLink "StolenHolidays$Year" 31 m_State_canTake.1 ∈ lw_g := tb_in tb_4 (List.mem_of_getElem? (i := 76) (by decide +kernel)) rfl
theorem ml_Year_37 : Cond.methodLink "StolenHolidays$Year" 37 m_State_take.1 ∈ lw_g := tb_in tb_4 (List.mem_of_getElem? (i := 77) (by decide +kernel)) rfl
theorem ml_Year_41 : Cond.methodLink "StolenHolidays$Year" 41 m_State_canPart.1 ∈ lw_g := tb_in tb_4 (List.mem_of_getElem? (i := 78) (by decide +kernel)) rfl
theorem ml_Year_45 : Cond.methodLink "StolenHolidays$Year" 45 m_State_cashIn.1 ∈ lw_g := tb_in tb_4 (List.mem_of_getElem? (i := 79) (by decide +kernel)) rfl
theorem ml_Year_49 : Cond.methodLink "StolenHolidays$Year" 49 m_State_enjoy.1 ∈ lw_g := tb_in tb_4 (List.mem_of_getElem? (i := 80) (by decide +kernel)) rfl
theorem ml_Year_53 : Cond.methodLink "StolenHolidays$Year" 53 m_State_canTrade.1 ∈ lw_g := tb_in tb_4 (List.mem_of_getElem? (i := 81) (by decide +kernel)) rfl
theorem ml_Year_56 : Cond.methodLink "StolenHolidays$Year" 56 m_State_trade.1 ∈ lw_g := tb_in tb_4 (List.mem_of_getElem? (i := 82) (by decide +kernel)) rfl
theorem ml_Year_60 : Cond.methodLink "StolenHolidays$Year" 60 m_State_sleep.1 ∈ lw_g := tb_in tb_4 (List.mem_of_getElem? (i := 83) (by decide +kernel)) rfl
theorem ml_Lw_21 : Cond.methodLink "StolenHolidaysLaw" 21 m_Sto_feed.1 ∈ lw_g := tb_in tb_2 (List.mem_of_getElem? (i := 131) (by decide +kernel)) rfl
theorem ml_Lw_25 : Cond.methodLink "StolenHolidaysLaw" 25 m_Mod_feed.1 ∈ lw_g := tb_in tb_6 (List.mem_of_getElem? (i := 110) (by decide +kernel)) rfl
theorem ml_Lw_26 : Cond.methodLink "StolenHolidaysLaw" 26 m_Sto_almanac.1 ∈ lw_g := tb_in tb_2 (List.mem_of_getElem? (i := 139) (by decide +kernel)) rfl
theorem ml_Lw_30 : Cond.methodLink "StolenHolidaysLaw" 30 m_Mod_almanac.1 ∈ lw_g := tb_in tb_6 (List.mem_of_getElem? (i := 115) (by decide +kernel)) rfl
theorem ml_Lw_31 : Cond.methodLink "StolenHolidaysLaw" 31 m_Sto_year.1 ∈ lw_g := tb_in tb_3 (List.mem_of_getElem? (i := 132) (by decide +kernel)) rfl
theorem ml_Lw_34 : Cond.methodLink "StolenHolidaysLaw" 34 m_Mod_year.1 ∈ lw_g := tb_in tb_7 (List.mem_of_getElem? (i := 1) (by decide +kernel)) rfl
theorem ml_Lw_35 : Cond.methodLink "StolenHolidaysLaw" 35 m_Sto_day.1 ∈ lw_g := tb_in tb_3 (List.mem_of_getElem? (i := 156) (by decide +kernel)) rfl
theorem ml_Lw_39 : Cond.methodLink "StolenHolidaysLaw" 39 m_Mod_day.1 ∈ lw_g := tb_in tb_7 (List.mem_of_getElem? (i := 21) (by decide +kernel)) rfl
theorem ml_Lw_40 : Cond.methodLink "StolenHolidaysLaw" 40 m_Sto_thief.1 ∈ lw_g := tb_in tb_3 (List.mem_of_getElem? (i := 164) (by decide +kernel)) rfl
theorem ml_Lw_43 : Cond.methodLink "StolenHolidaysLaw" 43 m_Mod_thief.1 ∈ lw_g := tb_in tb_7 (List.mem_of_getElem? (i := 29) (by decide +kernel)) rfl
theorem ml_Lw_44 : Cond.methodLink "StolenHolidaysLaw" 44 m_Sto_steal.1 ∈ lw_g := tb_in tb_3 (List.mem_of_getElem? (i := 176) (by decide +kernel)) rfl
theorem ml_Lw_47 : Cond.methodLink "StolenHolidaysLaw" 47 m_Mod_steal.1 ∈ lw_g := tb_in tb_7 (List.mem_of_getElem? (i := 37) (by decide +kernel)) rfl
theorem ml_Lw_48 : Cond.methodLink "StolenHolidaysLaw" 48 m_Sto_sell.1 ∈ lw_g := tb_in tb_3 (List.mem_of_getElem? (i := 207) (by decide +kernel)) rfl
theorem ml_Lw_52 : Cond.methodLink "StolenHolidaysLaw" 52 m_Mod_sell.1 ∈ lw_g := tb_in tb_7 (List.mem_of_getElem? (i := 73) (by decide +kernel)) rfl
theorem ml_Lw_53 : Cond.methodLink "StolenHolidaysLaw" 53 m_Sto_spend.1 ∈ lw_g := tb_in tb_4 (List.mem_of_getElem? (i := 6) (by decide +kernel)) rfl
theorem ml_Lw_56 : Cond.methodLink "StolenHolidaysLaw" 56 m_Mod_spend.1 ∈ lw_g := tb_in tb_7 (List.mem_of_getElem? (i := 112) (by decide +kernel)) rfl
theorem ml_Lw_57 : Cond.methodLink "StolenHolidaysLaw" 57 m_Sto_swap.1 ∈ lw_g := tb_in tb_4 (List.mem_of_getElem? (i := 15) (by decide +kernel)) rfl
theorem ml_Lw_61 : Cond.methodLink "StolenHolidaysLaw" 61 m_Mod_swap.1 ∈ lw_g := tb_in tb_7 (List.mem_of_getElem? (i := 125) (by decide +kernel)) rfl
theorem ml_Lw_62 : Cond.methodLink "StolenHolidaysLaw" 62 m_Sto_night.1 ∈ lw_g := tb_in tb_4 (List.mem_of_getElem? (i := 32) (by decide +kernel)) rfl
theorem ml_Lw_65 : Cond.methodLink "StolenHolidaysLaw" 65 m_Mod_night.1 ∈ lw_g := tb_in tb_7 (List.mem_of_getElem? (i := 133) (by decide +kernel)) rfl
theorem ml_Lw_66 : Cond.methodLink "StolenHolidaysLaw" 66 m_Sto_undo.1 ∈ lw_g := tb_in tb_4 (List.mem_of_getElem? (i := 60) (by decide +kernel)) rfl
theorem ml_Lw_70 : Cond.methodLink "StolenHolidaysLaw" 70 m_Mod_undo.1 ∈ lw_g := tb_in tb_7 (List.mem_of_getElem? (i := 149) (by decide +kernel)) rfl
theorem ml_Lw_71 : Cond.methodLink "StolenHolidaysLaw" 71 m_Sto_judged.1 ∈ lw_g := tb_in tb_4 (List.mem_of_getElem? (i := 68) (by decide +kernel)) rfl
theorem ml_Lw_74 : Cond.methodLink "StolenHolidaysLaw" 74 m_Mod_judged.1 ∈ lw_g := tb_in tb_7 (List.mem_of_getElem? (i := 153) (by decide +kernel)) rfl
theorem ml_Lw_75 : Cond.methodLink "StolenHolidaysLaw" 75 m_Sto_can.1 ∈ lw_g := tb_in tb_4 (List.mem_of_getElem? (i := 88) (by decide +kernel)) rfl
theorem ml_Lw_78 : Cond.methodLink "StolenHolidaysLaw" 78 m_Mod_can.1 ∈ lw_g := tb_in tb_7 (List.mem_of_getElem? (i := 169) (by decide +kernel)) rfl
theorem ml_Lw_79 : Cond.methodLink "StolenHolidaysLaw" 79 m_Sto_haul.1 ∈ lw_g := tb_in tb_4 (List.mem_of_getElem? (i := 93) (by decide +kernel)) rfl
theorem ml_Lw_82 : Cond.methodLink "StolenHolidaysLaw" 82 m_Mod_haul.1 ∈ lw_g := tb_in tb_7 (List.mem_of_getElem? (i := 177) (by decide +kernel)) rfl
theorem ml_Lw_83 : Cond.methodLink "StolenHolidaysLaw" 83 m_Sto_price.1 ∈ lw_g := tb_in tb_4 (List.mem_of_getElem? (i := 97) (by decide +kernel)) rfl
theorem ml_Lw_86 : Cond.methodLink "StolenHolidaysLaw" 86 m_Mod_price.1 ∈ lw_g := tb_in tb_7 (List.mem_of_getElem? (i := 181) (by decide +kernel)) rfl
theorem ml_Lw_87 : Cond.methodLink "StolenHolidaysLaw" 87 m_Sto_all.1 ∈ lw_g := tb_in tb_4 (List.mem_of_getElem? (i := 102) (by decide +kernel)) rfl
theorem ml_Lw_90 : Cond.methodLink "StolenHolidaysLaw" 90 m_Mod_all.1 ∈ lw_g := tb_in tb_7 (List.mem_of_getElem? (i := 185) (by decide +kernel)) rfl
theorem ml_Lw_91 : Cond.methodLink "StolenHolidaysLaw" 91 m_Sto_rich.1 ∈ lw_g := tb_in tb_4 (List.mem_of_getElem? (i := 106) (by decide +kernel)) rfl
theorem ml_Lw_94 : Cond.methodLink "StolenHolidaysLaw" 94 m_Mod_rich.1 ∈ lw_g := tb_in tb_7 (List.mem_of_getElem? (i := 189) (by decide +kernel)) rfl
theorem ml_Lw_95 : Cond.methodLink "StolenHolidaysLaw" 95 m_Sto_guilty.1 ∈ lw_g := tb_in tb_4 (List.mem_of_getElem? (i := 114) (by decide +kernel)) rfl
theorem ml_Lw_98 : Cond.methodLink "StolenHolidaysLaw" 98 m_Mod_guilty.1 ∈ lw_g := tb_in tb_7 (List.mem_of_getElem? (i := 197) (by decide +kernel)) rfl
theorem ml_Lw_99 : Cond.methodLink "StolenHolidaysLaw" 99 m_Sto_later.1 ∈ lw_g := tb_in tb_4 (List.mem_of_getElem? (i := 118) (by decide +kernel)) rfl
theorem ml_Lw_102 : Cond.methodLink "StolenHolidaysLaw" 102 m_Mod_later.1 ∈ lw_g := tb_in tb_7 (List.mem_of_getElem? (i := 201) (by decide +kernel)) rfl
theorem ml_Lw_103 : Cond.methodLink "StolenHolidaysLaw" 103 m_Sto_guards.1 ∈ lw_g := tb_in tb_4 (List.mem_of_getElem? (i := 124) (by decide +kernel)) rfl
theorem ml_Lw_106 : Cond.methodLink "StolenHolidaysLaw" 106 m_Mod_guards.1 ∈ lw_g := tb_in tb_7 (List.mem_of_getElem? (i := 209) (by decide +kernel)) rfl
theorem ml_Lw_107 : Cond.methodLink "StolenHolidaysLaw" 107 m_Sto_keeps.1 ∈ lw_g := tb_in tb_4 (List.mem_of_getElem? (i := 129) (by decide +kernel)) rfl
theorem ml_Lw_110 : Cond.methodLink "StolenHolidaysLaw" 110 m_Mod_keeps.1 ∈ lw_g := tb_in tb_7 (List.mem_of_getElem? (i := 213) (by decide +kernel)) rfl
theorem ml_Lw_111 : Cond.methodLink "StolenHolidaysLaw" 111 m_Sto_freed.1 ∈ lw_g := tb_in tb_4 (List.mem_of_getElem? (i := 134) (by decide +kernel)) rfl
theorem ml_Lw_114 : Cond.methodLink "StolenHolidaysLaw" 114 m_Mod_freed.1 ∈ lw_g := tb_in tb_7 (List.mem_of_getElem? (i := 217) (by decide +kernel)) rfl
theorem ml_Lw_115 : Cond.methodLink "StolenHolidaysLaw" 115 m_Sto_opens.1 ∈ lw_g := tb_in tb_4 (List.mem_of_getElem? (i := 138) (by decide +kernel)) rfl
theorem ml_Lw_118 : Cond.methodLink "StolenHolidaysLaw" 118 m_Mod_opens.1 ∈ lw_g := tb_in tb_7 (List.mem_of_getElem? (i := 221) (by decide +kernel)) rfl
theorem ml_Lw_119 : Cond.methodLink "StolenHolidaysLaw" 119 m_Sto_whole.1 ∈ lw_g := tb_in tb_4 (List.mem_of_getElem? (i := 150) (by decide +kernel)) rfl
theorem ml_Lw_122 : Cond.methodLink "StolenHolidaysLaw" 122 m_Mod_whole.1 ∈ lw_g := tb_in tb_7 (List.mem_of_getElem? (i := 225) (by decide +kernel)) rfl
theorem ml_Lw_123 : Cond.methodLink "StolenHolidaysLaw" 123 m_Sto_waits.1 ∈ lw_g := tb_in tb_4 (List.mem_of_getElem? (i := 155) (by decide +kernel)) rfl
theorem ml_Lw_126 : Cond.methodLink "StolenHolidaysLaw" 126 m_Mod_waits.1 ∈ lw_g := tb_in tb_7 (List.mem_of_getElem? (i := 233) (by decide +kernel)) rfl
theorem ml_Lw_127 : Cond.methodLink "StolenHolidaysLaw" 127 m_Sto_glads.1 ∈ lw_g := tb_in tb_4 (List.mem_of_getElem? (i := 160) (by decide +kernel)) rfl
theorem ml_Lw_130 : Cond.methodLink "StolenHolidaysLaw" 130 m_Mod_glads.1 ∈ lw_g := tb_in tb_8 (List.mem_of_getElem? (i := 1) (by decide +kernel)) rfl
theorem ml_Lw_131 : Cond.methodLink "StolenHolidaysLaw" 131 m_Sto_slack.1 ∈ lw_g := tb_in tb_4 (List.mem_of_getElem? (i := 168) (by decide +kernel)) rfl
theorem ml_Lw_134 : Cond.methodLink "StolenHolidaysLaw" 134 m_Mod_slack.1 ∈ lw_g := tb_in tb_8 (List.mem_of_getElem? (i := 5) (by decide +kernel)) rfl
theorem ml_Lw_135 : Cond.methodLink "StolenHolidaysLaw" 135 m_Sto_gang.1 ∈ lw_g := tb_in tb_4 (List.mem_of_getElem? (i := 172) (by decide +kernel)) rfl
theorem ml_Lw_138 : Cond.methodLink "StolenHolidaysLaw" 138 m_Mod_gang.1 ∈ lw_g := tb_in tb_8 (List.mem_of_getElem? (i := 9) (by decide +kernel)) rfl
theorem ml_Lw_139 : Cond.methodLink "StolenHolidaysLaw" 139 m_Sto_cover.1 ∈ lw_g := tb_in tb_4 (List.mem_of_getElem? (i := 186) (by decide +kernel)) rfl
theorem ml_Lw_142 : Cond.methodLink "StolenHolidaysLaw" 142 m_Mod_cover.1 ∈ lw_g := tb_in tb_8 (List.mem_of_getElem? (i := 17) (by decide +kernel)) rfl
theorem ml_Lw_143 : Cond.methodLink "StolenHolidaysLaw" 143 m_Sto_watch.1 ∈ lw_g := tb_in tb_4 (List.mem_of_getElem? (i := 194) (by decide +kernel)) rfl
theorem ml_Lw_146 : Cond.methodLink "StolenHolidaysLaw" 146 m_Mod_watch.1 ∈ lw_g := tb_in tb_8 (List.mem_of_getElem? (i := 21) (by decide +kernel)) rfl
theorem ml_Lw_147 : Cond.methodLink "StolenHolidaysLaw" 147 m_Sto_spree.1 ∈ lw_g := tb_in tb_4 (List.mem_of_getElem? (i := 202) (by decide +kernel)) rfl
theorem ml_Lw_151 : Cond.methodLink "StolenHolidaysLaw" 151 m_Mod_spree.1 ∈ lw_g := tb_in tb_8 (List.mem_of_getElem? (i := 29) (by decide +kernel)) rfl
theorem ml_Lw_152 : Cond.methodLink "StolenHolidaysLaw" 152 m_Sto_see.1 ∈ lw_g := tb_in tb_4 (List.mem_of_getElem? (i := 228) (by decide +kernel)) rfl
theorem ml_Lw_156 : Cond.methodLink "StolenHolidaysLaw" 156 m_Mod_see.1 ∈ lw_g := tb_in tb_8 (List.mem_of_getElem? (i := 37) (by decide +kernel)) rfl
theorem ml_Lw_157 : Cond.methodLink "StolenHolidaysLaw" 157 m_Sto_who.1 ∈ lw_g := tb_in tb_4 (List.mem_of_getElem? (i := 236) (by decide +kernel)) rfl
theorem ml_Lw_160 : Cond.methodLink "StolenHolidaysLaw" 160 m_Mod_who.1 ∈ lw_g := tb_in tb_8 (List.mem_of_getElem? (i := 41) (by decide +kernel)) rfl
theorem ml_Lw_161 : Cond.methodLink "StolenHolidaysLaw" 161 m_Sto_ask.1 ∈ lw_g := tb_in tb_5 (List.mem_of_getElem? (i := 5) (by decide +kernel)) rfl
theorem ml_Lw_164 : Cond.methodLink "StolenHolidaysLaw" 164 m_Mod_ask.1 ∈ lw_g := tb_in tb_8 (List.mem_of_getElem? (i := 53) (by decide +kernel)) rfl
theorem ml_Lw_165 : Cond.methodLink "StolenHolidaysLaw" 165 m_Sto_chance.1 ∈ lw_g := tb_in tb_5 (List.mem_of_getElem? (i := 20) (by decide +kernel)) rfl
theorem ml_Lw_168 : Cond.methodLink "StolenHolidaysLaw" 168 m_Mod_chance.1 ∈ lw_g := tb_in tb_8 (List.mem_of_getElem? (i := 61) (by decide +kernel)) rfl
theorem ml_Lw_174 : Cond.methodLink "StolenHolidaysLaw" 174 m_Mod_rests.1 ∈ lw_g := tb_in tb_8 (List.mem_of_getElem? (i := 67) (by decide +kernel)) rfl
theorem ml_Lw_175 : Cond.methodLink "StolenHolidaysLaw" 175 m_Mod_thrown.1 ∈ lw_g := tb_in tb_6 (List.mem_of_getElem? (i := 106) (by decide +kernel)) rfl
theorem ml_Lw_178 : Cond.methodLink "StolenHolidaysLaw" 178 m_Sto_years.1 ∈ lw_g := tb_in tb_5 (List.mem_of_getElem? (i := 31) (by decide +kernel)) rfl
theorem ml_Lw_181 : Cond.methodLink "StolenHolidaysLaw" 181 m_Mod_years.1 ∈ lw_g := tb_in tb_8 (List.mem_of_getElem? (i := 74) (by decide +kernel)) rfl
theorem ml_Lw_182 : Cond.methodLink "StolenHolidaysLaw" 182 m_Sto_mark.1 ∈ lw_g := tb_in tb_5 (List.mem_of_getElem? (i := 53) (by decide +kernel)) rfl
theorem ml_Lw_186 : Cond.methodLink "StolenHolidaysLaw" 186 m_Mod_mark.1 ∈ lw_g := tb_in tb_8 (List.mem_of_getElem? (i := 90) (by decide +kernel)) rfl
theorem ml_Lw_187 : Cond.methodLink "StolenHolidaysLaw" 187 m_Sto_count.1 ∈ lw_g := tb_in tb_5 (List.mem_of_getElem? (i := 75) (by decide +kernel)) rfl
theorem ml_Lw_190 : Cond.methodLink "StolenHolidaysLaw" 190 m_Mod_count.1 ∈ lw_g := tb_in tb_8 (List.mem_of_getElem? (i := 98) (by decide +kernel)) rfl
theorem ml_Mod_138 : Cond.methodLink "StolenHolidaysModel" 138 m_Mod_fresh0.1 ∈ lw_g := tb_in tb_5 (List.mem_of_getElem? (i := 164) (by decide +kernel)) rfl
theorem ml_Mod_169 : Cond.methodLink "StolenHolidaysModel" 169 m_Mod_signAt.1 ∈ lw_g := tb_in tb_6 (List.mem_of_getElem? (i := 131) (by decide +kernel)) rfl
theorem ml_Mod_191 : Cond.methodLink "StolenHolidaysModel" 191 m_Mod_fact.1 ∈ lw_g := tb_in tb_6 (List.mem_of_getElem? (i := 219) (by decide +kernel)) rfl
theorem ml_Mod_197 : Cond.methodLink "StolenHolidaysModel" 197 m_Mod_isWord.1 ∈ lw_g := tb_in tb_6 (List.mem_of_getElem? (i := 138) (by decide +kernel)) rfl
theorem ml_Mod_201 : Cond.methodLink "StolenHolidaysModel" 201 m_Mod_isSign.1 ∈ lw_g := tb_in tb_6 (List.mem_of_getElem? (i := 203) (by decide +kernel)) rfl
theorem ml_Mod_205 : Cond.methodLink "StolenHolidaysModel" 205 m_Mod_fails.1 ∈ lw_g := tb_in tb_6 (List.mem_of_getElem? (i := 146) (by decide +kernel)) rfl
theorem ml_Mod_208 : Cond.methodLink "StolenHolidaysModel" 208 m_Mod_puts.1 ∈ lw_g := tb_in tb_6 (List.mem_of_getElem? (i := 227) (by decide +kernel)) rfl
theorem ml_Mod_212 : Cond.methodLink "StolenHolidaysModel" 212 m_Mod_nextToken.1 ∈ lw_g := tb_in tb_6 (List.mem_of_getElem? (i := 127) (by decide +kernel)) rfl
theorem ml_Mod_219 : Cond.methodLink "StolenHolidaysModel" 219 m_Mod_sums.1 ∈ lw_g := tb_in tb_7 (List.mem_of_getElem? (i := 97) (by decide +kernel)) rfl
theorem ml_Mod_222 : Cond.methodLink "StolenHolidaysModel" 222 m_Mod_openings.1 ∈ lw_g := tb_in tb_7 (List.mem_of_getElem? (i := 93) (by decide +kernel)) rfl
theorem ml_Mod_225 : Cond.methodLink "StolenHolidaysModel" 225 m_Mod_tests.1 ∈ lw_g := tb_in tb_7 (List.mem_of_getElem? (i := 101) (by decide +kernel)) rfl
theorem ml_Mod_260 : Cond.methodLink "StolenHolidaysModel" 260 m_Mod_namedIn.1 ∈ lw_g := tb_in tb_6 (List.mem_of_getElem? (i := 180) (by decide +kernel)) rfl
theorem ml_Mod_264 : Cond.methodLink "StolenHolidaysModel" 264 m_Mod_within.1 ∈ lw_g := tb_in tb_6 (List.mem_of_getElem? (i := 196) (by decide +kernel)) rfl
theorem ml_Mod_271 : Cond.methodLink "StolenHolidaysModel" 271 m_Mod_needsNumber.1 ∈ lw_g := tb_in tb_6 (List.mem_of_getElem? (i := 192) (by decide +kernel)) rfl
theorem ml_Mod_275 : Cond.methodLink "StolenHolidaysModel" 275 m_Mod_isKept.1 ∈ lw_g := tb_in tb_6 (List.mem_of_getElem? (i := 154) (by decide +kernel)) rfl
theorem ml_Mod_279 : Cond.methodLink "StolenHolidaysModel" 279 m_Mod_dayNamed.1 ∈ lw_g := tb_in tb_6 (List.mem_of_getElem? (i := 176) (by decide +kernel)) rfl
theorem ml_Mod_282 : Cond.methodLink "StolenHolidaysModel" 282 m_Mod_thiefNamed.1 ∈ lw_g := tb_in tb_6 (List.mem_of_getElem? (i := 184) (by decide +kernel)) rfl
theorem ml_Mod_288 : Cond.methodLink "StolenHolidaysModel" 288 m_Mod_isFound.1 ∈ lw_g := tb_in tb_7 (List.mem_of_getElem? (i := 13) (by decide +kernel)) rfl
theorem ml_Mod_291 : Cond.methodLink "StolenHolidaysModel" 291 m_Mod_needsNew.1 ∈ lw_g := tb_in tb_6 (List.mem_of_getElem? (i := 150) (by decide +kernel)) rfl
theorem ml_Mod_294 : Cond.methodLink "StolenHolidaysModel" 294 m_Mod_needsBoth.1 ∈ lw_g := tb_in tb_6 (List.mem_of_getElem? (i := 188) (by decide +kernel)) rfl
theorem ml_Mod_298 : Cond.methodLink "StolenHolidaysModel" 298 m_Mod_closes.1 ∈ lw_g := tb_in tb_6 (List.mem_of_getElem? (i := 199) (by decide +kernel)) rfl
theorem ml_Mod_301 : Cond.methodLink "StolenHolidaysModel" 301 m_Mod_reads.1 ∈ lw_g := tb_in tb_6 (List.mem_of_getElem? (i := 215) (by decide +kernel)) rfl
theorem ml_Mod_304 : Cond.methodLink "StolenHolidaysModel" 304 m_Mod_begins.1 ∈ lw_g := tb_in tb_6 (List.mem_of_getElem? (i := 123) (by decide +kernel)) rfl
theorem ml_Mod_307 : Cond.methodLink "StolenHolidaysModel" 307 m_Mod_readsDay.1 ∈ lw_g := tb_in tb_6 (List.mem_of_getElem? (i := 142) (by decide +kernel)) rfl
theorem ml_Mod_310 : Cond.methodLink "StolenHolidaysModel" 310 m_Mod_readsThief.1 ∈ lw_g := tb_in tb_6 (List.mem_of_getElem? (i := 207) (by decide +kernel)) rfl
theorem ml_Mod_313 : Cond.methodLink "StolenHolidaysModel" 313 m_Mod_readsPays.1 ∈ lw_g := tb_in tb_6 (List.mem_of_getElem? (i := 211) (by decide +kernel)) rfl
theorem ml_Mod_316 : Cond.methodLink "StolenHolidaysModel" 316 m_Mod_shifts.1 ∈ lw_g := tb_in tb_6 (List.mem_of_getElem? (i := 235) (by decide +kernel)) rfl
theorem ml_Mod_320 : Cond.methodLink "StolenHolidaysModel" 320 m_Mod_shiftsNames.1 ∈ lw_g := tb_in tb_6 (List.mem_of_getElem? (i := 238) (by decide +kernel)) rfl
theorem ml_Mod_324 : Cond.methodLink "StolenHolidaysModel" 324 m_Mod_passesFound.1 ∈ lw_g := tb_in tb_7 (List.mem_of_getElem? (i := 9) (by decide +kernel)) rfl
theorem ml_Mod_327 : Cond.methodLink "StolenHolidaysModel" 327 m_Mod_readsAll.1 ∈ lw_g := tb_in tb_6 (List.mem_of_getElem? (i := 119) (by decide +kernel)) rfl
theorem ml_Mod_330 : Cond.methodLink "StolenHolidaysModel" 330 m_Mod_lays.1 ∈ lw_g := tb_in tb_6 (List.mem_of_getElem? (i := 231) (by decide +kernel)) rfl
theorem ml_Mod_336 : Cond.methodLink "StolenHolidaysModel" 336 m_Mod_readsLine.1 ∈ lw_g := tb_in tb_7 (List.mem_of_getElem? (i := 5) (by decide +kernel)) rfl
theorem ml_Mod_339 : Cond.methodLink "StolenHolidaysModel" 339 m_Mod_laysLines.1 ∈ lw_g := tb_in tb_7 (List.mem_of_getElem? (i := 17) (by decide +kernel)) rfl
theorem ml_Mod_343 : Cond.methodLink "StolenHolidaysModel" 343 m_Mod_isFree.1 ∈ lw_g := tb_in tb_7 (List.mem_of_getElem? (i := 45) (by decide +kernel)) rfl
theorem ml_Mod_346 : Cond.methodLink "StolenHolidaysModel" 346 m_Mod_hasPiece.1 ∈ lw_g := tb_in tb_7 (List.mem_of_getElem? (i := 49) (by decide +kernel)) rfl
theorem ml_Mod_349 : Cond.methodLink "StolenHolidaysModel" 349 m_Mod_isOpen.1 ∈ lw_g := tb_in tb_7 (List.mem_of_getElem? (i := 68) (by decide +kernel)) rfl
theorem ml_Mod_352 : Cond.methodLink "StolenHolidaysModel" 352 m_Math_min.1 ∈ lw_g := tb_in tb_7 (List.mem_of_getElem? (i := 72) (by decide +kernel)) rfl
theorem ml_Mod_358 : Cond.methodLink "StolenHolidaysModel" 358 m_Mod_haulOf.1 ∈ lw_g := tb_in tb_7 (List.mem_of_getElem? (i := 64) (by decide +kernel)) rfl
theorem ml_Mod_361 : Cond.methodLink "StolenHolidaysModel" 361 m_Mod_worked.1 ∈ lw_g := tb_in tb_7 (List.mem_of_getElem? (i := 89) (by decide +kernel)) rfl
theorem ml_Mod_364 : Cond.methodLink "StolenHolidaysModel" 364 m_Mod_between.1 ∈ lw_g := tb_in tb_7 (List.mem_of_getElem? (i := 105) (by decide +kernel)) rfl
theorem ml_Mod_368 : Cond.methodLink "StolenHolidaysModel" 368 m_Math_max.1 ∈ lw_g := tb_in tb_7 (List.mem_of_getElem? (i := 124) (by decide +kernel)) rfl
theorem ml_Mod_371 : Cond.methodLink "StolenHolidaysModel" 371 m_Mod_priceOf.1 ∈ lw_g := tb_in tb_7 (List.mem_of_getElem? (i := 85) (by decide +kernel)) rfl
theorem ml_Mod_374 : Cond.methodLink "StolenHolidaysModel" 374 m_Mod_takesAway.1 ∈ lw_g := tb_in tb_7 (List.mem_of_getElem? (i := 108) (by decide +kernel)) rfl
theorem ml_Mod_377 : Cond.methodLink "StolenHolidaysModel" 377 m_Mod_joyOf.1 ∈ lw_g := tb_in tb_7 (List.mem_of_getElem? (i := 120) (by decide +kernel)) rfl
theorem ml_Mod_380 : Cond.methodLink "StolenHolidaysModel" 380 m_Mod_ages.1 ∈ lw_g := tb_in tb_7 (List.mem_of_getElem? (i := 141) (by decide +kernel)) rfl
theorem ml_Mod_383 : Cond.methodLink "StolenHolidaysModel" 383 m_Mod_isDay.1 ∈ lw_g := tb_in tb_7 (List.mem_of_getElem? (i := 25) (by decide +kernel)) rfl
theorem ml_Mod_386 : Cond.methodLink "StolenHolidaysModel" 386 m_Mod_isThief.1 ∈ lw_g := tb_in tb_7 (List.mem_of_getElem? (i := 33) (by decide +kernel)) rfl
theorem ml_Mod_389 : Cond.methodLink "StolenHolidaysModel" 389 m_Mod_copies.1 ∈ lw_g := tb_in tb_7 (List.mem_of_getElem? (i := 57) (by decide +kernel)) rfl
theorem ml_Mod_393 : Cond.methodLink "StolenHolidaysModel" 393 m_Mod_couldSteal.1 ∈ lw_g := tb_in tb_7 (List.mem_of_getElem? (i := 41) (by decide +kernel)) rfl
theorem ml_Mod_396 : Cond.methodLink "StolenHolidaysModel" 396 m_Mod_keepsIt.1 ∈ lw_g := tb_in tb_7 (List.mem_of_getElem? (i := 53) (by decide +kernel)) rfl
theorem ml_Mod_399 : Cond.methodLink "StolenHolidaysModel" 399 m_Mod_steals.1 ∈ lw_g := tb_in tb_7 (List.mem_of_getElem? (i := 60) (by decide +kernel)) rfl
theorem ml_Mod_402 : Cond.methodLink "StolenHolidaysModel" 402 m_Mod_canDeal.1 ∈ lw_g := tb_in tb_7 (List.mem_of_getElem? (i := 77) (by decide +kernel)) rfl
theorem ml_Mod_405 : Cond.methodLink "StolenHolidaysModel" 405 m_Mod_sellsIt.1 ∈ lw_g := tb_in tb_7 (List.mem_of_getElem? (i := 81) (by decide +kernel)) rfl
theorem ml_Mod_408 : Cond.methodLink "StolenHolidaysModel" 408 m_Mod_spendsIt.1 ∈ lw_g := tb_in tb_7 (List.mem_of_getElem? (i := 116) (by decide +kernel)) rfl
theorem ml_Mod_411 : Cond.methodLink "StolenHolidaysModel" 411 m_Mod_swapsIt.1 ∈ lw_g := tb_in tb_7 (List.mem_of_getElem? (i := 129) (by decide +kernel)) rfl
theorem ml_Mod_414 : Cond.methodLink "StolenHolidaysModel" 414 m_Mod_passes.1 ∈ lw_g := tb_in tb_7 (List.mem_of_getElem? (i := 137) (by decide +kernel)) rfl
theorem ml_Mod_417 : Cond.methodLink "StolenHolidaysModel" 417 m_Mod_having.1 ∈ lw_g := tb_in tb_7 (List.mem_of_getElem? (i := 145) (by decide +kernel)) rfl
theorem ml_Mod_420 : Cond.methodLink "StolenHolidaysModel" 420 m_Mod_isDone.1 ∈ lw_g := tb_in tb_7 (List.mem_of_getElem? (i := 157) (by decide +kernel)) rfl
theorem ml_Mod_423 : Cond.methodLink "StolenHolidaysModel" 423 m_Mod_caughtOnes.1 ∈ lw_g := tb_in tb_7 (List.mem_of_getElem? (i := 161) (by decide +kernel)) rfl
theorem ml_Mod_426 : Cond.methodLink "StolenHolidaysModel" 426 m_Mod_sumOf.1 ∈ lw_g := tb_in tb_7 (List.mem_of_getElem? (i := 165) (by decide +kernel)) rfl
theorem ml_Mod_429 : Cond.methodLink "StolenHolidaysModel" 429 m_Mod_canOf.1 ∈ lw_g := tb_in tb_7 (List.mem_of_getElem? (i := 173) (by decide +kernel)) rfl
theorem ml_Mod_432 : Cond.methodLink "StolenHolidaysModel" 432 m_Mod_mostAt.1 ∈ lw_g := tb_in tb_7 (List.mem_of_getElem? (i := 193) (by decide +kernel)) rfl
theorem ml_Mod_435 : Cond.methodLink "StolenHolidaysModel" 435 m_Mod_laterAt.1 ∈ lw_g := tb_in tb_7 (List.mem_of_getElem? (i := 205) (by decide +kernel)) rfl
theorem ml_Mod_438 : Cond.methodLink "StolenHolidaysModel" 438 m_Mod_areWhole.1 ∈ lw_g := tb_in tb_7 (List.mem_of_getElem? (i := 229) (by decide +kernel)) rfl
theorem ml_Mod_444 : Cond.methodLink "StolenHolidaysModel" 444 m_Mod_waitFor.1 ∈ lw_g := tb_in tb_7 (List.mem_of_getElem? (i := 237) (by decide +kernel)) rfl
theorem ml_Mod_451 : Cond.methodLink "StolenHolidaysModel" 451 m_Mod_goesOut.1 ∈ lw_g := tb_in tb_8 (List.mem_of_getElem? (i := 13) (by decide +kernel)) rfl
theorem ml_Mod_455 : Cond.methodLink "StolenHolidaysModel" 455 m_Mod_mostBut.1 ∈ lw_g := tb_in tb_8 (List.mem_of_getElem? (i := 25) (by decide +kernel)) rfl
theorem ml_Mod_458 : Cond.methodLink "StolenHolidaysModel" 458 m_Mod_spreeOf.1 ∈ lw_g := tb_in tb_8 (List.mem_of_getElem? (i := 33) (by decide +kernel)) rfl
theorem ml_Mod_464 : Cond.methodLink "StolenHolidaysModel" 464 m_Mod_laysOpen.1 ∈ lw_g := tb_in tb_8 (List.mem_of_getElem? (i := 45) (by decide +kernel)) rfl
theorem ml_Mod_467 : Cond.methodLink "StolenHolidaysModel" 467 m_Mod_isAsSeen.1 ∈ lw_g := tb_in tb_8 (List.mem_of_getElem? (i := 49) (by decide +kernel)) rfl
theorem ml_Mod_470 : Cond.methodLink "StolenHolidaysModel" 470 m_Mod_who.1 ∈ lw_g := tb_in tb_8 (List.mem_of_getElem? (i := 57) (by decide +kernel)) rfl
theorem ml_Mod_473 : Cond.methodLink "StolenHolidaysModel" 473 m_Mod_bits.1 ∈ lw_g := tb_in tb_8 (List.mem_of_getElem? (i := 58) (by decide +kernel)) rfl
theorem ml_Mod_480 : Cond.methodLink "StolenHolidaysModel" 480 m_Mod_getsBy.1 ∈ lw_g := tb_in tb_8 (List.mem_of_getElem? (i := 71) (by decide +kernel)) rfl
theorem ml_Mod_495 : Cond.methodLink "StolenHolidaysModel" 495 m_Mod_draws.1 ∈ lw_g := tb_in tb_8 (List.mem_of_getElem? (i := 82) (by decide +kernel)) rfl
theorem ml_Mod_498 : Cond.methodLink "StolenHolidaysModel" 498 m_Mod_lives.1 ∈ lw_g := tb_in tb_8 (List.mem_of_getElem? (i := 78) (by decide +kernel)) rfl
theorem ml_Mod_501 : Cond.methodLink "StolenHolidaysModel" 501 m_Mod_laysSeen.1 ∈ lw_g := tb_in tb_8 (List.mem_of_getElem? (i := 94) (by decide +kernel)) rfl
theorem ml_Str_335 : Cond.methodLink "java/lang/String" 335 m_Str_coder.1 ∈ lw_g := tb_in tb_2 (List.mem_of_getElem? (i := 203) (by decide +kernel)) rfl
theorem ml_Str_492 : Cond.methodLink "java/lang/String" 492 m_Str_isLatin1.1 ∈ lw_g := tb_in tb_2 (List.mem_of_getElem? (i := 193) (by decide +kernel)) rfl
theorem ml_Str_495 : Cond.methodLink "java/lang/String" 495 m_Lat_charAt.1 ∈ lw_g := tb_in tb_3 (List.mem_of_getElem? (i := 41) (by decide +kernel)) rfl
theorem ml_Str_505 : Cond.methodLink "java/lang/String" 505 m_Str_length.1 ∈ lw_g := tb_in tb_2 (List.mem_of_getElem? (i := 199) (by decide +kernel)) rfl
theorem ml_Str_633 : Cond.methodLink "java/lang/String" 633 m_Str_indexOf2.1 ∈ lw_g := tb_in tb_2 (List.mem_of_getElem? (i := 189) (by decide +kernel)) rfl
theorem ac_nat : Cond.native arraycopyName ∈ lw_g := tb_in tb_3 (List.mem_of_getElem? (i := 195) (by decide +kernel)) rfl
theorem ac_sta : Cond.static arraycopyName ∈ lw_g := tb_in tb_3 (List.mem_of_getElem? (i := 194) (by decide +kernel)) rfl
theorem ac_ini : Cond.initialized "java/lang/System" ∈ lw_g := tb_in tb_1 (List.mem_of_getElem? (i := 20) (by decide +kernel)) rfl
theorem ki_Sto_293 : Cond.constant "StolenHolidays" 293 (1000000 : Int32) ∈ lw_g := tb_in tb_5 (List.mem_of_getElem? (i := 25) (by decide +kernel)) rfl
theorem ki_Sto_341 : Cond.constant "StolenHolidays" 341 (1103515245 : Int32) ∈ lw_g := tb_in tb_5 (List.mem_of_getElem? (i := 43) (by decide +kernel)) rfl
theorem ki_Sto_342 : Cond.constant "StolenHolidays" 342 (2147483647 : Int32) ∈ lw_g := tb_in tb_5 (List.mem_of_getElem? (i := 44) (by decide +kernel)) rfl
theorem ki_Int_265 : Cond.constant "java/lang/Integer" 265 (1431655765 : Int32) ∈ lw_g := tb_in tb_5 (List.mem_of_getElem? (i := 13) (by decide +kernel)) rfl
theorem ki_Int_266 : Cond.constant "java/lang/Integer" 266 (858993459 : Int32) ∈ lw_g := tb_in tb_5 (List.mem_of_getElem? (i := 14) (by decide +kernel)) rfl
theorem ki_Int_267 : Cond.constant "java/lang/Integer" 267 (252645135 : Int32) ∈ lw_g := tb_in tb_5 (List.mem_of_getElem? (i := 15) (by decide +kernel)) rfl
theorem kl_Tape_63 : Cond.constantLong "StolenHolidays$Tape" 63 (27 : Int64) ∈ lw_g := tb_in tb_2 (List.mem_of_getElem? (i := 175) (by decide +kernel)) rfl
theorem kl_Lw_19 : Cond.constantLong "StolenHolidaysLaw" 19 (4294967295 : Int64) ∈ lw_g := tb_in tb_8 (List.mem_of_getElem? (i := 102) (by decide +kernel)) rfl
theorem kl_Mod_145 : Cond.constantLong "StolenHolidaysModel" 145 (255 : Int64) ∈ lw_g := tb_in tb_6 (List.mem_of_getElem? (i := 114) (by decide +kernel)) rfl
theorem kl_Mod_173 : Cond.constantLong "StolenHolidaysModel" 173 (27 : Int64) ∈ lw_g := tb_in tb_6 (List.mem_of_getElem? (i := 135) (by decide +kernel)) rfl
theorem kl_Mod_175 : Cond.constantLong "StolenHolidaysModel" 175 (96 : Int64) ∈ lw_g := tb_in tb_6 (List.mem_of_getElem? (i := 136) (by decide +kernel)) rfl
theorem kl_Mod_183 : Cond.constantLong "StolenHolidaysModel" 183 (271277 : Int64) ∈ lw_g := tb_in tb_6 (List.mem_of_getElem? (i := 223) (by decide +kernel)) rfl
theorem kl_Mod_185 : Cond.constantLong "StolenHolidaysModel" 185 (11263 : Int64) ∈ lw_g := tb_in tb_6 (List.mem_of_getElem? (i := 224) (by decide +kernel)) rfl
theorem kl_Mod_187 : Cond.constantLong "StolenHolidaysModel" 187 (385418 : Int64) ∈ lw_g := tb_in tb_6 (List.mem_of_getElem? (i := 225) (by decide +kernel)) rfl
theorem kl_Mod_189 : Cond.constantLong "StolenHolidaysModel" 189 (80006 : Int64) ∈ lw_g := tb_in tb_6 (List.mem_of_getElem? (i := 226) (by decide +kernel)) rfl
theorem kl_Mod_195 : Cond.constantLong "StolenHolidaysModel" 195 (10631 : Int64) ∈ lw_g := tb_in tb_6 (List.mem_of_getElem? (i := 173) (by decide +kernel)) rfl
theorem kl_Mod_215 : Cond.constantLong "StolenHolidaysModel" 215 (1111 : Int64) ∈ lw_g := tb_in tb_6 (List.mem_of_getElem? (i := 174) (by decide +kernel)) rfl
theorem kl_Mod_217 : Cond.constantLong "StolenHolidaysModel" 217 (423 : Int64) ∈ lw_g := tb_in tb_6 (List.mem_of_getElem? (i := 175) (by decide +kernel)) rfl
theorem kl_Mod_228 : Cond.constantLong "StolenHolidaysModel" 228 (2968 : Int64) ∈ lw_g := tb_in tb_6 (List.mem_of_getElem? (i := 137) (by decide +kernel)) rfl
theorem kl_Mod_230 : Cond.constantLong "StolenHolidaysModel" 230 (12532058 : Int64) ∈ lw_g := tb_in tb_6 (List.mem_of_getElem? (i := 158) (by decide +kernel)) rfl
theorem kl_Mod_232 : Cond.constantLong "StolenHolidaysModel" 232 (4134649 : Int64) ∈ lw_g := tb_in tb_6 (List.mem_of_getElem? (i := 159) (by decide +kernel)) rfl
theorem kl_Mod_234 : Cond.constantLong "StolenHolidaysModel" 234 (10792986 : Int64) ∈ lw_g := tb_in tb_6 (List.mem_of_getElem? (i := 160) (by decide +kernel)) rfl
theorem kl_Mod_236 : Cond.constantLong "StolenHolidaysModel" 236 (10320789 : Int64) ∈ lw_g := tb_in tb_6 (List.mem_of_getElem? (i := 161) (by decide +kernel)) rfl
theorem kl_Mod_238 : Cond.constantLong "StolenHolidaysModel" 238 (374798 : Int64) ∈ lw_g := tb_in tb_6 (List.mem_of_getElem? (i := 162) (by decide +kernel)) rfl
theorem kl_Mod_240 : Cond.constantLong "StolenHolidaysModel" 240 (316351 : Int64) ∈ lw_g := tb_in tb_6 (List.mem_of_getElem? (i := 163) (by decide +kernel)) rfl
theorem kl_Mod_242 : Cond.constantLong "StolenHolidaysModel" 242 (7622660 : Int64) ∈ lw_g := tb_in tb_6 (List.mem_of_getElem? (i := 164) (by decide +kernel)) rfl
theorem kl_Mod_244 : Cond.constantLong "StolenHolidaysModel" 244 (10494723 : Int64) ∈ lw_g := tb_in tb_6 (List.mem_of_getElem? (i := 165) (by decide +kernel)) rfl
theorem kl_Mod_246 : Cond.constantLong "StolenHolidaysModel" 246 (377958 : Int64) ∈ lw_g := tb_in tb_6 (List.mem_of_getElem? (i := 166) (by decide +kernel)) rfl
theorem kl_Mod_248 : Cond.constantLong "StolenHolidaysModel" 248 (10416334 : Int64) ∈ lw_g := tb_in tb_6 (List.mem_of_getElem? (i := 167) (by decide +kernel)) rfl
theorem kl_Mod_250 : Cond.constantLong "StolenHolidaysModel" 250 (390787 : Int64) ∈ lw_g := tb_in tb_6 (List.mem_of_getElem? (i := 168) (by decide +kernel)) rfl
theorem kl_Mod_252 : Cond.constantLong "StolenHolidaysModel" 252 (8740238 : Int64) ∈ lw_g := tb_in tb_6 (List.mem_of_getElem? (i := 169) (by decide +kernel)) rfl
theorem kl_Mod_254 : Cond.constantLong "StolenHolidaysModel" 254 (284068024 : Int64) ∈ lw_g := tb_in tb_6 (List.mem_of_getElem? (i := 170) (by decide +kernel)) rfl
theorem kl_Mod_256 : Cond.constantLong "StolenHolidaysModel" 256 (16922 : Int64) ∈ lw_g := tb_in tb_6 (List.mem_of_getElem? (i := 171) (by decide +kernel)) rfl
theorem kl_Mod_258 : Cond.constantLong "StolenHolidaysModel" 258 (3288323 : Int64) ∈ lw_g := tb_in tb_6 (List.mem_of_getElem? (i := 172) (by decide +kernel)) rfl
theorem kl_Mod_476 : Cond.constantLong "StolenHolidaysModel" 476 (10 : Int64) ∈ lw_g := tb_in tb_8 (List.mem_of_getElem? (i := 65) (by decide +kernel)) rfl
theorem kl_Mod_478 : Cond.constantLong "StolenHolidaysModel" 478 (1000000 : Int64) ∈ lw_g := tb_in tb_8 (List.mem_of_getElem? (i := 66) (by decide +kernel)) rfl
theorem kl_Mod_487 : Cond.constantLong "StolenHolidaysModel" 487 (1103515245 : Int64) ∈ lw_g := tb_in tb_8 (List.mem_of_getElem? (i := 86) (by decide +kernel)) rfl
theorem kl_Mod_489 : Cond.constantLong "StolenHolidaysModel" 489 (12345 : Int64) ∈ lw_g := tb_in tb_8 (List.mem_of_getElem? (i := 87) (by decide +kernel)) rfl
theorem kl_Mod_491 : Cond.constantLong "StolenHolidaysModel" 491 (2147483648 : Int64) ∈ lw_g := tb_in tb_8 (List.mem_of_getElem? (i := 88) (by decide +kernel)) rfl
theorem kl_Mod_493 : Cond.constantLong "StolenHolidaysModel" 493 (65536 : Int64) ∈ lw_g := tb_in tb_8 (List.mem_of_getElem? (i := 89) (by decide +kernel)) rfl
def ob0 (a : Nat) : Prop := a ∈ ([22, 33] : List Nat)
def ob2 (a : Nat) : Prop := a ∈ ([30, 41] : List Nat)
def ob3 (a : Nat) : Prop := a ∈ ([52, 63, 74, 85] : List Nat)
def ob6 (a : Nat) : Prop := a ∈ ([11, 59, 70, 81, 92] : List Nat)
def ob8 (a : Nat) : Prop := a ∈ ([5, 7, 53, 64, 75, 86] : List Nat)
def ob10 (a : Nat) : Prop := a ∈ ([44, 48, 55, 66, 77, 88] : List Nat)
theorem ob0_0 {a : Nat} (h : ob0 a) : sh_shp (a) = some (.inl 0) := (by decide +kernel : ∀ x ∈ ([22, 33] : List Nat), sh_shp (x) = some (.inl 0)) a h
theorem ob0_1 {a : Nat} (h : ob0 a) : sh_shp (a + 1) = some (.inr (1, 8)) := (by decide +kernel : ∀ x ∈ ([22, 33] : List Nat), sh_shp (x + 1) = some (.inr (1, 8))) a h
theorem ob0_2 {a : Nat} (h : ob0 a) : sh_shp (a + 2) = some (.inr (0, 8)) := (by decide +kernel : ∀ x ∈ ([22, 33] : List Nat), sh_shp (x + 2) = some (.inr (0, 8))) a h
theorem ob0_3 {a : Nat} (h : ob0 a) : sh_shp (a + 3) = some (.inr (0, 8)) := (by decide +kernel : ∀ x ∈ ([22, 33] : List Nat), sh_shp (x + 3) = some (.inr (0, 8))) a h
theorem ob0_4 {a : Nat} (h : ob0 a) : sh_shp (a + 4) = some (.inr (0, 8)) := (by decide +kernel : ∀ x ∈ ([22, 33] : List Nat), sh_shp (x + 4) = some (.inr (0, 8))) a h
theorem ob0_5 {a : Nat} (h : ob0 a) : sh_shp (a + 5) = some (.inr (1, 4)) := (by decide +kernel : ∀ x ∈ ([22, 33] : List Nat), sh_shp (x + 5) = some (.inr (1, 4))) a h
theorem ob0_6 {a : Nat} (h : ob0 a) : sh_shp (a + 6) = some (.inr (0, 4)) := (by decide +kernel : ∀ x ∈ ([22, 33] : List Nat), sh_shp (x + 6) = some (.inr (0, 4))) a h
theorem ob0_7 {a : Nat} (h : ob0 a) : sh_shp (a + 7) = some (.inr (0, 4)) := (by decide +kernel : ∀ x ∈ ([22, 33] : List Nat), sh_shp (x + 7) = some (.inr (0, 4))) a h
theorem ob0_8 {a : Nat} (h : ob0 a) : sh_shp (a + 8) = some (.inl 2) := (by decide +kernel : ∀ x ∈ ([22, 33] : List Nat), sh_shp (x + 8) = some (.inl 2)) a h
theorem ob0_o8 {a : Nat} (h : ob0 a) : ob2 (a + 8) := (by decide +kernel : ∀ x ∈ ([22, 33] : List Nat), x + 8 ∈ ([30, 41] : List Nat)) a h
theorem ob0_9 {a : Nat} (h : ob0 a) : sh_shp (a + 9) = some (.inr (0, 1000)) := (by decide +kernel : ∀ x ∈ ([22, 33] : List Nat), sh_shp (x + 9) = some (.inr (0, 1000))) a h
theorem ob0_10 {a : Nat} (h : ob0 a) : sh_shp (a + 10) = some (.inr (0, 32)) := (by decide +kernel : ∀ x ∈ ([22, 33] : List Nat), sh_shp (x + 10) = some (.inr (0, 32))) a h
theorem ob2_0 {a : Nat} (h : ob2 a) : sh_shp (a) = some (.inl 2) := (by decide +kernel : ∀ x ∈ ([30, 41] : List Nat), sh_shp (x) = some (.inl 2)) a h
theorem ob2_1 {a : Nat} (h : ob2 a) : sh_shp (a + 1) = some (.inr (0, 1000)) := (by decide +kernel : ∀ x ∈ ([30, 41] : List Nat), sh_shp (x + 1) = some (.inr (0, 1000))) a h
theorem ob2_2 {a : Nat} (h : ob2 a) : sh_shp (a + 2) = some (.inr (0, 32)) := (by decide +kernel : ∀ x ∈ ([30, 41] : List Nat), sh_shp (x + 2) = some (.inr (0, 32))) a h
theorem ob3_0 {a : Nat} (h : ob3 a) : sh_shp (a) = some (.inl 3) := (by decide +kernel : ∀ x ∈ ([52, 63, 74, 85] : List Nat), sh_shp (x) = some (.inl 3)) a h
theorem ob3_1 {a : Nat} (h : ob3 a) : sh_shp (a + 1) = some (.inl 8) := (by decide +kernel : ∀ x ∈ ([52, 63, 74, 85] : List Nat), sh_shp (x + 1) = some (.inl 8)) a h
theorem ob3_o1 {a : Nat} (h : ob3 a) : ob8 (a + 1) := (by decide +kernel : ∀ x ∈ ([52, 63, 74, 85] : List Nat), x + 1 ∈ ([5, 7, 53, 64, 75, 86] : List Nat)) a h
theorem ob3_2 {a : Nat} (h : ob3 a) : sh_shp (a + 2) = some (.inr (0, 45)) := (by decide +kernel : ∀ x ∈ ([52, 63, 74, 85] : List Nat), sh_shp (x + 2) = some (.inr (0, 45))) a h
theorem ob3_3 {a : Nat} (h : ob3 a) : sh_shp (a + 3) = some (.inl 10) := (by decide +kernel : ∀ x ∈ ([52, 63, 74, 85] : List Nat), sh_shp (x + 3) = some (.inl 10)) a h
theorem ob3_o3 {a : Nat} (h : ob3 a) : ob10 (a + 3) := (by decide +kernel : ∀ x ∈ ([52, 63, 74, 85] : List Nat), x + 3 ∈ ([44, 48, 55, 66, 77, 88] : List Nat)) a h
theorem ob3_4 {a : Nat} (h : ob3 a) : sh_shp (a + 4) = some (.inr (0, 40)) := (by decide +kernel : ∀ x ∈ ([52, 63, 74, 85] : List Nat), sh_shp (x + 4) = some (.inr (0, 40))) a h
theorem ob3_5 {a : Nat} (h : ob3 a) : sh_shp (a + 5) = some (.inr (0, 40)) := (by decide +kernel : ∀ x ∈ ([52, 63, 74, 85] : List Nat), sh_shp (x + 5) = some (.inr (0, 40))) a h
theorem ob3_6 {a : Nat} (h : ob3 a) : sh_shp (a + 6) = some (.inr (0, 40)) := (by decide +kernel : ∀ x ∈ ([52, 63, 74, 85] : List Nat), sh_shp (x + 6) = some (.inr (0, 40))) a h
theorem ob3_7 {a : Nat} (h : ob3 a) : sh_shp (a + 7) = some (.inl 6) := (by decide +kernel : ∀ x ∈ ([52, 63, 74, 85] : List Nat), sh_shp (x + 7) = some (.inl 6)) a h
theorem ob3_o7 {a : Nat} (h : ob3 a) : ob6 (a + 7) := (by decide +kernel : ∀ x ∈ ([52, 63, 74, 85] : List Nat), x + 7 ∈ ([11, 59, 70, 81, 92] : List Nat)) a h
theorem ob3_8 {a : Nat} (h : ob3 a) : sh_shp (a + 8) = some (.inr (0, 8)) := (by decide +kernel : ∀ x ∈ ([52, 63, 74, 85] : List Nat), sh_shp (x + 8) = some (.inr (0, 8))) a h
theorem ob3_9 {a : Nat} (h : ob3 a) : sh_shp (a + 9) = some (.inr (0, 8)) := (by decide +kernel : ∀ x ∈ ([52, 63, 74, 85] : List Nat), sh_shp (x + 9) = some (.inr (0, 8))) a h
theorem ob3_10 {a : Nat} (h : ob3 a) : sh_shp (a + 10) = some (.inr (3, 8)) := (by decide +kernel : ∀ x ∈ ([52, 63, 74, 85] : List Nat), sh_shp (x + 10) = some (.inr (3, 8))) a h
theorem ob6_0 {a : Nat} (h : ob6 a) : sh_shp (a) = some (.inl 6) := (by decide +kernel : ∀ x ∈ ([11, 59, 70, 81, 92] : List Nat), sh_shp (x) = some (.inl 6)) a h
theorem ob6_1 {a : Nat} (h : ob6 a) : sh_shp (a + 1) = some (.inr (0, 8)) := (by decide +kernel : ∀ x ∈ ([11, 59, 70, 81, 92] : List Nat), sh_shp (x + 1) = some (.inr (0, 8))) a h
theorem ob6_2 {a : Nat} (h : ob6 a) : sh_shp (a + 2) = some (.inr (0, 8)) := (by decide +kernel : ∀ x ∈ ([11, 59, 70, 81, 92] : List Nat), sh_shp (x + 2) = some (.inr (0, 8))) a h
theorem ob6_3 {a : Nat} (h : ob6 a) : sh_shp (a + 3) = some (.inr (3, 8)) := (by decide +kernel : ∀ x ∈ ([11, 59, 70, 81, 92] : List Nat), sh_shp (x + 3) = some (.inr (3, 8))) a h
theorem ob8_0 {a : Nat} (h : ob8 a) : sh_shp (a) = some (.inl 8) := (by decide +kernel : ∀ x ∈ ([5, 7, 53, 64, 75, 86] : List Nat), sh_shp (x) = some (.inl 8)) a h
theorem ob8_1 {a : Nat} (h : ob8 a) : sh_shp (a + 1) = some (.inr (0, 45)) := (by decide +kernel : ∀ x ∈ ([5, 7, 53, 64, 75, 86] : List Nat), sh_shp (x + 1) = some (.inr (0, 45))) a h
theorem ob10_0 {a : Nat} (h : ob10 a) : sh_shp (a) = some (.inl 10) := (by decide +kernel : ∀ x ∈ ([44, 48, 55, 66, 77, 88] : List Nat), sh_shp (x) = some (.inl 10)) a h
theorem ob10_1 {a : Nat} (h : ob10 a) : sh_shp (a + 1) = some (.inr (0, 40)) := (by decide +kernel : ∀ x ∈ ([44, 48, 55, 66, 77, 88] : List Nat), sh_shp (x + 1) = some (.inr (0, 40))) a h
theorem ob10_2 {a : Nat} (h : ob10 a) : sh_shp (a + 2) = some (.inr (0, 40)) := (by decide +kernel : ∀ x ∈ ([44, 48, 55, 66, 77, 88] : List Nat), sh_shp (x + 2) = some (.inr (0, 40))) a h
theorem ob10_3 {a : Nat} (h : ob10 a) : sh_shp (a + 3) = some (.inr (0, 40)) := (by decide +kernel : ∀ x ∈ ([44, 48, 55, 66, 77, 88] : List Nat), sh_shp (x + 3) = some (.inr (0, 40))) a h
