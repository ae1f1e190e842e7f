/-! ===== the cases of the law ===== -/
theorem lc_28 {g : sh_G} {b L d i N : Nat} {xs : Nat → Int32} {w : Wd} {mem : sh_Mem} {K : ly_T} (hb : g.2.2.2.2.2 900 = b) (hL : L ≤ 3584) (hi : i + 7 ≤ L) (hN : N ≤ 512) (hI : LI N w mem) (k : ∀ w' m', LI (N + 1) w' m' → K 1516 (LO i) [] m') : ly_X g b L xs (d + 50) 1070 (LO i) [] mem K := by
  refine ly_al (q := 1) (j := 1) rfl (List.mem_of_getElem? (i := 1) rfl) (by decide +kernel) ?_
  show ly_X g b L xs (d + 50) 1071 (LO i) _ mem K
  refine ly_callV (av := []) rfl rfl rfl mo_Sto_cover ml_Lw_139 im_Sto_cover se_Sto_cover rfl (Nat.le_of_ble_eq_true rfl) (by decide +kernel) (c_cover (d := d + 46) hI.1.1 hI.2.1 (fun m1 hc => ?_))
  show ly_X g b L xs (d + 50) 1074 (LO i) [sh_i (_)] m1 K
  refine ly_al (q := 2) (j := 2) rfl (List.mem_of_getElem? (i := 2) rfl) (by decide +kernel) ?_
  show ly_X g b L xs (d + 50) 1075 (LO i) _ m1 K
  refine ly_callV (av := []) rfl rfl rfl mo_Mod_cover ml_Lw_142 im_Mod_cover se_Mod_cover rfl (Nat.le_of_ble_eq_true rfl) (by decide +kernel) (r_cover (d := d + 47) hI.1.1 (RR1 hI.2.2 hc) (fun m2 hr => ?_))
  show ly_X g b L xs (d + 50) 1078 (LO i) [sh_i (_), sh_i (_)] m2 K
  exact ly_same (off := 438) (by decide) (by decide +kernel) (k _ _ (LI_of (WI_id hI.1) hc hr))
theorem lc_29 {g : sh_G} {b L d i N : Nat} {xs : Nat → Int32} {w : Wd} {mem : sh_Mem} {K : ly_T} (hb : g.2.2.2.2.2 900 = b) (hL : L ≤ 3584) (hi : i + 7 ≤ L) (hN : N ≤ 512) (hI : LI N w mem) (k : ∀ w' m', LI (N + 1) w' m' → K 1516 (LO i) [] m') : ly_X g b L xs (d + 50) 1083 (LO i) [] mem K := by
  refine ly_al (q := 1) (j := 1) rfl (List.mem_of_getElem? (i := 1) rfl) (by decide +kernel) ?_
  show ly_X g b L xs (d + 50) 1084 (LO i) _ mem K
  refine ly_callV (av := []) rfl rfl rfl mo_Sto_watch ml_Lw_143 im_Sto_watch se_Sto_watch rfl (Nat.le_of_ble_eq_true rfl) (by decide +kernel) (c_watch (d := d + 44) hI.1.1 hI.2.1 (fun m1 hc => ?_))
  show ly_X g b L xs (d + 50) 1087 (LO i) [sh_i (_)] m1 K
  refine ly_al (q := 2) (j := 2) rfl (List.mem_of_getElem? (i := 2) rfl) (by decide +kernel) ?_
  show ly_X g b L xs (d + 50) 1088 (LO i) _ m1 K
  refine ly_callV (av := []) rfl rfl rfl mo_Mod_watch ml_Lw_146 im_Mod_watch se_Mod_watch rfl (Nat.le_of_ble_eq_true rfl) (by decide +kernel) (r_watch (d := d + 45) hI.1.1 (RR1 hI.2.2 hc) (fun m2 hr => ?_))
  show ly_X g b L xs (d + 50) 1091 (LO i) [sh_i (_), sh_i (_)] m2 K
  exact ly_same (off := 425) (by decide) (by decide +kernel) (k _ _ (LI_of (WI_id hI.1) hc hr))
theorem lc_30 {g : sh_G} {b L d i N : Nat} {xs : Nat → Int32} {w : Wd} {mem : sh_Mem} {K : ly_T} (hb : g.2.2.2.2.2 900 = b) (hL : L ≤ 3584) (hi : i + 7 ≤ L) (hN : N ≤ 512) (hI : LI N w mem) (k : ∀ w' m', LI (N + 1) w' m' → K 1516 (LO i) [] m') : ly_X g b L xs (d + 50) 1096 (LO i) [] mem K := by
  refine ly_al (q := 1) (j := 1) rfl (List.mem_of_getElem? (i := 1) rfl) (by decide +kernel) ?_
  show ly_X g b L xs (d + 50) 1097 (LO i) _ mem K
  refine ly_arg (k := 1) (by omega) hL hb (by decide +kernel) (by decide +kernel) (by decide +kernel) (by decide +kernel) (by decide +kernel) ?_
  show ly_X g b L xs (d + 50) 1103 (LO i) _ mem K
  refine ly_arg (k := 2) (by omega) hL hb (by decide +kernel) (by decide +kernel) (by decide +kernel) (by decide +kernel) (by decide +kernel) ?_
  show ly_X g b L xs (d + 50) 1109 (LO i) _ mem K
  refine ly_arg (k := 3) (by omega) hL hb (by decide +kernel) (by decide +kernel) (by decide +kernel) (by decide +kernel) (by decide +kernel) ?_
  show ly_X g b L xs (d + 50) 1115 (LO i) _ mem K
  refine ly_callV (av := [sh_i (sc xs (i + 1)), sh_i (sc xs (i + 2)), sh_i (sc xs (i + 3))]) rfl rfl rfl mo_Sto_spree ml_Lw_147 im_Sto_spree se_Sto_spree rfl (Nat.le_of_ble_eq_true rfl) (by decide +kernel) (c_spree (d := d + 40) hI.1.1 hI.2.1 (sc_i3 xs _) (sc_i3 xs _) (sc_i3 xs _) (fun m1 hc => ?_))
  show ly_X g b L xs (d + 50) 1118 (LO i) [sh_i (_)] m1 K
  refine ly_al (q := 2) (j := 2) rfl (List.mem_of_getElem? (i := 2) rfl) (by decide +kernel) ?_
  show ly_X g b L xs (d + 50) 1119 (LO i) _ m1 K
  refine ly_arg (k := 1) (by omega) hL hb (by decide +kernel) (by decide +kernel) (by decide +kernel) (by decide +kernel) (by decide +kernel) ?_
  show ly_X g b L xs (d + 50) 1125 (LO i) _ m1 K
  refine ly_arg (k := 2) (by omega) hL hb (by decide +kernel) (by decide +kernel) (by decide +kernel) (by decide +kernel) (by decide +kernel) ?_
  show ly_X g b L xs (d + 50) 1131 (LO i) _ m1 K
  refine ly_arg (k := 3) (by omega) hL hb (by decide +kernel) (by decide +kernel) (by decide +kernel) (by decide +kernel) (by decide +kernel) ?_
  show ly_X g b L xs (d + 50) 1137 (LO i) _ m1 K
  refine ly_callV (av := [sh_i (sc xs (i + 1)), sh_i (sc xs (i + 2)), sh_i (sc xs (i + 3))]) rfl rfl rfl mo_Mod_spree ml_Lw_151 im_Mod_spree se_Mod_spree rfl (Nat.le_of_ble_eq_true rfl) (by decide +kernel) (r_spree (d := d + 40) hI.1.1 (RR1 hI.2.2 hc) (sc_i3 xs _) (sc_i3 xs _) (sc_i3 xs _) (fun m2 hr => ?_))
  show ly_X g b L xs (d + 50) 1140 (LO i) [sh_i (_), sh_i (_)] m2 K
  exact ly_same (off := 376) (by decide) (by decide +kernel) (k _ _ (LI_of (WI_id hI.1) hc hr))
theorem lc_31 {g : sh_G} {b L d i N : Nat} {xs : Nat → Int32} {w : Wd} {mem : sh_Mem} {K : ly_T} (hb : g.2.2.2.2.2 900 = b) (hL : L ≤ 3584) (hi : i + 7 ≤ L) (hN : N ≤ 512) (hI : LI N w mem) (k : ∀ w' m', LI (N + 1) w' m' → K 1516 (LO i) [] m') : ly_X g b L xs (d + 50) 1145 (LO i) [] mem K := by
  refine ly_al (q := 1) (j := 1) rfl (List.mem_of_getElem? (i := 1) rfl) (by decide +kernel) ?_
  show ly_X g b L xs (d + 50) 1146 (LO i) _ mem K
  refine ly_arg (k := 1) (by omega) hL hb (by decide +kernel) (by decide +kernel) (by decide +kernel) (by decide +kernel) (by decide +kernel) ?_
  show ly_X g b L xs (d + 50) 1152 (LO i) _ mem K
  refine ly_arg (k := 2) (by omega) hL hb (by decide +kernel) (by decide +kernel) (by decide +kernel) (by decide +kernel) (by decide +kernel) ?_
  show ly_X g b L xs (d + 50) 1158 (LO i) _ mem K
  refine ly_arg (k := 3) (by omega) hL hb (by decide +kernel) (by decide +kernel) (by decide +kernel) (by decide +kernel) (by decide +kernel) ?_
  show ly_X g b L xs (d + 50) 1164 (LO i) _ mem K
  refine ly_bool (sc_i3 xs _) (by decide +kernel) (by decide +kernel) (by decide +kernel) (by decide +kernel) (fun o ho => ?_)
  show ly_X g b L xs (d + 50) 1172 (LO i) _ mem K
  refine ly_callV (av := [sh_i (sc xs (i + 1)), sh_i (sc xs (i + 2)), sh_i (o)]) rfl rfl rfl mo_Sto_see ml_Lw_152 im_Sto_see se_Sto_see rfl (Nat.le_of_ble_eq_true rfl) (by decide +kernel) (c_see (d := d + 48) hI.1.1 hI.2.1 (sc_i3 xs _) (sc_i3 xs _) (b01 _ ho) (fun m1 hc => ?_))
  show ly_X g b L xs (d + 50) 1175 (LO i) [sh_i (_)] m1 K
  refine ly_al (q := 2) (j := 2) rfl (List.mem_of_getElem? (i := 2) rfl) (by decide +kernel) ?_
  show ly_X g b L xs (d + 50) 1176 (LO i) _ m1 K
  refine ly_arg (k := 1) (by omega) hL hb (by decide +kernel) (by decide +kernel) (by decide +kernel) (by decide +kernel) (by decide +kernel) ?_
  show ly_X g b L xs (d + 50) 1182 (LO i) _ m1 K
  refine ly_arg (k := 2) (by omega) hL hb (by decide +kernel) (by decide +kernel) (by decide +kernel) (by decide +kernel) (by decide +kernel) ?_
  show ly_X g b L xs (d + 50) 1188 (LO i) _ m1 K
  refine ly_arg (k := 3) (by omega) hL hb (by decide +kernel) (by decide +kernel) (by decide +kernel) (by decide +kernel) (by decide +kernel) ?_
  show ly_X g b L xs (d + 50) 1194 (LO i) _ m1 K
  refine ly_bool (sc_i3 xs _) (by decide +kernel) (by decide +kernel) (by decide +kernel) (by decide +kernel) (fun o2 ho2 => ?_)
  rw [ho2, ← ho]
  show ly_X g b L xs (d + 50) 1202 (LO i) _ m1 K
  refine ly_callV (av := [sh_i (sc xs (i + 1)), sh_i (sc xs (i + 2)), sh_i (o)]) rfl rfl rfl mo_Mod_see ml_Lw_156 im_Mod_see se_Mod_see rfl (Nat.le_of_ble_eq_true rfl) (by decide +kernel) (r_see (d := d + 48) hI.1.1 (RR1 hI.2.2 hc) (sc_i3 xs _) (sc_i3 xs _) (b01 _ ho) (fun m2 hr => ?_))
  show ly_X g b L xs (d + 50) 1205 (LO i) [sh_i (_), sh_i (_)] m2 K
  exact ly_same (off := 311) (by decide) (by decide +kernel) (k _ _ (LI_of (WI_see hI.1 (b01 _ ho)) hc hr))
theorem lc_32 {g : sh_G} {b L d i N : Nat} {xs : Nat → Int32} {w : Wd} {mem : sh_Mem} {K : ly_T} (hb : g.2.2.2.2.2 900 = b) (hL : L ≤ 3584) (hi : i + 7 ≤ L) (hN : N ≤ 512) (hI : LI N w mem) (k : ∀ w' m', LI (N + 1) w' m' → K 1516 (LO i) [] m') : ly_X g b L xs (d + 50) 1210 (LO i) [] mem K := by
  refine ly_al (q := 1) (j := 1) rfl (List.mem_of_getElem? (i := 1) rfl) (by decide +kernel) ?_
  show ly_X g b L xs (d + 50) 1211 (LO i) _ mem K
  refine ly_callV (av := []) rfl rfl rfl mo_Sto_who ml_Lw_157 im_Sto_who se_Sto_who rfl (Nat.le_of_ble_eq_true rfl) (by decide +kernel) (c_who (d := d + 45) hI.1.1 hI.2.1 (fun m1 hc => ?_))
  show ly_X g b L xs (d + 50) 1214 (LO i) [sh_i (_)] m1 K
  refine ly_al (q := 2) (j := 2) rfl (List.mem_of_getElem? (i := 2) rfl) (by decide +kernel) ?_
  show ly_X g b L xs (d + 50) 1215 (LO i) _ m1 K
  refine ly_callV (av := []) rfl rfl rfl mo_Mod_who ml_Lw_160 im_Mod_who se_Mod_who rfl (Nat.le_of_ble_eq_true rfl) (by decide +kernel) (r_who (d := d + 45) hI.1.1 (RR1 hI.2.2 hc) (fun m2 hr _ => ?_))
  show ly_X g b L xs (d + 50) 1218 (LO i) [sh_i (_), sh_i (_)] m2 K
  exact ly_same (off := 298) (by decide) (by decide +kernel) (k _ _ (LI_of (WI_id hI.1) hc hr))
theorem lc_33 {g : sh_G} {b L d i N : Nat} {xs : Nat → Int32} {w : Wd} {mem : sh_Mem} {K : ly_T} (hb : g.2.2.2.2.2 900 = b) (hL : L ≤ 3584) (hi : i + 7 ≤ L) (hN : N ≤ 512) (hI : LI N w mem) (k : ∀ w' m', LI (N + 1) w' m' → K 1516 (LO i) [] m') : ly_X g b L xs (d + 50) 1223 (LO i) [] mem K := by
  refine ly_al (q := 1) (j := 1) rfl (List.mem_of_getElem? (i := 1) rfl) (by decide +kernel) ?_
  show ly_X g b L xs (d + 50) 1224 (LO i) _ mem K
  refine ly_callV (av := []) rfl rfl rfl mo_Sto_ask ml_Lw_161 im_Sto_ask se_Sto_ask rfl (Nat.le_of_ble_eq_true rfl) (by decide +kernel) (c_ask (d := d + 44) hI.1.1 hI.2.1 (fun m1 hc => ?_))
  show ly_X g b L xs (d + 50) 1227 (LO i) [sh_i (_)] m1 K
  refine ly_al (q := 2) (j := 2) rfl (List.mem_of_getElem? (i := 2) rfl) (by decide +kernel) ?_
  show ly_X g b L xs (d + 50) 1228 (LO i) _ m1 K
  refine ly_callV (av := []) rfl rfl rfl mo_Mod_ask ml_Lw_164 im_Mod_ask se_Mod_ask rfl (Nat.le_of_ble_eq_true rfl) (by decide +kernel) (r_ask (d := d + 44) hI.1.1 (RR1 hI.2.2 hc) (fun m2 hr => ?_))
  show ly_X g b L xs (d + 50) 1231 (LO i) [sh_i (_), sh_i (_)] m2 K
  exact ly_same (off := 285) (by decide) (by decide +kernel) (k _ _ (LI_of (WI_id hI.1) hc hr))
theorem lc_34 {g : sh_G} {b L d i N : Nat} {xs : Nat → Int32} {w : Wd} {mem : sh_Mem} {K : ly_T} (hb : g.2.2.2.2.2 900 = b) (hL : L ≤ 3584) (hi : i + 7 ≤ L) (hN : N ≤ 512) (hI : LI N w mem) (k : ∀ w' m', LI (N + 1) w' m' → K 1516 (LO i) [] m') : ly_X g b L xs (d + 50) 1236 (LO i) [] mem K := by
  refine ly_al (q := 1) (j := 1) rfl (List.mem_of_getElem? (i := 1) rfl) (by decide +kernel) ?_
  show ly_X g b L xs (d + 50) 1237 (LO i) _ mem K
  refine ly_arg (k := 1) (by omega) hL hb (by decide +kernel) (by decide +kernel) (by decide +kernel) (by decide +kernel) (by decide +kernel) ?_
  show ly_X g b L xs (d + 50) 1243 (LO i) _ mem K
  refine ly_arg (k := 2) (by omega) hL hb (by decide +kernel) (by decide +kernel) (by decide +kernel) (by decide +kernel) (by decide +kernel) ?_
  show ly_X g b L xs (d + 50) 1249 (LO i) _ mem K
  refine ly_arg (k := 3) (by omega) hL hb (by decide +kernel) (by decide +kernel) (by decide +kernel) (by decide +kernel) (by decide +kernel) ?_
  show ly_X g b L xs (d + 50) 1255 (LO i) _ mem K
  refine ly_arg (k := 4) (by omega) hL hb (by decide +kernel) (by decide +kernel) (by decide +kernel) (by decide +kernel) (by decide +kernel) ?_
  show ly_X g b L xs (d + 50) 1261 (LO i) _ mem K
  refine ly_callV (av := [sh_i (sc xs (i + 1)), sh_i (sc xs (i + 2)), sh_i (sc xs (i + 3)), sh_i (sc xs (i + 4))]) rfl rfl rfl mo_Sto_chance ml_Lw_165 im_Sto_chance se_Sto_chance rfl (Nat.le_of_ble_eq_true rfl) (by decide +kernel) (c_chance (d := d + 41) hI.1.1 hI.2.1 (sc_i3 xs _) (sc_i3 xs _) (sc_i3 xs _) (sc_i3 xs _) (fun m1 hc => ?_))
  show ly_X g b L xs (d + 50) 1264 (LO i) [sh_i (_)] m1 K
  refine ly_al (q := 2) (j := 2) rfl (List.mem_of_getElem? (i := 2) rfl) (by decide +kernel) ?_
  show ly_X g b L xs (d + 50) 1265 (LO i) _ m1 K
  refine ly_arg (k := 1) (by omega) hL hb (by decide +kernel) (by decide +kernel) (by decide +kernel) (by decide +kernel) (by decide +kernel) ?_
  show ly_X g b L xs (d + 50) 1271 (LO i) _ m1 K
  refine ly_arg (k := 2) (by omega) hL hb (by decide +kernel) (by decide +kernel) (by decide +kernel) (by decide +kernel) (by decide +kernel) ?_
  show ly_X g b L xs (d + 50) 1277 (LO i) _ m1 K
  refine ly_arg (k := 3) (by omega) hL hb (by decide +kernel) (by decide +kernel) (by decide +kernel) (by decide +kernel) (by decide +kernel) ?_
  show ly_X g b L xs (d + 50) 1283 (LO i) _ m1 K
  refine ly_arg (k := 4) (by omega) hL hb (by decide +kernel) (by decide +kernel) (by decide +kernel) (by decide +kernel) (by decide +kernel) ?_
  show ly_X g b L xs (d + 50) 1289 (LO i) _ m1 K
  refine ly_callV (av := [sh_i (sc xs (i + 1)), sh_i (sc xs (i + 2)), sh_i (sc xs (i + 3)), sh_i (sc xs (i + 4))]) rfl rfl rfl mo_Mod_chance ml_Lw_168 im_Mod_chance se_Mod_chance rfl (Nat.le_of_ble_eq_true rfl) (by decide +kernel) (r_chance (d := d + 46) hI.1.1 (RR1 hI.2.2 hc) (sc_i3 xs _) (sc_i3 xs _) (sc_i3 xs _) (sc_i3 xs _) (fun m2 hr => ?_))
  show ly_X g b L xs (d + 50) 1292 (LO i) [sh_i (_), sh_i (_)] m2 K
  exact ly_same (off := 224) (by decide) (by decide +kernel) (k _ _ (LI_of (WI_id hI.1) hc hr))
theorem lc_36 {g : sh_G} {b L d i N : Nat} {xs : Nat → Int32} {w : Wd} {mem : sh_Mem} {K : ly_T} (hb : g.2.2.2.2.2 900 = b) (hL : L ≤ 3584) (hi : i + 7 ≤ L) (hN : N ≤ 512) (hI : LI N w mem) (k : ∀ w' m', LI (N + 1) w' m' → K 1516 (LO i) [] m') : ly_X g b L xs (d + 50) 1389 (LO i) [] mem K := by
  refine ly_al (q := 1) (j := 1) rfl (List.mem_of_getElem? (i := 1) rfl) (by decide +kernel) ?_
  show ly_X g b L xs (d + 50) 1390 (LO i) _ mem K
  refine ly_arg (k := 1) (by omega) hL hb (by decide +kernel) (by decide +kernel) (by decide +kernel) (by decide +kernel) (by decide +kernel) ?_
  show ly_X g b L xs (d + 50) 1396 (LO i) _ mem K
  refine ly_arg (k := 2) (by omega) hL hb (by decide +kernel) (by decide +kernel) (by decide +kernel) (by decide +kernel) (by decide +kernel) ?_
  show ly_X g b L xs (d + 50) 1402 (LO i) _ mem K
  refine ly_arg (k := 3) (by omega) hL hb (by decide +kernel) (by decide +kernel) (by decide +kernel) (by decide +kernel) (by decide +kernel) ?_
  show ly_X g b L xs (d + 50) 1408 (LO i) _ mem K
  refine ly_callV (av := [sh_i (sc xs (i + 1)), sh_i (sc xs (i + 2)), sh_i (sc xs (i + 3))]) rfl rfl rfl mo_Sto_years ml_Lw_178 im_Sto_years se_Sto_years rfl (Nat.le_of_ble_eq_true rfl) (by decide +kernel) (c_years (d := d + 43) hI.1.1 hI.2.1 (sc_i3 xs _) (sc_i3 xs _) (sc_i3 xs _) (fun m1 hc => ?_))
  show ly_X g b L xs (d + 50) 1411 (LO i) [sh_i (_)] m1 K
  refine ly_al (q := 2) (j := 2) rfl (List.mem_of_getElem? (i := 2) rfl) (by decide +kernel) ?_
  show ly_X g b L xs (d + 50) 1412 (LO i) _ m1 K
  refine ly_arg (k := 1) (by omega) hL hb (by decide +kernel) (by decide +kernel) (by decide +kernel) (by decide +kernel) (by decide +kernel) ?_
  show ly_X g b L xs (d + 50) 1418 (LO i) _ m1 K
  refine ly_arg (k := 2) (by omega) hL hb (by decide +kernel) (by decide +kernel) (by decide +kernel) (by decide +kernel) (by decide +kernel) ?_
  show ly_X g b L xs (d + 50) 1424 (LO i) _ m1 K
  refine ly_arg (k := 3) (by omega) hL hb (by decide +kernel) (by decide +kernel) (by decide +kernel) (by decide +kernel) (by decide +kernel) ?_
  show ly_X g b L xs (d + 50) 1430 (LO i) _ m1 K
  refine ly_callV (av := [sh_i (sc xs (i + 1)), sh_i (sc xs (i + 2)), sh_i (sc xs (i + 3))]) rfl rfl rfl mo_Mod_years ml_Lw_181 im_Mod_years se_Mod_years rfl (Nat.le_of_ble_eq_true rfl) (by decide +kernel) (r_years (d := d + 43) hI.1.1 (RR1 hI.2.2 hc) (sc_i3 xs _) (sc_i3 xs _) (sc_i3 xs _) (fun m2 hr => ?_))
  show ly_X g b L xs (d + 50) 1433 (LO i) [sh_i (_), sh_i (_)] m2 K
  exact ly_same (off := 83) (by decide) (by decide +kernel) (k _ _ (LI_of (WI_id hI.1) hc hr))
theorem lc_37 {g : sh_G} {b L d i N : Nat} {xs : Nat → Int32} {w : Wd} {mem : sh_Mem} {K : ly_T} (hb : g.2.2.2.2.2 900 = b) (hL : L ≤ 3584) (hi : i + 7 ≤ L) (hN : N ≤ 512) (hI : LI N w mem) (k : ∀ w' m', LI (N + 1) w' m' → K 1516 (LO i) [] m') : ly_X g b L xs (d + 50) 1438 (LO i) [] mem K := by
  refine ly_al (q := 1) (j := 1) rfl (List.mem_of_getElem? (i := 1) rfl) (by decide +kernel) ?_
  show ly_X g b L xs (d + 50) 1439 (LO i) _ mem K
  refine ly_arg (k := 1) (by omega) hL hb (by decide +kernel) (by decide +kernel) (by decide +kernel) (by decide +kernel) (by decide +kernel) ?_
  show ly_X g b L xs (d + 50) 1445 (LO i) _ mem K
  refine ly_arg (k := 2) (by omega) hL hb (by decide +kernel) (by decide +kernel) (by decide +kernel) (by decide +kernel) (by decide +kernel) ?_
  show ly_X g b L xs (d + 50) 1451 (LO i) _ mem K
  refine ly_bool (sc_i3 xs _) (by decide +kernel) (by decide +kernel) (by decide +kernel) (by decide +kernel) (fun o ho => ?_)
  show ly_X g b L xs (d + 50) 1459 (LO i) _ mem K
  refine ly_callV (av := [sh_i (sc xs (i + 1)), sh_i (o)]) rfl rfl rfl mo_Sto_mark ml_Lw_182 im_Sto_mark se_Sto_mark rfl (Nat.le_of_ble_eq_true rfl) (by decide +kernel) (c_mark (d := d + 46) hI.1.1 hI.2.1 (sc_i3 xs _) (b01 _ ho) (fun m1 hc => ?_))
  show ly_X g b L xs (d + 50) 1462 (LO i) [sh_i (_)] m1 K
  refine ly_al (q := 2) (j := 2) rfl (List.mem_of_getElem? (i := 2) rfl) (by decide +kernel) ?_
  show ly_X g b L xs (d + 50) 1463 (LO i) _ m1 K
  refine ly_arg (k := 1) (by omega) hL hb (by decide +kernel) (by decide +kernel) (by decide +kernel) (by decide +kernel) (by decide +kernel) ?_
  show ly_X g b L xs (d + 50) 1469 (LO i) _ m1 K
  refine ly_arg (k := 2) (by omega) hL hb (by decide +kernel) (by decide +kernel) (by decide +kernel) (by decide +kernel) (by decide +kernel) ?_
  show ly_X g b L xs (d + 50) 1475 (LO i) _ m1 K
  refine ly_bool (sc_i3 xs _) (by decide +kernel) (by decide +kernel) (by decide +kernel) (by decide +kernel) (fun o2 ho2 => ?_)
  rw [ho2, ← ho]
  show ly_X g b L xs (d + 50) 1483 (LO i) _ m1 K
  refine ly_callV (av := [sh_i (sc xs (i + 1)), sh_i (o)]) rfl rfl rfl mo_Mod_mark ml_Lw_186 im_Mod_mark se_Mod_mark rfl (Nat.le_of_ble_eq_true rfl) (by decide +kernel) (r_mark (d := d + 48) hI.1.1 (RR1 hI.2.2 hc) (sc_i3 xs _) (b01 _ ho) (fun m2 hr => ?_))
  show ly_X g b L xs (d + 50) 1486 (LO i) [sh_i (_), sh_i (_)] m2 K
  exact ly_same (off := 30) (by decide) (by decide +kernel) (k _ _ (LI_of (WI_mark hI.1) hc hr))
theorem lc_38 {g : sh_G} {b L d i N : Nat} {xs : Nat → Int32} {w : Wd} {mem : sh_Mem} {K : ly_T} (hb : g.2.2.2.2.2 900 = b) (hL : L ≤ 3584) (hi : i + 7 ≤ L) (hN : N ≤ 512) (hI : LI N w mem) (k : ∀ w' m', LI (N + 1) w' m' → K 1516 (LO i) [] m') : ly_X g b L xs (d + 50) 1491 (LO i) [] mem K := by
  refine ly_al (q := 1) (j := 1) rfl (List.mem_of_getElem? (i := 1) rfl) (by decide +kernel) ?_
  show ly_X g b L xs (d + 50) 1492 (LO i) _ mem K
  refine ly_arg (k := 1) (by omega) hL hb (by decide +kernel) (by decide +kernel) (by decide +kernel) (by decide +kernel) (by decide +kernel) ?_
  show ly_X g b L xs (d + 50) 1498 (LO i) _ mem K
  refine ly_callV (av := [sh_i (sc xs (i + 1))]) rfl rfl rfl mo_Sto_count ml_Lw_187 im_Sto_count se_Sto_count rfl (Nat.le_of_ble_eq_true rfl) (by decide +kernel) (c_count (d := d + 47) hI.1.1 hI.2.1 (sc_i3 xs _) (fun m1 hc => ?_))
  show ly_X g b L xs (d + 50) 1501 (LO i) [sh_i (_)] m1 K
  refine ly_al (q := 2) (j := 2) rfl (List.mem_of_getElem? (i := 2) rfl) (by decide +kernel) ?_
  show ly_X g b L xs (d + 50) 1502 (LO i) _ m1 K
  refine ly_arg (k := 1) (by omega) hL hb (by decide +kernel) (by decide +kernel) (by decide +kernel) (by decide +kernel) (by decide +kernel) ?_
  show ly_X g b L xs (d + 50) 1508 (LO i) _ m1 K
  refine ly_callV (av := [sh_i (sc xs (i + 1))]) rfl rfl rfl mo_Mod_count ml_Lw_190 im_Mod_count se_Mod_count rfl (Nat.le_of_ble_eq_true rfl) (by decide +kernel) (r_count (d := d + 47) hI.1.1 (RR1 hI.2.2 hc) (sc_i3 xs _) (fun m2 hr => ?_))
  show ly_X g b L xs (d + 50) 1511 (LO i) [sh_i (_), sh_i (_)] m2 K
  exact ly_same (off := 5) (by decide) (by decide +kernel) (k _ _ (LI_of (WI_id hI.1) hc hr))
