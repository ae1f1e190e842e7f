/-! ===== the cases of the law ===== -/
theorem lw_c19_ : ∀ x ∈ [Cond.constantLong "StolenHolidaysLaw" 19 4294967295], x ∈ lw_g := sh_words [1881] (by decide +kernel) (by decide +kernel)
theorem lw_c19 : Cond.constantLong "StolenHolidaysLaw" 19 4294967295 ∈ lw_g := lw_c19_ _ List.mem_cons_self
theorem lc_0 {g : sh_G} {b L d i N : Nat} {xs : Nat → Int32} {w : Wd} {mem : sh_Mem} {K : ly_T} (hb : g.2.2.2.2.2 900 = b) (hL : L ≤ 3584) (hi : i + 7 ≤ L) (hN : N ≤ 512) (hI : LI N w mem) (k : ∀ w' m', LI (N + 1) w' m' → K 1516 (LO i) [] m') : ly_X g b L xs (d + 50) 212 (LO i) [] mem K := by
  refine ly_al (q := 1) (j := 1) rfl (List.mem_of_getElem? (i := 1) rfl) (by decide +kernel) ?_
  show ly_X g b L xs (d + 50) 213 (LO i) _ mem K
  refine ly_arg (k := 1) (by omega) hL hb (by decide +kernel) (by decide +kernel) (by decide +kernel) (by decide +kernel) (by decide +kernel) ?_
  show ly_X g b L xs (d + 50) 219 (LO i) _ mem K
  refine ly_step (fun _ z => xr_i2l (M := m_Lw_law) (by decide +kernel) z) ?_
  refine ly_step (fun _ z => xr_bipush (M := m_Lw_law) (n := 32) (v := 32) (by decide) (by decide +kernel) z) ?_
  refine ly_step (fun _ z => xr_lshl (M := m_Lw_law) (by decide +kernel) z) ?_
  refine ly_arg (k := 2) (by omega) hL hb (by decide +kernel) (by decide +kernel) (by decide +kernel) (by decide +kernel) (by decide +kernel) ?_
  show ly_X g b L xs (d + 50) 229 (LO i) _ mem K
  refine ly_step (fun _ z => xr_i2l (M := m_Lw_law) (by decide +kernel) z) ?_
  refine ly_step (fun _ z => xr_ldc2 (M := m_Lw_law) (v := 4294967295) (v3 := 4294967295) (by decide) lw_c19 (by decide +kernel) z) ?_
  refine ly_step (fun _ z => xr_land (M := m_Lw_law) (by decide +kernel) z) ?_
  refine ly_step (fun _ z => xr_lor (M := m_Lw_law) (by decide +kernel) z) ?_
  refine ly_arg (k := 3) (by omega) hL hb (by decide +kernel) (by decide +kernel) (by decide +kernel) (by decide +kernel) (by decide +kernel) ?_
  show ly_X g b L xs (d + 50) 241 (LO i) _ mem K
  refine ly_step (fun _ z => xr_i2l (M := m_Lw_law) (by decide +kernel) z) ?_
  refine ly_step (fun _ z => xr_bipush (M := m_Lw_law) (n := 32) (v := 32) (by decide) (by decide +kernel) z) ?_
  refine ly_step (fun _ z => xr_lshl (M := m_Lw_law) (by decide +kernel) z) ?_
  refine ly_arg (k := 4) (by omega) hL hb (by decide +kernel) (by decide +kernel) (by decide +kernel) (by decide +kernel) (by decide +kernel) ?_
  show ly_X g b L xs (d + 50) 251 (LO i) _ mem K
  refine ly_step (fun _ z => xr_i2l (M := m_Lw_law) (by decide +kernel) z) ?_
  refine ly_step (fun _ z => xr_ldc2 (M := m_Lw_law) (v := 4294967295) (v3 := 4294967295) (by decide) lw_c19 (by decide +kernel) z) ?_
  refine ly_step (fun _ z => xr_land (M := m_Lw_law) (by decide +kernel) z) ?_
  refine ly_step (fun _ z => xr_lor (M := m_Lw_law) (by decide +kernel) z) ?_
  refine ly_arg (k := 5) (by omega) hL hb (by decide +kernel) (by decide +kernel) (by decide +kernel) (by decide +kernel) (by decide +kernel) ?_
  show ly_X g b L xs (d + 50) 263 (LO i) _ mem K
  refine ly_step (fun _ z => xr_i2l (M := m_Lw_law) (by decide +kernel) z) ?_
  refine ly_step (fun _ z => xr_bipush (M := m_Lw_law) (n := 32) (v := 32) (by decide) (by decide +kernel) z) ?_
  refine ly_step (fun _ z => xr_lshl (M := m_Lw_law) (by decide +kernel) z) ?_
  refine ly_arg6 (by omega) hL hb (by decide +kernel) (by decide +kernel) (by decide +kernel) (by decide +kernel) (by decide +kernel) ?_
  show ly_X g b L xs (d + 50) 274 (LO i) _ mem K
  refine ly_step (fun _ z => xr_i2l (M := m_Lw_law) (by decide +kernel) z) ?_
  refine ly_step (fun _ z => xr_ldc2 (M := m_Lw_law) (v := 4294967295) (v3 := 4294967295) (by decide) lw_c19 (by decide +kernel) z) ?_
  refine ly_step (fun _ z => xr_land (M := m_Lw_law) (by decide +kernel) z) ?_
  refine ly_step (fun _ z => xr_lor (M := m_Lw_law) (by decide +kernel) z) ?_
  refine ly_callV (av := [sh_l ((l_or (l_shl (i_2l (sc xs (i + 1))) 32) (l_and (i_2l (sc xs (i + 2))) 4294967295))), sh_l ((l_or (l_shl (i_2l (sc xs (i + 3))) 32) (l_and (i_2l (sc xs (i + 4))) 4294967295))), sh_l ((l_or (l_shl (i_2l (sc xs (i + 5))) 32) (l_and (i_2l (sc xs (i + 6))) 4294967295)))]) rfl rfl rfl mo_Sto_feed ml_Lw_21 im_Sto_feed se_Sto_feed rfl (Nat.le_of_ble_eq_true rfl) (by decide +kernel) (c_feed (d := d + 48) hI.1.2.1 hI.2.1 (fun m1 hc => ?_))
  show ly_X g b L xs (d + 50) 283 (LO i) [sh_i (_)] m1 K
  refine ly_al (q := 2) (j := 2) rfl (List.mem_of_getElem? (i := 2) rfl) (by decide +kernel) ?_
  show ly_X g b L xs (d + 50) 284 (LO i) _ m1 K
  refine ly_arg (k := 1) (by omega) hL hb (by decide +kernel) (by decide +kernel) (by decide +kernel) (by decide +kernel) (by decide +kernel) ?_
  show ly_X g b L xs (d + 50) 290 (LO i) _ m1 K
  refine ly_step (fun _ z => xr_i2l (M := m_Lw_law) (by decide +kernel) z) ?_
  refine ly_step (fun _ z => xr_bipush (M := m_Lw_law) (n := 32) (v := 32) (by decide) (by decide +kernel) z) ?_
  refine ly_step (fun _ z => xr_lshl (M := m_Lw_law) (by decide +kernel) z) ?_
  refine ly_arg (k := 2) (by omega) hL hb (by decide +kernel) (by decide +kernel) (by decide +kernel) (by decide +kernel) (by decide +kernel) ?_
  show ly_X g b L xs (d + 50) 300 (LO i) _ m1 K
  refine ly_step (fun _ z => xr_i2l (M := m_Lw_law) (by decide +kernel) z) ?_
  refine ly_step (fun _ z => xr_ldc2 (M := m_Lw_law) (v := 4294967295) (v3 := 4294967295) (by decide) lw_c19 (by decide +kernel) z) ?_
  refine ly_step (fun _ z => xr_land (M := m_Lw_law) (by decide +kernel) z) ?_
  refine ly_step (fun _ z => xr_lor (M := m_Lw_law) (by decide +kernel) z) ?_
  refine ly_arg (k := 3) (by omega) hL hb (by decide +kernel) (by decide +kernel) (by decide +kernel) (by decide +kernel) (by decide +kernel) ?_
  show ly_X g b L xs (d + 50) 312 (LO i) _ m1 K
  refine ly_step (fun _ z => xr_i2l (M := m_Lw_law) (by decide +kernel) z) ?_
  refine ly_step (fun _ z => xr_bipush (M := m_Lw_law) (n := 32) (v := 32) (by decide) (by decide +kernel) z) ?_
  refine ly_step (fun _ z => xr_lshl (M := m_Lw_law) (by decide +kernel) z) ?_
  refine ly_arg (k := 4) (by omega) hL hb (by decide +kernel) (by decide +kernel) (by decide +kernel) (by decide +kernel) (by decide +kernel) ?_
  show ly_X g b L xs (d + 50) 322 (LO i) _ m1 K
  refine ly_step (fun _ z => xr_i2l (M := m_Lw_law) (by decide +kernel) z) ?_
  refine ly_step (fun _ z => xr_ldc2 (M := m_Lw_law) (v := 4294967295) (v3 := 4294967295) (by decide) lw_c19 (by decide +kernel) z) ?_
  refine ly_step (fun _ z => xr_land (M := m_Lw_law) (by decide +kernel) z) ?_
  refine ly_step (fun _ z => xr_lor (M := m_Lw_law) (by decide +kernel) z) ?_
  refine ly_arg (k := 5) (by omega) hL hb (by decide +kernel) (by decide +kernel) (by decide +kernel) (by decide +kernel) (by decide +kernel) ?_
  show ly_X g b L xs (d + 50) 334 (LO i) _ m1 K
  refine ly_step (fun _ z => xr_i2l (M := m_Lw_law) (by decide +kernel) z) ?_
  refine ly_step (fun _ z => xr_bipush (M := m_Lw_law) (n := 32) (v := 32) (by decide) (by decide +kernel) z) ?_
  refine ly_step (fun _ z => xr_lshl (M := m_Lw_law) (by decide +kernel) z) ?_
  refine ly_arg6 (by omega) hL hb (by decide +kernel) (by decide +kernel) (by decide +kernel) (by decide +kernel) (by decide +kernel) ?_
  show ly_X g b L xs (d + 50) 345 (LO i) _ m1 K
  refine ly_step (fun _ z => xr_i2l (M := m_Lw_law) (by decide +kernel) z) ?_
  refine ly_step (fun _ z => xr_ldc2 (M := m_Lw_law) (v := 4294967295) (v3 := 4294967295) (by decide) lw_c19 (by decide +kernel) z) ?_
  refine ly_step (fun _ z => xr_land (M := m_Lw_law) (by decide +kernel) z) ?_
  refine ly_step (fun _ z => xr_lor (M := m_Lw_law) (by decide +kernel) z) ?_
  refine ly_callV (av := [sh_l ((l_or (l_shl (i_2l (sc xs (i + 1))) 32) (l_and (i_2l (sc xs (i + 2))) 4294967295))), sh_l ((l_or (l_shl (i_2l (sc xs (i + 3))) 32) (l_and (i_2l (sc xs (i + 4))) 4294967295))), sh_l ((l_or (l_shl (i_2l (sc xs (i + 5))) 32) (l_and (i_2l (sc xs (i + 6))) 4294967295)))]) rfl rfl rfl mo_Mod_feed ml_Lw_25 im_Mod_feed se_Mod_feed rfl (Nat.le_of_ble_eq_true rfl) (by decide +kernel) (r_feed (d := d + 49) hI.1.2.1 (RR1 hI.2.2 hc) (fun m2 hr => ?_))
  show ly_X g b L xs (d + 50) 354 (LO i) [sh_i (_), sh_i (_)] m2 K
  exact ly_same (off := 1162) (by decide) (by decide +kernel) (k _ _ (LI_of (WI_feed hI.1) hc hr))
theorem lc_1 {g : sh_G} {b L d i N : Nat} {xs : Nat → Int32} {w : Wd} {mem : sh_Mem} {K : ly_T} (hb : g.2.2.2.2.2 900 = b) (hL : L ≤ 3584) (hi : i + 7 ≤ L) (hN : N ≤ 512) (hI : LI N w mem) (k : ∀ w' m', LI (N + 1) w' m' → K 1516 (LO i) [] m') : ly_X g b L xs (d + 50) 359 (LO i) [] mem K := by
  refine ly_al (q := 1) (j := 1) rfl (List.mem_of_getElem? (i := 1) rfl) (by decide +kernel) ?_
  show ly_X g b L xs (d + 50) 360 (LO i) _ mem K
  refine ly_callV (av := []) rfl rfl rfl mo_Sto_almanac ml_Lw_26 im_Sto_almanac se_Sto_almanac rfl (Nat.le_of_ble_eq_true rfl) (by decide +kernel) (c_almanac (d := d + 0) (JD_all g) hI.1.2.1 hI.2.1 (fun m1 hc => ?_))
  show ly_X g b L xs (d + 50) 363 (LO i) [sh_i (_)] m1 K
  refine ly_al (q := 2) (j := 2) rfl (List.mem_of_getElem? (i := 2) rfl) (by decide +kernel) ?_
  show ly_X g b L xs (d + 50) 364 (LO i) _ m1 K
  refine ly_callV (av := []) rfl rfl rfl mo_Mod_almanac ml_Lw_30 im_Mod_almanac se_Mod_almanac rfl (Nat.le_of_ble_eq_true rfl) (by decide +kernel) (r_almanac (d := d + 43) hI.1.2.1 (RR1 hI.2.2 hc) (fun m2 hr => ?_))
  show ly_X g b L xs (d + 50) 367 (LO i) [sh_i (_), sh_i (_)] m2 K
  exact ly_same (off := 1149) (by decide) (by decide +kernel) (k _ _ (LI_of (WI_alm hI.1) hc hr))
theorem lc_3 {g : sh_G} {b L d i N : Nat} {xs : Nat → Int32} {w : Wd} {mem : sh_Mem} {K : ly_T} (hb : g.2.2.2.2.2 900 = b) (hL : L ≤ 3584) (hi : i + 7 ≤ L) (hN : N ≤ 512) (hI : LI N w mem) (k : ∀ w' m', LI (N + 1) w' m' → K 1516 (LO i) [] m') : ly_X g b L xs (d + 50) 385 (LO i) [] mem K := by
  refine ly_al (q := 1) (j := 1) rfl (List.mem_of_getElem? (i := 1) rfl) (by decide +kernel) ?_
  show ly_X g b L xs (d + 50) 386 (LO i) _ mem K
  refine ly_arg (k := 1) (by omega) hL hb (by decide +kernel) (by decide +kernel) (by decide +kernel) (by decide +kernel) (by decide +kernel) ?_
  show ly_X g b L xs (d + 50) 392 (LO i) _ mem K
  refine ly_arg (k := 2) (by omega) hL hb (by decide +kernel) (by decide +kernel) (by decide +kernel) (by decide +kernel) (by decide +kernel) ?_
  show ly_X g b L xs (d + 50) 398 (LO i) _ mem K
  refine ly_callV (av := [sh_i (sc xs (i + 1)), sh_i (sc xs (i + 2))]) rfl rfl rfl mo_Sto_day ml_Lw_35 im_Sto_day se_Sto_day rfl (Nat.le_of_ble_eq_true rfl) (by decide +kernel) (c_day (d := d + 48) hI.2.1 (sc_i3 xs _) (sc_i3 xs _) (fun m1 hc => ?_))
  show ly_X g b L xs (d + 50) 401 (LO i) [sh_i (_)] m1 K
  refine ly_al (q := 2) (j := 2) rfl (List.mem_of_getElem? (i := 2) rfl) (by decide +kernel) ?_
  show ly_X g b L xs (d + 50) 402 (LO i) _ m1 K
  refine ly_arg (k := 1) (by omega) hL hb (by decide +kernel) (by decide +kernel) (by decide +kernel) (by decide +kernel) (by decide +kernel) ?_
  show ly_X g b L xs (d + 50) 408 (LO i) _ m1 K
  refine ly_arg (k := 2) (by omega) hL hb (by decide +kernel) (by decide +kernel) (by decide +kernel) (by decide +kernel) (by decide +kernel) ?_
  show ly_X g b L xs (d + 50) 414 (LO i) _ m1 K
  refine ly_callV (av := [sh_i (sc xs (i + 1)), sh_i (sc xs (i + 2))]) rfl rfl rfl mo_Mod_day ml_Lw_39 im_Mod_day se_Mod_day rfl (Nat.le_of_ble_eq_true rfl) (by decide +kernel) (r_day (d := d + 48) (RR1 hI.2.2 hc) (sc_i3 xs _) (sc_i3 xs _) (fun m2 hr => ?_))
  show ly_X g b L xs (d + 50) 417 (LO i) [sh_i (_), sh_i (_)] m2 K
  exact ly_same (off := 1099) (by decide) (by decide +kernel) (k _ _ (LI_of (WI_id hI.1) hc hr))
theorem lc_4 {g : sh_G} {b L d i N : Nat} {xs : Nat → Int32} {w : Wd} {mem : sh_Mem} {K : ly_T} (hb : g.2.2.2.2.2 900 = b) (hL : L ≤ 3584) (hi : i + 7 ≤ L) (hN : N ≤ 512) (hI : LI N w mem) (k : ∀ w' m', LI (N + 1) w' m' → K 1516 (LO i) [] m') : ly_X g b L xs (d + 50) 422 (LO i) [] mem K := by
  refine ly_al (q := 1) (j := 1) rfl (List.mem_of_getElem? (i := 1) rfl) (by decide +kernel) ?_
  show ly_X g b L xs (d + 50) 423 (LO i) _ mem K
  refine ly_arg (k := 1) (by omega) hL hb (by decide +kernel) (by decide +kernel) (by decide +kernel) (by decide +kernel) (by decide +kernel) ?_
  show ly_X g b L xs (d + 50) 429 (LO i) _ mem K
  refine ly_arg (k := 2) (by omega) hL hb (by decide +kernel) (by decide +kernel) (by decide +kernel) (by decide +kernel) (by decide +kernel) ?_
  show ly_X g b L xs (d + 50) 435 (LO i) _ mem K
  refine ly_callV (av := [sh_i (sc xs (i + 1)), sh_i (sc xs (i + 2))]) rfl rfl rfl mo_Sto_thief ml_Lw_40 im_Sto_thief se_Sto_thief rfl (Nat.le_of_ble_eq_true rfl) (by decide +kernel) (c_thief (d := d + 48) hI.1.1 hI.2.1 (sc_i3 xs _) (sc_i3 xs _) (fun m1 hc => ?_))
  show ly_X g b L xs (d + 50) 438 (LO i) [sh_i (_)] m1 K
  refine ly_al (q := 2) (j := 2) rfl (List.mem_of_getElem? (i := 2) rfl) (by decide +kernel) ?_
  show ly_X g b L xs (d + 50) 439 (LO i) _ m1 K
  refine ly_arg (k := 1) (by omega) hL hb (by decide +kernel) (by decide +kernel) (by decide +kernel) (by decide +kernel) (by decide +kernel) ?_
  show ly_X g b L xs (d + 50) 445 (LO i) _ m1 K
  refine ly_arg (k := 2) (by omega) hL hb (by decide +kernel) (by decide +kernel) (by decide +kernel) (by decide +kernel) (by decide +kernel) ?_
  show ly_X g b L xs (d + 50) 451 (LO i) _ m1 K
  refine ly_callV (av := [sh_i (sc xs (i + 1)), sh_i (sc xs (i + 2))]) rfl rfl rfl mo_Mod_thief ml_Lw_43 im_Mod_thief se_Mod_thief rfl (Nat.le_of_ble_eq_true rfl) (by decide +kernel) (r_thief (d := d + 48) hI.1.1 (RR1 hI.2.2 hc) (sc_i3 xs _) (sc_i3 xs _) (fun m2 hr => ?_))
  show ly_X g b L xs (d + 50) 454 (LO i) [sh_i (_), sh_i (_)] m2 K
  exact ly_same (off := 1062) (by decide) (by decide +kernel) (k _ _ (LI_of (WI_id hI.1) hc hr))
theorem lc_5 {g : sh_G} {b L d i N : Nat} {xs : Nat → Int32} {w : Wd} {mem : sh_Mem} {K : ly_T} (hb : g.2.2.2.2.2 900 = b) (hL : L ≤ 3584) (hi : i + 7 ≤ L) (hN : N ≤ 512) (hI : LI N w mem) (k : ∀ w' m', LI (N + 1) w' m' → K 1516 (LO i) [] m') : ly_X g b L xs (d + 50) 459 (LO i) [] mem K := by
  refine ly_al (q := 1) (j := 1) rfl (List.mem_of_getElem? (i := 1) rfl) (by decide +kernel) ?_
  show ly_X g b L xs (d + 50) 460 (LO i) _ mem K
  refine ly_arg (k := 1) (by omega) hL hb (by decide +kernel) (by decide +kernel) (by decide +kernel) (by decide +kernel) (by decide +kernel) ?_
  show ly_X g b L xs (d + 50) 466 (LO i) _ mem K
  refine ly_arg (k := 2) (by omega) hL hb (by decide +kernel) (by decide +kernel) (by decide +kernel) (by decide +kernel) (by decide +kernel) ?_
  show ly_X g b L xs (d + 50) 472 (LO i) _ mem K
  refine ly_callV (av := [sh_i (sc xs (i + 1)), sh_i (sc xs (i + 2))]) rfl rfl rfl mo_Sto_steal ml_Lw_44 im_Sto_steal se_Sto_steal rfl (Nat.le_of_ble_eq_true rfl) (by decide +kernel) (c_steal (d := d + 44) hI.1.1 hI.2.1 (sc_i3 xs _) (sc_i3 xs _) (fun m1 hc => ?_))
  show ly_X g b L xs (d + 50) 475 (LO i) [sh_i (_)] m1 K
  refine ly_al (q := 2) (j := 2) rfl (List.mem_of_getElem? (i := 2) rfl) (by decide +kernel) ?_
  show ly_X g b L xs (d + 50) 476 (LO i) _ m1 K
  refine ly_arg (k := 1) (by omega) hL hb (by decide +kernel) (by decide +kernel) (by decide +kernel) (by decide +kernel) (by decide +kernel) ?_
  show ly_X g b L xs (d + 50) 482 (LO i) _ m1 K
  refine ly_arg (k := 2) (by omega) hL hb (by decide +kernel) (by decide +kernel) (by decide +kernel) (by decide +kernel) (by decide +kernel) ?_
  show ly_X g b L xs (d + 50) 488 (LO i) _ m1 K
  refine ly_callV (av := [sh_i (sc xs (i + 1)), sh_i (sc xs (i + 2))]) rfl rfl rfl mo_Mod_steal ml_Lw_47 im_Mod_steal se_Mod_steal rfl (Nat.le_of_ble_eq_true rfl) (by decide +kernel) (r_steal (d := d + 45) hI.1.1 (RR1 hI.2.2 hc) (sc_i3 xs _) (sc_i3 xs _) (fun m2 hr => ?_))
  show ly_X g b L xs (d + 50) 491 (LO i) [sh_i (_), sh_i (_)] m2 K
  exact ly_same (off := 1025) (by decide) (by decide +kernel) (k _ _ (LI_of (WI_steal hI.1) hc hr))
theorem lc_6 {g : sh_G} {b L d i N : Nat} {xs : Nat → Int32} {w : Wd} {mem : sh_Mem} {K : ly_T} (hb : g.2.2.2.2.2 900 = b) (hL : L ≤ 3584) (hi : i + 7 ≤ L) (hN : N ≤ 512) (hI : LI N w mem) (k : ∀ w' m', LI (N + 1) w' m' → K 1516 (LO i) [] m') : ly_X g b L xs (d + 50) 496 (LO i) [] mem K := by
  refine ly_al (q := 1) (j := 1) rfl (List.mem_of_getElem? (i := 1) rfl) (by decide +kernel) ?_
  show ly_X g b L xs (d + 50) 497 (LO i) _ mem K
  refine ly_arg (k := 1) (by omega) hL hb (by decide +kernel) (by decide +kernel) (by decide +kernel) (by decide +kernel) (by decide +kernel) ?_
  show ly_X g b L xs (d + 50) 503 (LO i) _ mem K
  refine ly_callV (av := [sh_i (sc xs (i + 1))]) rfl rfl rfl mo_Sto_sell ml_Lw_48 im_Sto_sell se_Sto_sell rfl (Nat.le_of_ble_eq_true rfl) (by decide +kernel) (c_sell (d := d + 44) hI.1.1 hI.2.1 (sc_i3 xs _) (fun m1 hc => ?_))
  show ly_X g b L xs (d + 50) 506 (LO i) [sh_i (_)] m1 K
  refine ly_al (q := 2) (j := 2) rfl (List.mem_of_getElem? (i := 2) rfl) (by decide +kernel) ?_
  show ly_X g b L xs (d + 50) 507 (LO i) _ m1 K
  refine ly_arg (k := 1) (by omega) hL hb (by decide +kernel) (by decide +kernel) (by decide +kernel) (by decide +kernel) (by decide +kernel) ?_
  show ly_X g b L xs (d + 50) 513 (LO i) _ m1 K
  refine ly_callV (av := [sh_i (sc xs (i + 1))]) rfl rfl rfl mo_Mod_sell ml_Lw_52 im_Mod_sell se_Mod_sell rfl (Nat.le_of_ble_eq_true rfl) (by decide +kernel) (r_sell (d := d + 44) hI.1.1 (RR1 hI.2.2 hc) (sc_i3 xs _) (fun m2 hr => ?_))
  show ly_X g b L xs (d + 50) 516 (LO i) [sh_i (_), sh_i (_)] m2 K
  exact ly_same (off := 1000) (by decide) (by decide +kernel) (k _ _ (LI_of (WI_sell hI.1) hc hr))
theorem lc_7 {g : sh_G} {b L d i N : Nat} {xs : Nat → Int32} {w : Wd} {mem : sh_Mem} {K : ly_T} (hb : g.2.2.2.2.2 900 = b) (hL : L ≤ 3584) (hi : i + 7 ≤ L) (hN : N ≤ 512) (hI : LI N w mem) (k : ∀ w' m', LI (N + 1) w' m' → K 1516 (LO i) [] m') : ly_X g b L xs (d + 50) 521 (LO i) [] mem K := by
  refine ly_al (q := 1) (j := 1) rfl (List.mem_of_getElem? (i := 1) rfl) (by decide +kernel) ?_
  show ly_X g b L xs (d + 50) 522 (LO i) _ mem K
  refine ly_arg (k := 1) (by omega) hL hb (by decide +kernel) (by decide +kernel) (by decide +kernel) (by decide +kernel) (by decide +kernel) ?_
  show ly_X g b L xs (d + 50) 528 (LO i) _ mem K
  refine ly_callV (av := [sh_i (sc xs (i + 1))]) rfl rfl rfl mo_Sto_spend ml_Lw_53 im_Sto_spend se_Sto_spend rfl (Nat.le_of_ble_eq_true rfl) (by decide +kernel) (c_spend (d := d + 47) hI.1.1 hI.2.1 (sc_i3 xs _) (fun m1 hc => ?_))
  show ly_X g b L xs (d + 50) 531 (LO i) [sh_i (_)] m1 K
  refine ly_al (q := 2) (j := 2) rfl (List.mem_of_getElem? (i := 2) rfl) (by decide +kernel) ?_
  show ly_X g b L xs (d + 50) 532 (LO i) _ m1 K
  refine ly_arg (k := 1) (by omega) hL hb (by decide +kernel) (by decide +kernel) (by decide +kernel) (by decide +kernel) (by decide +kernel) ?_
  show ly_X g b L xs (d + 50) 538 (LO i) _ m1 K
  refine ly_callV (av := [sh_i (sc xs (i + 1))]) rfl rfl rfl mo_Mod_spend ml_Lw_56 im_Mod_spend se_Mod_spend rfl (Nat.le_of_ble_eq_true rfl) (by decide +kernel) (r_spend (d := d + 44) hI.1.1 (RR1 hI.2.2 hc) (sc_i3 xs _) (fun m2 hr => ?_))
  show ly_X g b L xs (d + 50) 541 (LO i) [sh_i (_), sh_i (_)] m2 K
  exact ly_same (off := 975) (by decide) (by decide +kernel) (k _ _ (LI_of (WI_spend hI.1) hc hr))
theorem lc_8 {g : sh_G} {b L d i N : Nat} {xs : Nat → Int32} {w : Wd} {mem : sh_Mem} {K : ly_T} (hb : g.2.2.2.2.2 900 = b) (hL : L ≤ 3584) (hi : i + 7 ≤ L) (hN : N ≤ 512) (hI : LI N w mem) (k : ∀ w' m', LI (N + 1) w' m' → K 1516 (LO i) [] m') : ly_X g b L xs (d + 50) 546 (LO i) [] mem K := by
  refine ly_al (q := 1) (j := 1) rfl (List.mem_of_getElem? (i := 1) rfl) (by decide +kernel) ?_
  show ly_X g b L xs (d + 50) 547 (LO i) _ mem K
  refine ly_arg (k := 1) (by omega) hL hb (by decide +kernel) (by decide +kernel) (by decide +kernel) (by decide +kernel) (by decide +kernel) ?_
  show ly_X g b L xs (d + 50) 553 (LO i) _ mem K
  refine ly_arg (k := 2) (by omega) hL hb (by decide +kernel) (by decide +kernel) (by decide +kernel) (by decide +kernel) (by decide +kernel) ?_
  show ly_X g b L xs (d + 50) 559 (LO i) _ mem K
  refine ly_callV (av := [sh_i (sc xs (i + 1)), sh_i (sc xs (i + 2))]) rfl rfl rfl mo_Sto_swap ml_Lw_57 im_Sto_swap se_Sto_swap rfl (Nat.le_of_ble_eq_true rfl) (by decide +kernel) (c_swap (d := d + 46) hI.1.1 hI.2.1 (sc_i3 xs _) (sc_i3 xs _) (fun m1 hc => ?_))
  show ly_X g b L xs (d + 50) 562 (LO i) [sh_i (_)] m1 K
  refine ly_al (q := 2) (j := 2) rfl (List.mem_of_getElem? (i := 2) rfl) (by decide +kernel) ?_
  show ly_X g b L xs (d + 50) 563 (LO i) _ m1 K
  refine ly_arg (k := 1) (by omega) hL hb (by decide +kernel) (by decide +kernel) (by decide +kernel) (by decide +kernel) (by decide +kernel) ?_
  show ly_X g b L xs (d + 50) 569 (LO i) _ m1 K
  refine ly_arg (k := 2) (by omega) hL hb (by decide +kernel) (by decide +kernel) (by decide +kernel) (by decide +kernel) (by decide +kernel) ?_
  show ly_X g b L xs (d + 50) 575 (LO i) _ m1 K
  refine ly_callV (av := [sh_i (sc xs (i + 1)), sh_i (sc xs (i + 2))]) rfl rfl rfl mo_Mod_swap ml_Lw_61 im_Mod_swap se_Mod_swap rfl (Nat.le_of_ble_eq_true rfl) (by decide +kernel) (r_swap (d := d + 46) hI.1.1 (RR1 hI.2.2 hc) (sc_i3 xs _) (sc_i3 xs _) (fun m2 hr => ?_))
  show ly_X g b L xs (d + 50) 578 (LO i) [sh_i (_), sh_i (_)] m2 K
  exact ly_same (off := 938) (by decide) (by decide +kernel) (k _ _ (LI_of (WI_swap hI.1) hc hr))
theorem lc_9 {g : sh_G} {b L d i N : Nat} {xs : Nat → Int32} {w : Wd} {mem : sh_Mem} {K : ly_T} (hb : g.2.2.2.2.2 900 = b) (hL : L ≤ 3584) (hi : i + 7 ≤ L) (hN : N ≤ 512) (hI : LI N w mem) (k : ∀ w' m', LI (N + 1) w' m' → K 1516 (LO i) [] m') : ly_X g b L xs (d + 50) 583 (LO i) [] mem K := by
  refine ly_al (q := 1) (j := 1) rfl (List.mem_of_getElem? (i := 1) rfl) (by decide +kernel) ?_
  show ly_X g b L xs (d + 50) 584 (LO i) _ mem K
  refine ly_callV (av := []) rfl rfl rfl mo_Sto_night ml_Lw_62 im_Sto_night se_Sto_night rfl (Nat.le_of_ble_eq_true rfl) (by decide +kernel) (c_night (d := d + 46) hI.1.1 hI.2.1 (fun m1 hc => ?_))
  show ly_X g b L xs (d + 50) 587 (LO i) [sh_i (_)] m1 K
  refine ly_al (q := 2) (j := 2) rfl (List.mem_of_getElem? (i := 2) rfl) (by decide +kernel) ?_
  show ly_X g b L xs (d + 50) 588 (LO i) _ m1 K
  refine ly_callV (av := []) rfl rfl rfl mo_Mod_night ml_Lw_65 im_Mod_night se_Mod_night rfl (Nat.le_of_ble_eq_true rfl) (by decide +kernel) (r_night (d := d + 46) hI.1.1 (RR1 hI.2.2 hc) (fun m2 hr => ?_))
  show ly_X g b L xs (d + 50) 591 (LO i) [sh_i (_), sh_i (_)] m2 K
  exact ly_same (off := 925) (by decide) (by decide +kernel) (k _ _ (LI_of (WI_night hI.1) hc hr))
theorem lc_10 {g : sh_G} {b L d i N : Nat} {xs : Nat → Int32} {w : Wd} {mem : sh_Mem} {K : ly_T} (hb : g.2.2.2.2.2 900 = b) (hL : L ≤ 3584) (hi : i + 7 ≤ L) (hN : N ≤ 512) (hI : LI N w mem) (k : ∀ w' m', LI (N + 1) w' m' → K 1516 (LO i) [] m') : ly_X g b L xs (d + 50) 596 (LO i) [] mem K := by
  refine ly_al (q := 1) (j := 1) rfl (List.mem_of_getElem? (i := 1) rfl) (by decide +kernel) ?_
  show ly_X g b L xs (d + 50) 597 (LO i) _ mem K
  refine ly_callV (av := []) rfl rfl rfl mo_Sto_undo ml_Lw_66 im_Sto_undo se_Sto_undo rfl (Nat.le_of_ble_eq_true rfl) (by decide +kernel) (c_undo (d := d + 47) hI.2.1 (fun m1 hc => ?_))
  show ly_X g b L xs (d + 50) 600 (LO i) [sh_i (_)] m1 K
  refine ly_al (q := 2) (j := 2) rfl (List.mem_of_getElem? (i := 2) rfl) (by decide +kernel) ?_
  show ly_X g b L xs (d + 50) 601 (LO i) _ m1 K
  refine ly_callV (av := []) rfl rfl rfl mo_Mod_undo ml_Lw_70 im_Mod_undo se_Mod_undo rfl (Nat.le_of_ble_eq_true rfl) (by decide +kernel) (r_undo (d := d + 48) hI.1.1 (RR1 hI.2.2 hc) (fun m2 hr => ?_))
  show ly_X g b L xs (d + 50) 604 (LO i) [sh_i (_), sh_i (_)] m2 K
  exact ly_same (off := 912) (by decide) (by decide +kernel) (k _ _ (LI_of (WI_undo hI.1) hc hr))
theorem lc_11 {g : sh_G} {b L d i N : Nat} {xs : Nat → Int32} {w : Wd} {mem : sh_Mem} {K : ly_T} (hb : g.2.2.2.2.2 900 = b) (hL : L ≤ 3584) (hi : i + 7 ≤ L) (hN : N ≤ 512) (hI : LI N w mem) (k : ∀ w' m', LI (N + 1) w' m' → K 1516 (LO i) [] m') : ly_X g b L xs (d + 50) 609 (LO i) [] mem K := by
  refine ly_al (q := 1) (j := 1) rfl (List.mem_of_getElem? (i := 1) rfl) (by decide +kernel) ?_
  show ly_X g b L xs (d + 50) 610 (LO i) _ mem K
  refine ly_arg (k := 1) (by omega) hL hb (by decide +kernel) (by decide +kernel) (by decide +kernel) (by decide +kernel) (by decide +kernel) ?_
  show ly_X g b L xs (d + 50) 616 (LO i) _ mem K
  refine ly_callV (av := [sh_i (sc xs (i + 1))]) rfl rfl rfl mo_Sto_judged ml_Lw_71 im_Sto_judged se_Sto_judged rfl (Nat.le_of_ble_eq_true rfl) (by decide +kernel) (c_judged (d := d + 43) hI.1.1 hI.2.1 (sc_i3 xs _) (fun m1 hc => ?_))
  show ly_X g b L xs (d + 50) 619 (LO i) [sh_i (_)] m1 K
  refine ly_al (q := 2) (j := 2) rfl (List.mem_of_getElem? (i := 2) rfl) (by decide +kernel) ?_
  show ly_X g b L xs (d + 50) 620 (LO i) _ m1 K
  refine ly_arg (k := 1) (by omega) hL hb (by decide +kernel) (by decide +kernel) (by decide +kernel) (by decide +kernel) (by decide +kernel) ?_
  show ly_X g b L xs (d + 50) 626 (LO i) _ m1 K
  refine ly_callV (av := [sh_i (sc xs (i + 1))]) rfl rfl rfl mo_Mod_judged ml_Lw_74 im_Mod_judged se_Mod_judged rfl (Nat.le_of_ble_eq_true rfl) (by decide +kernel) (r_judged (d := d + 43) hI.1.1 (RR1 hI.2.2 hc) (sc_i3 xs _) (fun m2 hr => ?_))
  show ly_X g b L xs (d + 50) 629 (LO i) [sh_i (_), sh_i (_)] m2 K
  exact ly_same (off := 887) (by decide) (by decide +kernel) (k _ _ (LI_of (WI_id hI.1) hc hr))
theorem lc_12 {g : sh_G} {b L d i N : Nat} {xs : Nat → Int32} {w : Wd} {mem : sh_Mem} {K : ly_T} (hb : g.2.2.2.2.2 900 = b) (hL : L ≤ 3584) (hi : i + 7 ≤ L) (hN : N ≤ 512) (hI : LI N w mem) (k : ∀ w' m', LI (N + 1) w' m' → K 1516 (LO i) [] m') : ly_X g b L xs (d + 50) 634 (LO i) [] mem K := by
  refine ly_al (q := 1) (j := 1) rfl (List.mem_of_getElem? (i := 1) rfl) (by decide +kernel) ?_
  show ly_X g b L xs (d + 50) 635 (LO i) _ mem K
  refine ly_arg (k := 1) (by omega) hL hb (by decide +kernel) (by decide +kernel) (by decide +kernel) (by decide +kernel) (by decide +kernel) ?_
  show ly_X g b L xs (d + 50) 641 (LO i) _ mem K
  refine ly_callV (av := [sh_i (sc xs (i + 1))]) rfl rfl rfl mo_Sto_can ml_Lw_75 im_Sto_can se_Sto_can rfl (Nat.le_of_ble_eq_true rfl) (by decide +kernel) (c_can (d := d + 45) hI.1.1 hI.2.1 (sc_i3 xs _) (fun m1 hc => ?_))
  show ly_X g b L xs (d + 50) 644 (LO i) [sh_i (_)] m1 K
  refine ly_al (q := 2) (j := 2) rfl (List.mem_of_getElem? (i := 2) rfl) (by decide +kernel) ?_
  show ly_X g b L xs (d + 50) 645 (LO i) _ m1 K
  refine ly_arg (k := 1) (by omega) hL hb (by decide +kernel) (by decide +kernel) (by decide +kernel) (by decide +kernel) (by decide +kernel) ?_
  show ly_X g b L xs (d + 50) 651 (LO i) _ m1 K
  refine ly_callV (av := [sh_i (sc xs (i + 1))]) rfl rfl rfl mo_Mod_can ml_Lw_78 im_Mod_can se_Mod_can rfl (Nat.le_of_ble_eq_true rfl) (by decide +kernel) (r_can (d := d + 46) hI.1.1 (RR1 hI.2.2 hc) (sc_i3 xs _) (fun m2 hr => ?_))
  show ly_X g b L xs (d + 50) 654 (LO i) [sh_i (_), sh_i (_)] m2 K
  exact ly_same (off := 862) (by decide) (by decide +kernel) (k _ _ (LI_of (WI_id hI.1) hc hr))
theorem lc_13 {g : sh_G} {b L d i N : Nat} {xs : Nat → Int32} {w : Wd} {mem : sh_Mem} {K : ly_T} (hb : g.2.2.2.2.2 900 = b) (hL : L ≤ 3584) (hi : i + 7 ≤ L) (hN : N ≤ 512) (hI : LI N w mem) (k : ∀ w' m', LI (N + 1) w' m' → K 1516 (LO i) [] m') : ly_X g b L xs (d + 50) 659 (LO i) [] mem K := by
  refine ly_al (q := 1) (j := 1) rfl (List.mem_of_getElem? (i := 1) rfl) (by decide +kernel) ?_
  show ly_X g b L xs (d + 50) 660 (LO i) _ mem K
  refine ly_arg (k := 1) (by omega) hL hb (by decide +kernel) (by decide +kernel) (by decide +kernel) (by decide +kernel) (by decide +kernel) ?_
  show ly_X g b L xs (d + 50) 666 (LO i) _ mem K
  refine ly_arg (k := 2) (by omega) hL hb (by decide +kernel) (by decide +kernel) (by decide +kernel) (by decide +kernel) (by decide +kernel) ?_
  show ly_X g b L xs (d + 50) 672 (LO i) _ mem K
  refine ly_callV (av := [sh_i (sc xs (i + 1)), sh_i (sc xs (i + 2))]) rfl rfl rfl mo_Sto_haul ml_Lw_79 im_Sto_haul se_Sto_haul rfl (Nat.le_of_ble_eq_true rfl) (by decide +kernel) (c_haul (d := d + 45) hI.1.1 hI.2.1 (sc_i3 xs _) (sc_i3 xs _) (fun m1 hc => ?_))
  show ly_X g b L xs (d + 50) 675 (LO i) [sh_i (_)] m1 K
  refine ly_al (q := 2) (j := 2) rfl (List.mem_of_getElem? (i := 2) rfl) (by decide +kernel) ?_
  show ly_X g b L xs (d + 50) 676 (LO i) _ m1 K
  refine ly_arg (k := 1) (by omega) hL hb (by decide +kernel) (by decide +kernel) (by decide +kernel) (by decide +kernel) (by decide +kernel) ?_
  show ly_X g b L xs (d + 50) 682 (LO i) _ m1 K
  refine ly_arg (k := 2) (by omega) hL hb (by decide +kernel) (by decide +kernel) (by decide +kernel) (by decide +kernel) (by decide +kernel) ?_
  show ly_X g b L xs (d + 50) 688 (LO i) _ m1 K
  refine ly_callV (av := [sh_i (sc xs (i + 1)), sh_i (sc xs (i + 2))]) rfl rfl rfl mo_Mod_haul ml_Lw_82 im_Mod_haul se_Mod_haul rfl (Nat.le_of_ble_eq_true rfl) (by decide +kernel) (r_haul (d := d + 46) hI.1.1 (RR1 hI.2.2 hc) (sc_i3 xs _) (sc_i3 xs _) (fun m2 hr => ?_))
  show ly_X g b L xs (d + 50) 691 (LO i) [sh_i (_), sh_i (_)] m2 K
  exact ly_same (off := 825) (by decide) (by decide +kernel) (k _ _ (LI_of (WI_id hI.1) hc hr))
