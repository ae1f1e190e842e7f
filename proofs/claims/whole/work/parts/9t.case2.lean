/-! ===== the cases of the law ===== -/
theorem lc_14 {g : sh_G} {b L d i N : Nat} {xs : Nat → Int32} {w : Wd} {mem : sh_Mem} {K : ly_T} (hb : g.2.2.2.2.2 900 = b) (hL : L ≤ 3584) (hi : i + 7 ≤ L) (hN : N ≤ 512) (hI : LI N w mem) (k : ∀ w' m', LI (N + 1) w' m' → K 1516 (LO i) [] m') : ly_X g b L xs (d + 50) 696 (LO i) [] mem K := by
  refine ly_al (q := 1) (j := 1) rfl (List.mem_of_getElem? (i := 1) rfl) (by decide +kernel) ?_
  show ly_X g b L xs (d + 50) 697 (LO i) _ mem K
  refine ly_arg (k := 1) (by omega) hL hb (by decide +kernel) (by decide +kernel) (by decide +kernel) (by decide +kernel) (by decide +kernel) ?_
  show ly_X g b L xs (d + 50) 703 (LO i) _ mem K
  refine ly_callV (av := [sh_i (sc xs (i + 1))]) rfl rfl rfl mo_Sto_price ml_Lw_83 im_Sto_price se_Sto_price rfl (Nat.le_of_ble_eq_true rfl) (by decide +kernel) (c_price (d := d + 45) hI.1.1 hI.2.1 (sc_i3 xs _) (fun m1 hc => ?_))
  show ly_X g b L xs (d + 50) 706 (LO i) [sh_i (_)] m1 K
  refine ly_al (q := 2) (j := 2) rfl (List.mem_of_getElem? (i := 2) rfl) (by decide +kernel) ?_
  show ly_X g b L xs (d + 50) 707 (LO i) _ m1 K
  refine ly_arg (k := 1) (by omega) hL hb (by decide +kernel) (by decide +kernel) (by decide +kernel) (by decide +kernel) (by decide +kernel) ?_
  show ly_X g b L xs (d + 50) 713 (LO i) _ m1 K
  refine ly_callV (av := [sh_i (sc xs (i + 1))]) rfl rfl rfl mo_Mod_price ml_Lw_86 im_Mod_price se_Mod_price rfl (Nat.le_of_ble_eq_true rfl) (by decide +kernel) (r_price (d := d + 45) hI.1.1 (RR1 hI.2.2 hc) (sc_i3 xs _) (fun m2 hr => ?_))
  show ly_X g b L xs (d + 50) 716 (LO i) [sh_i (_), sh_i (_)] m2 K
  exact ly_same (off := 800) (by decide) (by decide +kernel) (k _ _ (LI_of (WI_id hI.1) hc hr))
theorem lc_15 {g : sh_G} {b L d i N : Nat} {xs : Nat → Int32} {w : Wd} {mem : sh_Mem} {K : ly_T} (hb : g.2.2.2.2.2 900 = b) (hL : L ≤ 3584) (hi : i + 7 ≤ L) (hN : N ≤ 512) (hI : LI N w mem) (k : ∀ w' m', LI (N + 1) w' m' → K 1516 (LO i) [] m') : ly_X g b L xs (d + 50) 721 (LO i) [] mem K := by
  refine ly_al (q := 1) (j := 1) rfl (List.mem_of_getElem? (i := 1) rfl) (by decide +kernel) ?_
  show ly_X g b L xs (d + 50) 722 (LO i) _ mem K
  refine ly_callV (av := []) rfl rfl rfl mo_Sto_all ml_Lw_87 im_Sto_all se_Sto_all rfl (Nat.le_of_ble_eq_true rfl) (by decide +kernel) (c_all (d := d + 48) hI.1.1 hI.2.1 (fun m1 hc => ?_))
  show ly_X g b L xs (d + 50) 725 (LO i) [sh_i (_)] m1 K
  refine ly_al (q := 2) (j := 2) rfl (List.mem_of_getElem? (i := 2) rfl) (by decide +kernel) ?_
  show ly_X g b L xs (d + 50) 726 (LO i) _ m1 K
  refine ly_callV (av := []) rfl rfl rfl mo_Mod_all ml_Lw_90 im_Mod_all se_Mod_all rfl (Nat.le_of_ble_eq_true rfl) (by decide +kernel) (r_all (d := d + 48) hI.1.1 (RR1 hI.2.2 hc) (fun m2 hr => ?_))
  show ly_X g b L xs (d + 50) 729 (LO i) [sh_i (_), sh_i (_)] m2 K
  exact ly_same (off := 787) (by decide) (by decide +kernel) (k _ _ (LI_of (WI_id hI.1) hc hr))
theorem lc_16 {g : sh_G} {b L d i N : Nat} {xs : Nat → Int32} {w : Wd} {mem : sh_Mem} {K : ly_T} (hb : g.2.2.2.2.2 900 = b) (hL : L ≤ 3584) (hi : i + 7 ≤ L) (hN : N ≤ 512) (hI : LI N w mem) (k : ∀ w' m', LI (N + 1) w' m' → K 1516 (LO i) [] m') : ly_X g b L xs (d + 50) 734 (LO i) [] mem K := by
  refine ly_al (q := 1) (j := 1) rfl (List.mem_of_getElem? (i := 1) rfl) (by decide +kernel) ?_
  show ly_X g b L xs (d + 50) 735 (LO i) _ mem K
  refine ly_callV (av := []) rfl rfl rfl mo_Sto_rich ml_Lw_91 im_Sto_rich se_Sto_rich rfl (Nat.le_of_ble_eq_true rfl) (by decide +kernel) (c_rich (d := d + 48) hI.1.1 hI.2.1 hI.1.2.2.2.1 (by omega) (fun m1 hc => ?_))
  show ly_X g b L xs (d + 50) 738 (LO i) [sh_i (_)] m1 K
  refine ly_al (q := 2) (j := 2) rfl (List.mem_of_getElem? (i := 2) rfl) (by decide +kernel) ?_
  show ly_X g b L xs (d + 50) 739 (LO i) _ m1 K
  refine ly_callV (av := []) rfl rfl rfl mo_Mod_rich ml_Lw_94 im_Mod_rich se_Mod_rich rfl (Nat.le_of_ble_eq_true rfl) (by decide +kernel) (r_rich (d := d + 48) hI.1.1 (RR1 hI.2.2 hc) (fun m2 hr => ?_))
  show ly_X g b L xs (d + 50) 742 (LO i) [sh_i (_), sh_i (_)] m2 K
  exact ly_same (off := 774) (by decide) (by decide +kernel) (k _ _ (LI_of (WI_id hI.1) hc hr))
theorem lc_17 {g : sh_G} {b L d i N : Nat} {xs : Nat → Int32} {w : Wd} {mem : sh_Mem} {K : ly_T} (hb : g.2.2.2.2.2 900 = b) (hL : L ≤ 3584) (hi : i + 7 ≤ L) (hN : N ≤ 512) (hI : LI N w mem) (k : ∀ w' m', LI (N + 1) w' m' → K 1516 (LO i) [] m') : ly_X g b L xs (d + 50) 747 (LO i) [] mem K := by
  refine ly_al (q := 1) (j := 1) rfl (List.mem_of_getElem? (i := 1) rfl) (by decide +kernel) ?_
  show ly_X g b L xs (d + 50) 748 (LO i) _ mem K
  refine ly_callV (av := []) rfl rfl rfl mo_Sto_guilty ml_Lw_95 im_Sto_guilty se_Sto_guilty rfl (Nat.le_of_ble_eq_true rfl) (by decide +kernel) (c_guilty (d := d + 48) hI.1.1 hI.2.1 (fun m1 hc => ?_))
  show ly_X g b L xs (d + 50) 751 (LO i) [sh_i (_)] m1 K
  refine ly_al (q := 2) (j := 2) rfl (List.mem_of_getElem? (i := 2) rfl) (by decide +kernel) ?_
  show ly_X g b L xs (d + 50) 752 (LO i) _ m1 K
  refine ly_callV (av := []) rfl rfl rfl mo_Mod_guilty ml_Lw_98 im_Mod_guilty se_Mod_guilty rfl (Nat.le_of_ble_eq_true rfl) (by decide +kernel) (r_guilty (d := d + 48) hI.1.1 (RR1 hI.2.2 hc) (fun m2 hr => ?_))
  show ly_X g b L xs (d + 50) 755 (LO i) [sh_i (_), sh_i (_)] m2 K
  exact ly_same (off := 761) (by decide) (by decide +kernel) (k _ _ (LI_of (WI_id hI.1) hc hr))
theorem lc_18 {g : sh_G} {b L d i N : Nat} {xs : Nat → Int32} {w : Wd} {mem : sh_Mem} {K : ly_T} (hb : g.2.2.2.2.2 900 = b) (hL : L ≤ 3584) (hi : i + 7 ≤ L) (hN : N ≤ 512) (hI : LI N w mem) (k : ∀ w' m', LI (N + 1) w' m' → K 1516 (LO i) [] m') : ly_X g b L xs (d + 50) 760 (LO i) [] mem K := by
  refine ly_al (q := 1) (j := 1) rfl (List.mem_of_getElem? (i := 1) rfl) (by decide +kernel) ?_
  show ly_X g b L xs (d + 50) 761 (LO i) _ mem K
  refine ly_arg (k := 1) (by omega) hL hb (by decide +kernel) (by decide +kernel) (by decide +kernel) (by decide +kernel) (by decide +kernel) ?_
  show ly_X g b L xs (d + 50) 767 (LO i) _ mem K
  refine ly_arg (k := 2) (by omega) hL hb (by decide +kernel) (by decide +kernel) (by decide +kernel) (by decide +kernel) (by decide +kernel) ?_
  show ly_X g b L xs (d + 50) 773 (LO i) _ mem K
  refine ly_callV (av := [sh_i (sc xs (i + 1)), sh_i (sc xs (i + 2))]) rfl rfl rfl mo_Sto_later ml_Lw_99 im_Sto_later se_Sto_later rfl (Nat.le_of_ble_eq_true rfl) (by decide +kernel) (c_later (d := d + 47) hI.1.1 hI.2.1 (sc_i3 xs _) (sc_i3 xs _) (fun m1 hc => ?_))
  show ly_X g b L xs (d + 50) 776 (LO i) [sh_i (_)] m1 K
  refine ly_al (q := 2) (j := 2) rfl (List.mem_of_getElem? (i := 2) rfl) (by decide +kernel) ?_
  show ly_X g b L xs (d + 50) 777 (LO i) _ m1 K
  refine ly_arg (k := 1) (by omega) hL hb (by decide +kernel) (by decide +kernel) (by decide +kernel) (by decide +kernel) (by decide +kernel) ?_
  show ly_X g b L xs (d + 50) 783 (LO i) _ m1 K
  refine ly_arg (k := 2) (by omega) hL hb (by decide +kernel) (by decide +kernel) (by decide +kernel) (by decide +kernel) (by decide +kernel) ?_
  show ly_X g b L xs (d + 50) 789 (LO i) _ m1 K
  refine ly_callV (av := [sh_i (sc xs (i + 1)), sh_i (sc xs (i + 2))]) rfl rfl rfl mo_Mod_later ml_Lw_102 im_Mod_later se_Mod_later rfl (Nat.le_of_ble_eq_true rfl) (by decide +kernel) (r_later (d := d + 45) hI.1.1 (RR1 hI.2.2 hc) (sc_i3 xs _) (sc_i3 xs _) (fun m2 hr => ?_))
  show ly_X g b L xs (d + 50) 792 (LO i) [sh_i (_), sh_i (_)] m2 K
  exact ly_same (off := 724) (by decide) (by decide +kernel) (k _ _ (LI_of (WI_id hI.1) hc hr))
theorem lc_19 {g : sh_G} {b L d i N : Nat} {xs : Nat → Int32} {w : Wd} {mem : sh_Mem} {K : ly_T} (hb : g.2.2.2.2.2 900 = b) (hL : L ≤ 3584) (hi : i + 7 ≤ L) (hN : N ≤ 512) (hI : LI N w mem) (k : ∀ w' m', LI (N + 1) w' m' → K 1516 (LO i) [] m') : ly_X g b L xs (d + 50) 797 (LO i) [] mem K := by
  refine ly_al (q := 1) (j := 1) rfl (List.mem_of_getElem? (i := 1) rfl) (by decide +kernel) ?_
  show ly_X g b L xs (d + 50) 798 (LO i) _ mem K
  refine ly_arg (k := 1) (by omega) hL hb (by decide +kernel) (by decide +kernel) (by decide +kernel) (by decide +kernel) (by decide +kernel) ?_
  show ly_X g b L xs (d + 50) 804 (LO i) _ mem K
  refine ly_arg (k := 2) (by omega) hL hb (by decide +kernel) (by decide +kernel) (by decide +kernel) (by decide +kernel) (by decide +kernel) ?_
  show ly_X g b L xs (d + 50) 810 (LO i) _ mem K
  refine ly_callV (av := [sh_i (sc xs (i + 1)), sh_i (sc xs (i + 2))]) rfl rfl rfl mo_Sto_guards ml_Lw_103 im_Sto_guards se_Sto_guards rfl (Nat.le_of_ble_eq_true rfl) (by decide +kernel) (c_guards (d := d + 47) hI.1.1 hI.2.1 (sc_i3 xs _) (sc_i3 xs _) (fun m1 hc => ?_))
  show ly_X g b L xs (d + 50) 813 (LO i) [sh_i (_)] m1 K
  refine ly_al (q := 2) (j := 2) rfl (List.mem_of_getElem? (i := 2) rfl) (by decide +kernel) ?_
  show ly_X g b L xs (d + 50) 814 (LO i) _ m1 K
  refine ly_arg (k := 1) (by omega) hL hb (by decide +kernel) (by decide +kernel) (by decide +kernel) (by decide +kernel) (by decide +kernel) ?_
  show ly_X g b L xs (d + 50) 820 (LO i) _ m1 K
  refine ly_arg (k := 2) (by omega) hL hb (by decide +kernel) (by decide +kernel) (by decide +kernel) (by decide +kernel) (by decide +kernel) ?_
  show ly_X g b L xs (d + 50) 826 (LO i) _ m1 K
  refine ly_callV (av := [sh_i (sc xs (i + 1)), sh_i (sc xs (i + 2))]) rfl rfl rfl mo_Mod_guards ml_Lw_106 im_Mod_guards se_Mod_guards rfl (Nat.le_of_ble_eq_true rfl) (by decide +kernel) (r_guards (d := d + 45) hI.1.1 (RR1 hI.2.2 hc) (sc_i3 xs _) (sc_i3 xs _) (fun m2 hr => ?_))
  show ly_X g b L xs (d + 50) 829 (LO i) [sh_i (_), sh_i (_)] m2 K
  exact ly_same (off := 687) (by decide) (by decide +kernel) (k _ _ (LI_of (WI_id hI.1) hc hr))
theorem lc_20 {g : sh_G} {b L d i N : Nat} {xs : Nat → Int32} {w : Wd} {mem : sh_Mem} {K : ly_T} (hb : g.2.2.2.2.2 900 = b) (hL : L ≤ 3584) (hi : i + 7 ≤ L) (hN : N ≤ 512) (hI : LI N w mem) (k : ∀ w' m', LI (N + 1) w' m' → K 1516 (LO i) [] m') : ly_X g b L xs (d + 50) 834 (LO i) [] mem K := by
  refine ly_al (q := 1) (j := 1) rfl (List.mem_of_getElem? (i := 1) rfl) (by decide +kernel) ?_
  show ly_X g b L xs (d + 50) 835 (LO i) _ mem K
  refine ly_arg (k := 1) (by omega) hL hb (by decide +kernel) (by decide +kernel) (by decide +kernel) (by decide +kernel) (by decide +kernel) ?_
  show ly_X g b L xs (d + 50) 841 (LO i) _ mem K
  refine ly_arg (k := 2) (by omega) hL hb (by decide +kernel) (by decide +kernel) (by decide +kernel) (by decide +kernel) (by decide +kernel) ?_
  show ly_X g b L xs (d + 50) 847 (LO i) _ mem K
  refine ly_callV (av := [sh_i (sc xs (i + 1)), sh_i (sc xs (i + 2))]) rfl rfl rfl mo_Sto_keeps ml_Lw_107 im_Sto_keeps se_Sto_keeps rfl (Nat.le_of_ble_eq_true rfl) (by decide +kernel) (c_keeps (d := d + 47) hI.1.1 hI.2.1 (sc_i3 xs _) (sc_i3 xs _) (fun m1 hc => ?_))
  show ly_X g b L xs (d + 50) 850 (LO i) [sh_i (_)] m1 K
  refine ly_al (q := 2) (j := 2) rfl (List.mem_of_getElem? (i := 2) rfl) (by decide +kernel) ?_
  show ly_X g b L xs (d + 50) 851 (LO i) _ m1 K
  refine ly_arg (k := 1) (by omega) hL hb (by decide +kernel) (by decide +kernel) (by decide +kernel) (by decide +kernel) (by decide +kernel) ?_
  show ly_X g b L xs (d + 50) 857 (LO i) _ m1 K
  refine ly_arg (k := 2) (by omega) hL hb (by decide +kernel) (by decide +kernel) (by decide +kernel) (by decide +kernel) (by decide +kernel) ?_
  show ly_X g b L xs (d + 50) 863 (LO i) _ m1 K
  refine ly_callV (av := [sh_i (sc xs (i + 1)), sh_i (sc xs (i + 2))]) rfl rfl rfl mo_Mod_keeps ml_Lw_110 im_Mod_keeps se_Mod_keeps rfl (Nat.le_of_ble_eq_true rfl) (by decide +kernel) (r_keeps (d := d + 45) hI.1.1 (RR1 hI.2.2 hc) (sc_i3 xs _) (sc_i3 xs _) (fun m2 hr => ?_))
  show ly_X g b L xs (d + 50) 866 (LO i) [sh_i (_), sh_i (_)] m2 K
  exact ly_same (off := 650) (by decide) (by decide +kernel) (k _ _ (LI_of (WI_id hI.1) hc hr))
theorem lc_21 {g : sh_G} {b L d i N : Nat} {xs : Nat → Int32} {w : Wd} {mem : sh_Mem} {K : ly_T} (hb : g.2.2.2.2.2 900 = b) (hL : L ≤ 3584) (hi : i + 7 ≤ L) (hN : N ≤ 512) (hI : LI N w mem) (k : ∀ w' m', LI (N + 1) w' m' → K 1516 (LO i) [] m') : ly_X g b L xs (d + 50) 871 (LO i) [] mem K := by
  refine ly_al (q := 1) (j := 1) rfl (List.mem_of_getElem? (i := 1) rfl) (by decide +kernel) ?_
  show ly_X g b L xs (d + 50) 872 (LO i) _ mem K
  refine ly_arg (k := 1) (by omega) hL hb (by decide +kernel) (by decide +kernel) (by decide +kernel) (by decide +kernel) (by decide +kernel) ?_
  show ly_X g b L xs (d + 50) 878 (LO i) _ mem K
  refine ly_callV (av := [sh_i (sc xs (i + 1))]) rfl rfl rfl mo_Sto_freed ml_Lw_111 im_Sto_freed se_Sto_freed rfl (Nat.le_of_ble_eq_true rfl) (by decide +kernel) (c_freed (d := d + 48) hI.1.1 hI.2.1 (sc_i3 xs _) (fun m1 hc => ?_))
  show ly_X g b L xs (d + 50) 881 (LO i) [sh_i (_)] m1 K
  refine ly_al (q := 2) (j := 2) rfl (List.mem_of_getElem? (i := 2) rfl) (by decide +kernel) ?_
  show ly_X g b L xs (d + 50) 882 (LO i) _ m1 K
  refine ly_arg (k := 1) (by omega) hL hb (by decide +kernel) (by decide +kernel) (by decide +kernel) (by decide +kernel) (by decide +kernel) ?_
  show ly_X g b L xs (d + 50) 888 (LO i) _ m1 K
  refine ly_callV (av := [sh_i (sc xs (i + 1))]) rfl rfl rfl mo_Mod_freed ml_Lw_114 im_Mod_freed se_Mod_freed rfl (Nat.le_of_ble_eq_true rfl) (by decide +kernel) (r_freed (d := d + 48) hI.1.1 (RR1 hI.2.2 hc) (sc_i3 xs _) (fun m2 hr => ?_))
  show ly_X g b L xs (d + 50) 891 (LO i) [sh_i (_), sh_i (_)] m2 K
  exact ly_same (off := 625) (by decide) (by decide +kernel) (k _ _ (LI_of (WI_id hI.1) hc hr))
theorem lc_22 {g : sh_G} {b L d i N : Nat} {xs : Nat → Int32} {w : Wd} {mem : sh_Mem} {K : ly_T} (hb : g.2.2.2.2.2 900 = b) (hL : L ≤ 3584) (hi : i + 7 ≤ L) (hN : N ≤ 512) (hI : LI N w mem) (k : ∀ w' m', LI (N + 1) w' m' → K 1516 (LO i) [] m') : ly_X g b L xs (d + 50) 896 (LO i) [] mem K := by
  refine ly_al (q := 1) (j := 1) rfl (List.mem_of_getElem? (i := 1) rfl) (by decide +kernel) ?_
  show ly_X g b L xs (d + 50) 897 (LO i) _ mem K
  refine ly_arg (k := 1) (by omega) hL hb (by decide +kernel) (by decide +kernel) (by decide +kernel) (by decide +kernel) (by decide +kernel) ?_
  show ly_X g b L xs (d + 50) 903 (LO i) _ mem K
  refine ly_arg (k := 2) (by omega) hL hb (by decide +kernel) (by decide +kernel) (by decide +kernel) (by decide +kernel) (by decide +kernel) ?_
  show ly_X g b L xs (d + 50) 909 (LO i) _ mem K
  refine ly_callV (av := [sh_i (sc xs (i + 1)), sh_i (sc xs (i + 2))]) rfl rfl rfl mo_Sto_opens ml_Lw_115 im_Sto_opens se_Sto_opens rfl (Nat.le_of_ble_eq_true rfl) (by decide +kernel) (c_opens (d := d + 46) hI.1.1 hI.2.1 (sc_i3 xs _) (sc_i3 xs _) (fun m1 hc => ?_))
  show ly_X g b L xs (d + 50) 912 (LO i) [sh_i (_)] m1 K
  refine ly_al (q := 2) (j := 2) rfl (List.mem_of_getElem? (i := 2) rfl) (by decide +kernel) ?_
  show ly_X g b L xs (d + 50) 913 (LO i) _ m1 K
  refine ly_arg (k := 1) (by omega) hL hb (by decide +kernel) (by decide +kernel) (by decide +kernel) (by decide +kernel) (by decide +kernel) ?_
  show ly_X g b L xs (d + 50) 919 (LO i) _ m1 K
  refine ly_arg (k := 2) (by omega) hL hb (by decide +kernel) (by decide +kernel) (by decide +kernel) (by decide +kernel) (by decide +kernel) ?_
  show ly_X g b L xs (d + 50) 925 (LO i) _ m1 K
  refine ly_callV (av := [sh_i (sc xs (i + 1)), sh_i (sc xs (i + 2))]) rfl rfl rfl mo_Mod_opens ml_Lw_118 im_Mod_opens se_Mod_opens rfl (Nat.le_of_ble_eq_true rfl) (by decide +kernel) (r_opens (d := d + 45) hI.1.1 (RR1 hI.2.2 hc) (sc_i3 xs _) (sc_i3 xs _) (fun m2 hr => ?_))
  show ly_X g b L xs (d + 50) 928 (LO i) [sh_i (_), sh_i (_)] m2 K
  exact ly_same (off := 588) (by decide) (by decide +kernel) (k _ _ (LI_of (WI_id hI.1) hc hr))
theorem lc_23 {g : sh_G} {b L d i N : Nat} {xs : Nat → Int32} {w : Wd} {mem : sh_Mem} {K : ly_T} (hb : g.2.2.2.2.2 900 = b) (hL : L ≤ 3584) (hi : i + 7 ≤ L) (hN : N ≤ 512) (hI : LI N w mem) (k : ∀ w' m', LI (N + 1) w' m' → K 1516 (LO i) [] m') : ly_X g b L xs (d + 50) 933 (LO i) [] mem K := by
  refine ly_al (q := 1) (j := 1) rfl (List.mem_of_getElem? (i := 1) rfl) (by decide +kernel) ?_
  show ly_X g b L xs (d + 50) 934 (LO i) _ mem K
  refine ly_callV (av := []) rfl rfl rfl mo_Sto_whole ml_Lw_119 im_Sto_whole se_Sto_whole rfl (Nat.le_of_ble_eq_true rfl) (by decide +kernel) (c_whole (d := d + 48) hI.1.1 hI.2.1 (fun m1 hc => ?_))
  show ly_X g b L xs (d + 50) 937 (LO i) [sh_i (_)] m1 K
  refine ly_al (q := 2) (j := 2) rfl (List.mem_of_getElem? (i := 2) rfl) (by decide +kernel) ?_
  show ly_X g b L xs (d + 50) 938 (LO i) _ m1 K
  refine ly_callV (av := []) rfl rfl rfl mo_Mod_whole ml_Lw_122 im_Mod_whole se_Mod_whole rfl (Nat.le_of_ble_eq_true rfl) (by decide +kernel) (r_whole (d := d + 45) hI.1.1 (RR1 hI.2.2 hc) (fun m2 hr => ?_))
  show ly_X g b L xs (d + 50) 941 (LO i) [sh_i (_), sh_i (_)] m2 K
  exact ly_same (off := 575) (by decide) (by decide +kernel) (k _ _ (LI_of (WI_id hI.1) hc hr))
theorem lc_24 {g : sh_G} {b L d i N : Nat} {xs : Nat → Int32} {w : Wd} {mem : sh_Mem} {K : ly_T} (hb : g.2.2.2.2.2 900 = b) (hL : L ≤ 3584) (hi : i + 7 ≤ L) (hN : N ≤ 512) (hI : LI N w mem) (k : ∀ w' m', LI (N + 1) w' m' → K 1516 (LO i) [] m') : ly_X g b L xs (d + 50) 946 (LO i) [] mem K := by
  refine ly_al (q := 1) (j := 1) rfl (List.mem_of_getElem? (i := 1) rfl) (by decide +kernel) ?_
  show ly_X g b L xs (d + 50) 947 (LO i) _ mem K
  refine ly_arg (k := 1) (by omega) hL hb (by decide +kernel) (by decide +kernel) (by decide +kernel) (by decide +kernel) (by decide +kernel) ?_
  show ly_X g b L xs (d + 50) 953 (LO i) _ mem K
  refine ly_arg (k := 2) (by omega) hL hb (by decide +kernel) (by decide +kernel) (by decide +kernel) (by decide +kernel) (by decide +kernel) ?_
  show ly_X g b L xs (d + 50) 959 (LO i) _ mem K
  refine ly_callV (av := [sh_i (sc xs (i + 1)), sh_i (sc xs (i + 2))]) rfl rfl rfl mo_Sto_waits ml_Lw_123 im_Sto_waits se_Sto_waits rfl (Nat.le_of_ble_eq_true rfl) (by decide +kernel) (c_waits (d := d + 46) hI.1.1 hI.2.1 (sc_i3 xs _) (sc_i3 xs _) (fun m1 hc => ?_))
  show ly_X g b L xs (d + 50) 962 (LO i) [sh_i (_)] m1 K
  refine ly_al (q := 2) (j := 2) rfl (List.mem_of_getElem? (i := 2) rfl) (by decide +kernel) ?_
  show ly_X g b L xs (d + 50) 963 (LO i) _ m1 K
  refine ly_arg (k := 1) (by omega) hL hb (by decide +kernel) (by decide +kernel) (by decide +kernel) (by decide +kernel) (by decide +kernel) ?_
  show ly_X g b L xs (d + 50) 969 (LO i) _ m1 K
  refine ly_arg (k := 2) (by omega) hL hb (by decide +kernel) (by decide +kernel) (by decide +kernel) (by decide +kernel) (by decide +kernel) ?_
  show ly_X g b L xs (d + 50) 975 (LO i) _ m1 K
  refine ly_callV (av := [sh_i (sc xs (i + 1)), sh_i (sc xs (i + 2))]) rfl rfl rfl mo_Mod_waits ml_Lw_126 im_Mod_waits se_Mod_waits rfl (Nat.le_of_ble_eq_true rfl) (by decide +kernel) (r_waits (d := d + 44) hI.1.1 (RR1 hI.2.2 hc) (sc_i3 xs _) (sc_i3 xs _) (fun m2 hr => ?_))
  show ly_X g b L xs (d + 50) 978 (LO i) [sh_i (_), sh_i (_)] m2 K
  exact ly_same (off := 538) (by decide) (by decide +kernel) (k _ _ (LI_of (WI_id hI.1) hc hr))
theorem lc_25 {g : sh_G} {b L d i N : Nat} {xs : Nat → Int32} {w : Wd} {mem : sh_Mem} {K : ly_T} (hb : g.2.2.2.2.2 900 = b) (hL : L ≤ 3584) (hi : i + 7 ≤ L) (hN : N ≤ 512) (hI : LI N w mem) (k : ∀ w' m', LI (N + 1) w' m' → K 1516 (LO i) [] m') : ly_X g b L xs (d + 50) 983 (LO i) [] mem K := by
  refine ly_al (q := 1) (j := 1) rfl (List.mem_of_getElem? (i := 1) rfl) (by decide +kernel) ?_
  show ly_X g b L xs (d + 50) 984 (LO i) _ mem K
  refine ly_arg (k := 1) (by omega) hL hb (by decide +kernel) (by decide +kernel) (by decide +kernel) (by decide +kernel) (by decide +kernel) ?_
  show ly_X g b L xs (d + 50) 990 (LO i) _ mem K
  refine ly_arg (k := 2) (by omega) hL hb (by decide +kernel) (by decide +kernel) (by decide +kernel) (by decide +kernel) (by decide +kernel) ?_
  show ly_X g b L xs (d + 50) 996 (LO i) _ mem K
  refine ly_callV (av := [sh_i (sc xs (i + 1)), sh_i (sc xs (i + 2))]) rfl rfl rfl mo_Sto_glads ml_Lw_127 im_Sto_glads se_Sto_glads rfl (Nat.le_of_ble_eq_true rfl) (by decide +kernel) (c_glads (d := d + 46) hI.1.1 hI.2.1 (sc_i3 xs _) (sc_i3 xs _) (fun m1 hc => ?_))
  show ly_X g b L xs (d + 50) 999 (LO i) [sh_i (_)] m1 K
  refine ly_al (q := 2) (j := 2) rfl (List.mem_of_getElem? (i := 2) rfl) (by decide +kernel) ?_
  show ly_X g b L xs (d + 50) 1000 (LO i) _ m1 K
  refine ly_arg (k := 1) (by omega) hL hb (by decide +kernel) (by decide +kernel) (by decide +kernel) (by decide +kernel) (by decide +kernel) ?_
  show ly_X g b L xs (d + 50) 1006 (LO i) _ m1 K
  refine ly_arg (k := 2) (by omega) hL hb (by decide +kernel) (by decide +kernel) (by decide +kernel) (by decide +kernel) (by decide +kernel) ?_
  show ly_X g b L xs (d + 50) 1012 (LO i) _ m1 K
  refine ly_callV (av := [sh_i (sc xs (i + 1)), sh_i (sc xs (i + 2))]) rfl rfl rfl mo_Mod_glads ml_Lw_130 im_Mod_glads se_Mod_glads rfl (Nat.le_of_ble_eq_true rfl) (by decide +kernel) (r_glads (d := d + 44) hI.1.1 (RR1 hI.2.2 hc) (sc_i3 xs _) (sc_i3 xs _) (fun m2 hr => ?_))
  show ly_X g b L xs (d + 50) 1015 (LO i) [sh_i (_), sh_i (_)] m2 K
  exact ly_same (off := 501) (by decide) (by decide +kernel) (k _ _ (LI_of (WI_id hI.1) hc hr))
theorem lc_26 {g : sh_G} {b L d i N : Nat} {xs : Nat → Int32} {w : Wd} {mem : sh_Mem} {K : ly_T} (hb : g.2.2.2.2.2 900 = b) (hL : L ≤ 3584) (hi : i + 7 ≤ L) (hN : N ≤ 512) (hI : LI N w mem) (k : ∀ w' m', LI (N + 1) w' m' → K 1516 (LO i) [] m') : ly_X g b L xs (d + 50) 1020 (LO i) [] mem K := by
  refine ly_al (q := 1) (j := 1) rfl (List.mem_of_getElem? (i := 1) rfl) (by decide +kernel) ?_
  show ly_X g b L xs (d + 50) 1021 (LO i) _ mem K
  refine ly_arg (k := 1) (by omega) hL hb (by decide +kernel) (by decide +kernel) (by decide +kernel) (by decide +kernel) (by decide +kernel) ?_
  show ly_X g b L xs (d + 50) 1027 (LO i) _ mem K
  refine ly_callV (av := [sh_i (sc xs (i + 1))]) rfl rfl rfl mo_Sto_slack ml_Lw_131 im_Sto_slack se_Sto_slack rfl (Nat.le_of_ble_eq_true rfl) (by decide +kernel) (c_slack (d := d + 47) hI.1.1 hI.2.1 (sc_i3 xs _) (fun m1 hc => ?_))
  show ly_X g b L xs (d + 50) 1030 (LO i) [sh_i (_)] m1 K
  refine ly_al (q := 2) (j := 2) rfl (List.mem_of_getElem? (i := 2) rfl) (by decide +kernel) ?_
  show ly_X g b L xs (d + 50) 1031 (LO i) _ m1 K
  refine ly_arg (k := 1) (by omega) hL hb (by decide +kernel) (by decide +kernel) (by decide +kernel) (by decide +kernel) (by decide +kernel) ?_
  show ly_X g b L xs (d + 50) 1037 (LO i) _ m1 K
  refine ly_callV (av := [sh_i (sc xs (i + 1))]) rfl rfl rfl mo_Mod_slack ml_Lw_134 im_Mod_slack se_Mod_slack rfl (Nat.le_of_ble_eq_true rfl) (by decide +kernel) (r_slack (d := d + 46) hI.1.1 (RR1 hI.2.2 hc) (sc_i3 xs _) (fun m2 hr => ?_))
  show ly_X g b L xs (d + 50) 1040 (LO i) [sh_i (_), sh_i (_)] m2 K
  exact ly_same (off := 476) (by decide) (by decide +kernel) (k _ _ (LI_of (WI_id hI.1) hc hr))
theorem lc_27 {g : sh_G} {b L d i N : Nat} {xs : Nat → Int32} {w : Wd} {mem : sh_Mem} {K : ly_T} (hb : g.2.2.2.2.2 900 = b) (hL : L ≤ 3584) (hi : i + 7 ≤ L) (hN : N ≤ 512) (hI : LI N w mem) (k : ∀ w' m', LI (N + 1) w' m' → K 1516 (LO i) [] m') : ly_X g b L xs (d + 50) 1045 (LO i) [] mem K := by
  refine ly_al (q := 1) (j := 1) rfl (List.mem_of_getElem? (i := 1) rfl) (by decide +kernel) ?_
  show ly_X g b L xs (d + 50) 1046 (LO i) _ mem K
  refine ly_arg (k := 1) (by omega) hL hb (by decide +kernel) (by decide +kernel) (by decide +kernel) (by decide +kernel) (by decide +kernel) ?_
  show ly_X g b L xs (d + 50) 1052 (LO i) _ mem K
  refine ly_callV (av := [sh_i (sc xs (i + 1))]) rfl rfl rfl mo_Sto_gang ml_Lw_135 im_Sto_gang se_Sto_gang rfl (Nat.le_of_ble_eq_true rfl) (by decide +kernel) (c_gang (d := d + 39) hI.1.1 hI.2.1 (sc_i3 xs _) (fun m1 hc => ?_))
  show ly_X g b L xs (d + 50) 1055 (LO i) [sh_i (_)] m1 K
  refine ly_al (q := 2) (j := 2) rfl (List.mem_of_getElem? (i := 2) rfl) (by decide +kernel) ?_
  show ly_X g b L xs (d + 50) 1056 (LO i) _ m1 K
  refine ly_arg (k := 1) (by omega) hL hb (by decide +kernel) (by decide +kernel) (by decide +kernel) (by decide +kernel) (by decide +kernel) ?_
  show ly_X g b L xs (d + 50) 1062 (LO i) _ m1 K
  refine ly_callV (av := [sh_i (sc xs (i + 1))]) rfl rfl rfl mo_Mod_gang ml_Lw_138 im_Mod_gang se_Mod_gang rfl (Nat.le_of_ble_eq_true rfl) (by decide +kernel) (r_gang (d := d + 41) hI.1.1 (RR1 hI.2.2 hc) (sc_i3 xs _) (fun m2 hr => ?_))
  show ly_X g b L xs (d + 50) 1065 (LO i) [sh_i (_), sh_i (_)] m2 K
  exact ly_same (off := 451) (by decide) (by decide +kernel) (k _ _ (LI_of (WI_id hI.1) hc hr))
