/-! ===== the small constructors ===== -/
def eF_Tape (g : sh_G) (n a : Nat) (F : Nat → va_E) : Nat → va_E := fu (fu (F) (n + 1) (.inl (g.2.2.2.1 4, 1000, sh_ac g 4 (fun _ => 0)))) (a) (.inr (9, [sh_cv g (sh_r (n + 1)), .int 0, .int 0, .int 0, .int 0, .int 0, .int 0, .long 0, .int 0]))
theorem k_Tape_init {g : sh_G} {d n a : Nat} {F : Nat → va_E} (hF : F a = (.inr (9, [.null, .int 0, .int 0, .int 0, .int 0, .int 0, .int 0, .long 0, .int 0]))) (h1 : 1 ≤ a) (h2 : a ≤ n) (hn : n + 1 < 1000) : ck_Cal g (d + 1) 1 1000 m_Tape_init [sh_r a] n F (n + 1) (eF_Tape g n a F) := by
  refine ck_met (by decide +kernel) (Nat.le_of_ble_eq_true rfl) (lo := [(0, sh_r a)]) rfl rfl ?_
  refine ck_aload_n (q := 0) (i := 0) rfl (List.mem_of_getElem? (i := 0) rfl) (by decide +kernel) ?_
  refine ck_obj ol_Tape oi_obj oc_obj (Nat.le_of_ble_eq_true rfl) (by decide +kernel) ?_
  refine ck_aload_n (q := 0) (i := 0) rfl (List.mem_of_getElem? (i := 0) rfl) (by decide +kernel) ?_
  refine ck_sipush (x := 1000) (v := 1000) (by decide) (by decide +kernel) ?_
  refine ck_newa (aty := .byte) (t := 4) (N := 1000) ac_byte rfl (by decide) (fun _ => rfl) (by decide) (by decide) rfl (by decide) (by decide) (by omega) (by decide +kernel) ?_
  refine ck_putF (v := sh_r (n + 1)) ((fu_n _ _ (by omega)).trans (hF)) (by omega) (by omega) (by omega) rfl fp_Tape_9 (Nat.le_of_ble_eq_true rfl) rfl rfl (by decide +kernel) ?_
  exact ck_ret (by decide +kernel)
def eF_State (g : sh_G) (n a : Nat) (F : Nat → va_E) : Nat → va_E := fu (fu (F) (n + 1) (.inl (g.2.2.2.1 0, 45, sh_ac g 0 (fun _ => 0)))) (a) (.inr (8, [sh_cv g (sh_r (n + 1))]))
theorem k_State_init {g : sh_G} {d n a : Nat} {F : Nat → va_E} (hF : F a = (.inr (8, [.null]))) (h1 : 1 ≤ a) (h2 : a ≤ n) (hn : n + 1 < 1000) : ck_Cal g (d + 1) 1 45 m_State_init [sh_r a] n F (n + 1) (eF_State g n a F) := by
  refine ck_met (by decide +kernel) (Nat.le_of_ble_eq_true rfl) (lo := [(0, sh_r a)]) rfl rfl ?_
  refine ck_aload_n (q := 0) (i := 0) rfl (List.mem_of_getElem? (i := 0) rfl) (by decide +kernel) ?_
  refine ck_obj ol_State oi_obj oc_obj (Nat.le_of_ble_eq_true rfl) (by decide +kernel) ?_
  refine ck_aload_n (q := 0) (i := 0) rfl (List.mem_of_getElem? (i := 0) rfl) (by decide +kernel) ?_
  refine ck_bipush (x := 45) (v := 45) (by decide) (by decide +kernel) ?_
  refine ck_newa (aty := .int) (t := 0) (N := 45) ac_int rfl (by decide) (fun _ => rfl) (by decide) (by decide) rfl (by decide) (by decide) (by omega) (by decide +kernel) ?_
  refine ck_putF (v := sh_r (n + 1)) ((fu_n _ _ (by omega)).trans (hF)) (by omega) (by omega) (by omega) rfl fp_State_11 (Nat.le_of_ble_eq_true rfl) rfl rfl (by decide +kernel) ?_
  exact ck_ret (by decide +kernel)
def eF_Past (g : sh_G) (n a : Nat) (F : Nat → va_E) : Nat → va_E := fu (fu (F) (n + 1) (.inl (g.2.2.2.1 0, 720, sh_ac g 0 (fun _ => 0)))) (a) (.inr (4, [sh_cv g (sh_r (n + 1)), .int 0, .int 0]))
theorem k_Past_init {g : sh_G} {d n a : Nat} {F : Nat → va_E} (hF : F a = (.inr (4, [.null, .int 0, .int 0]))) (h1 : 1 ≤ a) (h2 : a ≤ n) (hn : n + 1 < 1000) : ck_Cal g (d + 1) 1 720 m_Past_init [sh_r a] n F (n + 1) (eF_Past g n a F) := by
  refine ck_met (by decide +kernel) (Nat.le_of_ble_eq_true rfl) (lo := [(0, sh_r a)]) rfl rfl ?_
  refine ck_aload_n (q := 0) (i := 0) rfl (List.mem_of_getElem? (i := 0) rfl) (by decide +kernel) ?_
  refine ck_obj ol_Past oi_obj oc_obj (Nat.le_of_ble_eq_true rfl) (by decide +kernel) ?_
  refine ck_aload_n (q := 0) (i := 0) rfl (List.mem_of_getElem? (i := 0) rfl) (by decide +kernel) ?_
  refine ck_sipush (x := 720) (v := 720) (by decide) (by decide +kernel) ?_
  refine ck_newa (aty := .int) (t := 0) (N := 720) ac_int rfl (by decide) (fun _ => rfl) (by decide) (by decide) rfl (by decide) (by decide) (by omega) (by decide +kernel) ?_
  refine ck_putF (v := sh_r (n + 1)) ((fu_n _ _ (by omega)).trans (hF)) (by omega) (by omega) (by omega) rfl fp_Past_11 (Nat.le_of_ble_eq_true rfl) rfl rfl (by decide +kernel) ?_
  exact ck_ret (by decide +kernel)
def eF_Seen (g : sh_G) (n a : Nat) (F : Nat → va_E) : Nat → va_E := fu (fu (fu (fu (fu (fu (F) (n + 1) (.inl (g.2.2.2.1 0, 8, sh_ac g 0 (fun _ => 0)))) (a) (.inr (6, [.int 0, sh_cv g (sh_r (n + 1)), .null, .null]))) (n + 1 + 1) (.inl (g.2.2.2.1 0, 8, sh_ac g 0 (fun _ => 0)))) (a) (.inr (6, [.int 0, sh_cv g (sh_r (n + 1)), sh_cv g (sh_r (n + 1 + 1)), .null]))) (n + 1 + 1 + 1) (.inl (g.2.2.2.1 3, 8, sh_ac g 3 (fun _ => 0)))) (a) (.inr (6, [.int 0, sh_cv g (sh_r (n + 1)), sh_cv g (sh_r (n + 1 + 1)), sh_cv g (sh_r (n + 1 + 1 + 1))]))
theorem k_Seen_init {g : sh_G} {d n a : Nat} {F : Nat → va_E} (hF : F a = (.inr (6, [.int 0, .null, .null, .null]))) (h1 : 1 ≤ a) (h2 : a ≤ n) (hn : n + 3 < 1000) : ck_Cal g (d + 1) 3 24 m_Seen_init [sh_r a] n F (n + 1 + 1 + 1) (eF_Seen g n a F) := by
  refine ck_met (by decide +kernel) (Nat.le_of_ble_eq_true rfl) (lo := [(0, sh_r a)]) rfl rfl ?_
  refine ck_aload_n (q := 0) (i := 0) rfl (List.mem_of_getElem? (i := 0) rfl) (by decide +kernel) ?_
  refine ck_obj ol_Seen oi_obj oc_obj (Nat.le_of_ble_eq_true rfl) (by decide +kernel) ?_
  refine ck_aload_n (q := 0) (i := 0) rfl (List.mem_of_getElem? (i := 0) rfl) (by decide +kernel) ?_
  refine ck_bipush (x := 8) (v := 8) (by decide) (by decide +kernel) ?_
  refine ck_newa (aty := .int) (t := 0) (N := 8) ac_int rfl (by decide) (fun _ => rfl) (by decide) (by decide) rfl (by decide) (by decide) (by omega) (by decide +kernel) ?_
  refine ck_putF (v := sh_r (n + 1)) ((fu_n _ _ (by omega)).trans (hF)) (by omega) (by omega) (by omega) rfl fp_Seen_9 (Nat.le_of_ble_eq_true rfl) rfl rfl (by decide +kernel) ?_
  refine ck_aload_n (q := 0) (i := 0) rfl (List.mem_of_getElem? (i := 0) rfl) (by decide +kernel) ?_
  refine ck_bipush (x := 8) (v := 8) (by decide) (by decide +kernel) ?_
  refine ck_newa (aty := .int) (t := 0) (N := 8) ac_int rfl (by decide) (fun _ => rfl) (by decide) (by decide) rfl (by decide) (by decide) (by omega) (by decide +kernel) ?_
  refine ck_putF (v := sh_r (n + 1 + 1)) ((fu_n _ _ (by omega)).trans (fu_s _ _ _)) (by omega) (by omega) (by omega) rfl fp_Seen_15 (Nat.le_of_ble_eq_true rfl) rfl rfl (by decide +kernel) ?_
  refine ck_aload_n (q := 0) (i := 0) rfl (List.mem_of_getElem? (i := 0) rfl) (by decide +kernel) ?_
  refine ck_bipush (x := 8) (v := 8) (by decide) (by decide +kernel) ?_
  refine ck_newa (aty := .boolean) (t := 3) (N := 8) ac_boolean rfl (by decide) (fun _ => rfl) (by decide) (by decide) rfl (by decide) (by decide) (by omega) (by decide +kernel) ?_
  refine ck_putF (v := sh_r (n + 1 + 1 + 1)) ((fu_n _ _ (by omega)).trans (fu_s _ _ _)) (by omega) (by omega) (by omega) rfl fp_Seen_18 (Nat.le_of_ble_eq_true rfl) rfl rfl (by decide +kernel) ?_
  exact ck_ret (by decide +kernel)
def eF_Gang (g : sh_G) (n a : Nat) (F : Nat → va_E) : Nat → va_E := fu (fu (fu (fu (F) (n + 1) (.inl (g.2.2.2.1 0, 4, sh_ac g 0 (fun _ => 0)))) (a) (.inr (1, [sh_cv g (sh_r (n + 1)), .null, .int 0]))) (n + 1 + 1) (.inl (g.2.2.2.1 0, 4, sh_ac g 0 (fun _ => 0)))) (a) (.inr (1, [sh_cv g (sh_r (n + 1)), sh_cv g (sh_r (n + 1 + 1)), .int 0]))
theorem k_Gang_init {g : sh_G} {d n a : Nat} {F : Nat → va_E} (hF : F a = (.inr (1, [.null, .null, .int 0]))) (h1 : 1 ≤ a) (h2 : a ≤ n) (hn : n + 2 < 1000) : ck_Cal g (d + 1) 2 8 m_Gang_init [sh_r a] n F (n + 1 + 1) (eF_Gang g n a F) := by
  refine ck_met (by decide +kernel) (Nat.le_of_ble_eq_true rfl) (lo := [(0, sh_r a)]) rfl rfl ?_
  refine ck_aload_n (q := 0) (i := 0) rfl (List.mem_of_getElem? (i := 0) rfl) (by decide +kernel) ?_
  refine ck_obj ol_Gang oi_obj oc_obj (Nat.le_of_ble_eq_true rfl) (by decide +kernel) ?_
  refine ck_aload_n (q := 0) (i := 0) rfl (List.mem_of_getElem? (i := 0) rfl) (by decide +kernel) ?_
  refine ck_iconst (x := 4) (by decide +kernel) ?_
  refine ck_newa (aty := .int) (t := 0) (N := 4) ac_int rfl (by decide) (fun _ => rfl) (by decide) (by decide) rfl (by decide) (by decide) (by omega) (by decide +kernel) ?_
  refine ck_putF (v := sh_r (n + 1)) ((fu_n _ _ (by omega)).trans (hF)) (by omega) (by omega) (by omega) rfl fp_Gang_9 (Nat.le_of_ble_eq_true rfl) rfl rfl (by decide +kernel) ?_
  refine ck_aload_n (q := 0) (i := 0) rfl (List.mem_of_getElem? (i := 0) rfl) (by decide +kernel) ?_
  refine ck_iconst (x := 4) (by decide +kernel) ?_
  refine ck_newa (aty := .int) (t := 0) (N := 4) ac_int rfl (by decide) (fun _ => rfl) (by decide) (by decide) rfl (by decide) (by decide) (by omega) (by decide +kernel) ?_
  refine ck_putF (v := sh_r (n + 1 + 1)) ((fu_n _ _ (by omega)).trans (fu_s _ _ _)) (by omega) (by omega) (by omega) rfl fp_Gang_15 (Nat.le_of_ble_eq_true rfl) rfl rfl (by decide +kernel) ?_
  exact ck_ret (by decide +kernel)
def eF_Spr (g : sh_G) (n a : Nat) (F : Nat → va_E) : Nat → va_E := fu (fu (fu (fu (F) (n + 1) (.inl (g.2.2.2.1 0, 48, sh_ac g 0 (fun _ => 0)))) (a) (.inr (7, [sh_cv g (sh_r (n + 1)), .null, .int 0, .int 0, .int 0, .int 0, .int 0]))) (n + 1 + 1) (.inl (g.2.2.2.1 0, 48, sh_ac g 0 (fun _ => 0)))) (a) (.inr (7, [sh_cv g (sh_r (n + 1)), sh_cv g (sh_r (n + 1 + 1)), .int 0, .int 0, .int 0, .int 0, .int 0]))
theorem k_Spr_init {g : sh_G} {d n a : Nat} {F : Nat → va_E} (hF : F a = (.inr (7, [.null, .null, .int 0, .int 0, .int 0, .int 0, .int 0]))) (h1 : 1 ≤ a) (h2 : a ≤ n) (hn : n + 2 < 1000) : ck_Cal g (d + 1) 2 96 m_Spr_init [sh_r a] n F (n + 1 + 1) (eF_Spr g n a F) := by
  refine ck_met (by decide +kernel) (Nat.le_of_ble_eq_true rfl) (lo := [(0, sh_r a)]) rfl rfl ?_
  refine ck_aload_n (q := 0) (i := 0) rfl (List.mem_of_getElem? (i := 0) rfl) (by decide +kernel) ?_
  refine ck_obj ol_Spr oi_obj oc_obj (Nat.le_of_ble_eq_true rfl) (by decide +kernel) ?_
  refine ck_aload_n (q := 0) (i := 0) rfl (List.mem_of_getElem? (i := 0) rfl) (by decide +kernel) ?_
  refine ck_bipush (x := 48) (v := 48) (by decide) (by decide +kernel) ?_
  refine ck_newa (aty := .int) (t := 0) (N := 48) ac_int rfl (by decide) (fun _ => rfl) (by decide) (by decide) rfl (by decide) (by decide) (by omega) (by decide +kernel) ?_
  refine ck_putF (v := sh_r (n + 1)) ((fu_n _ _ (by omega)).trans (hF)) (by omega) (by omega) (by omega) rfl fp_Spr_9 (Nat.le_of_ble_eq_true rfl) rfl rfl (by decide +kernel) ?_
  refine ck_aload_n (q := 0) (i := 0) rfl (List.mem_of_getElem? (i := 0) rfl) (by decide +kernel) ?_
  refine ck_bipush (x := 48) (v := 48) (by decide) (by decide +kernel) ?_
  refine ck_newa (aty := .int) (t := 0) (N := 48) ac_int rfl (by decide) (fun _ => rfl) (by decide) (by decide) rfl (by decide) (by decide) (by omega) (by decide +kernel) ?_
  refine ck_putF (v := sh_r (n + 1 + 1)) ((fu_n _ _ (by omega)).trans (fu_s _ _ _)) (by omega) (by omega) (by omega) rfl fp_Spr_15 (Nat.le_of_ble_eq_true rfl) rfl rfl (by decide +kernel) ?_
  exact ck_ret (by decide +kernel)
def eF_Law (g : sh_G) (n a : Nat) (F : Nat → va_E) : Nat → va_E := fu (fu (fu (fu (F) (n + 1) (.inl (g.2.2.2.1 0, 1000, sh_ac g 0 (fun _ => 0)))) (a) (.inr (2, [sh_cv g (sh_r (n + 1)), .null, .int 0]))) (n + 1 + 1) (.inl (g.2.2.2.1 0, 32, sh_ac g 0 (fun _ => 0)))) (a) (.inr (2, [sh_cv g (sh_r (n + 1)), sh_cv g (sh_r (n + 1 + 1)), .int 0]))
theorem k_Law_init {g : sh_G} {d n a : Nat} {F : Nat → va_E} (hF : F a = (.inr (2, [.null, .null, .int 0]))) (h1 : 1 ≤ a) (h2 : a ≤ n) (hn : n + 2 < 1000) : ck_Cal g (d + 1) 2 1032 m_Law_init [sh_r a] n F (n + 1 + 1) (eF_Law g n a F) := by
  refine ck_met (by decide +kernel) (Nat.le_of_ble_eq_true rfl) (lo := [(0, sh_r a)]) rfl rfl ?_
  refine ck_aload_n (q := 0) (i := 0) rfl (List.mem_of_getElem? (i := 0) rfl) (by decide +kernel) ?_
  refine ck_obj ol_Law oi_obj oc_obj (Nat.le_of_ble_eq_true rfl) (by decide +kernel) ?_
  refine ck_aload_n (q := 0) (i := 0) rfl (List.mem_of_getElem? (i := 0) rfl) (by decide +kernel) ?_
  refine ck_sipush (x := 1000) (v := 1000) (by decide) (by decide +kernel) ?_
  refine ck_newa (aty := .int) (t := 0) (N := 1000) ac_int rfl (by decide) (fun _ => rfl) (by decide) (by decide) rfl (by decide) (by decide) (by omega) (by decide +kernel) ?_
  refine ck_putF (v := sh_r (n + 1)) ((fu_n _ _ (by omega)).trans (hF)) (by omega) (by omega) (by omega) rfl fp_Law_9 (Nat.le_of_ble_eq_true rfl) rfl rfl (by decide +kernel) ?_
  refine ck_aload_n (q := 0) (i := 0) rfl (List.mem_of_getElem? (i := 0) rfl) (by decide +kernel) ?_
  refine ck_bipush (x := 32) (v := 32) (by decide) (by decide +kernel) ?_
  refine ck_newa (aty := .int) (t := 0) (N := 32) ac_int rfl (by decide) (fun _ => rfl) (by decide) (by decide) rfl (by decide) (by decide) (by omega) (by decide +kernel) ?_
  refine ck_putF (v := sh_r (n + 1 + 1)) ((fu_n _ _ (by omega)).trans (fu_s _ _ _)) (by omega) (by omega) (by omega) rfl fp_Law_15 (Nat.le_of_ble_eq_true rfl) rfl rfl (by decide +kernel) ?_
  exact ck_ret (by decide +kernel)
def eF_Year (g : sh_G) (n a : Nat) (F : Nat → va_E) : Nat → va_E := fu (fu (fu (fu (fu (fu (F) (n + 1) (.inl (g.2.2.2.1 0, 40, sh_ac g 0 (fun _ => 0)))) (a) (.inr (10, [.int 0, sh_cv g (sh_r (n + 1)), .null, .null]))) (n + 1 + 1) (.inl (g.2.2.2.1 0, 40, sh_ac g 0 (fun _ => 0)))) (a) (.inr (10, [.int 0, sh_cv g (sh_r (n + 1)), sh_cv g (sh_r (n + 1 + 1)), .null]))) (n + 1 + 1 + 1) (.inl (g.2.2.2.1 0, 40, sh_ac g 0 (fun _ => 0)))) (a) (.inr (10, [.int 0, sh_cv g (sh_r (n + 1)), sh_cv g (sh_r (n + 1 + 1)), sh_cv g (sh_r (n + 1 + 1 + 1))]))
theorem k_Year_init {g : sh_G} {d n a : Nat} {F : Nat → va_E} (hF : F a = (.inr (10, [.int 0, .null, .null, .null]))) (h1 : 1 ≤ a) (h2 : a ≤ n) (hn : n + 3 < 1000) : ck_Cal g (d + 1) 3 120 m_Year_init [sh_r a] n F (n + 1 + 1 + 1) (eF_Year g n a F) := by
  refine ck_met (by decide +kernel) (Nat.le_of_ble_eq_true rfl) (lo := [(0, sh_r a)]) rfl rfl ?_
  refine ck_aload_n (q := 0) (i := 0) rfl (List.mem_of_getElem? (i := 0) rfl) (by decide +kernel) ?_
  refine ck_obj ol_Year oi_obj oc_obj (Nat.le_of_ble_eq_true rfl) (by decide +kernel) ?_
  refine ck_aload_n (q := 0) (i := 0) rfl (List.mem_of_getElem? (i := 0) rfl) (by decide +kernel) ?_
  refine ck_bipush (x := 40) (v := 40) (by decide) (by decide +kernel) ?_
  refine ck_newa (aty := .int) (t := 0) (N := 40) ac_int rfl (by decide) (fun _ => rfl) (by decide) (by decide) rfl (by decide) (by decide) (by omega) (by decide +kernel) ?_
  refine ck_putF (v := sh_r (n + 1)) ((fu_n _ _ (by omega)).trans (hF)) (by omega) (by omega) (by omega) rfl fp_Year_9 (Nat.le_of_ble_eq_true rfl) rfl rfl (by decide +kernel) ?_
  refine ck_aload_n (q := 0) (i := 0) rfl (List.mem_of_getElem? (i := 0) rfl) (by decide +kernel) ?_
  refine ck_bipush (x := 40) (v := 40) (by decide) (by decide +kernel) ?_
  refine ck_newa (aty := .int) (t := 0) (N := 40) ac_int rfl (by decide) (fun _ => rfl) (by decide) (by decide) rfl (by decide) (by decide) (by omega) (by decide +kernel) ?_
  refine ck_putF (v := sh_r (n + 1 + 1)) ((fu_n _ _ (by omega)).trans (fu_s _ _ _)) (by omega) (by omega) (by omega) rfl fp_Year_15 (Nat.le_of_ble_eq_true rfl) rfl rfl (by decide +kernel) ?_
  refine ck_aload_n (q := 0) (i := 0) rfl (List.mem_of_getElem? (i := 0) rfl) (by decide +kernel) ?_
  refine ck_bipush (x := 40) (v := 40) (by decide) (by decide +kernel) ?_
  refine ck_newa (aty := .int) (t := 0) (N := 40) ac_int rfl (by decide) (fun _ => rfl) (by decide) (by decide) rfl (by decide) (by decide) (by omega) (by decide +kernel) ?_
  refine ck_putF (v := sh_r (n + 1 + 1 + 1)) ((fu_n _ _ (by omega)).trans (fu_s _ _ _)) (by omega) (by omega) (by omega) rfl fp_Year_18 (Nat.le_of_ble_eq_true rfl) rfl rfl (by decide +kernel) ?_
  exact ck_ret (by decide +kernel)
def eF_Read (g : sh_G) (n a b : Nat) (F : Nat → va_E) : Nat → va_E := fu (F) (a) (.inr (5, [sh_cv g (sh_r (b)), .int 0, .int 0]))
theorem k_Read_init {g : sh_G} {d n a : Nat} {b : Nat} {F : Nat → va_E} (hF : F a = (.inr (5, [.null, .int 0, .int 0]))) (h1 : 1 ≤ a) (h2 : a ≤ n) (hn : n + 0 < 1000) : ck_Cal g (d + 1) 0 0 m_Read_init [sh_r a, sh_r b] n F (n) (eF_Read g n a b F) := by
  refine ck_met (by decide +kernel) (Nat.le_of_ble_eq_true rfl) (lo := [(0, sh_r a), (1, sh_r b)]) rfl rfl ?_
  refine ck_aload_n (q := 0) (i := 0) rfl (List.mem_of_getElem? (i := 0) rfl) (by decide +kernel) ?_
  refine ck_obj ol_Read oi_obj oc_obj (Nat.le_of_ble_eq_true rfl) (by decide +kernel) ?_
  refine ck_aload_n (q := 0) (i := 0) rfl (List.mem_of_getElem? (i := 0) rfl) (by decide +kernel) ?_
  refine ck_aload_n (q := 1) (i := 1) rfl (List.mem_of_getElem? (i := 1) rfl) (by decide +kernel) ?_
  refine ck_putF (v := sh_r (b)) (hF) (by omega) (by omega) (by omega) rfl fp_Read_9 (Nat.le_of_ble_eq_true rfl) rfl rfl (by decide +kernel) ?_
  exact ck_ret (by decide +kernel)
def eF_Mark (g : sh_G) (n a : Nat) (F : Nat → va_E) : Nat → va_E := fu (fu (fu (fu (fu (fu (fu (fu (fu (fu (fu (fu (fu (fu (fu (fu (fu (fu (fu (fu (F) (n + 1) (.inr (8, [.null]))) (n + 1 + 1) (.inl (g.2.2.2.1 0, 45, sh_ac g 0 (fun _ => 0)))) (n + 1) (.inr (8, [sh_cv g (sh_r (n + 1 + 1))]))) (a) (.inr (3, [.int 0, sh_cv g (sh_r (n + 1)), .null, .null]))) (n + 1 + 1 + 1) (.inr (10, [.int 0, .null, .null, .null]))) (n + 1 + 1 + 1 + 1) (.inl (g.2.2.2.1 0, 40, sh_ac g 0 (fun _ => 0)))) (n + 1 + 1 + 1) (.inr (10, [.int 0, sh_cv g (sh_r (n + 1 + 1 + 1 + 1)), .null, .null]))) (n + 1 + 1 + 1 + 1 + 1) (.inl (g.2.2.2.1 0, 40, sh_ac g 0 (fun _ => 0)))) (n + 1 + 1 + 1) (.inr (10, [.int 0, sh_cv g (sh_r (n + 1 + 1 + 1 + 1)), sh_cv g (sh_r (n + 1 + 1 + 1 + 1 + 1)), .null]))) (n + 1 + 1 + 1 + 1 + 1 + 1) (.inl (g.2.2.2.1 0, 40, sh_ac g 0 (fun _ => 0)))) (n + 1 + 1 + 1) (.inr (10, [.int 0, sh_cv g (sh_r (n + 1 + 1 + 1 + 1)), sh_cv g (sh_r (n + 1 + 1 + 1 + 1 + 1)), sh_cv g (sh_r (n + 1 + 1 + 1 + 1 + 1 + 1))]))) (a) (.inr (3, [.int 0, sh_cv g (sh_r (n + 1)), sh_cv g (sh_r (n + 1 + 1 + 1)), .null]))) (n + 1 + 1 + 1 + 1 + 1 + 1 + 1) (.inr (6, [.int 0, .null, .null, .null]))) (n + 1 + 1 + 1 + 1 + 1 + 1 + 1 + 1) (.inl (g.2.2.2.1 0, 8, sh_ac g 0 (fun _ => 0)))) (n + 1 + 1 + 1 + 1 + 1 + 1 + 1) (.inr (6, [.int 0, sh_cv g (sh_r (n + 1 + 1 + 1 + 1 + 1 + 1 + 1 + 1)), .null, .null]))) (n + 1 + 1 + 1 + 1 + 1 + 1 + 1 + 1 + 1) (.inl (g.2.2.2.1 0, 8, sh_ac g 0 (fun _ => 0)))) (n + 1 + 1 + 1 + 1 + 1 + 1 + 1) (.inr (6, [.int 0, sh_cv g (sh_r (n + 1 + 1 + 1 + 1 + 1 + 1 + 1 + 1)), sh_cv g (sh_r (n + 1 + 1 + 1 + 1 + 1 + 1 + 1 + 1 + 1)), .null]))) (n + 1 + 1 + 1 + 1 + 1 + 1 + 1 + 1 + 1 + 1) (.inl (g.2.2.2.1 3, 8, sh_ac g 3 (fun _ => 0)))) (n + 1 + 1 + 1 + 1 + 1 + 1 + 1) (.inr (6, [.int 0, sh_cv g (sh_r (n + 1 + 1 + 1 + 1 + 1 + 1 + 1 + 1)), sh_cv g (sh_r (n + 1 + 1 + 1 + 1 + 1 + 1 + 1 + 1 + 1)), sh_cv g (sh_r (n + 1 + 1 + 1 + 1 + 1 + 1 + 1 + 1 + 1 + 1))]))) (a) (.inr (3, [.int 0, sh_cv g (sh_r (n + 1)), sh_cv g (sh_r (n + 1 + 1 + 1)), sh_cv g (sh_r (n + 1 + 1 + 1 + 1 + 1 + 1 + 1))]))
theorem k_Mark_init {g : sh_G} {d n a : Nat} {F : Nat → va_E} (hF : F a = (.inr (3, [.int 0, .null, .null, .null]))) (h1 : 1 ≤ a) (h2 : a ≤ n) (hn : n + 10 < 1000) : ck_Cal g (d + 2) 10 198 m_Mark_init [sh_r a] n F (n + 1 + 1 + 1 + 1 + 1 + 1 + 1 + 1 + 1 + 1) (eF_Mark g n a F) := by
  refine ck_met (by decide +kernel) (Nat.le_of_ble_eq_true rfl) (lo := [(0, sh_r a)]) rfl rfl ?_
  refine ck_aload_n (q := 0) (i := 0) rfl (List.mem_of_getElem? (i := 0) rfl) (by decide +kernel) ?_
  refine ck_obj ol_Mark oi_obj oc_obj (Nat.le_of_ble_eq_true rfl) (by decide +kernel) ?_
  refine ck_aload_n (q := 0) (i := 0) rfl (List.mem_of_getElem? (i := 0) rfl) (by decide +kernel) ?_
  refine ck_new [.null] cf_X8 cl_Mark_7 it_State in_State (by decide +kernel) (by decide) (by decide) (by omega) (by decide +kernel) ?_
  refine ck_dupR (by decide +kernel) ?_
  refine ck_callN (av := []) mo_State_init (List.mem_of_getElem? (i := 9) rfl) im_State_init rfl rfl rfl (Nat.le_of_ble_eq_true rfl) (by decide) (by decide) (by decide +kernel) (k_State_init (fu_s _ _ _) (by omega) (by omega) (by omega)) ?_
  refine ck_putF (v := sh_r (n + 1)) ((fu_n _ _ (by omega)).trans ((fu_n _ _ (by omega)).trans ((fu_n _ _ (by omega)).trans (hF)))) (by omega) (by omega) (by omega) rfl fp_Mark_10 (Nat.le_of_ble_eq_true rfl) rfl rfl (by decide +kernel) ?_
  refine ck_aload_n (q := 0) (i := 0) rfl (List.mem_of_getElem? (i := 0) rfl) (by decide +kernel) ?_
  refine ck_new [.int 0, .null, .null, .null] cf_X10 cl_Mark_16 it_Year in_Year (by decide +kernel) (by decide) (by decide) (by omega) (by decide +kernel) ?_
  refine ck_dupR (by decide +kernel) ?_
  refine ck_callN (av := []) mo_Year_init (List.mem_of_getElem? (i := 10) rfl) im_Year_init rfl rfl rfl (Nat.le_of_ble_eq_true rfl) (by decide) (by decide) (by decide +kernel) (k_Year_init (fu_s _ _ _) (by omega) (by omega) (by omega)) ?_
  refine ck_putF (v := sh_r (n + 1 + 1 + 1)) ((fu_n _ _ (by omega)).trans ((fu_n _ _ (by omega)).trans ((fu_n _ _ (by omega)).trans ((fu_n _ _ (by omega)).trans ((fu_n _ _ (by omega)).trans ((fu_n _ _ (by omega)).trans ((fu_n _ _ (by omega)).trans (fu_s _ _ _)))))))) (by omega) (by omega) (by omega) rfl fp_Mark_19 (Nat.le_of_ble_eq_true rfl) rfl rfl (by decide +kernel) ?_
  refine ck_aload_n (q := 0) (i := 0) rfl (List.mem_of_getElem? (i := 0) rfl) (by decide +kernel) ?_
  refine ck_new [.int 0, .null, .null, .null] cf_X6 cl_Mark_23 it_Seen in_Seen (by decide +kernel) (by decide) (by decide) (by omega) (by decide +kernel) ?_
  refine ck_dupR (by decide +kernel) ?_
  refine ck_callN (av := []) mo_Seen_init (List.mem_of_getElem? (i := 11) rfl) im_Seen_init rfl rfl rfl (Nat.le_of_ble_eq_true rfl) (by decide) (by decide) (by decide +kernel) (k_Seen_init (fu_s _ _ _) (by omega) (by omega) (by omega)) ?_
  refine ck_putF (v := sh_r (n + 1 + 1 + 1 + 1 + 1 + 1 + 1)) ((fu_n _ _ (by omega)).trans ((fu_n _ _ (by omega)).trans ((fu_n _ _ (by omega)).trans ((fu_n _ _ (by omega)).trans ((fu_n _ _ (by omega)).trans ((fu_n _ _ (by omega)).trans ((fu_n _ _ (by omega)).trans (fu_s _ _ _)))))))) (by omega) (by omega) (by omega) rfl fp_Mark_26 (Nat.le_of_ble_eq_true rfl) rfl rfl (by decide +kernel) ?_
  exact ck_ret (by decide +kernel)
def eF_Alm (g : sh_G) (n a : Nat) (F : Nat → va_E) : Nat → va_E := fu (fu (fu (fu (fu (fu (fu (fu (fu (fu (fu (fu (fu (fu (fu (fu (fu (fu (fu (fu (F) (n + 1) (.inl (g.2.2.2.1 1, 8, sh_ac g 1 (fun _ => 0)))) (a) (.inr (0, [.int 0, .int 0, .int 0, sh_cv g (sh_r (n + 1)), .null, .null, .null, .null, .null, .null, .null]))) (n + 1 + 1) (.inl (g.2.2.2.1 0, 8, sh_ac g 0 (fun _ => 0)))) (a) (.inr (0, [.int 0, .int 0, .int 0, sh_cv g (sh_r (n + 1)), sh_cv g (sh_r (n + 1 + 1)), .null, .null, .null, .null, .null, .null]))) (n + 1 + 1 + 1) (.inl (g.2.2.2.1 0, 8, sh_ac g 0 (fun _ => 0)))) (a) (.inr (0, [.int 0, .int 0, .int 0, sh_cv g (sh_r (n + 1)), sh_cv g (sh_r (n + 1 + 1)), sh_cv g (sh_r (n + 1 + 1 + 1)), .null, .null, .null, .null, .null]))) (n + 1 + 1 + 1 + 1) (.inl (g.2.2.2.1 0, 8, sh_ac g 0 (fun _ => 0)))) (a) (.inr (0, [.int 0, .int 0, .int 0, sh_cv g (sh_r (n + 1)), sh_cv g (sh_r (n + 1 + 1)), sh_cv g (sh_r (n + 1 + 1 + 1)), sh_cv g (sh_r (n + 1 + 1 + 1 + 1)), .null, .null, .null, .null]))) (n + 1 + 1 + 1 + 1 + 1) (.inl (g.2.2.2.1 1, 4, sh_ac g 1 (fun _ => 0)))) (a) (.inr (0, [.int 0, .int 0, .int 0, sh_cv g (sh_r (n + 1)), sh_cv g (sh_r (n + 1 + 1)), sh_cv g (sh_r (n + 1 + 1 + 1)), sh_cv g (sh_r (n + 1 + 1 + 1 + 1)), sh_cv g (sh_r (n + 1 + 1 + 1 + 1 + 1)), .null, .null, .null]))) (n + 1 + 1 + 1 + 1 + 1 + 1) (.inl (g.2.2.2.1 0, 4, sh_ac g 0 (fun _ => 0)))) (a) (.inr (0, [.int 0, .int 0, .int 0, sh_cv g (sh_r (n + 1)), sh_cv g (sh_r (n + 1 + 1)), sh_cv g (sh_r (n + 1 + 1 + 1)), sh_cv g (sh_r (n + 1 + 1 + 1 + 1)), sh_cv g (sh_r (n + 1 + 1 + 1 + 1 + 1)), sh_cv g (sh_r (n + 1 + 1 + 1 + 1 + 1 + 1)), .null, .null]))) (n + 1 + 1 + 1 + 1 + 1 + 1 + 1) (.inl (g.2.2.2.1 0, 4, sh_ac g 0 (fun _ => 0)))) (a) (.inr (0, [.int 0, .int 0, .int 0, sh_cv g (sh_r (n + 1)), sh_cv g (sh_r (n + 1 + 1)), sh_cv g (sh_r (n + 1 + 1 + 1)), sh_cv g (sh_r (n + 1 + 1 + 1 + 1)), sh_cv g (sh_r (n + 1 + 1 + 1 + 1 + 1)), sh_cv g (sh_r (n + 1 + 1 + 1 + 1 + 1 + 1)), sh_cv g (sh_r (n + 1 + 1 + 1 + 1 + 1 + 1 + 1)), .null]))) (n + 1 + 1 + 1 + 1 + 1 + 1 + 1 + 1) (.inr (2, [.null, .null, .int 0]))) (n + 1 + 1 + 1 + 1 + 1 + 1 + 1 + 1 + 1) (.inl (g.2.2.2.1 0, 1000, sh_ac g 0 (fun _ => 0)))) (n + 1 + 1 + 1 + 1 + 1 + 1 + 1 + 1) (.inr (2, [sh_cv g (sh_r (n + 1 + 1 + 1 + 1 + 1 + 1 + 1 + 1 + 1)), .null, .int 0]))) (n + 1 + 1 + 1 + 1 + 1 + 1 + 1 + 1 + 1 + 1) (.inl (g.2.2.2.1 0, 32, sh_ac g 0 (fun _ => 0)))) (n + 1 + 1 + 1 + 1 + 1 + 1 + 1 + 1) (.inr (2, [sh_cv g (sh_r (n + 1 + 1 + 1 + 1 + 1 + 1 + 1 + 1 + 1)), sh_cv g (sh_r (n + 1 + 1 + 1 + 1 + 1 + 1 + 1 + 1 + 1 + 1)), .int 0]))) (a) (.inr (0, [.int 0, .int 0, .int 0, sh_cv g (sh_r (n + 1)), sh_cv g (sh_r (n + 1 + 1)), sh_cv g (sh_r (n + 1 + 1 + 1)), sh_cv g (sh_r (n + 1 + 1 + 1 + 1)), sh_cv g (sh_r (n + 1 + 1 + 1 + 1 + 1)), sh_cv g (sh_r (n + 1 + 1 + 1 + 1 + 1 + 1)), sh_cv g (sh_r (n + 1 + 1 + 1 + 1 + 1 + 1 + 1)), sh_cv g (sh_r (n + 1 + 1 + 1 + 1 + 1 + 1 + 1 + 1))]))
theorem k_Alm_init {g : sh_G} {d n a : Nat} {F : Nat → va_E} (hF : F a = (.inr (0, [.int 0, .int 0, .int 0, .null, .null, .null, .null, .null, .null, .null, .null]))) (h1 : 1 ≤ a) (h2 : a ≤ n) (hn : n + 10 < 1000) : ck_Cal g (d + 2) 10 1079 m_Alm_init [sh_r a] n F (n + 1 + 1 + 1 + 1 + 1 + 1 + 1 + 1 + 1 + 1) (eF_Alm g n a F) := by
  refine ck_met (by decide +kernel) (Nat.le_of_ble_eq_true rfl) (lo := [(0, sh_r a)]) rfl rfl ?_
  refine ck_aload_n (q := 0) (i := 0) rfl (List.mem_of_getElem? (i := 0) rfl) (by decide +kernel) ?_
  refine ck_obj ol_Alm oi_obj oc_obj (Nat.le_of_ble_eq_true rfl) (by decide +kernel) ?_
  refine ck_aload_n (q := 0) (i := 0) rfl (List.mem_of_getElem? (i := 0) rfl) (by decide +kernel) ?_
  refine ck_bipush (x := 8) (v := 8) (by decide) (by decide +kernel) ?_
  refine ck_newa (aty := .long) (t := 1) (N := 8) ac_long rfl (by decide) (fun _ => rfl) (by decide) (by decide) rfl (by decide) (by decide) (by omega) (by decide +kernel) ?_
  refine ck_putF (v := sh_r (n + 1)) ((fu_n _ _ (by omega)).trans (hF)) (by omega) (by omega) (by omega) rfl fp_Alm_9 (Nat.le_of_ble_eq_true rfl) rfl rfl (by decide +kernel) ?_
  refine ck_aload_n (q := 0) (i := 0) rfl (List.mem_of_getElem? (i := 0) rfl) (by decide +kernel) ?_
  refine ck_bipush (x := 8) (v := 8) (by decide) (by decide +kernel) ?_
  refine ck_newa (aty := .int) (t := 0) (N := 8) ac_int rfl (by decide) (fun _ => rfl) (by decide) (by decide) rfl (by decide) (by decide) (by omega) (by decide +kernel) ?_
  refine ck_putF (v := sh_r (n + 1 + 1)) ((fu_n _ _ (by omega)).trans (fu_s _ _ _)) (by omega) (by omega) (by omega) rfl fp_Alm_15 (Nat.le_of_ble_eq_true rfl) rfl rfl (by decide +kernel) ?_
  refine ck_aload_n (q := 0) (i := 0) rfl (List.mem_of_getElem? (i := 0) rfl) (by decide +kernel) ?_
  refine ck_bipush (x := 8) (v := 8) (by decide) (by decide +kernel) ?_
  refine ck_newa (aty := .int) (t := 0) (N := 8) ac_int rfl (by decide) (fun _ => rfl) (by decide) (by decide) rfl (by decide) (by decide) (by omega) (by decide +kernel) ?_
  refine ck_putF (v := sh_r (n + 1 + 1 + 1)) ((fu_n _ _ (by omega)).trans (fu_s _ _ _)) (by omega) (by omega) (by omega) rfl fp_Alm_19 (Nat.le_of_ble_eq_true rfl) rfl rfl (by decide +kernel) ?_
  refine ck_aload_n (q := 0) (i := 0) rfl (List.mem_of_getElem? (i := 0) rfl) (by decide +kernel) ?_
  refine ck_bipush (x := 8) (v := 8) (by decide) (by decide +kernel) ?_
  refine ck_newa (aty := .int) (t := 0) (N := 8) ac_int rfl (by decide) (fun _ => rfl) (by decide) (by decide) rfl (by decide) (by decide) (by omega) (by decide +kernel) ?_
  refine ck_putF (v := sh_r (n + 1 + 1 + 1 + 1)) ((fu_n _ _ (by omega)).trans (fu_s _ _ _)) (by omega) (by omega) (by omega) rfl fp_Alm_22 (Nat.le_of_ble_eq_true rfl) rfl rfl (by decide +kernel) ?_
  refine ck_aload_n (q := 0) (i := 0) rfl (List.mem_of_getElem? (i := 0) rfl) (by decide +kernel) ?_
  refine ck_iconst (x := 4) (by decide +kernel) ?_
  refine ck_newa (aty := .long) (t := 1) (N := 4) ac_long rfl (by decide) (fun _ => rfl) (by decide) (by decide) rfl (by decide) (by decide) (by omega) (by decide +kernel) ?_
  refine ck_putF (v := sh_r (n + 1 + 1 + 1 + 1 + 1)) ((fu_n _ _ (by omega)).trans (fu_s _ _ _)) (by omega) (by omega) (by omega) rfl fp_Alm_25 (Nat.le_of_ble_eq_true rfl) rfl rfl (by decide +kernel) ?_
  refine ck_aload_n (q := 0) (i := 0) rfl (List.mem_of_getElem? (i := 0) rfl) (by decide +kernel) ?_
  refine ck_iconst (x := 4) (by decide +kernel) ?_
  refine ck_newa (aty := .int) (t := 0) (N := 4) ac_int rfl (by decide) (fun _ => rfl) (by decide) (by decide) rfl (by decide) (by decide) (by omega) (by decide +kernel) ?_
  refine ck_putF (v := sh_r (n + 1 + 1 + 1 + 1 + 1 + 1)) ((fu_n _ _ (by omega)).trans (fu_s _ _ _)) (by omega) (by omega) (by omega) rfl fp_Alm_28 (Nat.le_of_ble_eq_true rfl) rfl rfl (by decide +kernel) ?_
  refine ck_aload_n (q := 0) (i := 0) rfl (List.mem_of_getElem? (i := 0) rfl) (by decide +kernel) ?_
  refine ck_iconst (x := 4) (by decide +kernel) ?_
  refine ck_newa (aty := .int) (t := 0) (N := 4) ac_int rfl (by decide) (fun _ => rfl) (by decide) (by decide) rfl (by decide) (by decide) (by omega) (by decide +kernel) ?_
  refine ck_putF (v := sh_r (n + 1 + 1 + 1 + 1 + 1 + 1 + 1)) ((fu_n _ _ (by omega)).trans (fu_s _ _ _)) (by omega) (by omega) (by omega) rfl fp_Alm_31 (Nat.le_of_ble_eq_true rfl) rfl rfl (by decide +kernel) ?_
  refine ck_aload_n (q := 0) (i := 0) rfl (List.mem_of_getElem? (i := 0) rfl) (by decide +kernel) ?_
  refine ck_new [.null, .null, .int 0] cf_X2 cl_Alm_34 it_Law in_Law (by decide +kernel) (by decide) (by decide) (by omega) (by decide +kernel) ?_
  refine ck_dupR (by decide +kernel) ?_
  refine ck_callN (av := []) mo_Law_init (List.mem_of_getElem? (i := 6) rfl) im_Law_init rfl rfl rfl (Nat.le_of_ble_eq_true rfl) (by decide) (by decide) (by decide +kernel) (k_Law_init (fu_s _ _ _) (by omega) (by omega) (by omega)) ?_
  refine ck_putF (v := sh_r (n + 1 + 1 + 1 + 1 + 1 + 1 + 1 + 1)) ((fu_n _ _ (by omega)).trans ((fu_n _ _ (by omega)).trans ((fu_n _ _ (by omega)).trans ((fu_n _ _ (by omega)).trans ((fu_n _ _ (by omega)).trans (fu_s _ _ _)))))) (by omega) (by omega) (by omega) rfl fp_Alm_37 (Nat.le_of_ble_eq_true rfl) rfl rfl (by decide +kernel) ?_
  exact ck_ret (by decide +kernel)
