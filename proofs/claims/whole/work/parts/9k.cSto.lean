/-! ===== StolenHolidays is made ===== -/
theorem eF_Mark_at (g : sh_G) (n a : Nat) (F : Nat → va_E) : eF_Mark g n a F a = (.inr (3, [.int 0, sh_cv g (sh_r (n + 1)), sh_cv g (sh_r (n + 1 + 1 + 1)), sh_cv g (sh_r (n + 1 + 1 + 1 + 1 + 1 + 1 + 1))])) := fu_s _ _ _
def sfs0 : List Value := [.null, .null, .null, .null, .null, .null, .null, .null, .null, .null, .null, .null, .null]
def sfs1 (g : sh_G) : List Value := (sfs0).set 0 (sh_cv g (sh_r 2))
def sF1 (g : sh_G) (F : Nat → va_E) : Nat → va_E := fu (eF_Tape g 2 2 (fu (F) 2 (.inr (9, [.null, .int 0, .int 0, .int 0, .int 0, .int 0, .int 0, .long 0, .int 0])))) 1 (.inr (11, sfs1 g))
def sfs2 (g : sh_G) : List Value := (sfs1 g).set 1 (sh_cv g (sh_r 4))
def sF2 (g : sh_G) (F : Nat → va_E) : Nat → va_E := fu (eF_Read g 4 4 2 (fu (sF1 g F) 4 (.inr (5, [.null, .int 0, .int 0])))) 1 (.inr (11, sfs2 g))
def sfs3 (g : sh_G) : List Value := (sfs2 g).set 2 (sh_cv g (sh_r 5))
def sF3 (g : sh_G) (F : Nat → va_E) : Nat → va_E := fu (eF_State g 5 5 (fu (sF2 g F) 5 (.inr (8, [.null])))) 1 (.inr (11, sfs3 g))
def sfs4 (g : sh_G) : List Value := (sfs3 g).set 3 (sh_cv g (sh_r 7))
def sF4 (g : sh_G) (F : Nat → va_E) : Nat → va_E := fu (eF_State g 7 7 (fu (sF3 g F) 7 (.inr (8, [.null])))) 1 (.inr (11, sfs4 g))
def sfs5 (g : sh_G) : List Value := (sfs4 g).set 4 (sh_cv g (sh_r 9))
def sF5 (g : sh_G) (F : Nat → va_E) : Nat → va_E := fu (eF_Past g 9 9 (fu (sF4 g F) 9 (.inr (4, [.null, .int 0, .int 0])))) 1 (.inr (11, sfs5 g))
def sfs6 (g : sh_G) : List Value := (sfs5 g).set 5 (sh_cv g (sh_r 11))
def sF6 (g : sh_G) (F : Nat → va_E) : Nat → va_E := fu (eF_Seen g 11 11 (fu (sF5 g F) 11 (.inr (6, [.int 0, .null, .null, .null])))) 1 (.inr (11, sfs6 g))
def sfs7 (g : sh_G) : List Value := (sfs6 g).set 6 (sh_cv g (sh_r 15))
def sF7 (g : sh_G) (F : Nat → va_E) : Nat → va_E := fu (eF_Gang g 15 15 (fu (sF6 g F) 15 (.inr (1, [.null, .null, .int 0])))) 1 (.inr (11, sfs7 g))
def sfs8 (g : sh_G) : List Value := (sfs7 g).set 7 (sh_cv g (sh_r 18))
def sF8 (g : sh_G) (F : Nat → va_E) : Nat → va_E := fu (eF_Spr g 18 18 (fu (sF7 g F) 18 (.inr (7, [.null, .null, .int 0, .int 0, .int 0, .int 0, .int 0])))) 1 (.inr (11, sfs8 g))
def sfs9 (g : sh_G) : List Value := (sfs8 g).set 8 (sh_cv g (sh_r 21))
def sF9 (g : sh_G) (F : Nat → va_E) : Nat → va_E := fu (fu (sF8 g F) 21 (.inl (g.2.2.2.1 2, 4, .inr (.inr (.inr (.inr (fun _ => none))))))) 1 (.inr (11, sfs9 g))
def sfs10 (g : sh_G) : List Value := (sfs9 g).set 9 (sh_cv g (sh_r 22))
def sF10 (g : sh_G) (F : Nat → va_E) : Nat → va_E := fu (eF_Alm g 22 22 (fu (sF9 g F) 22 (.inr (0, [.int 0, .int 0, .int 0, .null, .null, .null, .null, .null, .null, .null, .null])))) 1 (.inr (11, sfs10 g))
def sfs11 (g : sh_G) : List Value := (sfs10 g).set 10 (sh_cv g (sh_r 33))
def sF11 (g : sh_G) (F : Nat → va_E) : Nat → va_E := fu (eF_Alm g 33 33 (fu (sF10 g F) 33 (.inr (0, [.int 0, .int 0, .int 0, .null, .null, .null, .null, .null, .null, .null, .null])))) 1 (.inr (11, sfs11 g))
def sfs12 (g : sh_G) : List Value := (sfs11 g).set 11 (sh_cv g (sh_r 44))
def sF12 (g : sh_G) (F : Nat → va_E) : Nat → va_E := fu (eF_Year g 44 44 (fu (sF11 g F) 44 (.inr (10, [.int 0, .null, .null, .null])))) 1 (.inr (11, sfs12 g))
def sfs13 (g : sh_G) : List Value := (sfs12 g).set 12 (sh_cv g (sh_r 48))
def sF13 (g : sh_G) (F : Nat → va_E) : Nat → va_E := fu (eF_Year g 48 48 (fu (sF12 g F) 48 (.inr (10, [.int 0, .null, .null, .null])))) 1 (.inr (11, sfs13 g))
def sF14 (g : sh_G) (F : Nat → va_E) : Nat → va_E := fu (eF_Mark g 52 52 (fu (sF13 g F) 52 (.inr (3, [.int 0, .null, .null, .null])))) 21 (.inl (g.2.2.2.1 2, 4, .inr (.inr (.inr (.inr (va_up (fun _ => none) 0 (some (g.2.2.1 + 52))))))))
def sF15 (g : sh_G) (F : Nat → va_E) : Nat → va_E := fu (eF_Mark g 63 63 (fu (sF14 g F) 63 (.inr (3, [.int 0, .null, .null, .null])))) 21 (.inl (g.2.2.2.1 2, 4, .inr (.inr (.inr (.inr (va_up (va_up (fun _ => none) 0 (some (g.2.2.1 + 52))) 1 (some (g.2.2.1 + 63))))))))
def sF16 (g : sh_G) (F : Nat → va_E) : Nat → va_E := fu (eF_Mark g 74 74 (fu (sF15 g F) 74 (.inr (3, [.int 0, .null, .null, .null])))) 21 (.inl (g.2.2.2.1 2, 4, .inr (.inr (.inr (.inr (va_up (va_up (va_up (fun _ => none) 0 (some (g.2.2.1 + 52))) 1 (some (g.2.2.1 + 63))) 2 (some (g.2.2.1 + 74))))))))
def sF17 (g : sh_G) (F : Nat → va_E) : Nat → va_E := fu (eF_Mark g 85 85 (fu (sF16 g F) 85 (.inr (3, [.int 0, .null, .null, .null])))) 21 (.inl (g.2.2.2.1 2, 4, .inr (.inr (.inr (.inr (va_up (va_up (va_up (va_up (fun _ => none) 0 (some (g.2.2.1 + 52))) 1 (some (g.2.2.1 + 63))) 2 (some (g.2.2.1 + 74))) 3 (some (g.2.2.1 + 85))))))))
theorem k_Sto_init {g : sh_G} {d : Nat} {F : Nat → va_E} (hF : F 1 = .inr (11, sfs0)) : ck_Cal g (d + 3) 94 5209 m_Sto_init [sh_r 1] 1 F 95 (sF17 g F) := by
  refine ck_met (by decide +kernel) (Nat.le_of_ble_eq_true rfl) (lo := [(0, sh_r 1)]) rfl rfl ?_
  refine ck_aload_n (q := 0) (i := 0) rfl (List.mem_of_getElem? (i := 0) rfl) (by decide +kernel) ?_
  refine ck_obj ol_Sto oi_obj oc_obj (Nat.le_of_ble_eq_true rfl) (by decide +kernel) ?_
  refine ck_aload_n (q := 0) (i := 0) rfl (List.mem_of_getElem? (i := 0) rfl) (by decide +kernel) ?_
  refine ck_new [.null, .int 0, .int 0, .int 0, .int 0, .int 0, .int 0, .long 0, .int 0] cf_X9 cl_Sto_7 it_Tape in_Tape (by decide +kernel) (by decide) (by decide) (by decide) (by decide +kernel) ?_
  show ck_X g (d + 3) _ _ m_Sto_init 8 [(0, sh_r 1)] [sh_r 2, sh_r 1] 2 (fu (F) 2 (.inr (9, [.null, .int 0, .int 0, .int 0, .int 0, .int 0, .int 0, .long 0, .int 0]))) 1 9 _
  refine ck_dupR (by decide +kernel) ?_
  refine ck_callN (av := []) mo_Tape_init (List.mem_of_getElem? (i := 0) rfl) im_Tape_init rfl rfl rfl (Nat.le_of_ble_eq_true rfl) (by decide) (by decide) (by decide +kernel) (k_Tape_init (n := 2) (a := 2) (fu_s _ _ _) (by decide) (by decide) (by decide)) ?_
  show ck_X g (d + 3) _ _ m_Sto_init 12 [(0, sh_r 1)] [sh_r 2, sh_r 1] 3 (eF_Tape g 2 2 (fu (F) 2 (.inr (9, [.null, .int 0, .int 0, .int 0, .int 0, .int 0, .int 0, .long 0, .int 0])))) 2 1009 _
  refine ck_putF (v := sh_r 2) (fs := sfs0) hF (by decide) (by decide) (by decide) rfl fp_Sto_10 (Nat.le_of_ble_eq_true rfl) rfl rfl (by decide +kernel) ?_
  show ck_X g (d + 3) _ _ m_Sto_init 15 [(0, sh_r 1)] [] 3 (sF1 g F) 2 1009 _
  refine ck_aload_n (q := 0) (i := 0) rfl (List.mem_of_getElem? (i := 0) rfl) (by decide +kernel) ?_
  refine ck_new [.null, .int 0, .int 0] cf_X5 cl_Sto_16 it_Read in_Read (by decide +kernel) (by decide) (by decide) (by decide) (by decide +kernel) ?_
  show ck_X g (d + 3) _ _ m_Sto_init 19 [(0, sh_r 1)] [sh_r 4, sh_r 1] 4 (fu (sF1 g F) 4 (.inr (5, [.null, .int 0, .int 0]))) 3 1012 _
  refine ck_dupR (by decide +kernel) ?_
  refine ck_aload_n (q := 0) (i := 0) rfl (List.mem_of_getElem? (i := 0) rfl) (by decide +kernel) ?_
  refine ck_get (v := sh_r 2) (fs := sfs1 g) rfl (by decide) (by decide) (by decide) fl_Sto_10 rfl (by decide +kernel) ?_
  refine ck_callI (av := [sh_r 2]) mo_Read_init ml_Sto_18 im_Read_init rfl rfl rfl (Nat.le_of_ble_eq_true rfl) (by decide) (by decide) (by decide +kernel) (k_Read_init (n := 4) (a := 4) (b := 2) (fu_s _ _ _) (by decide) (by decide) (by decide)) ?_
  show ck_X g (d + 3) _ _ m_Sto_init 27 [(0, sh_r 1)] [sh_r 4, sh_r 1] 4 (eF_Read g 4 4 2 (fu (sF1 g F) 4 (.inr (5, [.null, .int 0, .int 0])))) 3 1012 _
  refine ck_putF (v := sh_r 4) (fs := sfs1 g) rfl (by decide) (by decide) (by decide) rfl fp_Sto_21 (Nat.le_of_ble_eq_true rfl) rfl rfl (by decide +kernel) ?_
  show ck_X g (d + 3) _ _ m_Sto_init 30 [(0, sh_r 1)] [] 4 (sF2 g F) 3 1012 _
  refine ck_aload_n (q := 0) (i := 0) rfl (List.mem_of_getElem? (i := 0) rfl) (by decide +kernel) ?_
  refine ck_new [.null] cf_X8 cl_Sto_25 it_State in_State (by decide +kernel) (by decide) (by decide) (by decide) (by decide +kernel) ?_
  show ck_X g (d + 3) _ _ m_Sto_init 34 [(0, sh_r 1)] [sh_r 5, sh_r 1] 5 (fu (sF2 g F) 5 (.inr (8, [.null]))) 4 1013 _
  refine ck_dupR (by decide +kernel) ?_
  refine ck_callN (av := []) mo_State_init (List.mem_of_getElem? (i := 1) rfl) im_State_init rfl rfl rfl (Nat.le_of_ble_eq_true rfl) (by decide) (by decide) (by decide +kernel) (k_State_init (n := 5) (a := 5) (fu_s _ _ _) (by decide) (by decide) (by decide)) ?_
  show ck_X g (d + 3) _ _ m_Sto_init 38 [(0, sh_r 1)] [sh_r 5, sh_r 1] 6 (eF_State g 5 5 (fu (sF2 g F) 5 (.inr (8, [.null])))) 5 1058 _
  refine ck_putF (v := sh_r 5) (fs := sfs2 g) rfl (by decide) (by decide) (by decide) rfl fp_Sto_28 (Nat.le_of_ble_eq_true rfl) rfl rfl (by decide +kernel) ?_
  show ck_X g (d + 3) _ _ m_Sto_init 41 [(0, sh_r 1)] [] 6 (sF3 g F) 5 1058 _
  refine ck_aload_n (q := 0) (i := 0) rfl (List.mem_of_getElem? (i := 0) rfl) (by decide +kernel) ?_
  refine ck_new [.null] cf_X8 cl_Sto_25 it_State in_State (by decide +kernel) (by decide) (by decide) (by decide) (by decide +kernel) ?_
  show ck_X g (d + 3) _ _ m_Sto_init 45 [(0, sh_r 1)] [sh_r 7, sh_r 1] 7 (fu (sF3 g F) 7 (.inr (8, [.null]))) 6 1059 _
  refine ck_dupR (by decide +kernel) ?_
  refine ck_callN (av := []) mo_State_init (List.mem_of_getElem? (i := 1) rfl) im_State_init rfl rfl rfl (Nat.le_of_ble_eq_true rfl) (by decide) (by decide) (by decide +kernel) (k_State_init (n := 7) (a := 7) (fu_s _ _ _) (by decide) (by decide) (by decide)) ?_
  show ck_X g (d + 3) _ _ m_Sto_init 49 [(0, sh_r 1)] [sh_r 7, sh_r 1] 8 (eF_State g 7 7 (fu (sF3 g F) 7 (.inr (8, [.null])))) 7 1104 _
  refine ck_putF (v := sh_r 7) (fs := sfs3 g) rfl (by decide) (by decide) (by decide) rfl fp_Sto_32 (Nat.le_of_ble_eq_true rfl) rfl rfl (by decide +kernel) ?_
  show ck_X g (d + 3) _ _ m_Sto_init 52 [(0, sh_r 1)] [] 8 (sF4 g F) 7 1104 _
  refine ck_aload_n (q := 0) (i := 0) rfl (List.mem_of_getElem? (i := 0) rfl) (by decide +kernel) ?_
  refine ck_new [.null, .int 0, .int 0] cf_X4 cl_Sto_35 it_Past in_Past (by decide +kernel) (by decide) (by decide) (by decide) (by decide +kernel) ?_
  show ck_X g (d + 3) _ _ m_Sto_init 56 [(0, sh_r 1)] [sh_r 9, sh_r 1] 9 (fu (sF4 g F) 9 (.inr (4, [.null, .int 0, .int 0]))) 8 1107 _
  refine ck_dupR (by decide +kernel) ?_
  refine ck_callN (av := []) mo_Past_init (List.mem_of_getElem? (i := 2) rfl) im_Past_init rfl rfl rfl (Nat.le_of_ble_eq_true rfl) (by decide) (by decide) (by decide +kernel) (k_Past_init (n := 9) (a := 9) (fu_s _ _ _) (by decide) (by decide) (by decide)) ?_
  show ck_X g (d + 3) _ _ m_Sto_init 60 [(0, sh_r 1)] [sh_r 9, sh_r 1] 10 (eF_Past g 9 9 (fu (sF4 g F) 9 (.inr (4, [.null, .int 0, .int 0])))) 9 1827 _
  refine ck_putF (v := sh_r 9) (fs := sfs4 g) rfl (by decide) (by decide) (by decide) rfl fp_Sto_38 (Nat.le_of_ble_eq_true rfl) rfl rfl (by decide +kernel) ?_
  show ck_X g (d + 3) _ _ m_Sto_init 63 [(0, sh_r 1)] [] 10 (sF5 g F) 9 1827 _
  refine ck_aload_n (q := 0) (i := 0) rfl (List.mem_of_getElem? (i := 0) rfl) (by decide +kernel) ?_
  refine ck_new [.int 0, .null, .null, .null] cf_X6 cl_Sto_42 it_Seen in_Seen (by decide +kernel) (by decide) (by decide) (by decide) (by decide +kernel) ?_
  show ck_X g (d + 3) _ _ m_Sto_init 67 [(0, sh_r 1)] [sh_r 11, sh_r 1] 11 (fu (sF5 g F) 11 (.inr (6, [.int 0, .null, .null, .null]))) 10 1831 _
  refine ck_dupR (by decide +kernel) ?_
  refine ck_callN (av := []) mo_Seen_init (List.mem_of_getElem? (i := 3) rfl) im_Seen_init rfl rfl rfl (Nat.le_of_ble_eq_true rfl) (by decide) (by decide) (by decide +kernel) (k_Seen_init (n := 11) (a := 11) (fu_s _ _ _) (by decide) (by decide) (by decide)) ?_
  show ck_X g (d + 3) _ _ m_Sto_init 71 [(0, sh_r 1)] [sh_r 11, sh_r 1] 14 (eF_Seen g 11 11 (fu (sF5 g F) 11 (.inr (6, [.int 0, .null, .null, .null])))) 13 1855 _
  refine ck_putF (v := sh_r 11) (fs := sfs5 g) rfl (by decide) (by decide) (by decide) rfl fp_Sto_45 (Nat.le_of_ble_eq_true rfl) rfl rfl (by decide +kernel) ?_
  show ck_X g (d + 3) _ _ m_Sto_init 74 [(0, sh_r 1)] [] 14 (sF6 g F) 13 1855 _
  refine ck_aload_n (q := 0) (i := 0) rfl (List.mem_of_getElem? (i := 0) rfl) (by decide +kernel) ?_
  refine ck_new [.null, .null, .int 0] cf_X1 cl_Sto_49 it_Gang in_Gang (by decide +kernel) (by decide) (by decide) (by decide) (by decide +kernel) ?_
  show ck_X g (d + 3) _ _ m_Sto_init 78 [(0, sh_r 1)] [sh_r 15, sh_r 1] 15 (fu (sF6 g F) 15 (.inr (1, [.null, .null, .int 0]))) 14 1858 _
  refine ck_dupR (by decide +kernel) ?_
  refine ck_callN (av := []) mo_Gang_init (List.mem_of_getElem? (i := 4) rfl) im_Gang_init rfl rfl rfl (Nat.le_of_ble_eq_true rfl) (by decide) (by decide) (by decide +kernel) (k_Gang_init (n := 15) (a := 15) (fu_s _ _ _) (by decide) (by decide) (by decide)) ?_
  show ck_X g (d + 3) _ _ m_Sto_init 82 [(0, sh_r 1)] [sh_r 15, sh_r 1] 17 (eF_Gang g 15 15 (fu (sF6 g F) 15 (.inr (1, [.null, .null, .int 0])))) 16 1866 _
  refine ck_putF (v := sh_r 15) (fs := sfs6 g) rfl (by decide) (by decide) (by decide) rfl fp_Sto_52 (Nat.le_of_ble_eq_true rfl) rfl rfl (by decide +kernel) ?_
  show ck_X g (d + 3) _ _ m_Sto_init 85 [(0, sh_r 1)] [] 17 (sF7 g F) 16 1866 _
  refine ck_aload_n (q := 0) (i := 0) rfl (List.mem_of_getElem? (i := 0) rfl) (by decide +kernel) ?_
  refine ck_new [.null, .null, .int 0, .int 0, .int 0, .int 0, .int 0] cf_X7 cl_Sto_56 it_Spr in_Spr (by decide +kernel) (by decide) (by decide) (by decide) (by decide +kernel) ?_
  show ck_X g (d + 3) _ _ m_Sto_init 89 [(0, sh_r 1)] [sh_r 18, sh_r 1] 18 (fu (sF7 g F) 18 (.inr (7, [.null, .null, .int 0, .int 0, .int 0, .int 0, .int 0]))) 17 1873 _
  refine ck_dupR (by decide +kernel) ?_
  refine ck_callN (av := []) mo_Spr_init (List.mem_of_getElem? (i := 5) rfl) im_Spr_init rfl rfl rfl (Nat.le_of_ble_eq_true rfl) (by decide) (by decide) (by decide +kernel) (k_Spr_init (n := 18) (a := 18) (fu_s _ _ _) (by decide) (by decide) (by decide)) ?_
  show ck_X g (d + 3) _ _ m_Sto_init 93 [(0, sh_r 1)] [sh_r 18, sh_r 1] 20 (eF_Spr g 18 18 (fu (sF7 g F) 18 (.inr (7, [.null, .null, .int 0, .int 0, .int 0, .int 0, .int 0])))) 19 1969 _
  refine ck_putF (v := sh_r 18) (fs := sfs7 g) rfl (by decide) (by decide) (by decide) rfl fp_Sto_59 (Nat.le_of_ble_eq_true rfl) rfl rfl (by decide +kernel) ?_
  show ck_X g (d + 3) _ _ m_Sto_init 96 [(0, sh_r 1)] [] 20 (sF8 g F) 19 1969 _
  refine ck_aload_n (q := 0) (i := 0) rfl (List.mem_of_getElem? (i := 0) rfl) (by decide +kernel) ?_
  refine ck_iconst (x := 4) (by decide +kernel) ?_
  refine ck_newq (N := 4) cl_Sto_63 (by decide) rfl (by decide) (by decide) (by decide) (by decide +kernel) ?_
  show ck_X g (d + 3) _ _ m_Sto_init 101 [(0, sh_r 1)] [sh_r 21, sh_r 1] 21 (fu (sF8 g F) 21 (.inl (g.2.2.2.1 2, 4, .inr (.inr (.inr (.inr (fun _ => none))))))) 20 1973 _
  refine ck_putF (v := sh_r 21) (fs := sfs8 g) rfl (by decide) (by decide) (by decide) rfl fp_Sto_65 (Nat.le_of_ble_eq_true rfl) rfl rfl (by decide +kernel) ?_
  show ck_X g (d + 3) _ _ m_Sto_init 104 [(0, sh_r 1)] [] 21 (sF9 g F) 20 1973 _
  refine ck_aload_n (q := 0) (i := 0) rfl (List.mem_of_getElem? (i := 0) rfl) (by decide +kernel) ?_
  refine ck_new [.int 0, .int 0, .int 0, .null, .null, .null, .null, .null, .null, .null, .null] cf_X0 cl_Sto_69 it_Alm in_Alm (by decide +kernel) (by decide) (by decide) (by decide) (by decide +kernel) ?_
  show ck_X g (d + 3) _ _ m_Sto_init 108 [(0, sh_r 1)] [sh_r 22, sh_r 1] 22 (fu (sF9 g F) 22 (.inr (0, [.int 0, .int 0, .int 0, .null, .null, .null, .null, .null, .null, .null, .null]))) 21 1984 _
  refine ck_dupR (by decide +kernel) ?_
  refine ck_callN (av := []) mo_Alm_init (List.mem_of_getElem? (i := 12) rfl) im_Alm_init rfl rfl rfl (Nat.le_of_ble_eq_true rfl) (by decide) (by decide) (by decide +kernel) (k_Alm_init (n := 22) (a := 22) (fu_s _ _ _) (by decide) (by decide) (by decide)) ?_
  show ck_X g (d + 3) _ _ m_Sto_init 112 [(0, sh_r 1)] [sh_r 22, sh_r 1] 32 (eF_Alm g 22 22 (fu (sF9 g F) 22 (.inr (0, [.int 0, .int 0, .int 0, .null, .null, .null, .null, .null, .null, .null, .null])))) 31 3063 _
  refine ck_put (v := sh_r 22) (fs := sfs9 g) rfl (by decide) (by decide) (by decide) pl_Sto_72 (Nat.le_of_ble_eq_true rfl) rfl rfl (by decide +kernel) ?_
  show ck_X g (d + 3) _ _ m_Sto_init 115 [(0, sh_r 1)] [] 32 (sF10 g F) 31 3063 _
  refine ck_aload_n (q := 0) (i := 0) rfl (List.mem_of_getElem? (i := 0) rfl) (by decide +kernel) ?_
  refine ck_new [.int 0, .int 0, .int 0, .null, .null, .null, .null, .null, .null, .null, .null] cf_X0 cl_Sto_69 it_Alm in_Alm (by decide +kernel) (by decide) (by decide) (by decide) (by decide +kernel) ?_
  show ck_X g (d + 3) _ _ m_Sto_init 119 [(0, sh_r 1)] [sh_r 33, sh_r 1] 33 (fu (sF10 g F) 33 (.inr (0, [.int 0, .int 0, .int 0, .null, .null, .null, .null, .null, .null, .null, .null]))) 32 3074 _
  refine ck_dupR (by decide +kernel) ?_
  refine ck_callN (av := []) mo_Alm_init (List.mem_of_getElem? (i := 12) rfl) im_Alm_init rfl rfl rfl (Nat.le_of_ble_eq_true rfl) (by decide) (by decide) (by decide +kernel) (k_Alm_init (n := 33) (a := 33) (fu_s _ _ _) (by decide) (by decide) (by decide)) ?_
  show ck_X g (d + 3) _ _ m_Sto_init 123 [(0, sh_r 1)] [sh_r 33, sh_r 1] 43 (eF_Alm g 33 33 (fu (sF10 g F) 33 (.inr (0, [.int 0, .int 0, .int 0, .null, .null, .null, .null, .null, .null, .null, .null])))) 42 4153 _
  refine ck_put (v := sh_r 33) (fs := sfs10 g) rfl (by decide) (by decide) (by decide) pl_Sto_76 (Nat.le_of_ble_eq_true rfl) rfl rfl (by decide +kernel) ?_
  show ck_X g (d + 3) _ _ m_Sto_init 126 [(0, sh_r 1)] [] 43 (sF11 g F) 42 4153 _
  refine ck_aload_n (q := 0) (i := 0) rfl (List.mem_of_getElem? (i := 0) rfl) (by decide +kernel) ?_
  refine ck_new [.int 0, .null, .null, .null] cf_X10 cl_Sto_79 it_Year in_Year (by decide +kernel) (by decide) (by decide) (by decide) (by decide +kernel) ?_
  show ck_X g (d + 3) _ _ m_Sto_init 130 [(0, sh_r 1)] [sh_r 44, sh_r 1] 44 (fu (sF11 g F) 44 (.inr (10, [.int 0, .null, .null, .null]))) 43 4157 _
  refine ck_dupR (by decide +kernel) ?_
  refine ck_callN (av := []) mo_Year_init (List.mem_of_getElem? (i := 7) rfl) im_Year_init rfl rfl rfl (Nat.le_of_ble_eq_true rfl) (by decide) (by decide) (by decide +kernel) (k_Year_init (n := 44) (a := 44) (fu_s _ _ _) (by decide) (by decide) (by decide)) ?_
  show ck_X g (d + 3) _ _ m_Sto_init 134 [(0, sh_r 1)] [sh_r 44, sh_r 1] 47 (eF_Year g 44 44 (fu (sF11 g F) 44 (.inr (10, [.int 0, .null, .null, .null])))) 46 4277 _
  refine ck_put (v := sh_r 44) (fs := sfs11 g) rfl (by decide) (by decide) (by decide) pl_Sto_82 (Nat.le_of_ble_eq_true rfl) rfl rfl (by decide +kernel) ?_
  show ck_X g (d + 3) _ _ m_Sto_init 137 [(0, sh_r 1)] [] 47 (sF12 g F) 46 4277 _
  refine ck_aload_n (q := 0) (i := 0) rfl (List.mem_of_getElem? (i := 0) rfl) (by decide +kernel) ?_
  refine ck_new [.int 0, .null, .null, .null] cf_X10 cl_Sto_79 it_Year in_Year (by decide +kernel) (by decide) (by decide) (by decide) (by decide +kernel) ?_
  show ck_X g (d + 3) _ _ m_Sto_init 141 [(0, sh_r 1)] [sh_r 48, sh_r 1] 48 (fu (sF12 g F) 48 (.inr (10, [.int 0, .null, .null, .null]))) 47 4281 _
  refine ck_dupR (by decide +kernel) ?_
  refine ck_callN (av := []) mo_Year_init (List.mem_of_getElem? (i := 7) rfl) im_Year_init rfl rfl rfl (Nat.le_of_ble_eq_true rfl) (by decide) (by decide) (by decide +kernel) (k_Year_init (n := 48) (a := 48) (fu_s _ _ _) (by decide) (by decide) (by decide)) ?_
  show ck_X g (d + 3) _ _ m_Sto_init 145 [(0, sh_r 1)] [sh_r 48, sh_r 1] 51 (eF_Year g 48 48 (fu (sF12 g F) 48 (.inr (10, [.int 0, .null, .null, .null])))) 50 4401 _
  refine ck_put (v := sh_r 48) (fs := sfs12 g) rfl (by decide) (by decide) (by decide) pl_Sto_86 (Nat.le_of_ble_eq_true rfl) rfl rfl (by decide +kernel) ?_
  show ck_X g (d + 3) _ _ m_Sto_init 148 [(0, sh_r 1)] [] 51 (sF13 g F) 50 4401 _
  refine ck_iconst (x := 0) (by decide +kernel) ?_
  refine ck_istore_n (q := 1) (i := 1) (lo' := [(1, sh_i 0), (0, sh_r 1)]) rfl (by decide) rfl (by decide +kernel) ?_
  refine ck_iload_n (q := 1) (i := 1) rfl (List.mem_of_getElem? (i := 0) rfl) (by decide +kernel) ?_
  refine ck_iconst (x := 4) (by decide +kernel) ?_
  refine ck_icmp_ge (a' := 0) (b' := 4) rfl rfl (off := 22) (tgt := 174) (by decide) (by decide +kernel) ⟨fun c => absurd c (by decide), fun _ => ?_⟩
  refine ck_aload_n (q := 0) (i := 0) rfl (List.mem_of_getElem? (i := 1) rfl) (by decide +kernel) ?_
  refine ck_get (v := sh_r 21) (fs := sfs13 g) rfl (by decide) (by decide) (by decide) fl_Sto_65 rfl (by decide +kernel) ?_
  refine ck_iload_n (q := 1) (i := 1) rfl (List.mem_of_getElem? (i := 0) rfl) (by decide +kernel) ?_
  refine ck_new [.int 0, .null, .null, .null] cf_X3 cl_Sto_63 it_Mark in_Mark (by decide +kernel) (by decide) (by decide) (by decide) (by decide +kernel) ?_
  show ck_X g (d + 3) _ _ m_Sto_init 163 [(1, sh_i 0), (0, sh_r 1)] [sh_r 52, sh_i 0, sh_r 21] 52 (fu (sF13 g F) 52 (.inr (3, [.int 0, .null, .null, .null]))) 51 4405 _
  refine ck_dupR (by decide +kernel) ?_
  refine ck_callN (av := []) mo_Mark_init (List.mem_of_getElem? (i := 8) rfl) im_Mark_init rfl rfl rfl (Nat.le_of_ble_eq_true rfl) (by decide) (by decide) (by decide +kernel) (k_Mark_init (n := 52) (a := 52) (fu_s _ _ _) (by decide) (by decide) (by decide)) ?_
  show ck_X g (d + 3) _ _ m_Sto_init 167 [(1, sh_i 0), (0, sh_r 1)] [sh_r 52, sh_i 0, sh_r 21] 62 (eF_Mark g 52 52 (fu (sF13 g F) 52 (.inr (3, [.int 0, .null, .null, .null])))) 61 4603 _
  refine ck_astq (f := (fun _ => none)) (N := 4) rfl (eF_Mark_at g _ _ _) (by decide) (by decide) (by decide) (by decide) (by decide) (by decide) (by decide) (by decide) (by decide) (by decide +kernel) ?_
  show ck_X g (d + 3) _ _ m_Sto_init 168 [(1, sh_i 0), (0, sh_r 1)] [] 62 (sF14 g F) 61 4603 _
  refine ck_iinc (i := 1) (v := 1) (x := 0) (lo' := [(1, sh_i 1), (0, sh_r 1)]) (List.mem_of_getElem? (i := 0) rfl) (by decide) rfl (by decide +kernel) ?_
  refine ck_goto (off := -21) (tgt := 150) (by decide) (by decide +kernel) ?_
  refine ck_iload_n (q := 1) (i := 1) rfl (List.mem_of_getElem? (i := 0) rfl) (by decide +kernel) ?_
  refine ck_iconst (x := 4) (by decide +kernel) ?_
  refine ck_icmp_ge (a' := 1) (b' := 4) rfl rfl (off := 22) (tgt := 174) (by decide) (by decide +kernel) ⟨fun c => absurd c (by decide), fun _ => ?_⟩
  refine ck_aload_n (q := 0) (i := 0) rfl (List.mem_of_getElem? (i := 1) rfl) (by decide +kernel) ?_
  refine ck_get (v := sh_r 21) (fs := sfs13 g) rfl (by decide) (by decide) (by decide) fl_Sto_65 rfl (by decide +kernel) ?_
  refine ck_iload_n (q := 1) (i := 1) rfl (List.mem_of_getElem? (i := 0) rfl) (by decide +kernel) ?_
  refine ck_new [.int 0, .null, .null, .null] cf_X3 cl_Sto_63 it_Mark in_Mark (by decide +kernel) (by decide) (by decide) (by decide) (by decide +kernel) ?_
  show ck_X g (d + 3) _ _ m_Sto_init 163 [(1, sh_i 1), (0, sh_r 1)] [sh_r 63, sh_i 1, sh_r 21] 63 (fu (sF14 g F) 63 (.inr (3, [.int 0, .null, .null, .null]))) 62 4607 _
  refine ck_dupR (by decide +kernel) ?_
  refine ck_callN (av := []) mo_Mark_init (List.mem_of_getElem? (i := 8) rfl) im_Mark_init rfl rfl rfl (Nat.le_of_ble_eq_true rfl) (by decide) (by decide) (by decide +kernel) (k_Mark_init (n := 63) (a := 63) (fu_s _ _ _) (by decide) (by decide) (by decide)) ?_
  show ck_X g (d + 3) _ _ m_Sto_init 167 [(1, sh_i 1), (0, sh_r 1)] [sh_r 63, sh_i 1, sh_r 21] 73 (eF_Mark g 63 63 (fu (sF14 g F) 63 (.inr (3, [.int 0, .null, .null, .null])))) 72 4805 _
  refine ck_astq (f := (va_up (fun _ => none) 0 (some (g.2.2.1 + 52)))) (N := 4) rfl (eF_Mark_at g _ _ _) (by decide) (by decide) (by decide) (by decide) (by decide) (by decide) (by decide) (by decide) (by decide) (by decide +kernel) ?_
  show ck_X g (d + 3) _ _ m_Sto_init 168 [(1, sh_i 1), (0, sh_r 1)] [] 73 (sF15 g F) 72 4805 _
  refine ck_iinc (i := 1) (v := 1) (x := 1) (lo' := [(1, sh_i 2), (0, sh_r 1)]) (List.mem_of_getElem? (i := 0) rfl) (by decide) rfl (by decide +kernel) ?_
  refine ck_goto (off := -21) (tgt := 150) (by decide) (by decide +kernel) ?_
  refine ck_iload_n (q := 1) (i := 1) rfl (List.mem_of_getElem? (i := 0) rfl) (by decide +kernel) ?_
  refine ck_iconst (x := 4) (by decide +kernel) ?_
  refine ck_icmp_ge (a' := 2) (b' := 4) rfl rfl (off := 22) (tgt := 174) (by decide) (by decide +kernel) ⟨fun c => absurd c (by decide), fun _ => ?_⟩
  refine ck_aload_n (q := 0) (i := 0) rfl (List.mem_of_getElem? (i := 1) rfl) (by decide +kernel) ?_
  refine ck_get (v := sh_r 21) (fs := sfs13 g) rfl (by decide) (by decide) (by decide) fl_Sto_65 rfl (by decide +kernel) ?_
  refine ck_iload_n (q := 1) (i := 1) rfl (List.mem_of_getElem? (i := 0) rfl) (by decide +kernel) ?_
  refine ck_new [.int 0, .null, .null, .null] cf_X3 cl_Sto_63 it_Mark in_Mark (by decide +kernel) (by decide) (by decide) (by decide) (by decide +kernel) ?_
  show ck_X g (d + 3) _ _ m_Sto_init 163 [(1, sh_i 2), (0, sh_r 1)] [sh_r 74, sh_i 2, sh_r 21] 74 (fu (sF15 g F) 74 (.inr (3, [.int 0, .null, .null, .null]))) 73 4809 _
  refine ck_dupR (by decide +kernel) ?_
  refine ck_callN (av := []) mo_Mark_init (List.mem_of_getElem? (i := 8) rfl) im_Mark_init rfl rfl rfl (Nat.le_of_ble_eq_true rfl) (by decide) (by decide) (by decide +kernel) (k_Mark_init (n := 74) (a := 74) (fu_s _ _ _) (by decide) (by decide) (by decide)) ?_
  show ck_X g (d + 3) _ _ m_Sto_init 167 [(1, sh_i 2), (0, sh_r 1)] [sh_r 74, sh_i 2, sh_r 21] 84 (eF_Mark g 74 74 (fu (sF15 g F) 74 (.inr (3, [.int 0, .null, .null, .null])))) 83 5007 _
  refine ck_astq (f := (va_up (va_up (fun _ => none) 0 (some (g.2.2.1 + 52))) 1 (some (g.2.2.1 + 63)))) (N := 4) rfl (eF_Mark_at g _ _ _) (by decide) (by decide) (by decide) (by decide) (by decide) (by decide) (by decide) (by decide) (by decide) (by decide +kernel) ?_
  show ck_X g (d + 3) _ _ m_Sto_init 168 [(1, sh_i 2), (0, sh_r 1)] [] 84 (sF16 g F) 83 5007 _
  refine ck_iinc (i := 1) (v := 1) (x := 2) (lo' := [(1, sh_i 3), (0, sh_r 1)]) (List.mem_of_getElem? (i := 0) rfl) (by decide) rfl (by decide +kernel) ?_
  refine ck_goto (off := -21) (tgt := 150) (by decide) (by decide +kernel) ?_
  refine ck_iload_n (q := 1) (i := 1) rfl (List.mem_of_getElem? (i := 0) rfl) (by decide +kernel) ?_
  refine ck_iconst (x := 4) (by decide +kernel) ?_
  refine ck_icmp_ge (a' := 3) (b' := 4) rfl rfl (off := 22) (tgt := 174) (by decide) (by decide +kernel) ⟨fun c => absurd c (by decide), fun _ => ?_⟩
  refine ck_aload_n (q := 0) (i := 0) rfl (List.mem_of_getElem? (i := 1) rfl) (by decide +kernel) ?_
  refine ck_get (v := sh_r 21) (fs := sfs13 g) rfl (by decide) (by decide) (by decide) fl_Sto_65 rfl (by decide +kernel) ?_
  refine ck_iload_n (q := 1) (i := 1) rfl (List.mem_of_getElem? (i := 0) rfl) (by decide +kernel) ?_
  refine ck_new [.int 0, .null, .null, .null] cf_X3 cl_Sto_63 it_Mark in_Mark (by decide +kernel) (by decide) (by decide) (by decide) (by decide +kernel) ?_
  show ck_X g (d + 3) _ _ m_Sto_init 163 [(1, sh_i 3), (0, sh_r 1)] [sh_r 85, sh_i 3, sh_r 21] 85 (fu (sF16 g F) 85 (.inr (3, [.int 0, .null, .null, .null]))) 84 5011 _
  refine ck_dupR (by decide +kernel) ?_
  refine ck_callN (av := []) mo_Mark_init (List.mem_of_getElem? (i := 8) rfl) im_Mark_init rfl rfl rfl (Nat.le_of_ble_eq_true rfl) (by decide) (by decide) (by decide +kernel) (k_Mark_init (n := 85) (a := 85) (fu_s _ _ _) (by decide) (by decide) (by decide)) ?_
  show ck_X g (d + 3) _ _ m_Sto_init 167 [(1, sh_i 3), (0, sh_r 1)] [sh_r 85, sh_i 3, sh_r 21] 95 (eF_Mark g 85 85 (fu (sF16 g F) 85 (.inr (3, [.int 0, .null, .null, .null])))) 94 5209 _
  refine ck_astq (f := (va_up (va_up (va_up (fun _ => none) 0 (some (g.2.2.1 + 52))) 1 (some (g.2.2.1 + 63))) 2 (some (g.2.2.1 + 74)))) (N := 4) rfl (eF_Mark_at g _ _ _) (by decide) (by decide) (by decide) (by decide) (by decide) (by decide) (by decide) (by decide) (by decide) (by decide +kernel) ?_
  show ck_X g (d + 3) _ _ m_Sto_init 168 [(1, sh_i 3), (0, sh_r 1)] [] 95 (sF17 g F) 94 5209 _
  refine ck_iinc (i := 1) (v := 1) (x := 3) (lo' := [(1, sh_i 4), (0, sh_r 1)]) (List.mem_of_getElem? (i := 0) rfl) (by decide) rfl (by decide +kernel) ?_
  refine ck_goto (off := -21) (tgt := 150) (by decide) (by decide +kernel) ?_
  refine ck_iload_n (q := 1) (i := 1) rfl (List.mem_of_getElem? (i := 0) rfl) (by decide +kernel) ?_
  refine ck_iconst (x := 4) (by decide +kernel) ?_
  refine ck_icmp_ge (a' := 4) (b' := 4) rfl rfl (off := 22) (tgt := 174) (by decide) (by decide +kernel) ⟨fun _ => ?_, fun c => absurd (by decide) c⟩
  exact ck_ret (by decide +kernel)
