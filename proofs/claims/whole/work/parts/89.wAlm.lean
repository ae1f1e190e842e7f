/-! ===== the walk of almanac, the book that has come in named anew (vcgen names it by its field alone) ===== -/
theorem w_Sto_almanac {g : sh_G} {d : Nat}  {B2 : Nat} (hB2 : ob0 B2) {B : Nat} (hB : ob0 B) {Y : Nat} (hY : ob10 Y) {mem : sh_Mem} {Q : Option sh_V → sh_Mem → Prop}  (k : (mem 1 10 = (B2 : Int) ∧ (sh_Cal g d m_Read_readAlmanac [(sh_r 4), (sh_r B2)] mem fun rv m1 => ∃ r1 : Int, rv = some (sh_i r1) ∧ (((i3 r1) = 0 → (m1 1 9 = (B : Int) ∧ (m1 1 10 = (B2 : Int) ∧ (∀ m2 : sh_Mem, m2 = ms m1 1 (ru (m1 1) 9 (B2 : Int)) → (∀ m3 : sh_Mem, m3 = ms m2 1 (ru (m2 1) 10 (B : Int)) → (m3 1 9 = (B2 : Int) ∧ (sh_Cal g d m_State_begin [(sh_r 5), (sh_r B2)] m3 fun rv m4 => rv = none ∧ (sh_Cal g d m_Past_clear [(sh_r 9)] m4 fun rv m5 => rv = none ∧ (sh_Cal g d m_Seen_clear [(sh_r 11)] m5 fun rv m6 => rv = none ∧ (m6 1 11 = (Y : Int) ∧ (∀ m7 : sh_Mem, m7 = ms m6 Y (ru (m6 Y) 0 0) → sh_X g (d + 1) m_Sto_almanac 71 [(0, (sh_r 1)), (1, (sh_i r1)), (3, (sh_i 0))] [] m7 (sh_K m_Sto_almanac Q)))))))))))) ∧ (¬ (i3 r1) = 0 → Q (some (sh_i r1)) m1))))) : sh_Cal g (d + 1) m_Sto_almanac [(sh_r 1)] mem Q := by
  refine sh_met (by decide +kernel) (Nat.le_of_ble_eq_true rfl) (lo := [(0, (sh_r 1))]) rfl ?_
  refine xr_aload_n (n := 0) (i := 0) rfl (List.mem_of_getElem? (i := 0) rfl) (by decide +kernel) ?_
  refine xr_getR (o := 3) rfl fl_Sto_21 rfl (by decide +kernel) ?_
  show sh_X g (d + 1) m_Sto_almanac _ _ ((sh_r 4) :: _) _ _
  refine xr_aload_n (n := 0) (i := 0) rfl (List.mem_of_getElem? (i := 0) rfl) (by decide +kernel) ?_
  obtain ⟨o, k⟩ := k
  refine xr_getD (b := B2) rfl fl_Sto_76 rfl o (by decide +kernel) ?_
  refine xr_callV (av := [(sh_r B2)]) rfl rfl rfl mo_Read_readAlmanac ml_Sto_98 im_Read_readAlmanac se_Read_readAlmanac rfl (Nat.le_of_ble_eq_true rfl) (by decide +kernel) (sh_mono k ?_)
  rintro rv m1 ⟨r1, rfl, k⟩
  show sh_X g (d + 1) m_Sto_almanac _ _ [(sh_i r1)] _ _
  refine xr_istore_n (n := 1) (i := 1) rfl (by decide) rfl (by decide +kernel) ?_
  refine xr_iload_n (n := 1) (i := 1) rfl (List.mem_of_getElem? (i := 0) rfl) (by decide +kernel) ?_
  refine xr_if_eq (a' := (i3 r1)) rfl (off := 5) (tgt := 18) (by decide) (by decide +kernel) ⟨fun c1 => ?_, fun c1 => ?_⟩
  · have k := k.1 c1
    refine xr_aload_n (n := 0) (i := 0) rfl (List.mem_of_getElem? (i := 1) rfl) (by decide +kernel) ?_
    obtain ⟨o, k⟩ := k
    refine xr_getD (b := B) rfl fl_Sto_72 rfl o (by decide +kernel) ?_
    refine xr_astore_n (n := 2) (i := 2) rfl (by decide) rfl (by decide +kernel) ?_
    refine xr_aload_n (n := 0) (i := 0) rfl (List.mem_of_getElem? (i := 2) rfl) (by decide +kernel) ?_
    refine xr_aload_n (n := 0) (i := 0) rfl (List.mem_of_getElem? (i := 2) rfl) (by decide +kernel) ?_
    obtain ⟨o, k⟩ := k
    refine xr_getD (b := B2) rfl fl_Sto_76 rfl o (by decide +kernel) ?_
    refine xr_putD rfl pl_Sto_72 rfl (by decide +kernel) ?_
    have k := k _ rfl
    generalize hg_m2 : ms m1 1 (ru (m1 1) 9 (B2 : Int)) = m2 at k ⊢
    refine xr_aload_n (n := 0) (i := 0) rfl (List.mem_of_getElem? (i := 2) rfl) (by decide +kernel) ?_
    refine xr_aload_n (n := 2) (i := 2) rfl (List.mem_of_getElem? (i := 0) rfl) (by decide +kernel) ?_
    refine xr_putD rfl pl_Sto_76 rfl (by decide +kernel) ?_
    have k := k _ rfl
    generalize hg_m3 : ms m2 1 (ru (m2 1) 10 (B : Int)) = m3 at k ⊢
    refine xr_aload_n (n := 0) (i := 0) rfl (List.mem_of_getElem? (i := 2) rfl) (by decide +kernel) ?_
    refine xr_getR (o := 4) rfl fl_Sto_28 rfl (by decide +kernel) ?_
    show sh_X g (d + 1) m_Sto_almanac _ _ ((sh_r 5) :: _) _ _
    refine xr_aload_n (n := 0) (i := 0) rfl (List.mem_of_getElem? (i := 2) rfl) (by decide +kernel) ?_
    obtain ⟨o, k⟩ := k
    refine xr_getD (b := B2) rfl fl_Sto_72 rfl o (by decide +kernel) ?_
    refine xr_callV (av := [(sh_r B2)]) rfl rfl rfl mo_State_begin ml_Sto_102 im_State_begin se_State_begin rfl (Nat.le_of_ble_eq_true rfl) (by decide +kernel) (sh_mono k ?_)
    rintro rv m4 ⟨rfl, k⟩
    show sh_X g (d + 1) m_Sto_almanac _ _ [] _ _
    refine xr_aload_n (n := 0) (i := 0) rfl (List.mem_of_getElem? (i := 2) rfl) (by decide +kernel) ?_
    refine xr_getR (o := 8) rfl fl_Sto_38 rfl (by decide +kernel) ?_
    show sh_X g (d + 1) m_Sto_almanac _ _ ((sh_r 9) :: _) _ _
    refine xr_callV (av := []) rfl rfl rfl mo_Past_clear ml_Sto_106 im_Past_clear se_Past_clear rfl (Nat.le_of_ble_eq_true rfl) (by decide +kernel) (sh_mono k ?_)
    rintro rv m5 ⟨rfl, k⟩
    show sh_X g (d + 1) m_Sto_almanac _ _ [] _ _
    refine xr_aload_n (n := 0) (i := 0) rfl (List.mem_of_getElem? (i := 2) rfl) (by decide +kernel) ?_
    refine xr_getR (o := 10) rfl fl_Sto_45 rfl (by decide +kernel) ?_
    show sh_X g (d + 1) m_Sto_almanac _ _ ((sh_r 11) :: _) _ _
    refine xr_callV (av := []) rfl rfl rfl mo_Seen_clear ml_Sto_109 im_Seen_clear se_Seen_clear rfl (Nat.le_of_ble_eq_true rfl) (by decide +kernel) (sh_mono k ?_)
    rintro rv m6 ⟨rfl, k⟩
    show sh_X g (d + 1) m_Sto_almanac _ _ [] _ _
    refine xr_aload_n (n := 0) (i := 0) rfl (List.mem_of_getElem? (i := 2) rfl) (by decide +kernel) ?_
    obtain ⟨o, k⟩ := k
    refine xr_getD (b := Y) rfl fl_Sto_82 rfl o (by decide +kernel) ?_
    refine xr_iconst (n := 0) (by decide +kernel) ?_
    refine xr_putI (ob10_0 hY) pl_Sto_110 rfl (by decide +kernel) ?_
    have k := k _ rfl
    generalize hg_m7 : ms m6 Y (ru (m6 Y) 0 0) = m7 at k ⊢
    refine xr_iconst (n := 0) (by decide +kernel) ?_
    refine xr_istore_n (n := 3) (i := 3) rfl (by decide) rfl (by decide +kernel) ?_
    refine xr_sub (lo' := [(0, (sh_r 1)), (1, (sh_i r1)), (3, (sh_i 0))]) [3, 2, 0] rfl ?_
    exact k
  · have k := k.2 c1
    refine xr_iload_n (n := 1) (i := 1) rfl (List.mem_of_getElem? (i := 0) rfl) (by decide +kernel) ?_
    exact xr_iret rfl (by decide +kernel) k
