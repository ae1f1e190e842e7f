theorem v_Sto_feed {g : sh_G} {d : Nat} {a : Int} {b : Int} {cc : Int}  {mem : sh_Mem} {Q : Option sh_V → sh_Mem → Prop}  (k : (sh_Cal g d m_Tape_put [(sh_r 2), (sh_l a)] mem fun rv m1 => rv = none ∧ (sh_Cal g d m_Tape_put [(sh_r 2), (sh_l b)] m1 fun rv m2 => rv = none ∧ (sh_Cal g d m_Tape_put [(sh_r 2), (sh_l cc)] m2 fun rv m3 => rv = none ∧ Q (some (sh_i (m3 2 1))) m3)))) : sh_Cal g (d + 1) m_Sto_feed [(sh_r 1), (sh_l a), (sh_l b), (sh_l cc)] mem Q := by
  refine sh_met (by decide +kernel) (Nat.le_of_ble_eq_true rfl) (lo := [(0, (sh_r 1)), (1, (sh_l a)), (3, (sh_l b)), (5, (sh_l cc))]) rfl ?_
  refine xr_aload_n (n := 0) (i := 0) rfl (List.mem_of_getElem? (i := 0) rfl) (by decide +kernel) ?_
  refine xr_getR (o := 1) rfl fl_Sto_10 rfl (by decide +kernel) ?_
  show sh_X g (d + 1) m_Sto_feed _ _ ((sh_r 2) :: _) _ _
  refine xr_lload_n (n := 1) (i := 1) rfl (List.mem_of_getElem? (i := 1) rfl) (by decide +kernel) ?_
  refine xr_callV (av := [(sh_l a)]) rfl rfl rfl mo_Tape_put ml_Sto_90 im_Tape_put se_Tape_put rfl (Nat.le_of_ble_eq_true rfl) (by decide +kernel) (sh_mono k ?_)
  rintro rv m1 ⟨rfl, k⟩
  show sh_X g (d + 1) m_Sto_feed _ _ [] _ _
  refine xr_aload_n (n := 0) (i := 0) rfl (List.mem_of_getElem? (i := 0) rfl) (by decide +kernel) ?_
  refine xr_getR (o := 1) rfl fl_Sto_10 rfl (by decide +kernel) ?_
  show sh_X g (d + 1) m_Sto_feed _ _ ((sh_r 2) :: _) _ _
  refine xr_lload_n (n := 3) (i := 3) rfl (List.mem_of_getElem? (i := 2) rfl) (by decide +kernel) ?_
  refine xr_callV (av := [(sh_l b)]) rfl rfl rfl mo_Tape_put ml_Sto_90 im_Tape_put se_Tape_put rfl (Nat.le_of_ble_eq_true rfl) (by decide +kernel) (sh_mono k ?_)
  rintro rv m2 ⟨rfl, k⟩
  show sh_X g (d + 1) m_Sto_feed _ _ [] _ _
  refine xr_aload_n (n := 0) (i := 0) rfl (List.mem_of_getElem? (i := 0) rfl) (by decide +kernel) ?_
  refine xr_getR (o := 1) rfl fl_Sto_10 rfl (by decide +kernel) ?_
  show sh_X g (d + 1) m_Sto_feed _ _ ((sh_r 2) :: _) _ _
  refine xr_lload (i := 5) (List.mem_of_getElem? (i := 3) rfl) (by decide +kernel) ?_
  refine xr_callV (av := [(sh_l cc)]) rfl rfl rfl mo_Tape_put ml_Sto_90 im_Tape_put se_Tape_put rfl (Nat.le_of_ble_eq_true rfl) (by decide +kernel) (sh_mono k ?_)
  rintro rv m3 ⟨rfl, k⟩
  show sh_X g (d + 1) m_Sto_feed _ _ [] _ _
  refine xr_aload_n (n := 0) (i := 0) rfl (List.mem_of_getElem? (i := 0) rfl) (by decide +kernel) ?_
  refine xr_getR (o := 1) rfl fl_Sto_10 rfl (by decide +kernel) ?_
  show sh_X g (d + 1) m_Sto_feed _ _ ((sh_r 2) :: _) _ _
  refine xr_getI rfl fl_Sto_94 (by decide) (by decide +kernel) ?_
  exact xr_iret rfl (by decide +kernel) k

theorem v_Sto_almanac {g : sh_G} {d : Nat}  {B2 : Nat} (hB2 : ob0 B2) {B : Nat} (hB : ob0 B) {Y : Nat} (hY : ob10 Y) {mem : sh_Mem} {Q : Option sh_V → sh_Mem → Prop}  (k : (mem 1 10 = (B2 : Int) ∧ (sh_Cal g d m_Read_readAlmanac [(sh_r 4), (sh_r B2)] mem fun rv m1 => ∃ r1 : Int, rv = some (sh_i r1) ∧ (((i3 r1) = 0 → (m1 1 9 = (B : Int) ∧ (m1 1 10 = (B2 : Int) ∧ (∀ m2 : sh_Mem, m2 = ms m1 1 (ru (m1 1) 9 (B2 : Int)) → (∀ m3 : sh_Mem, m3 = ms m2 1 (ru (m2 1) 10 (B : Int)) → (m3 1 9 = (B : Int) ∧ (sh_Cal g d m_State_begin [(sh_r 5), (sh_r B)] m3 fun rv m4 => rv = none ∧ (sh_Cal g d m_Past_clear [(sh_r 9)] m4 fun rv m5 => rv = none ∧ (sh_Cal g d m_Seen_clear [(sh_r 11)] m5 fun rv m6 => rv = none ∧ (m6 1 11 = (Y : Int) ∧ (∀ m7 : sh_Mem, m7 = ms m6 Y (ru (m6 Y) 0 0) → sh_X g (d + 1) m_Sto_almanac 71 [(0, (sh_r 1)), (1, (sh_i r1)), (3, (sh_i 0))] [] m7 (sh_K m_Sto_almanac Q)))))))))))) ∧ (¬ (i3 r1) = 0 → Q (some (sh_i r1)) m1))))) : sh_Cal g (d + 1) m_Sto_almanac [(sh_r 1)] mem Q := by
  refine sh_met (by decide +kernel) (Nat.le_of_ble_eq_true rfl) (lo := [(0, (sh_r 1))]) rfl ?_
  refine xr_aload_n (n := 0) (i := 0) rfl (List.mem_of_getElem? (i := 0) rfl) (by decide +kernel) ?_
  refine xr_getR (o := 3) rfl fl_Sto_21 rfl (by decide +kernel) ?_
  show sh_X g (d + 1) m_Sto_almanac _ _ ((sh_r 4) :: _) _ _
  refine xr_aload_n (n := 0) (i := 0) rfl (List.mem_of_getElem? (i := 0) rfl) (by decide +kernel) ?_
  obtain ⟨o, k⟩ := k
  refine xr_getD (b := B2) rfl fl_Sto_76 rfl o (by decide +kernel) ?_
  refine xr_callV (av := [(sh_r B2)]) rfl rfl rfl mo_Read_readAlmanac ml_Sto_98 im_Read_readAlmanac se_Read_readAlmanac rfl (Nat.le_of_ble_eq_true rfl) (by decide +kernel) (sh_mono k ?_)
  rintro rv m1 ⟨r1, rfl, k⟩
  show sh_X g (d + 1) m_Sto_almanac _ _ [(sh_i r1)] _ _
  refine xr_istore_n (n := 1) (i := 1) rfl (by decide) rfl (by decide +kernel) ?_
  refine xr_iload_n (n := 1) (i := 1) rfl (List.mem_of_getElem? (i := 0) rfl) (by decide +kernel) ?_
  refine xr_if_eq (a' := (i3 r1)) rfl (off := 5) (tgt := 18) (by decide) (by decide +kernel) ⟨fun c1 => ?_, fun c1 => ?_⟩
  · have k := k.1 c1
    refine xr_aload_n (n := 0) (i := 0) rfl (List.mem_of_getElem? (i := 1) rfl) (by decide +kernel) ?_
    obtain ⟨o, k⟩ := k
    refine xr_getD (b := B) rfl fl_Sto_72 rfl o (by decide +kernel) ?_
    refine xr_astore_n (n := 2) (i := 2) rfl (by decide) rfl (by decide +kernel) ?_
    refine xr_aload_n (n := 0) (i := 0) rfl (List.mem_of_getElem? (i := 2) rfl) (by decide +kernel) ?_
    refine xr_aload_n (n := 0) (i := 0) rfl (List.mem_of_getElem? (i := 2) rfl) (by decide +kernel) ?_
    obtain ⟨o, k⟩ := k
    refine xr_getD (b := B2) rfl fl_Sto_76 rfl o (by decide +kernel) ?_
    refine xr_putD rfl pl_Sto_72 rfl (by decide +kernel) ?_
    have k := k _ rfl
    generalize hg_m2 : ms m1 1 (ru (m1 1) 9 (B2 : Int)) = m2 at k ⊢
    refine xr_aload_n (n := 0) (i := 0) rfl (List.mem_of_getElem? (i := 2) rfl) (by decide +kernel) ?_
    refine xr_aload_n (n := 2) (i := 2) rfl (List.mem_of_getElem? (i := 0) rfl) (by decide +kernel) ?_
    refine xr_putD rfl pl_Sto_76 rfl (by decide +kernel) ?_
    have k := k _ rfl
    generalize hg_m3 : ms m2 1 (ru (m2 1) 10 (B : Int)) = m3 at k ⊢
    refine xr_aload_n (n := 0) (i := 0) rfl (List.mem_of_getElem? (i := 2) rfl) (by decide +kernel) ?_
    refine xr_getR (o := 4) rfl fl_Sto_28 rfl (by decide +kernel) ?_
    show sh_X g (d + 1) m_Sto_almanac _ _ ((sh_r 5) :: _) _ _
    refine xr_aload_n (n := 0) (i := 0) rfl (List.mem_of_getElem? (i := 2) rfl) (by decide +kernel) ?_
    obtain ⟨o, k⟩ := k
    refine xr_getD (b := B) rfl fl_Sto_72 rfl o (by decide +kernel) ?_
    refine xr_callV (av := [(sh_r B)]) rfl rfl rfl mo_State_begin ml_Sto_102 im_State_begin se_State_begin rfl (Nat.le_of_ble_eq_true rfl) (by decide +kernel) (sh_mono k ?_)
    rintro rv m4 ⟨rfl, k⟩
    show sh_X g (d + 1) m_Sto_almanac _ _ [] _ _
    refine xr_aload_n (n := 0) (i := 0) rfl (List.mem_of_getElem? (i := 2) rfl) (by decide +kernel) ?_
    refine xr_getR (o := 8) rfl fl_Sto_38 rfl (by decide +kernel) ?_
    show sh_X g (d + 1) m_Sto_almanac _ _ ((sh_r 9) :: _) _ _
    refine xr_callV (av := []) rfl rfl rfl mo_Past_clear ml_Sto_106 im_Past_clear se_Past_clear rfl (Nat.le_of_ble_eq_true rfl) (by decide +kernel) (sh_mono k ?_)
    rintro rv m5 ⟨rfl, k⟩
    show sh_X g (d + 1) m_Sto_almanac _ _ [] _ _
    refine xr_aload_n (n := 0) (i := 0) rfl (List.mem_of_getElem? (i := 2) rfl) (by decide +kernel) ?_
    refine xr_getR (o := 10) rfl fl_Sto_45 rfl (by decide +kernel) ?_
    show sh_X g (d + 1) m_Sto_almanac _ _ ((sh_r 11) :: _) _ _
    refine xr_callV (av := []) rfl rfl rfl mo_Seen_clear ml_Sto_109 im_Seen_clear se_Seen_clear rfl (Nat.le_of_ble_eq_true rfl) (by decide +kernel) (sh_mono k ?_)
    rintro rv m6 ⟨rfl, k⟩
    show sh_X g (d + 1) m_Sto_almanac _ _ [] _ _
    refine xr_aload_n (n := 0) (i := 0) rfl (List.mem_of_getElem? (i := 2) rfl) (by decide +kernel) ?_
    obtain ⟨o, k⟩ := k
    refine xr_getD (b := Y) rfl fl_Sto_82 rfl o (by decide +kernel) ?_
    refine xr_iconst (n := 0) (by decide +kernel) ?_
    refine xr_putI (ob10_0 hY) pl_Sto_110 rfl (by decide +kernel) ?_
    have k := k _ rfl
    generalize hg_m7 : ms m6 Y (ru (m6 Y) 0 0) = m7 at k ⊢
    refine xr_iconst (n := 0) (by decide +kernel) ?_
    refine xr_istore_n (n := 3) (i := 3) rfl (by decide) rfl (by decide +kernel) ?_
    refine xr_sub (lo' := [(0, (sh_r 1)), (1, (sh_i r1)), (3, (sh_i 0))]) [3, 2, 0] rfl ?_
    exact k
  · have k := k.2 c1
    refine xr_iload_n (n := 1) (i := 1) rfl (List.mem_of_getElem? (i := 0) rfl) (by decide +kernel) ?_
    exact xr_iret rfl (by decide +kernel) k
theorem v_Sto_almanac_71 {g : sh_G} {d : Nat}  {B2 : Nat} (hB2 : ob0 B2) {B : Nat} (hB : ob0 B) {Y : Nat} (hY : ob10 Y) {mem : sh_Mem} {Q : Option sh_V → sh_Mem → Prop}  {x1 : Int} {x3 : Nat} (k : ((4 ≤ (i3 (x3 : Int)) → Q (some (sh_i 0)) mem) ∧ (¬ 4 ≤ (i3 (x3 : Int)) → (x3 < 4 ∧ (∀ m1 : sh_Mem, m1 = ms mem (52 + 11 * x3) (ru (mem (52 + 11 * x3)) 0 0) → sh_X g (d + 1) m_Sto_almanac 71 [(0, (sh_r 1)), (1, (sh_i x1)), (3, (sh_i (((x3 + 1) : Nat) : Int)))] [] m1 (sh_K m_Sto_almanac Q)))))) : sh_X g (d + 1) m_Sto_almanac 71 [(0, (sh_r 1)), (1, (sh_i x1)), (3, (sh_i (x3 : Int)))] [] mem (sh_K m_Sto_almanac Q) := by
  refine xr_iload_n (n := 3) (i := 3) rfl (List.mem_of_getElem? (i := 2) rfl) (by decide +kernel) ?_
  refine xr_iconst (n := 4) (by decide +kernel) ?_
  refine xr_icmp_ge (a' := (i3 (x3 : Int))) (b' := 4) rfl (by decide) (off := 19) (tgt := 92) (by decide) (by decide +kernel) ⟨fun c1 => ?_, fun c1 => ?_⟩
  · have k := k.1 c1
    refine xr_iconst (n := 0) (by decide +kernel) ?_
    exact xr_iret rfl (by decide +kernel) k
  · have k := k.2 c1
    refine xr_aload_n (n := 0) (i := 0) rfl (List.mem_of_getElem? (i := 0) rfl) (by decide +kernel) ?_
    refine xr_getR (o := 20) rfl fl_Sto_65 rfl (by decide +kernel) ?_
    show sh_X g (d + 1) m_Sto_almanac _ _ ((sh_r 21) :: _) _ _
    refine xr_iload_n (n := 3) (i := 3) rfl (List.mem_of_getElem? (i := 2) rfl) (by decide +kernel) ?_
    obtain ⟨o, k⟩ := k
    refine xr_aaldN (j := x3) rfl o (by decide +kernel) ?_
    refine xr_iconst (n := 0) (by decide +kernel) ?_
    refine xr_putZ (by decide) (ob3_0 (ob3_ix o)) pl_Sto_113 rfl (by decide +kernel) ?_
    have k := k _ rfl
    generalize hg_m1 : ms mem (52 + 11 * x3) (ru (mem (52 + 11 * x3)) 0 0) = m1 at k ⊢
    refine xr_iinc (n := 1) (lo' := [(3, (sh_i (((x3 + 1) : Nat) : Int))), (0, (sh_r 1)), (1, (sh_i x1))]) (List.mem_of_getElem? (i := 2) rfl) (by decide) rfl (by decide +kernel) ?_
    refine xr_goto (off := (-18)) (tgt := 71) (by decide) (by decide +kernel) ?_
    refine xr_sub (lo' := [(0, (sh_r 1)), (1, (sh_i x1)), (3, (sh_i (((x3 + 1) : Nat) : Int)))]) [1, 2, 0] rfl ?_
    exact k

theorem v_Sto_year {g : sh_G} {d : Nat}  {Y2 : Nat} (hY2 : ob10 Y2) {B : Nat} (hB : ob0 B) {Y : Nat} (hY : ob10 Y) {mem : sh_Mem} {Q : Option sh_V → sh_Mem → Prop}  (k : (mem 1 12 = (Y2 : Int) ∧ (mem 1 9 = (B : Int) ∧ (sh_Cal g d m_Read_readYear [(sh_r 4), (sh_r Y2), (sh_r B)] mem fun rv m1 => ∃ r1 : Int, rv = some (sh_i r1) ∧ (((i3 r1) = 0 → (m1 1 11 = (Y : Int) ∧ (m1 1 12 = (Y2 : Int) ∧ (∀ m2 : sh_Mem, m2 = ms m1 1 (ru (m1 1) 11 (Y2 : Int)) → (∀ m3 : sh_Mem, m3 = ms m2 1 (ru (m2 1) 12 (Y : Int)) → Q (some (sh_i 0)) m3))))) ∧ (¬ (i3 r1) = 0 → Q (some (sh_i r1)) m1)))))) : sh_Cal g (d + 1) m_Sto_year [(sh_r 1)] mem Q := by
  refine sh_met (by decide +kernel) (Nat.le_of_ble_eq_true rfl) (lo := [(0, (sh_r 1))]) rfl ?_
  refine xr_aload_n (n := 0) (i := 0) rfl (List.mem_of_getElem? (i := 0) rfl) (by decide +kernel) ?_
  refine xr_getR (o := 3) rfl fl_Sto_21 rfl (by decide +kernel) ?_
  show sh_X g (d + 1) m_Sto_year _ _ ((sh_r 4) :: _) _ _
  refine xr_aload_n (n := 0) (i := 0) rfl (List.mem_of_getElem? (i := 0) rfl) (by decide +kernel) ?_
  obtain ⟨o, k⟩ := k
  refine xr_getD (b := Y2) rfl fl_Sto_86 rfl o (by decide +kernel) ?_
  refine xr_aload_n (n := 0) (i := 0) rfl (List.mem_of_getElem? (i := 0) rfl) (by decide +kernel) ?_
  obtain ⟨o, k⟩ := k
  refine xr_getD (b := B) rfl fl_Sto_72 rfl o (by decide +kernel) ?_
  refine xr_callV (av := [(sh_r Y2), (sh_r B)]) rfl rfl rfl mo_Read_readYear ml_Sto_117 im_Read_readYear se_Read_readYear rfl (Nat.le_of_ble_eq_true rfl) (by decide +kernel) (sh_mono k ?_)
  rintro rv m1 ⟨r1, rfl, k⟩
  show sh_X g (d + 1) m_Sto_year _ _ [(sh_i r1)] _ _
  refine xr_istore_n (n := 1) (i := 1) rfl (by decide) rfl (by decide +kernel) ?_
  refine xr_iload_n (n := 1) (i := 1) rfl (List.mem_of_getElem? (i := 0) rfl) (by decide +kernel) ?_
  refine xr_if_eq (a' := (i3 r1)) rfl (off := 5) (tgt := 22) (by decide) (by decide +kernel) ⟨fun c1 => ?_, fun c1 => ?_⟩
  · have k := k.1 c1
    refine xr_aload_n (n := 0) (i := 0) rfl (List.mem_of_getElem? (i := 1) rfl) (by decide +kernel) ?_
    obtain ⟨o, k⟩ := k
    refine xr_getD (b := Y) rfl fl_Sto_82 rfl o (by decide +kernel) ?_
    refine xr_astore_n (n := 2) (i := 2) rfl (by decide) rfl (by decide +kernel) ?_
    refine xr_aload_n (n := 0) (i := 0) rfl (List.mem_of_getElem? (i := 2) rfl) (by decide +kernel) ?_
    refine xr_aload_n (n := 0) (i := 0) rfl (List.mem_of_getElem? (i := 2) rfl) (by decide +kernel) ?_
    obtain ⟨o, k⟩ := k
    refine xr_getD (b := Y2) rfl fl_Sto_86 rfl o (by decide +kernel) ?_
    refine xr_putD rfl pl_Sto_82 rfl (by decide +kernel) ?_
    have k := k _ rfl
    generalize hg_m2 : ms m1 1 (ru (m1 1) 11 (Y2 : Int)) = m2 at k ⊢
    refine xr_aload_n (n := 0) (i := 0) rfl (List.mem_of_getElem? (i := 2) rfl) (by decide +kernel) ?_
    refine xr_aload_n (n := 2) (i := 2) rfl (List.mem_of_getElem? (i := 0) rfl) (by decide +kernel) ?_
    refine xr_putD rfl pl_Sto_86 rfl (by decide +kernel) ?_
    have k := k _ rfl
    generalize hg_m3 : ms m2 1 (ru (m2 1) 12 (Y : Int)) = m3 at k ⊢
    refine xr_iconst (n := 0) (by decide +kernel) ?_
    exact xr_iret rfl (by decide +kernel) k
  · have k := k.2 c1
    refine xr_iload_n (n := 1) (i := 1) rfl (List.mem_of_getElem? (i := 0) rfl) (by decide +kernel) ?_
    exact xr_iret rfl (by decide +kernel) k

theorem v_Sto_day {g : sh_G} {d : Nat} {day : Int} {what : Int} {B : Nat} (hB : ob0 B) {mem : sh_Mem} {Q : Option sh_V → sh_Mem → Prop}  (k : (sh_Cal g d m_Sto_isDay [(sh_r 1), (sh_i day)] mem fun rv m1 => ∃ r1 : Int, rv = some (sh_i r1) ∧ ((¬ (i3 r1) = 0 → (((i3 what) = 0 → (m1 1 9 = (B : Int) ∧ ((0 ≤ day ∧ day < 8) ∧ Q (some (sh_i (m1 (B + 2) (day).toNat))) m1))) ∧ (((i3 what) = 1 → (m1 1 9 = (B : Int) ∧ ((0 ≤ day ∧ day < 8) ∧ Q (some (sh_i (m1 (B + 3) (day).toNat))) m1))) ∧ (((i3 what) = 2 → ((0 ≤ day ∧ day < 45) ∧ Q (some (sh_i (m1 6 (day).toNat))) m1)) ∧ (((i3 what) = 3 → ((0 ≤ (8 + day) ∧ (8 + day) < 45) ∧ Q (some (sh_i (m1 6 ((8 + day)).toNat))) m1)) ∧ (((i3 what) = 4 → (m1 1 9 = (B : Int) ∧ ((0 ≤ day ∧ day < 8) ∧ Q (some (sh_i (m1 (B + 4) (day).toNat))) m1))) ∧ (((i3 what) < 0 ∨ 4 < (i3 what)) → Q (some (sh_i (-1))) m1))))))) ∧ ((i3 r1) = 0 → Q (some (sh_i (-1))) m1)))) : sh_Cal g (d + 1) m_Sto_day [(sh_r 1), (sh_i day), (sh_i what)] mem Q := by
  refine sh_met (by decide +kernel) (Nat.le_of_ble_eq_true rfl) (lo := [(0, (sh_r 1)), (1, (sh_i day)), (2, (sh_i what))]) rfl ?_
  refine xr_aload_n (n := 0) (i := 0) rfl (List.mem_of_getElem? (i := 0) rfl) (by decide +kernel) ?_
  refine xr_iload_n (n := 1) (i := 1) rfl (List.mem_of_getElem? (i := 1) rfl) (by decide +kernel) ?_
  refine xr_callV (av := [(sh_i day)]) rfl rfl rfl mo_Sto_isDay ml_Sto_121 im_Sto_isDay se_Sto_isDay rfl (Nat.le_of_ble_eq_true rfl) (by decide +kernel) (sh_mono k ?_)
  rintro rv m1 ⟨r1, rfl, k⟩
  show sh_X g (d + 1) m_Sto_day _ _ [(sh_i r1)] _ _
  refine xr_if_ne (a' := (i3 r1)) rfl (off := 5) (tgt := 10) (by decide) (by decide +kernel) ⟨fun c1 => ?_, fun c1 => ?_⟩
  · have k := k.1 c1
    refine xr_iload_n (n := 2) (i := 2) rfl (List.mem_of_getElem? (i := 2) rfl) (by decide +kernel) ?_
    rcases (by omega : (i3 what) = 0 ∨ (i3 what) = 1 ∨ (i3 what) = 2 ∨ (i3 what) = 3 ∨ (i3 what) = 4 ∨ ((i3 what) < 0 ∨ 4 < (i3 what))) with c2 | c2 | c2 | c2 | c2 | c2
    · have k := k.1 c2
      refine xr_tabIn (dflt := 88) (low := 0) (high := 4) (offs := #[33, 43, 53, 65, 78]) (len := 33) 0 c2 (by decide) (by decide) rfl (tgt := 44) (by decide) (by decide +kernel) ?_
      refine xr_aload_n (n := 0) (i := 0) rfl (List.mem_of_getElem? (i := 0) rfl) (by decide +kernel) ?_
      obtain ⟨o, k⟩ := k
      refine xr_getD (b := B) rfl fl_Sto_72 rfl o (by decide +kernel) ?_
      refine xr_getR (o := 2) (ob0_0 hB) fl_Sto_125 rfl (by decide +kernel) ?_
      show sh_X g (d + 1) m_Sto_day _ _ ((sh_r (B + 2)) :: _) _ _
      refine xr_iload_n (n := 1) (i := 1) rfl (List.mem_of_getElem? (i := 1) rfl) (by decide +kernel) ?_
      obtain ⟨o, k⟩ := k
      refine xr_iald (ob0_2 hB) o.1 o.2 (by decide +kernel) ?_
      exact xr_iret rfl (by decide +kernel) k
    · have k := k.2.1 c2
      refine xr_tabIn (dflt := 88) (low := 0) (high := 4) (offs := #[33, 43, 53, 65, 78]) (len := 33) 1 c2 (by decide) (by decide) rfl (tgt := 54) (by decide) (by decide +kernel) ?_
      refine xr_aload_n (n := 0) (i := 0) rfl (List.mem_of_getElem? (i := 0) rfl) (by decide +kernel) ?_
      obtain ⟨o, k⟩ := k
      refine xr_getD (b := B) rfl fl_Sto_72 rfl o (by decide +kernel) ?_
      refine xr_getR (o := 3) (ob0_0 hB) fl_Sto_129 rfl (by decide +kernel) ?_
      show sh_X g (d + 1) m_Sto_day _ _ ((sh_r (B + 3)) :: _) _ _
      refine xr_iload_n (n := 1) (i := 1) rfl (List.mem_of_getElem? (i := 1) rfl) (by decide +kernel) ?_
      obtain ⟨o, k⟩ := k
      refine xr_iald (ob0_3 hB) o.1 o.2 (by decide +kernel) ?_
      exact xr_iret rfl (by decide +kernel) k
    · have k := k.2.2.1 c2
      refine xr_tabIn (dflt := 88) (low := 0) (high := 4) (offs := #[33, 43, 53, 65, 78]) (len := 33) 2 c2 (by decide) (by decide) rfl (tgt := 64) (by decide) (by decide +kernel) ?_
      refine xr_aload_n (n := 0) (i := 0) rfl (List.mem_of_getElem? (i := 0) rfl) (by decide +kernel) ?_
      refine xr_getR (o := 4) rfl fl_Sto_28 rfl (by decide +kernel) ?_
      show sh_X g (d + 1) m_Sto_day _ _ ((sh_r 5) :: _) _ _
      refine xr_getR (o := 1) rfl fl_Sto_132 rfl (by decide +kernel) ?_
      show sh_X g (d + 1) m_Sto_day _ _ ((sh_r 6) :: _) _ _
      refine xr_iconst (n := 0) (by decide +kernel) ?_
      refine xr_iload_n (n := 1) (i := 1) rfl (List.mem_of_getElem? (i := 1) rfl) (by decide +kernel) ?_
      refine xr_iadd (by decide +kernel) ?_
      rw [Int.zero_add]
      show sh_X g (d + 1) m_Sto_day _ _ ((sh_i day) :: _) _ _
      obtain ⟨o, k⟩ := k
      refine xr_iald rfl o.1 o.2 (by decide +kernel) ?_
      exact xr_iret rfl (by decide +kernel) k
    · have k := k.2.2.2.1 c2
      refine xr_tabIn (dflt := 88) (low := 0) (high := 4) (offs := #[33, 43, 53, 65, 78]) (len := 33) 3 c2 (by decide) (by decide) rfl (tgt := 76) (by decide) (by decide +kernel) ?_
      refine xr_aload_n (n := 0) (i := 0) rfl (List.mem_of_getElem? (i := 0) rfl) (by decide +kernel) ?_
      refine xr_getR (o := 4) rfl fl_Sto_28 rfl (by decide +kernel) ?_
      show sh_X g (d + 1) m_Sto_day _ _ ((sh_r 5) :: _) _ _
      refine xr_getR (o := 1) rfl fl_Sto_132 rfl (by decide +kernel) ?_
      show sh_X g (d + 1) m_Sto_day _ _ ((sh_r 6) :: _) _ _
      refine xr_bipush (n := 8) (v := 8) (by decide) (by decide +kernel) ?_
      refine xr_iload_n (n := 1) (i := 1) rfl (List.mem_of_getElem? (i := 1) rfl) (by decide +kernel) ?_
      refine xr_iadd (by decide +kernel) ?_
      show sh_X g (d + 1) m_Sto_day _ _ ((sh_i (8 + day)) :: _) _ _
      obtain ⟨o, k⟩ := k
      refine xr_iald rfl o.1 o.2 (by decide +kernel) ?_
      exact xr_iret rfl (by decide +kernel) k
    · have k := k.2.2.2.2.1 c2
      refine xr_tabIn (dflt := 88) (low := 0) (high := 4) (offs := #[33, 43, 53, 65, 78]) (len := 33) 4 c2 (by decide) (by decide) rfl (tgt := 89) (by decide) (by decide +kernel) ?_
      refine xr_aload_n (n := 0) (i := 0) rfl (List.mem_of_getElem? (i := 0) rfl) (by decide +kernel) ?_
      obtain ⟨o, k⟩ := k
      refine xr_getD (b := B) rfl fl_Sto_72 rfl o (by decide +kernel) ?_
      refine xr_getR (o := 4) (ob0_0 hB) fl_Sto_135 rfl (by decide +kernel) ?_
      show sh_X g (d + 1) m_Sto_day _ _ ((sh_r (B + 4)) :: _) _ _
      refine xr_iload_n (n := 1) (i := 1) rfl (List.mem_of_getElem? (i := 1) rfl) (by decide +kernel) ?_
      obtain ⟨o, k⟩ := k
      refine xr_iald (ob0_4 hB) o.1 o.2 (by decide +kernel) ?_
      exact xr_iret rfl (by decide +kernel) k
    · have k := k.2.2.2.2.2 c2
      refine xr_tabOut (dflt := 88) (low := 0) (high := 4) (offs := #[33, 43, 53, 65, 78]) (len := 33) c2 (tgt := 99) (by decide) (by decide +kernel) ?_
      refine xr_iconst (n := (-1)) (by decide +kernel) ?_
      exact xr_iret rfl (by decide +kernel) k
  · have k := k.2 c1
    refine xr_iconst (n := (-1)) (by decide +kernel) ?_
    exact xr_iret rfl (by decide +kernel) k

theorem v_Sto_thief {g : sh_G} {d : Nat} {thief : Int} {what : Int} {B : Nat} (hB : ob0 B) {mem : sh_Mem} {Q : Option sh_V → sh_Mem → Prop}  (k : (sh_Cal g d m_Sto_isThief [(sh_r 1), (sh_i thief)] mem fun rv m1 => ∃ r1 : Int, rv = some (sh_i r1) ∧ ((¬ (i3 r1) = 0 → (((i3 what) = 0 → (m1 1 9 = (B : Int) ∧ ((0 ≤ thief ∧ thief < 4) ∧ Q (some (sh_i (m1 (B + 6) (thief).toNat))) m1))) ∧ (((i3 what) = 1 → (m1 1 9 = (B : Int) ∧ ((0 ≤ thief ∧ thief < 4) ∧ Q (some (sh_i (m1 (B + 7) (thief).toNat))) m1))) ∧ (((i3 what) = 2 → ((0 ≤ (16 + thief) ∧ (16 + thief) < 45) ∧ Q (some (sh_i (m1 6 ((16 + thief)).toNat))) m1)) ∧ (((i3 what) = 3 → (sh_Cal g d m_State_hasPiece [(sh_r 5), (sh_i thief)] m1 fun rv m2 => ∃ r2 : Int, rv = some (sh_i r2) ∧ (((i3 r2) = 0 → Q (some (sh_i (-1))) m2) ∧ (¬ (i3 r2) = 0 → ((0 ≤ (20 + thief) ∧ (20 + thief) < 45) ∧ Q (some (sh_i (m2 6 ((20 + thief)).toNat))) m2))))) ∧ (((i3 what) = 4 → (sh_Cal g d m_State_hasPiece [(sh_r 5), (sh_i thief)] m1 fun rv m3 => ∃ r3 : Int, rv = some (sh_i r3) ∧ (((i3 r3) = 0 → Q (some (sh_i (-1))) m3) ∧ (¬ (i3 r3) = 0 → ((0 ≤ (24 + thief) ∧ (24 + thief) < 45) ∧ Q (some (sh_i (m3 6 ((24 + thief)).toNat))) m3))))) ∧ (((i3 what) = 5 → ((0 ≤ (28 + thief) ∧ (28 + thief) < 45) ∧ Q (some (sh_i (m1 6 ((28 + thief)).toNat))) m1)) ∧ (((i3 what) = 6 → ((0 ≤ (32 + thief) ∧ (32 + thief) < 45) ∧ Q (some (sh_i (m1 6 ((32 + thief)).toNat))) m1)) ∧ (((i3 what) = 7 → ((0 ≤ (36 + thief) ∧ (36 + thief) < 45) ∧ Q (some (sh_i (m1 6 ((36 + thief)).toNat))) m1)) ∧ (((i3 what) = 8 → ((0 ≤ (40 + thief) ∧ (40 + thief) < 45) ∧ Q (some (sh_i (m1 6 ((40 + thief)).toNat))) m1)) ∧ (((i3 what) < 0 ∨ 8 < (i3 what)) → Q (some (sh_i (-2))) m1))))))))))) ∧ ((i3 r1) = 0 → Q (some (sh_i (-2))) m1)))) : sh_Cal g (d + 1) m_Sto_thief [(sh_r 1), (sh_i thief), (sh_i what)] mem Q := by
  refine sh_met (by decide +kernel) (Nat.le_of_ble_eq_true rfl) (lo := [(0, (sh_r 1)), (1, (sh_i thief)), (2, (sh_i what))]) rfl ?_
  refine xr_aload_n (n := 0) (i := 0) rfl (List.mem_of_getElem? (i := 0) rfl) (by decide +kernel) ?_
  refine xr_iload_n (n := 1) (i := 1) rfl (List.mem_of_getElem? (i := 1) rfl) (by decide +kernel) ?_
  refine xr_callV (av := [(sh_i thief)]) rfl rfl rfl mo_Sto_isThief ml_Sto_138 im_Sto_isThief se_Sto_isThief rfl (Nat.le_of_ble_eq_true rfl) (by decide +kernel) (sh_mono k ?_)
  rintro rv m1 ⟨r1, rfl, k⟩
  show sh_X g (d + 1) m_Sto_thief _ _ [(sh_i r1)] _ _
  refine xr_if_ne (a' := (i3 r1)) rfl (off := 6) (tgt := 11) (by decide) (by decide +kernel) ⟨fun c1 => ?_, fun c1 => ?_⟩
  · have k := k.1 c1
    refine xr_iload_n (n := 2) (i := 2) rfl (List.mem_of_getElem? (i := 2) rfl) (by decide +kernel) ?_
    rcases (by omega : (i3 what) = 0 ∨ (i3 what) = 1 ∨ (i3 what) = 2 ∨ (i3 what) = 3 ∨ (i3 what) = 4 ∨ (i3 what) = 5 ∨ (i3 what) = 6 ∨ (i3 what) = 7 ∨ (i3 what) = 8 ∨ ((i3 what) < 0 ∨ 8 < (i3 what))) with c2 | c2 | c2 | c2 | c2 | c2 | c2 | c2 | c2 | c2
    · have k := k.1 c2
      refine xr_tabIn (dflt := 193) (low := 0) (high := 8) (offs := #[52, 62, 72, 85, 113, 141, 154, 167, 180]) (len := 52) 0 c2 (by decide) (by decide) rfl (tgt := 64) (by decide) (by decide +kernel) ?_
      refine xr_aload_n (n := 0) (i := 0) rfl (List.mem_of_getElem? (i := 0) rfl) (by decide +kernel) ?_
      obtain ⟨o, k⟩ := k
      refine xr_getD (b := B) rfl fl_Sto_72 rfl o (by decide +kernel) ?_
      refine xr_getR (o := 6) (ob0_0 hB) fl_Sto_141 rfl (by decide +kernel) ?_
      show sh_X g (d + 1) m_Sto_thief _ _ ((sh_r (B + 6)) :: _) _ _
      refine xr_iload_n (n := 1) (i := 1) rfl (List.mem_of_getElem? (i := 1) rfl) (by decide +kernel) ?_
      obtain ⟨o, k⟩ := k
      refine xr_iald (ob0_6 hB) o.1 o.2 (by decide +kernel) ?_
      exact xr_iret rfl (by decide +kernel) k
    · have k := k.2.1 c2
      refine xr_tabIn (dflt := 193) (low := 0) (high := 8) (offs := #[52, 62, 72, 85, 113, 141, 154, 167, 180]) (len := 52) 1 c2 (by decide) (by decide) rfl (tgt := 74) (by decide) (by decide +kernel) ?_
      refine xr_aload_n (n := 0) (i := 0) rfl (List.mem_of_getElem? (i := 0) rfl) (by decide +kernel) ?_
      obtain ⟨o, k⟩ := k
      refine xr_getD (b := B) rfl fl_Sto_72 rfl o (by decide +kernel) ?_
      refine xr_getR (o := 7) (ob0_0 hB) fl_Sto_144 rfl (by decide +kernel) ?_
      show sh_X g (d + 1) m_Sto_thief _ _ ((sh_r (B + 7)) :: _) _ _
      refine xr_iload_n (n := 1) (i := 1) rfl (List.mem_of_getElem? (i := 1) rfl) (by decide +kernel) ?_
      obtain ⟨o, k⟩ := k
      refine xr_iald (ob0_7 hB) o.1 o.2 (by decide +kernel) ?_
      exact xr_iret rfl (by decide +kernel) k
    · have k := k.2.2.1 c2
      refine xr_tabIn (dflt := 193) (low := 0) (high := 8) (offs := #[52, 62, 72, 85, 113, 141, 154, 167, 180]) (len := 52) 2 c2 (by decide) (by decide) rfl (tgt := 84) (by decide) (by decide +kernel) ?_
      refine xr_aload_n (n := 0) (i := 0) rfl (List.mem_of_getElem? (i := 0) rfl) (by decide +kernel) ?_
      refine xr_getR (o := 4) rfl fl_Sto_28 rfl (by decide +kernel) ?_
      show sh_X g (d + 1) m_Sto_thief _ _ ((sh_r 5) :: _) _ _
      refine xr_getR (o := 1) rfl fl_Sto_132 rfl (by decide +kernel) ?_
      show sh_X g (d + 1) m_Sto_thief _ _ ((sh_r 6) :: _) _ _
      refine xr_bipush (n := 16) (v := 16) (by decide) (by decide +kernel) ?_
      refine xr_iload_n (n := 1) (i := 1) rfl (List.mem_of_getElem? (i := 1) rfl) (by decide +kernel) ?_
      refine xr_iadd (by decide +kernel) ?_
      show sh_X g (d + 1) m_Sto_thief _ _ ((sh_i (16 + thief)) :: _) _ _
      obtain ⟨o, k⟩ := k
      refine xr_iald rfl o.1 o.2 (by decide +kernel) ?_
      exact xr_iret rfl (by decide +kernel) k
    · have k := k.2.2.2.1 c2
      refine xr_tabIn (dflt := 193) (low := 0) (high := 8) (offs := #[52, 62, 72, 85, 113, 141, 154, 167, 180]) (len := 52) 3 c2 (by decide) (by decide) rfl (tgt := 97) (by decide) (by decide +kernel) ?_
      refine xr_aload_n (n := 0) (i := 0) rfl (List.mem_of_getElem? (i := 0) rfl) (by decide +kernel) ?_
      refine xr_getR (o := 4) rfl fl_Sto_28 rfl (by decide +kernel) ?_
      show sh_X g (d + 1) m_Sto_thief _ _ ((sh_r 5) :: _) _ _
      refine xr_iload_n (n := 1) (i := 1) rfl (List.mem_of_getElem? (i := 1) rfl) (by decide +kernel) ?_
      refine xr_callV (av := [(sh_i thief)]) rfl rfl rfl mo_State_hasPiece ml_Sto_147 im_State_hasPiece se_State_hasPiece rfl (Nat.le_of_ble_eq_true rfl) (by decide +kernel) (sh_mono k ?_)
      rintro rv m2 ⟨r2, rfl, k⟩
      show sh_X g (d + 1) m_Sto_thief _ _ [(sh_i r2)] _ _
      refine xr_if_eq (a' := (i3 r2)) rfl (off := 18) (tgt := 123) (by decide) (by decide +kernel) ⟨fun c3 => ?_, fun c3 => ?_⟩
      · have k := k.1 c3
        refine xr_iconst (n := (-1)) (by decide +kernel) ?_
        exact xr_iret rfl (by decide +kernel) k
      · have k := k.2 c3
        refine xr_aload_n (n := 0) (i := 0) rfl (List.mem_of_getElem? (i := 0) rfl) (by decide +kernel) ?_
        refine xr_getR (o := 4) rfl fl_Sto_28 rfl (by decide +kernel) ?_
        show sh_X g (d + 1) m_Sto_thief _ _ ((sh_r 5) :: _) _ _
        refine xr_getR (o := 1) rfl fl_Sto_132 rfl (by decide +kernel) ?_
        show sh_X g (d + 1) m_Sto_thief _ _ ((sh_r 6) :: _) _ _
        refine xr_bipush (n := 20) (v := 20) (by decide) (by decide +kernel) ?_
        refine xr_iload_n (n := 1) (i := 1) rfl (List.mem_of_getElem? (i := 1) rfl) (by decide +kernel) ?_
        refine xr_iadd (by decide +kernel) ?_
        show sh_X g (d + 1) m_Sto_thief _ _ ((sh_i (20 + thief)) :: _) _ _
        obtain ⟨o, k⟩ := k
        refine xr_iald rfl o.1 o.2 (by decide +kernel) ?_
        refine xr_goto (off := 4) (tgt := 124) (by decide) (by decide +kernel) ?_
        exact xr_iret rfl (by decide +kernel) k
    · have k := k.2.2.2.2.1 c2
      refine xr_tabIn (dflt := 193) (low := 0) (high := 8) (offs := #[52, 62, 72, 85, 113, 141, 154, 167, 180]) (len := 52) 4 c2 (by decide) (by decide) rfl (tgt := 125) (by decide) (by decide +kernel) ?_
      refine xr_aload_n (n := 0) (i := 0) rfl (List.mem_of_getElem? (i := 0) rfl) (by decide +kernel) ?_
      refine xr_getR (o := 4) rfl fl_Sto_28 rfl (by decide +kernel) ?_
      show sh_X g (d + 1) m_Sto_thief _ _ ((sh_r 5) :: _) _ _
      refine xr_iload_n (n := 1) (i := 1) rfl (List.mem_of_getElem? (i := 1) rfl) (by decide +kernel) ?_
      refine xr_callV (av := [(sh_i thief)]) rfl rfl rfl mo_State_hasPiece ml_Sto_147 im_State_hasPiece se_State_hasPiece rfl (Nat.le_of_ble_eq_true rfl) (by decide +kernel) (sh_mono k ?_)
      rintro rv m3 ⟨r3, rfl, k⟩
      show sh_X g (d + 1) m_Sto_thief _ _ [(sh_i r3)] _ _
      refine xr_if_eq (a' := (i3 r3)) rfl (off := 18) (tgt := 151) (by decide) (by decide +kernel) ⟨fun c4 => ?_, fun c4 => ?_⟩
      · have k := k.1 c4
        refine xr_iconst (n := (-1)) (by decide +kernel) ?_
        exact xr_iret rfl (by decide +kernel) k
      · have k := k.2 c4
        refine xr_aload_n (n := 0) (i := 0) rfl (List.mem_of_getElem? (i := 0) rfl) (by decide +kernel) ?_
        refine xr_getR (o := 4) rfl fl_Sto_28 rfl (by decide +kernel) ?_
        show sh_X g (d + 1) m_Sto_thief _ _ ((sh_r 5) :: _) _ _
        refine xr_getR (o := 1) rfl fl_Sto_132 rfl (by decide +kernel) ?_
        show sh_X g (d + 1) m_Sto_thief _ _ ((sh_r 6) :: _) _ _
        refine xr_bipush (n := 24) (v := 24) (by decide) (by decide +kernel) ?_
        refine xr_iload_n (n := 1) (i := 1) rfl (List.mem_of_getElem? (i := 1) rfl) (by decide +kernel) ?_
        refine xr_iadd (by decide +kernel) ?_
        show sh_X g (d + 1) m_Sto_thief _ _ ((sh_i (24 + thief)) :: _) _ _
        obtain ⟨o, k⟩ := k
        refine xr_iald rfl o.1 o.2 (by decide +kernel) ?_
        refine xr_goto (off := 4) (tgt := 152) (by decide) (by decide +kernel) ?_
        exact xr_iret rfl (by decide +kernel) k
    · have k := k.2.2.2.2.2.1 c2
      refine xr_tabIn (dflt := 193) (low := 0) (high := 8) (offs := #[52, 62, 72, 85, 113, 141, 154, 167, 180]) (len := 52) 5 c2 (by decide) (by decide) rfl (tgt := 153) (by decide) (by decide +kernel) ?_
      refine xr_aload_n (n := 0) (i := 0) rfl (List.mem_of_getElem? (i := 0) rfl) (by decide +kernel) ?_
      refine xr_getR (o := 4) rfl fl_Sto_28 rfl (by decide +kernel) ?_
      show sh_X g (d + 1) m_Sto_thief _ _ ((sh_r 5) :: _) _ _
      refine xr_getR (o := 1) rfl fl_Sto_132 rfl (by decide +kernel) ?_
      show sh_X g (d + 1) m_Sto_thief _ _ ((sh_r 6) :: _) _ _
      refine xr_bipush (n := 28) (v := 28) (by decide) (by decide +kernel) ?_
      refine xr_iload_n (n := 1) (i := 1) rfl (List.mem_of_getElem? (i := 1) rfl) (by decide +kernel) ?_
      refine xr_iadd (by decide +kernel) ?_
      show sh_X g (d + 1) m_Sto_thief _ _ ((sh_i (28 + thief)) :: _) _ _
      obtain ⟨o, k⟩ := k
      refine xr_iald rfl o.1 o.2 (by decide +kernel) ?_
      exact xr_iret rfl (by decide +kernel) k
    · have k := k.2.2.2.2.2.2.1 c2
      refine xr_tabIn (dflt := 193) (low := 0) (high := 8) (offs := #[52, 62, 72, 85, 113, 141, 154, 167, 180]) (len := 52) 6 c2 (by decide) (by decide) rfl (tgt := 166) (by decide) (by decide +kernel) ?_
      refine xr_aload_n (n := 0) (i := 0) rfl (List.mem_of_getElem? (i := 0) rfl) (by decide +kernel) ?_
      refine xr_getR (o := 4) rfl fl_Sto_28 rfl (by decide +kernel) ?_
      show sh_X g (d + 1) m_Sto_thief _ _ ((sh_r 5) :: _) _ _
      refine xr_getR (o := 1) rfl fl_Sto_132 rfl (by decide +kernel) ?_
      show sh_X g (d + 1) m_Sto_thief _ _ ((sh_r 6) :: _) _ _
      refine xr_bipush (n := 32) (v := 32) (by decide) (by decide +kernel) ?_
      refine xr_iload_n (n := 1) (i := 1) rfl (List.mem_of_getElem? (i := 1) rfl) (by decide +kernel) ?_
      refine xr_iadd (by decide +kernel) ?_
      show sh_X g (d + 1) m_Sto_thief _ _ ((sh_i (32 + thief)) :: _) _ _
      obtain ⟨o, k⟩ := k
      refine xr_iald rfl o.1 o.2 (by decide +kernel) ?_
      exact xr_iret rfl (by decide +kernel) k
    · have k := k.2.2.2.2.2.2.2.1 c2
      refine xr_tabIn (dflt := 193) (low := 0) (high := 8) (offs := #[52, 62, 72, 85, 113, 141, 154, 167, 180]) (len := 52) 7 c2 (by decide) (by decide) rfl (tgt := 179) (by decide) (by decide +kernel) ?_
      refine xr_aload_n (n := 0) (i := 0) rfl (List.mem_of_getElem? (i := 0) rfl) (by decide +kernel) ?_
      refine xr_getR (o := 4) rfl fl_Sto_28 rfl (by decide +kernel) ?_
      show sh_X g (d + 1) m_Sto_thief _ _ ((sh_r 5) :: _) _ _
      refine xr_getR (o := 1) rfl fl_Sto_132 rfl (by decide +kernel) ?_
      show sh_X g (d + 1) m_Sto_thief _ _ ((sh_r 6) :: _) _ _
      refine xr_bipush (n := 36) (v := 36) (by decide) (by decide +kernel) ?_
      refine xr_iload_n (n := 1) (i := 1) rfl (List.mem_of_getElem? (i := 1) rfl) (by decide +kernel) ?_
      refine xr_iadd (by decide +kernel) ?_
      show sh_X g (d + 1) m_Sto_thief _ _ ((sh_i (36 + thief)) :: _) _ _
      obtain ⟨o, k⟩ := k
      refine xr_iald rfl o.1 o.2 (by decide +kernel) ?_
      exact xr_iret rfl (by decide +kernel) k
    · have k := k.2.2.2.2.2.2.2.2.1 c2
      refine xr_tabIn (dflt := 193) (low := 0) (high := 8) (offs := #[52, 62, 72, 85, 113, 141, 154, 167, 180]) (len := 52) 8 c2 (by decide) (by decide) rfl (tgt := 192) (by decide) (by decide +kernel) ?_
      refine xr_aload_n (n := 0) (i := 0) rfl (List.mem_of_getElem? (i := 0) rfl) (by decide +kernel) ?_
      refine xr_getR (o := 4) rfl fl_Sto_28 rfl (by decide +kernel) ?_
      show sh_X g (d + 1) m_Sto_thief _ _ ((sh_r 5) :: _) _ _
      refine xr_getR (o := 1) rfl fl_Sto_132 rfl (by decide +kernel) ?_
      show sh_X g (d + 1) m_Sto_thief _ _ ((sh_r 6) :: _) _ _
      refine xr_bipush (n := 40) (v := 40) (by decide) (by decide +kernel) ?_
      refine xr_iload_n (n := 1) (i := 1) rfl (List.mem_of_getElem? (i := 1) rfl) (by decide +kernel) ?_
      refine xr_iadd (by decide +kernel) ?_
      show sh_X g (d + 1) m_Sto_thief _ _ ((sh_i (40 + thief)) :: _) _ _
      obtain ⟨o, k⟩ := k
      refine xr_iald rfl o.1 o.2 (by decide +kernel) ?_
      exact xr_iret rfl (by decide +kernel) k
    · have k := k.2.2.2.2.2.2.2.2.2 c2
      refine xr_tabOut (dflt := 193) (low := 0) (high := 8) (offs := #[52, 62, 72, 85, 113, 141, 154, 167, 180]) (len := 52) c2 (tgt := 205) (by decide) (by decide +kernel) ?_
      refine xr_bipush (n := (-2)) (v := (-2)) (by decide) (by decide +kernel) ?_
      exact xr_iret rfl (by decide +kernel) k
  · have k := k.2 c1
    refine xr_bipush (n := (-2)) (v := (-2)) (by decide) (by decide +kernel) ?_
    exact xr_iret rfl (by decide +kernel) k

theorem v_Sto_steal {g : sh_G} {d : Nat} {thief : Int} {day : Int} {B : Nat} (hB : ob0 B) {mem : sh_Mem} {Q : Option sh_V → sh_Mem → Prop}  (k : (sh_Cal g d m_Sto_isThief [(sh_r 1), (sh_i thief)] mem fun rv m1 => ∃ r1 : Int, rv = some (sh_i r1) ∧ (((i3 r1) = 0 → Q (some (sh_i (-1))) m1) ∧ (¬ (i3 r1) = 0 → (sh_Cal g d m_Sto_isDay [(sh_r 1), (sh_i day)] m1 fun rv m2 => ∃ r2 : Int, rv = some (sh_i r2) ∧ (((i3 r2) = 0 → Q (some (sh_i (-1))) m2) ∧ (¬ (i3 r2) = 0 → (sh_Cal g d m_State_canTake [(sh_r 5), (sh_i thief), (sh_i day)] m2 fun rv m3 => ∃ r3 : Int, rv = some (sh_i r3) ∧ ((¬ (i3 r3) = 0 → (sh_Cal g d m_Past_keep [(sh_r 9), (sh_r 5)] m3 fun rv m4 => rv = none ∧ (m4 1 9 = (B : Int) ∧ (sh_Cal g d m_State_take [(sh_r 5), (sh_r B), (sh_i thief), (sh_i day)] m4 fun rv m5 => ∃ r4 : Int, rv = some (sh_i r4) ∧ Q (some (sh_i r4)) m5)))) ∧ ((i3 r3) = 0 → Q (some (sh_i (-1))) m3)))))))))) : sh_Cal g (d + 1) m_Sto_steal [(sh_r 1), (sh_i thief), (sh_i day)] mem Q := by
  refine sh_met (by decide +kernel) (Nat.le_of_ble_eq_true rfl) (lo := [(0, (sh_r 1)), (1, (sh_i thief)), (2, (sh_i day))]) rfl ?_
  refine xr_aload_n (n := 0) (i := 0) rfl (List.mem_of_getElem? (i := 0) rfl) (by decide +kernel) ?_
  refine xr_iload_n (n := 1) (i := 1) rfl (List.mem_of_getElem? (i := 1) rfl) (by decide +kernel) ?_
  refine xr_callV (av := [(sh_i thief)]) rfl rfl rfl mo_Sto_isThief ml_Sto_138 im_Sto_isThief se_Sto_isThief rfl (Nat.le_of_ble_eq_true rfl) (by decide +kernel) (sh_mono k ?_)
  rintro rv m1 ⟨r1, rfl, k⟩
  show sh_X g (d + 1) m_Sto_steal _ _ [(sh_i r1)] _ _
  refine xr_if_eq (a' := (i3 r1)) rfl (off := 23) (tgt := 28) (by decide) (by decide +kernel) ⟨fun c1 => ?_, fun c1 => ?_⟩
  · have k := k.1 c1
    refine xr_iconst (n := (-1)) (by decide +kernel) ?_
    exact xr_iret rfl (by decide +kernel) k
  · have k := k.2 c1
    refine xr_aload_n (n := 0) (i := 0) rfl (List.mem_of_getElem? (i := 0) rfl) (by decide +kernel) ?_
    refine xr_iload_n (n := 2) (i := 2) rfl (List.mem_of_getElem? (i := 2) rfl) (by decide +kernel) ?_
    refine xr_callV (av := [(sh_i day)]) rfl rfl rfl mo_Sto_isDay ml_Sto_121 im_Sto_isDay se_Sto_isDay rfl (Nat.le_of_ble_eq_true rfl) (by decide +kernel) (sh_mono k ?_)
    rintro rv m2 ⟨r2, rfl, k⟩
    show sh_X g (d + 1) m_Sto_steal _ _ [(sh_i r2)] _ _
    refine xr_if_eq (a' := (i3 r2)) rfl (off := 15) (tgt := 28) (by decide) (by decide +kernel) ⟨fun c2 => ?_, fun c2 => ?_⟩
    · have k := k.1 c2
      refine xr_iconst (n := (-1)) (by decide +kernel) ?_
      exact xr_iret rfl (by decide +kernel) k
    · have k := k.2 c2
      refine xr_aload_n (n := 0) (i := 0) rfl (List.mem_of_getElem? (i := 0) rfl) (by decide +kernel) ?_
      refine xr_getR (o := 4) rfl fl_Sto_28 rfl (by decide +kernel) ?_
      show sh_X g (d + 1) m_Sto_steal _ _ ((sh_r 5) :: _) _ _
      refine xr_iload_n (n := 1) (i := 1) rfl (List.mem_of_getElem? (i := 1) rfl) (by decide +kernel) ?_
      refine xr_iload_n (n := 2) (i := 2) rfl (List.mem_of_getElem? (i := 2) rfl) (by decide +kernel) ?_
      refine xr_callV (av := [(sh_i thief), (sh_i day)]) rfl rfl rfl mo_State_canTake ml_Sto_150 im_State_canTake se_State_canTake rfl (Nat.le_of_ble_eq_true rfl) (by decide +kernel) (sh_mono k ?_)
      rintro rv m3 ⟨r3, rfl, k⟩
      show sh_X g (d + 1) m_Sto_steal _ _ [(sh_i r3)] _ _
      refine xr_if_ne (a' := (i3 r3)) rfl (off := 5) (tgt := 30) (by decide) (by decide +kernel) ⟨fun c3 => ?_, fun c3 => ?_⟩
      · have k := k.1 c3
        refine xr_aload_n (n := 0) (i := 0) rfl (List.mem_of_getElem? (i := 0) rfl) (by decide +kernel) ?_
        refine xr_getR (o := 8) rfl fl_Sto_38 rfl (by decide +kernel) ?_
        show sh_X g (d + 1) m_Sto_steal _ _ ((sh_r 9) :: _) _ _
        refine xr_aload_n (n := 0) (i := 0) rfl (List.mem_of_getElem? (i := 0) rfl) (by decide +kernel) ?_
        refine xr_getR (o := 4) rfl fl_Sto_28 rfl (by decide +kernel) ?_
        show sh_X g (d + 1) m_Sto_steal _ _ ((sh_r 5) :: _) _ _
        refine xr_callV (av := [(sh_r 5)]) rfl rfl rfl mo_Past_keep ml_Sto_154 im_Past_keep se_Past_keep rfl (Nat.le_of_ble_eq_true rfl) (by decide +kernel) (sh_mono k ?_)
        rintro rv m4 ⟨rfl, k⟩
        show sh_X g (d + 1) m_Sto_steal _ _ [] _ _
        refine xr_aload_n (n := 0) (i := 0) rfl (List.mem_of_getElem? (i := 0) rfl) (by decide +kernel) ?_
        refine xr_getR (o := 4) rfl fl_Sto_28 rfl (by decide +kernel) ?_
        show sh_X g (d + 1) m_Sto_steal _ _ ((sh_r 5) :: _) _ _
        refine xr_aload_n (n := 0) (i := 0) rfl (List.mem_of_getElem? (i := 0) rfl) (by decide +kernel) ?_
        obtain ⟨o, k⟩ := k
        refine xr_getD (b := B) rfl fl_Sto_72 rfl o (by decide +kernel) ?_
        refine xr_iload_n (n := 1) (i := 1) rfl (List.mem_of_getElem? (i := 1) rfl) (by decide +kernel) ?_
        refine xr_iload_n (n := 2) (i := 2) rfl (List.mem_of_getElem? (i := 2) rfl) (by decide +kernel) ?_
        refine xr_callV (av := [(sh_r B), (sh_i thief), (sh_i day)]) rfl rfl rfl mo_State_take ml_Sto_158 im_State_take se_State_take rfl (Nat.le_of_ble_eq_true rfl) (by decide +kernel) (sh_mono k ?_)
        rintro rv m5 ⟨r4, rfl, k⟩
        show sh_X g (d + 1) m_Sto_steal _ _ [(sh_i r4)] _ _
        exact xr_iret rfl (by decide +kernel) k
      · have k := k.2 c3
        refine xr_iconst (n := (-1)) (by decide +kernel) ?_
        exact xr_iret rfl (by decide +kernel) k

theorem v_Sto_sell {g : sh_G} {d : Nat} {thief : Int} {B : Nat} (hB : ob0 B) {mem : sh_Mem} {Q : Option sh_V → sh_Mem → Prop}  (k : (sh_Cal g d m_Sto_isThief [(sh_r 1), (sh_i thief)] mem fun rv m1 => ∃ r1 : Int, rv = some (sh_i r1) ∧ (((i3 r1) = 0 → Q (some (sh_i (-1))) m1) ∧ (¬ (i3 r1) = 0 → (sh_Cal g d m_State_canPart [(sh_r 5), (sh_i thief)] m1 fun rv m2 => ∃ r2 : Int, rv = some (sh_i r2) ∧ ((¬ (i3 r2) = 0 → (sh_Cal g d m_Past_keep [(sh_r 9), (sh_r 5)] m2 fun rv m3 => rv = none ∧ (m3 1 9 = (B : Int) ∧ (sh_Cal g d m_State_cashIn [(sh_r 5), (sh_r B), (sh_i thief)] m3 fun rv m4 => ∃ r3 : Int, rv = some (sh_i r3) ∧ Q (some (sh_i r3)) m4)))) ∧ ((i3 r2) = 0 → Q (some (sh_i (-1))) m2))))))) : sh_Cal g (d + 1) m_Sto_sell [(sh_r 1), (sh_i thief)] mem Q := by
  refine sh_met (by decide +kernel) (Nat.le_of_ble_eq_true rfl) (lo := [(0, (sh_r 1)), (1, (sh_i thief))]) rfl ?_
  refine xr_aload_n (n := 0) (i := 0) rfl (List.mem_of_getElem? (i := 0) rfl) (by decide +kernel) ?_
  refine xr_iload_n (n := 1) (i := 1) rfl (List.mem_of_getElem? (i := 1) rfl) (by decide +kernel) ?_
  refine xr_callV (av := [(sh_i thief)]) rfl rfl rfl mo_Sto_isThief ml_Sto_138 im_Sto_isThief se_Sto_isThief rfl (Nat.le_of_ble_eq_true rfl) (by decide +kernel) (sh_mono k ?_)
  rintro rv m1 ⟨r1, rfl, k⟩
  show sh_X g (d + 1) m_Sto_sell _ _ [(sh_i r1)] _ _
  refine xr_if_eq (a' := (i3 r1)) rfl (off := 14) (tgt := 19) (by decide) (by decide +kernel) ⟨fun c1 => ?_, fun c1 => ?_⟩
  · have k := k.1 c1
    refine xr_iconst (n := (-1)) (by decide +kernel) ?_
    exact xr_iret rfl (by decide +kernel) k
  · have k := k.2 c1
    refine xr_aload_n (n := 0) (i := 0) rfl (List.mem_of_getElem? (i := 0) rfl) (by decide +kernel) ?_
    refine xr_getR (o := 4) rfl fl_Sto_28 rfl (by decide +kernel) ?_
    show sh_X g (d + 1) m_Sto_sell _ _ ((sh_r 5) :: _) _ _
    refine xr_iload_n (n := 1) (i := 1) rfl (List.mem_of_getElem? (i := 1) rfl) (by decide +kernel) ?_
    refine xr_callV (av := [(sh_i thief)]) rfl rfl rfl mo_State_canPart ml_Sto_162 im_State_canPart se_State_canPart rfl (Nat.le_of_ble_eq_true rfl) (by decide +kernel) (sh_mono k ?_)
    rintro rv m2 ⟨r2, rfl, k⟩
    show sh_X g (d + 1) m_Sto_sell _ _ [(sh_i r2)] _ _
    refine xr_if_ne (a' := (i3 r2)) rfl (off := 5) (tgt := 21) (by decide) (by decide +kernel) ⟨fun c2 => ?_, fun c2 => ?_⟩
    · have k := k.1 c2
      refine xr_aload_n (n := 0) (i := 0) rfl (List.mem_of_getElem? (i := 0) rfl) (by decide +kernel) ?_
      refine xr_getR (o := 8) rfl fl_Sto_38 rfl (by decide +kernel) ?_
      show sh_X g (d + 1) m_Sto_sell _ _ ((sh_r 9) :: _) _ _
      refine xr_aload_n (n := 0) (i := 0) rfl (List.mem_of_getElem? (i := 0) rfl) (by decide +kernel) ?_
      refine xr_getR (o := 4) rfl fl_Sto_28 rfl (by decide +kernel) ?_
      show sh_X g (d + 1) m_Sto_sell _ _ ((sh_r 5) :: _) _ _
      refine xr_callV (av := [(sh_r 5)]) rfl rfl rfl mo_Past_keep ml_Sto_154 im_Past_keep se_Past_keep rfl (Nat.le_of_ble_eq_true rfl) (by decide +kernel) (sh_mono k ?_)
      rintro rv m3 ⟨rfl, k⟩
      show sh_X g (d + 1) m_Sto_sell _ _ [] _ _
      refine xr_aload_n (n := 0) (i := 0) rfl (List.mem_of_getElem? (i := 0) rfl) (by decide +kernel) ?_
      refine xr_getR (o := 4) rfl fl_Sto_28 rfl (by decide +kernel) ?_
      show sh_X g (d + 1) m_Sto_sell _ _ ((sh_r 5) :: _) _ _
      refine xr_aload_n (n := 0) (i := 0) rfl (List.mem_of_getElem? (i := 0) rfl) (by decide +kernel) ?_
      obtain ⟨o, k⟩ := k
      refine xr_getD (b := B) rfl fl_Sto_72 rfl o (by decide +kernel) ?_
      refine xr_iload_n (n := 1) (i := 1) rfl (List.mem_of_getElem? (i := 1) rfl) (by decide +kernel) ?_
      refine xr_callV (av := [(sh_r B), (sh_i thief)]) rfl rfl rfl mo_State_cashIn ml_Sto_165 im_State_cashIn se_State_cashIn rfl (Nat.le_of_ble_eq_true rfl) (by decide +kernel) (sh_mono k ?_)
      rintro rv m4 ⟨r3, rfl, k⟩
      show sh_X g (d + 1) m_Sto_sell _ _ [(sh_i r3)] _ _
      exact xr_iret rfl (by decide +kernel) k
    · have k := k.2 c2
      refine xr_iconst (n := (-1)) (by decide +kernel) ?_
      exact xr_iret rfl (by decide +kernel) k

theorem v_Sto_spend {g : sh_G} {d : Nat} {thief : Int}  {mem : sh_Mem} {Q : Option sh_V → sh_Mem → Prop}  (k : (sh_Cal g d m_Sto_isThief [(sh_r 1), (sh_i thief)] mem fun rv m1 => ∃ r1 : Int, rv = some (sh_i r1) ∧ (((i3 r1) = 0 → Q (some (sh_i (-1))) m1) ∧ (¬ (i3 r1) = 0 → (sh_Cal g d m_State_canPart [(sh_r 5), (sh_i thief)] m1 fun rv m2 => ∃ r2 : Int, rv = some (sh_i r2) ∧ ((¬ (i3 r2) = 0 → (sh_Cal g d m_Past_keep [(sh_r 9), (sh_r 5)] m2 fun rv m3 => rv = none ∧ (sh_Cal g d m_State_enjoy [(sh_r 5), (sh_i thief)] m3 fun rv m4 => ∃ r3 : Int, rv = some (sh_i r3) ∧ Q (some (sh_i r3)) m4))) ∧ ((i3 r2) = 0 → Q (some (sh_i (-1))) m2))))))) : sh_Cal g (d + 1) m_Sto_spend [(sh_r 1), (sh_i thief)] mem Q := by
  refine sh_met (by decide +kernel) (Nat.le_of_ble_eq_true rfl) (lo := [(0, (sh_r 1)), (1, (sh_i thief))]) rfl ?_
  refine xr_aload_n (n := 0) (i := 0) rfl (List.mem_of_getElem? (i := 0) rfl) (by decide +kernel) ?_
  refine xr_iload_n (n := 1) (i := 1) rfl (List.mem_of_getElem? (i := 1) rfl) (by decide +kernel) ?_
  refine xr_callV (av := [(sh_i thief)]) rfl rfl rfl mo_Sto_isThief ml_Sto_138 im_Sto_isThief se_Sto_isThief rfl (Nat.le_of_ble_eq_true rfl) (by decide +kernel) (sh_mono k ?_)
  rintro rv m1 ⟨r1, rfl, k⟩
  show sh_X g (d + 1) m_Sto_spend _ _ [(sh_i r1)] _ _
  refine xr_if_eq (a' := (i3 r1)) rfl (off := 14) (tgt := 19) (by decide) (by decide +kernel) ⟨fun c1 => ?_, fun c1 => ?_⟩
  · have k := k.1 c1
    refine xr_iconst (n := (-1)) (by decide +kernel) ?_
    exact xr_iret rfl (by decide +kernel) k
  · have k := k.2 c1
    refine xr_aload_n (n := 0) (i := 0) rfl (List.mem_of_getElem? (i := 0) rfl) (by decide +kernel) ?_
    refine xr_getR (o := 4) rfl fl_Sto_28 rfl (by decide +kernel) ?_
    show sh_X g (d + 1) m_Sto_spend _ _ ((sh_r 5) :: _) _ _
    refine xr_iload_n (n := 1) (i := 1) rfl (List.mem_of_getElem? (i := 1) rfl) (by decide +kernel) ?_
    refine xr_callV (av := [(sh_i thief)]) rfl rfl rfl mo_State_canPart ml_Sto_162 im_State_canPart se_State_canPart rfl (Nat.le_of_ble_eq_true rfl) (by decide +kernel) (sh_mono k ?_)
    rintro rv m2 ⟨r2, rfl, k⟩
    show sh_X g (d + 1) m_Sto_spend _ _ [(sh_i r2)] _ _
    refine xr_if_ne (a' := (i3 r2)) rfl (off := 5) (tgt := 21) (by decide) (by decide +kernel) ⟨fun c2 => ?_, fun c2 => ?_⟩
    · have k := k.1 c2
      refine xr_aload_n (n := 0) (i := 0) rfl (List.mem_of_getElem? (i := 0) rfl) (by decide +kernel) ?_
      refine xr_getR (o := 8) rfl fl_Sto_38 rfl (by decide +kernel) ?_
      show sh_X g (d + 1) m_Sto_spend _ _ ((sh_r 9) :: _) _ _
      refine xr_aload_n (n := 0) (i := 0) rfl (List.mem_of_getElem? (i := 0) rfl) (by decide +kernel) ?_
      refine xr_getR (o := 4) rfl fl_Sto_28 rfl (by decide +kernel) ?_
      show sh_X g (d + 1) m_Sto_spend _ _ ((sh_r 5) :: _) _ _
      refine xr_callV (av := [(sh_r 5)]) rfl rfl rfl mo_Past_keep ml_Sto_154 im_Past_keep se_Past_keep rfl (Nat.le_of_ble_eq_true rfl) (by decide +kernel) (sh_mono k ?_)
      rintro rv m3 ⟨rfl, k⟩
      show sh_X g (d + 1) m_Sto_spend _ _ [] _ _
      refine xr_aload_n (n := 0) (i := 0) rfl (List.mem_of_getElem? (i := 0) rfl) (by decide +kernel) ?_
      refine xr_getR (o := 4) rfl fl_Sto_28 rfl (by decide +kernel) ?_
      show sh_X g (d + 1) m_Sto_spend _ _ ((sh_r 5) :: _) _ _
      refine xr_iload_n (n := 1) (i := 1) rfl (List.mem_of_getElem? (i := 1) rfl) (by decide +kernel) ?_
      refine xr_callV (av := [(sh_i thief)]) rfl rfl rfl mo_State_enjoy ml_Sto_169 im_State_enjoy se_State_enjoy rfl (Nat.le_of_ble_eq_true rfl) (by decide +kernel) (sh_mono k ?_)
      rintro rv m4 ⟨r3, rfl, k⟩
      show sh_X g (d + 1) m_Sto_spend _ _ [(sh_i r3)] _ _
      exact xr_iret rfl (by decide +kernel) k
    · have k := k.2 c2
      refine xr_iconst (n := (-1)) (by decide +kernel) ?_
      exact xr_iret rfl (by decide +kernel) k

theorem v_Sto_swap {g : sh_G} {d : Nat} {thief : Int} {other : Int}  {mem : sh_Mem} {Q : Option sh_V → sh_Mem → Prop}  (k : (sh_Cal g d m_Sto_isThief [(sh_r 1), (sh_i thief)] mem fun rv m1 => ∃ r1 : Int, rv = some (sh_i r1) ∧ (((i3 r1) = 0 → Q (some (sh_i 0)) m1) ∧ (¬ (i3 r1) = 0 → (sh_Cal g d m_Sto_isThief [(sh_r 1), (sh_i other)] m1 fun rv m2 => ∃ r2 : Int, rv = some (sh_i r2) ∧ (((i3 r2) = 0 → Q (some (sh_i 0)) m2) ∧ (¬ (i3 r2) = 0 → (sh_Cal g d m_State_canTrade [(sh_r 5), (sh_i thief), (sh_i other)] m2 fun rv m3 => ∃ r3 : Int, rv = some (sh_i r3) ∧ ((¬ (i3 r3) = 0 → (sh_Cal g d m_Past_keep [(sh_r 9), (sh_r 5)] m3 fun rv m4 => rv = none ∧ (sh_Cal g d m_State_trade [(sh_r 5), (sh_i thief), (sh_i other)] m4 fun rv m5 => rv = none ∧ Q (some (sh_i 1)) m5))) ∧ ((i3 r3) = 0 → Q (some (sh_i 0)) m3)))))))))) : sh_Cal g (d + 1) m_Sto_swap [(sh_r 1), (sh_i thief), (sh_i other)] mem Q := by
  refine sh_met (by decide +kernel) (Nat.le_of_ble_eq_true rfl) (lo := [(0, (sh_r 1)), (1, (sh_i thief)), (2, (sh_i other))]) rfl ?_
  refine xr_aload_n (n := 0) (i := 0) rfl (List.mem_of_getElem? (i := 0) rfl) (by decide +kernel) ?_
  refine xr_iload_n (n := 1) (i := 1) rfl (List.mem_of_getElem? (i := 1) rfl) (by decide +kernel) ?_
  refine xr_callV (av := [(sh_i thief)]) rfl rfl rfl mo_Sto_isThief ml_Sto_138 im_Sto_isThief se_Sto_isThief rfl (Nat.le_of_ble_eq_true rfl) (by decide +kernel) (sh_mono k ?_)
  rintro rv m1 ⟨r1, rfl, k⟩
  show sh_X g (d + 1) m_Sto_swap _ _ [(sh_i r1)] _ _
  refine xr_if_eq (a' := (i3 r1)) rfl (off := 23) (tgt := 28) (by decide) (by decide +kernel) ⟨fun c1 => ?_, fun c1 => ?_⟩
  · have k := k.1 c1
    refine xr_iconst (n := 0) (by decide +kernel) ?_
    exact xr_zret rfl (by decide +kernel) (by decide) k
  · have k := k.2 c1
    refine xr_aload_n (n := 0) (i := 0) rfl (List.mem_of_getElem? (i := 0) rfl) (by decide +kernel) ?_
    refine xr_iload_n (n := 2) (i := 2) rfl (List.mem_of_getElem? (i := 2) rfl) (by decide +kernel) ?_
    refine xr_callV (av := [(sh_i other)]) rfl rfl rfl mo_Sto_isThief ml_Sto_138 im_Sto_isThief se_Sto_isThief rfl (Nat.le_of_ble_eq_true rfl) (by decide +kernel) (sh_mono k ?_)
    rintro rv m2 ⟨r2, rfl, k⟩
    show sh_X g (d + 1) m_Sto_swap _ _ [(sh_i r2)] _ _
    refine xr_if_eq (a' := (i3 r2)) rfl (off := 15) (tgt := 28) (by decide) (by decide +kernel) ⟨fun c2 => ?_, fun c2 => ?_⟩
    · have k := k.1 c2
      refine xr_iconst (n := 0) (by decide +kernel) ?_
      exact xr_zret rfl (by decide +kernel) (by decide) k
    · have k := k.2 c2
      refine xr_aload_n (n := 0) (i := 0) rfl (List.mem_of_getElem? (i := 0) rfl) (by decide +kernel) ?_
      refine xr_getR (o := 4) rfl fl_Sto_28 rfl (by decide +kernel) ?_
      show sh_X g (d + 1) m_Sto_swap _ _ ((sh_r 5) :: _) _ _
      refine xr_iload_n (n := 1) (i := 1) rfl (List.mem_of_getElem? (i := 1) rfl) (by decide +kernel) ?_
      refine xr_iload_n (n := 2) (i := 2) rfl (List.mem_of_getElem? (i := 2) rfl) (by decide +kernel) ?_
      refine xr_callV (av := [(sh_i thief), (sh_i other)]) rfl rfl rfl mo_State_canTrade ml_Sto_173 im_State_canTrade se_State_canTrade rfl (Nat.le_of_ble_eq_true rfl) (by decide +kernel) (sh_mono k ?_)
      rintro rv m3 ⟨r3, rfl, k⟩
      show sh_X g (d + 1) m_Sto_swap _ _ [(sh_i r3)] _ _
      refine xr_if_ne (a' := (i3 r3)) rfl (off := 5) (tgt := 30) (by decide) (by decide +kernel) ⟨fun c3 => ?_, fun c3 => ?_⟩
      · have k := k.1 c3
        refine xr_aload_n (n := 0) (i := 0) rfl (List.mem_of_getElem? (i := 0) rfl) (by decide +kernel) ?_
        refine xr_getR (o := 8) rfl fl_Sto_38 rfl (by decide +kernel) ?_
        show sh_X g (d + 1) m_Sto_swap _ _ ((sh_r 9) :: _) _ _
        refine xr_aload_n (n := 0) (i := 0) rfl (List.mem_of_getElem? (i := 0) rfl) (by decide +kernel) ?_
        refine xr_getR (o := 4) rfl fl_Sto_28 rfl (by decide +kernel) ?_
        show sh_X g (d + 1) m_Sto_swap _ _ ((sh_r 5) :: _) _ _
        refine xr_callV (av := [(sh_r 5)]) rfl rfl rfl mo_Past_keep ml_Sto_154 im_Past_keep se_Past_keep rfl (Nat.le_of_ble_eq_true rfl) (by decide +kernel) (sh_mono k ?_)
        rintro rv m4 ⟨rfl, k⟩
        show sh_X g (d + 1) m_Sto_swap _ _ [] _ _
        refine xr_aload_n (n := 0) (i := 0) rfl (List.mem_of_getElem? (i := 0) rfl) (by decide +kernel) ?_
        refine xr_getR (o := 4) rfl fl_Sto_28 rfl (by decide +kernel) ?_
        show sh_X g (d + 1) m_Sto_swap _ _ ((sh_r 5) :: _) _ _
        refine xr_iload_n (n := 1) (i := 1) rfl (List.mem_of_getElem? (i := 1) rfl) (by decide +kernel) ?_
        refine xr_iload_n (n := 2) (i := 2) rfl (List.mem_of_getElem? (i := 2) rfl) (by decide +kernel) ?_
        refine xr_callV (av := [(sh_i thief), (sh_i other)]) rfl rfl rfl mo_State_trade ml_Sto_176 im_State_trade se_State_trade rfl (Nat.le_of_ble_eq_true rfl) (by decide +kernel) (sh_mono k ?_)
        rintro rv m5 ⟨rfl, k⟩
        show sh_X g (d + 1) m_Sto_swap _ _ [] _ _
        refine xr_iconst (n := 1) (by decide +kernel) ?_
        exact xr_zret rfl (by decide +kernel) (by decide) k
      · have k := k.2 c3
        refine xr_iconst (n := 0) (by decide +kernel) ?_
        exact xr_zret rfl (by decide +kernel) (by decide) k

theorem v_Sto_night {g : sh_G} {d : Nat}  {B : Nat} (hB : ob0 B) {mem : sh_Mem} {Q : Option sh_V → sh_Mem → Prop}  (k : (sh_Cal g d m_Past_keep [(sh_r 9), (sh_r 5)] mem fun rv m1 => rv = none ∧ (m1 1 9 = (B : Int) ∧ (sh_Cal g d m_State_sleep [(sh_r 5), (sh_r B)] m1 fun rv m2 => rv = none ∧ (sh_Cal g d m_State_holders [(sh_r 5)] m2 fun rv m3 => ∃ r1 : Int, rv = some (sh_i r1) ∧ Q (some (sh_i r1)) m3))))) : sh_Cal g (d + 1) m_Sto_night [(sh_r 1)] mem Q := by
  refine sh_met (by decide +kernel) (Nat.le_of_ble_eq_true rfl) (lo := [(0, (sh_r 1))]) rfl ?_
  refine xr_aload_n (n := 0) (i := 0) rfl (List.mem_of_getElem? (i := 0) rfl) (by decide +kernel) ?_
  refine xr_getR (o := 8) rfl fl_Sto_38 rfl (by decide +kernel) ?_
  show sh_X g (d + 1) m_Sto_night _ _ ((sh_r 9) :: _) _ _
  refine xr_aload_n (n := 0) (i := 0) rfl (List.mem_of_getElem? (i := 0) rfl) (by decide +kernel) ?_
  refine xr_getR (o := 4) rfl fl_Sto_28 rfl (by decide +kernel) ?_
  show sh_X g (d + 1) m_Sto_night _ _ ((sh_r 5) :: _) _ _
  refine xr_callV (av := [(sh_r 5)]) rfl rfl rfl mo_Past_keep ml_Sto_154 im_Past_keep se_Past_keep rfl (Nat.le_of_ble_eq_true rfl) (by decide +kernel) (sh_mono k ?_)
  rintro rv m1 ⟨rfl, k⟩
  show sh_X g (d + 1) m_Sto_night _ _ [] _ _
  refine xr_aload_n (n := 0) (i := 0) rfl (List.mem_of_getElem? (i := 0) rfl) (by decide +kernel) ?_
  refine xr_getR (o := 4) rfl fl_Sto_28 rfl (by decide +kernel) ?_
  show sh_X g (d + 1) m_Sto_night _ _ ((sh_r 5) :: _) _ _
  refine xr_aload_n (n := 0) (i := 0) rfl (List.mem_of_getElem? (i := 0) rfl) (by decide +kernel) ?_
  obtain ⟨o, k⟩ := k
  refine xr_getD (b := B) rfl fl_Sto_72 rfl o (by decide +kernel) ?_
  refine xr_callV (av := [(sh_r B)]) rfl rfl rfl mo_State_sleep ml_Sto_180 im_State_sleep se_State_sleep rfl (Nat.le_of_ble_eq_true rfl) (by decide +kernel) (sh_mono k ?_)
  rintro rv m2 ⟨rfl, k⟩
  show sh_X g (d + 1) m_Sto_night _ _ [] _ _
  refine xr_aload_n (n := 0) (i := 0) rfl (List.mem_of_getElem? (i := 0) rfl) (by decide +kernel) ?_
  refine xr_getR (o := 4) rfl fl_Sto_28 rfl (by decide +kernel) ?_
  show sh_X g (d + 1) m_Sto_night _ _ ((sh_r 5) :: _) _ _
  refine xr_callV (av := []) rfl rfl rfl mo_State_holders ml_Sto_183 im_State_holders se_State_holders rfl (Nat.le_of_ble_eq_true rfl) (by decide +kernel) (sh_mono k ?_)
  rintro rv m3 ⟨r1, rfl, k⟩
  show sh_X g (d + 1) m_Sto_night _ _ [(sh_i r1)] _ _
  exact xr_iret rfl (by decide +kernel) k

theorem v_Sto_undo {g : sh_G} {d : Nat}   {mem : sh_Mem} {Q : Option sh_V → sh_Mem → Prop}  (k : (sh_Cal g d m_Past_bringBack [(sh_r 9), (sh_r 5)] mem fun rv m1 => ∃ r1 : Int, rv = some (sh_i r1) ∧ ((r1 = 0 ∨ r1 = 1) ∧ Q (some (sh_i r1)) m1))) : sh_Cal g (d + 1) m_Sto_undo [(sh_r 1)] mem Q := by
  refine sh_met (by decide +kernel) (Nat.le_of_ble_eq_true rfl) (lo := [(0, (sh_r 1))]) rfl ?_
  refine xr_aload_n (n := 0) (i := 0) rfl (List.mem_of_getElem? (i := 0) rfl) (by decide +kernel) ?_
  refine xr_getR (o := 8) rfl fl_Sto_38 rfl (by decide +kernel) ?_
  show sh_X g (d + 1) m_Sto_undo _ _ ((sh_r 9) :: _) _ _
  refine xr_aload_n (n := 0) (i := 0) rfl (List.mem_of_getElem? (i := 0) rfl) (by decide +kernel) ?_
  refine xr_getR (o := 4) rfl fl_Sto_28 rfl (by decide +kernel) ?_
  show sh_X g (d + 1) m_Sto_undo _ _ ((sh_r 5) :: _) _ _
  refine xr_callV (av := [(sh_r 5)]) rfl rfl rfl mo_Past_bringBack ml_Sto_187 im_Past_bringBack se_Past_bringBack rfl (Nat.le_of_ble_eq_true rfl) (by decide +kernel) (sh_mono k ?_)
  rintro rv m1 ⟨r1, rfl, k⟩
  show sh_X g (d + 1) m_Sto_undo _ _ [(sh_i r1)] _ _
  exact xr_zret rfl (by decide +kernel) k.1 k.2

theorem v_Sto_judged {g : sh_G} {d : Nat} {what : Int} {B : Nat} (hB : ob0 B) {Y : Nat} (hY : ob10 Y) {mem : sh_Mem} {Q : Option sh_V → sh_Mem → Prop}  (k : (((i3 what) < 0 → Q (some (sh_i (-2))) mem) ∧ (¬ (i3 what) < 0 → (((i3 what) ≤ 2 → (mem 1 9 = (B : Int) ∧ (sh_Cal g d m_State_begin [(sh_r 7), (sh_r B)] mem fun rv m1 => rv = none ∧ sh_X g (d + 1) m_Sto_judged 30 [(0, (sh_r 1)), (1, (sh_i what)), (2, (sh_i (-1))), (3, (sh_i (-1))), (4, (sh_i 0))] [] m1 (sh_K m_Sto_judged Q)))) ∧ (¬ (i3 what) ≤ 2 → Q (some (sh_i (-2))) mem))))) : sh_Cal g (d + 1) m_Sto_judged [(sh_r 1), (sh_i what)] mem Q := by
  refine sh_met (by decide +kernel) (Nat.le_of_ble_eq_true rfl) (lo := [(0, (sh_r 1)), (1, (sh_i what))]) rfl ?_
  refine xr_iload_n (n := 1) (i := 1) rfl (List.mem_of_getElem? (i := 1) rfl) (by decide +kernel) ?_
  refine xr_if_lt (a' := (i3 what)) rfl (off := 8) (tgt := 9) (by decide) (by decide +kernel) ⟨fun c1 => ?_, fun c1 => ?_⟩
  · have k := k.1 c1
    refine xr_bipush (n := (-2)) (v := (-2)) (by decide) (by decide +kernel) ?_
    exact xr_iret rfl (by decide +kernel) k
  · have k := k.2 c1
    refine xr_iload_n (n := 1) (i := 1) rfl (List.mem_of_getElem? (i := 1) rfl) (by decide +kernel) ?_
    refine xr_iconst (n := 2) (by decide +kernel) ?_
    refine xr_icmp_le (a' := (i3 what)) (b' := 2) rfl (by decide) (off := 6) (tgt := 12) (by decide) (by decide +kernel) ⟨fun c2 => ?_, fun c2 => ?_⟩
    · have k := k.1 c2
      refine xr_aload_n (n := 0) (i := 0) rfl (List.mem_of_getElem? (i := 0) rfl) (by decide +kernel) ?_
      refine xr_getR (o := 6) rfl fl_Sto_32 rfl (by decide +kernel) ?_
      show sh_X g (d + 1) m_Sto_judged _ _ ((sh_r 7) :: _) _ _
      refine xr_aload_n (n := 0) (i := 0) rfl (List.mem_of_getElem? (i := 0) rfl) (by decide +kernel) ?_
      obtain ⟨o, k⟩ := k
      refine xr_getD (b := B) rfl fl_Sto_72 rfl o (by decide +kernel) ?_
      refine xr_callV (av := [(sh_r B)]) rfl rfl rfl mo_State_begin ml_Sto_102 im_State_begin se_State_begin rfl (Nat.le_of_ble_eq_true rfl) (by decide +kernel) (sh_mono k ?_)
      rintro rv m1 ⟨rfl, k⟩
      show sh_X g (d + 1) m_Sto_judged _ _ [] _ _
      refine xr_iconst (n := (-1)) (by decide +kernel) ?_
      refine xr_istore_n (n := 2) (i := 2) rfl (by decide) rfl (by decide +kernel) ?_
      refine xr_iconst (n := (-1)) (by decide +kernel) ?_
      refine xr_istore_n (n := 3) (i := 3) rfl (by decide) rfl (by decide +kernel) ?_
      refine xr_iconst (n := 0) (by decide +kernel) ?_
      refine xr_istore (i := 4) (by decide) rfl (by decide +kernel) ?_
      refine xr_sub (lo' := [(0, (sh_r 1)), (1, (sh_i what)), (2, (sh_i (-1))), (3, (sh_i (-1))), (4, (sh_i 0))]) [3, 4, 2, 1, 0] rfl ?_
      exact k
    · have k := k.2 c2
      refine xr_bipush (n := (-2)) (v := (-2)) (by decide) (by decide +kernel) ?_
      exact xr_iret rfl (by decide +kernel) k
theorem v_Sto_judged_30 {g : sh_G} {d : Nat} {what : Int} {B : Nat} (hB : ob0 B) {Y : Nat} (hY : ob10 Y) {mem : sh_Mem} {Q : Option sh_V → sh_Mem → Prop}  {x2 : Int} {x3 : Int} {x4 : Nat} (k : (mem 1 11 = (Y : Int) ∧ (((i3 (mem Y 0)) ≤ (i3 (x4 : Int)) → ((¬ (i3 what) = 0 → ((¬ (i3 what) = 1 → (sh_Cal g d m_State_sumOfThieves [(sh_r 7), (sh_i 40)] mem fun rv m1 => ∃ r1 : Int, rv = some (sh_i r1) ∧ Q (some (sh_i r1)) m1)) ∧ ((i3 what) = 1 → Q (some (sh_i x3)) mem))) ∧ ((i3 what) = 0 → Q (some (sh_i x2)) mem))) ∧ (¬ (i3 (mem Y 0)) ≤ (i3 (x4 : Int)) → (mem 1 11 = (Y : Int) ∧ (mem 1 9 = (B : Int) ∧ (sh_Cal g d m_Year_play [(sh_r Y), (sh_i (x4 : Int)), (sh_r 7), (sh_r B)] mem fun rv m2 => ∃ r2 : Int, rv = some (sh_i r2) ∧ ((¬ (i3 r2) = (-1) → sh_X g (d + 1) m_Sto_judged 75 [(0, (sh_r 1)), (1, (sh_i what)), (2, (sh_i x2)), (3, (sh_i x3)), (4, (sh_i (x4 : Int))), (5, (sh_i r2))] [] m2 (sh_K m_Sto_judged Q)) ∧ ((i3 r2) = (-1) → ((¬ (i3 x2) = (-1) → sh_X g (d + 1) m_Sto_judged 75 [(0, (sh_r 1)), (1, (sh_i what)), (2, (sh_i x2)), (3, (sh_i x3)), (4, (sh_i (x4 : Int))), (5, (sh_i r2))] [] m2 (sh_K m_Sto_judged Q)) ∧ ((i3 x2) = (-1) → sh_X g (d + 1) m_Sto_judged 75 [(0, (sh_r 1)), (1, (sh_i what)), (2, (sh_i (x4 : Int))), (3, (sh_i x3)), (4, (sh_i (x4 : Int))), (5, (sh_i r2))] [] m2 (sh_K m_Sto_judged Q)))))))))))) : sh_X g (d + 1) m_Sto_judged 30 [(0, (sh_r 1)), (1, (sh_i what)), (2, (sh_i x2)), (3, (sh_i x3)), (4, (sh_i (x4 : Int)))] [] mem (sh_K m_Sto_judged Q) := by
  refine xr_iload (i := 4) (List.mem_of_getElem? (i := 4) rfl) (by decide +kernel) ?_
  refine xr_aload_n (n := 0) (i := 0) rfl (List.mem_of_getElem? (i := 0) rfl) (by decide +kernel) ?_
  obtain ⟨o, k⟩ := k
  refine xr_getD (b := Y) rfl fl_Sto_82 rfl o (by decide +kernel) ?_
  refine xr_getI (ob10_0 hY) fl_Sto_110 (by decide) (by decide +kernel) ?_
  refine xr_icmp_ge (a' := (i3 (x4 : Int))) (b' := (i3 (mem Y 0))) rfl rfl (off := 69) (tgt := 108) (by decide) (by decide +kernel) ⟨fun c1 => ?_, fun c1 => ?_⟩
  · have k := k.1 c1
    refine xr_iload_n (n := 1) (i := 1) rfl (List.mem_of_getElem? (i := 1) rfl) (by decide +kernel) ?_
    refine xr_if_ne (a' := (i3 what)) rfl (off := 5) (tgt := 114) (by decide) (by decide +kernel) ⟨fun c2 => ?_, fun c2 => ?_⟩
    · have k := k.1 c2
      refine xr_iload_n (n := 1) (i := 1) rfl (List.mem_of_getElem? (i := 1) rfl) (by decide +kernel) ?_
      refine xr_iconst (n := 1) (by decide +kernel) ?_
      refine xr_icmp_ne (a' := (i3 what)) (b' := 1) rfl (by decide) (off := 7) (tgt := 123) (by decide) (by decide +kernel) ⟨fun c3 => ?_, fun c3 => ?_⟩
      · have k := k.1 c3
        refine xr_aload_n (n := 0) (i := 0) rfl (List.mem_of_getElem? (i := 0) rfl) (by decide +kernel) ?_
        refine xr_getR (o := 6) rfl fl_Sto_32 rfl (by decide +kernel) ?_
        show sh_X g (d + 1) m_Sto_judged _ _ ((sh_r 7) :: _) _ _
        refine xr_bipush (n := 40) (v := 40) (by decide) (by decide +kernel) ?_
        refine xr_callV (av := [(sh_i 40)]) rfl rfl rfl mo_State_sumOfThieves ml_Sto_198 im_State_sumOfThieves se_State_sumOfThieves rfl (Nat.le_of_ble_eq_true rfl) (by decide +kernel) (sh_mono k ?_)
        rintro rv m1 ⟨r1, rfl, k⟩
        show sh_X g (d + 1) m_Sto_judged _ _ [(sh_i r1)] _ _
        exact xr_iret rfl (by decide +kernel) k
      · have k := k.2 c3
        refine xr_iload_n (n := 3) (i := 3) rfl (List.mem_of_getElem? (i := 3) rfl) (by decide +kernel) ?_
        refine xr_goto (off := 12) (tgt := 132) (by decide) (by decide +kernel) ?_
        exact xr_iret rfl (by decide +kernel) k
    · have k := k.2 c2
      refine xr_iload_n (n := 2) (i := 2) rfl (List.mem_of_getElem? (i := 2) rfl) (by decide +kernel) ?_
      exact xr_iret rfl (by decide +kernel) k
  · have k := k.2 c1
    refine xr_aload_n (n := 0) (i := 0) rfl (List.mem_of_getElem? (i := 0) rfl) (by decide +kernel) ?_
    obtain ⟨o, k⟩ := k
    refine xr_getD (b := Y) rfl fl_Sto_82 rfl o (by decide +kernel) ?_
    refine xr_iload (i := 4) (List.mem_of_getElem? (i := 4) rfl) (by decide +kernel) ?_
    refine xr_aload_n (n := 0) (i := 0) rfl (List.mem_of_getElem? (i := 0) rfl) (by decide +kernel) ?_
    refine xr_getR (o := 6) rfl fl_Sto_32 rfl (by decide +kernel) ?_
    show sh_X g (d + 1) m_Sto_judged _ _ ((sh_r 7) :: _) _ _
    refine xr_aload_n (n := 0) (i := 0) rfl (List.mem_of_getElem? (i := 0) rfl) (by decide +kernel) ?_
    obtain ⟨o, k⟩ := k
    refine xr_getD (b := B) rfl fl_Sto_72 rfl o (by decide +kernel) ?_
    refine xr_callV (av := [(sh_i (x4 : Int)), (sh_r 7), (sh_r B)]) (ob10_0 hY) rfl rfl mo_Year_play ml_Sto_191 im_Year_play se_Year_play rfl (Nat.le_of_ble_eq_true rfl) (by decide +kernel) (sh_mono k ?_)
    rintro rv m2 ⟨r2, rfl, k⟩
    show sh_X g (d + 1) m_Sto_judged _ _ [(sh_i r2)] _ _
    refine xr_istore (i := 5) (by decide) rfl (by decide +kernel) ?_
    refine xr_iload (i := 5) (List.mem_of_getElem? (i := 0) rfl) (by decide +kernel) ?_
    refine xr_iconst (n := (-1)) (by decide +kernel) ?_
    refine xr_icmp_ne (a' := (i3 r2)) (b' := (-1)) rfl (by decide) (off := 11) (tgt := 75) (by decide) (by decide +kernel) ⟨fun c4 => ?_, fun c4 => ?_⟩
    · have k := k.1 c4
      refine xr_sub (lo' := [(0, (sh_r 1)), (1, (sh_i what)), (2, (sh_i x2)), (3, (sh_i x3)), (4, (sh_i (x4 : Int))), (5, (sh_i r2))]) [1, 2, 3, 4, 5, 0] rfl ?_
      exact k
    · have k := k.2 c4
      refine xr_iload_n (n := 2) (i := 2) rfl (List.mem_of_getElem? (i := 3) rfl) (by decide +kernel) ?_
      refine xr_iconst (n := (-1)) (by decide +kernel) ?_
      refine xr_icmp_ne (a' := (i3 x2)) (b' := (-1)) rfl (by decide) (off := 6) (tgt := 75) (by decide) (by decide +kernel) ⟨fun c5 => ?_, fun c5 => ?_⟩
      · have k := k.1 c5
        refine xr_sub (lo' := [(0, (sh_r 1)), (1, (sh_i what)), (2, (sh_i x2)), (3, (sh_i x3)), (4, (sh_i (x4 : Int))), (5, (sh_i r2))]) [1, 2, 3, 4, 5, 0] rfl ?_
        exact k
      · have k := k.2 c5
        refine xr_iload (i := 4) (List.mem_of_getElem? (i := 5) rfl) (by decide +kernel) ?_
        refine xr_istore_n (n := 2) (i := 2) rfl (by decide) rfl (by decide +kernel) ?_
        refine xr_sub (lo' := [(0, (sh_r 1)), (1, (sh_i what)), (2, (sh_i (x4 : Int))), (3, (sh_i x3)), (4, (sh_i (x4 : Int))), (5, (sh_i r2))]) [2, 3, 0, 4, 5, 1] rfl ?_
        exact k
theorem v_Sto_judged_75 {g : sh_G} {d : Nat} {what : Int} {B : Nat} (hB : ob0 B) {Y : Nat} (hY : ob10 Y) {mem : sh_Mem} {Q : Option sh_V → sh_Mem → Prop}  {x2 : Int} {x3 : Int} {x4 : Nat} {x5 : Int} (k : ((¬ (i3 x5) = 0 → sh_X g (d + 1) m_Sto_judged 30 [(0, (sh_r 1)), (1, (sh_i what)), (2, (sh_i x2)), (3, (sh_i x3)), (4, (sh_i (((x4 + 1) : Nat) : Int)))] [] mem (sh_K m_Sto_judged Q)) ∧ ((i3 x5) = 0 → (mem 1 11 = (Y : Int) ∧ (x4 < 40 ∧ ((¬ (i3 (mem (Y + 1) x4)) = 1 → sh_X g (d + 1) m_Sto_judged 30 [(0, (sh_r 1)), (1, (sh_i what)), (2, (sh_i x2)), (3, (sh_i x3)), (4, (sh_i (((x4 + 1) : Nat) : Int)))] [] mem (sh_K m_Sto_judged Q)) ∧ ((i3 (mem (Y + 1) x4)) = 1 → ((¬ (i3 x3) = (-1) → sh_X g (d + 1) m_Sto_judged 30 [(0, (sh_r 1)), (1, (sh_i what)), (2, (sh_i x2)), (3, (sh_i x3)), (4, (sh_i (((x4 + 1) : Nat) : Int)))] [] mem (sh_K m_Sto_judged Q)) ∧ ((i3 x3) = (-1) → sh_X g (d + 1) m_Sto_judged 30 [(0, (sh_r 1)), (1, (sh_i what)), (2, (sh_i x2)), (3, (sh_i (x4 : Int))), (4, (sh_i (((x4 + 1) : Nat) : Int)))] [] mem (sh_K m_Sto_judged Q)))))))))) : sh_X g (d + 1) m_Sto_judged 75 [(0, (sh_r 1)), (1, (sh_i what)), (2, (sh_i x2)), (3, (sh_i x3)), (4, (sh_i (x4 : Int))), (5, (sh_i x5))] [] mem (sh_K m_Sto_judged Q) := by
  refine xr_iload (i := 5) (List.mem_of_getElem? (i := 5) rfl) (by decide +kernel) ?_
  refine xr_if_ne (a' := (i3 x5)) rfl (off := 25) (tgt := 102) (by decide) (by decide +kernel) ⟨fun c1 => ?_, fun c1 => ?_⟩
  · have k := k.1 c1
    refine xr_iinc (n := 1) (lo' := [(4, (sh_i (((x4 + 1) : Nat) : Int))), (0, (sh_r 1)), (1, (sh_i what)), (2, (sh_i x2)), (3, (sh_i x3)), (5, (sh_i x5))]) (List.mem_of_getElem? (i := 4) rfl) (by decide) rfl (by decide +kernel) ?_
    refine xr_goto (off := (-75)) (tgt := 30) (by decide) (by decide +kernel) ?_
    refine xr_sub (lo' := [(0, (sh_r 1)), (1, (sh_i what)), (2, (sh_i x2)), (3, (sh_i x3)), (4, (sh_i (((x4 + 1) : Nat) : Int)))]) [1, 2, 3, 4, 0] rfl ?_
    exact k
  · have k := k.2 c1
    refine xr_aload_n (n := 0) (i := 0) rfl (List.mem_of_getElem? (i := 0) rfl) (by decide +kernel) ?_
    obtain ⟨o, k⟩ := k
    refine xr_getD (b := Y) rfl fl_Sto_82 rfl o (by decide +kernel) ?_
    refine xr_getR (o := 1) (ob10_0 hY) fl_Sto_195 rfl (by decide +kernel) ?_
    show sh_X g (d + 1) m_Sto_judged _ _ ((sh_r (Y + 1)) :: _) _ _
    refine xr_iload (i := 4) (List.mem_of_getElem? (i := 4) rfl) (by decide +kernel) ?_
    obtain ⟨o, k⟩ := k
    refine xr_ialdN (j := x4) rfl (ob10_1 hY) o (by decide +kernel) ?_
    refine xr_iconst (n := 1) (by decide +kernel) ?_
    refine xr_icmp_ne (a' := (i3 (mem (Y + 1) x4))) (b' := 1) rfl (by decide) (off := 11) (tgt := 102) (by decide) (by decide +kernel) ⟨fun c2 => ?_, fun c2 => ?_⟩
    · have k := k.1 c2
      refine xr_iinc (n := 1) (lo' := [(4, (sh_i (((x4 + 1) : Nat) : Int))), (0, (sh_r 1)), (1, (sh_i what)), (2, (sh_i x2)), (3, (sh_i x3)), (5, (sh_i x5))]) (List.mem_of_getElem? (i := 4) rfl) (by decide) rfl (by decide +kernel) ?_
      refine xr_goto (off := (-75)) (tgt := 30) (by decide) (by decide +kernel) ?_
      refine xr_sub (lo' := [(0, (sh_r 1)), (1, (sh_i what)), (2, (sh_i x2)), (3, (sh_i x3)), (4, (sh_i (((x4 + 1) : Nat) : Int)))]) [1, 2, 3, 4, 0] rfl ?_
      exact k
    · have k := k.2 c2
      refine xr_iload_n (n := 3) (i := 3) rfl (List.mem_of_getElem? (i := 3) rfl) (by decide +kernel) ?_
      refine xr_iconst (n := (-1)) (by decide +kernel) ?_
      refine xr_icmp_ne (a' := (i3 x3)) (b' := (-1)) rfl (by decide) (off := 6) (tgt := 102) (by decide) (by decide +kernel) ⟨fun c3 => ?_, fun c3 => ?_⟩
      · have k := k.1 c3
        refine xr_iinc (n := 1) (lo' := [(4, (sh_i (((x4 + 1) : Nat) : Int))), (0, (sh_r 1)), (1, (sh_i what)), (2, (sh_i x2)), (3, (sh_i x3)), (5, (sh_i x5))]) (List.mem_of_getElem? (i := 4) rfl) (by decide) rfl (by decide +kernel) ?_
        refine xr_goto (off := (-75)) (tgt := 30) (by decide) (by decide +kernel) ?_
        refine xr_sub (lo' := [(0, (sh_r 1)), (1, (sh_i what)), (2, (sh_i x2)), (3, (sh_i x3)), (4, (sh_i (((x4 + 1) : Nat) : Int)))]) [1, 2, 3, 4, 0] rfl ?_
        exact k
      · have k := k.2 c3
        refine xr_iload (i := 4) (List.mem_of_getElem? (i := 4) rfl) (by decide +kernel) ?_
        refine xr_istore_n (n := 3) (i := 3) rfl (by decide) rfl (by decide +kernel) ?_
        refine xr_iinc (n := 1) (lo' := [(4, (sh_i (((x4 + 1) : Nat) : Int))), (3, (sh_i (x4 : Int))), (0, (sh_r 1)), (1, (sh_i what)), (2, (sh_i x2)), (5, (sh_i x5))]) (List.mem_of_getElem? (i := 4) rfl) (by decide) rfl (by decide +kernel) ?_
        refine xr_goto (off := (-75)) (tgt := 30) (by decide) (by decide +kernel) ?_
        refine xr_sub (lo' := [(0, (sh_r 1)), (1, (sh_i what)), (2, (sh_i x2)), (3, (sh_i (x4 : Int))), (4, (sh_i (((x4 + 1) : Nat) : Int)))]) [2, 3, 4, 1, 0] rfl ?_
        exact k

theorem v_Sto_can {g : sh_G} {d : Nat} {thief : Int} {B : Nat} (hB : ob0 B) {mem : sh_Mem} {Q : Option sh_V → sh_Mem → Prop}  (k : (sh_Cal g d m_Sto_isThief [(sh_r 1), (sh_i thief)] mem fun rv m1 => ∃ r1 : Int, rv = some (sh_i r1) ∧ ((¬ (i3 r1) = 0 → sh_X g (d + 1) m_Sto_can 14 [(0, (sh_r 1)), (1, (sh_i thief)), (2, (sh_i 0)), (3, (sh_i 0))] [] m1 (sh_K m_Sto_can Q)) ∧ ((i3 r1) = 0 → Q (some (sh_i (-1))) m1)))) : sh_Cal g (d + 1) m_Sto_can [(sh_r 1), (sh_i thief)] mem Q := by
  refine sh_met (by decide +kernel) (Nat.le_of_ble_eq_true rfl) (lo := [(0, (sh_r 1)), (1, (sh_i thief))]) rfl ?_
  refine xr_aload_n (n := 0) (i := 0) rfl (List.mem_of_getElem? (i := 0) rfl) (by decide +kernel) ?_
  refine xr_iload_n (n := 1) (i := 1) rfl (List.mem_of_getElem? (i := 1) rfl) (by decide +kernel) ?_
  refine xr_callV (av := [(sh_i thief)]) rfl rfl rfl mo_Sto_isThief ml_Sto_138 im_Sto_isThief se_Sto_isThief rfl (Nat.le_of_ble_eq_true rfl) (by decide +kernel) (sh_mono k ?_)
  rintro rv m1 ⟨r1, rfl, k⟩
  show sh_X g (d + 1) m_Sto_can _ _ [(sh_i r1)] _ _
  refine xr_if_ne (a' := (i3 r1)) rfl (off := 5) (tgt := 10) (by decide) (by decide +kernel) ⟨fun c1 => ?_, fun c1 => ?_⟩
  · have k := k.1 c1
    refine xr_iconst (n := 0) (by decide +kernel) ?_
    refine xr_istore_n (n := 2) (i := 2) rfl (by decide) rfl (by decide +kernel) ?_
    refine xr_iconst (n := 0) (by decide +kernel) ?_
    refine xr_istore_n (n := 3) (i := 3) rfl (by decide) rfl (by decide +kernel) ?_
    refine xr_sub (lo' := [(0, (sh_r 1)), (1, (sh_i thief)), (2, (sh_i 0)), (3, (sh_i 0))]) [2, 3, 1, 0] rfl ?_
    exact k
  · have k := k.2 c1
    refine xr_iconst (n := (-1)) (by decide +kernel) ?_
    exact xr_iret rfl (by decide +kernel) k
theorem v_Sto_can_14 {g : sh_G} {d : Nat} {thief : Int} {B : Nat} (hB : ob0 B) {mem : sh_Mem} {Q : Option sh_V → sh_Mem → Prop}  {x2 : Int} {x3 : Nat} (k : (mem 1 9 = (B : Int) ∧ (((i3 (mem B 0)) ≤ (i3 (x3 : Int)) → Q (some (sh_i x2)) mem) ∧ (¬ (i3 (mem B 0)) ≤ (i3 (x3 : Int)) → (mem 1 9 = (B : Int) ∧ (sh_Cal g d m_State_bagged [(sh_r 5), (sh_r B), (sh_i thief), (sh_i (x3 : Int))] mem fun rv m1 => ∃ r1 : Int, rv = some (sh_i r1) ∧ (((i3 r1) ≤ 0 → sh_X g (d + 1) m_Sto_can 14 [(0, (sh_r 1)), (1, (sh_i thief)), (2, (sh_i x2)), (3, (sh_i (((x3 + 1) : Nat) : Int)))] [] m1 (sh_K m_Sto_can Q)) ∧ (¬ (i3 r1) ≤ 0 → sh_X g (d + 1) m_Sto_can 14 [(0, (sh_r 1)), (1, (sh_i thief)), (2, (sh_i (i_or x2 (i_shl 1 (x3 : Int))))), (3, (sh_i (((x3 + 1) : Nat) : Int)))] [] m1 (sh_K m_Sto_can Q))))))))) : sh_X g (d + 1) m_Sto_can 14 [(0, (sh_r 1)), (1, (sh_i thief)), (2, (sh_i x2)), (3, (sh_i (x3 : Int)))] [] mem (sh_K m_Sto_can Q) := by
  refine xr_iload_n (n := 3) (i := 3) rfl (List.mem_of_getElem? (i := 3) rfl) (by decide +kernel) ?_
  refine xr_aload_n (n := 0) (i := 0) rfl (List.mem_of_getElem? (i := 0) rfl) (by decide +kernel) ?_
  obtain ⟨o, k⟩ := k
  refine xr_getD (b := B) rfl fl_Sto_72 rfl o (by decide +kernel) ?_
  refine xr_getI (ob0_0 hB) fl_Sto_201 (by decide) (by decide +kernel) ?_
  refine xr_icmp_ge (a' := (i3 (x3 : Int))) (b' := (i3 (mem B 0))) rfl rfl (off := 31) (tgt := 53) (by decide) (by decide +kernel) ⟨fun c1 => ?_, fun c1 => ?_⟩
  · have k := k.1 c1
    refine xr_iload_n (n := 2) (i := 2) rfl (List.mem_of_getElem? (i := 2) rfl) (by decide +kernel) ?_
    exact xr_iret rfl (by decide +kernel) k
  · have k := k.2 c1
    refine xr_aload_n (n := 0) (i := 0) rfl (List.mem_of_getElem? (i := 0) rfl) (by decide +kernel) ?_
    refine xr_getR (o := 4) rfl fl_Sto_28 rfl (by decide +kernel) ?_
    show sh_X g (d + 1) m_Sto_can _ _ ((sh_r 5) :: _) _ _
    refine xr_aload_n (n := 0) (i := 0) rfl (List.mem_of_getElem? (i := 0) rfl) (by decide +kernel) ?_
    obtain ⟨o, k⟩ := k
    refine xr_getD (b := B) rfl fl_Sto_72 rfl o (by decide +kernel) ?_
    refine xr_iload_n (n := 1) (i := 1) rfl (List.mem_of_getElem? (i := 1) rfl) (by decide +kernel) ?_
    refine xr_iload_n (n := 3) (i := 3) rfl (List.mem_of_getElem? (i := 3) rfl) (by decide +kernel) ?_
    refine xr_callV (av := [(sh_r B), (sh_i thief), (sh_i (x3 : Int))]) rfl rfl rfl mo_State_bagged ml_Sto_204 im_State_bagged se_State_bagged rfl (Nat.le_of_ble_eq_true rfl) (by decide +kernel) (sh_mono k ?_)
    rintro rv m1 ⟨r1, rfl, k⟩
    show sh_X g (d + 1) m_Sto_can _ _ [(sh_i r1)] _ _
    refine xr_if_le (a' := (i3 r1)) rfl (off := 9) (tgt := 47) (by decide) (by decide +kernel) ⟨fun c2 => ?_, fun c2 => ?_⟩
    · have k := k.1 c2
      refine xr_iinc (n := 1) (lo' := [(3, (sh_i (((x3 + 1) : Nat) : Int))), (0, (sh_r 1)), (1, (sh_i thief)), (2, (sh_i x2))]) (List.mem_of_getElem? (i := 3) rfl) (by decide) rfl (by decide +kernel) ?_
      refine xr_goto (off := (-36)) (tgt := 14) (by decide) (by decide +kernel) ?_
      refine xr_sub (lo' := [(0, (sh_r 1)), (1, (sh_i thief)), (2, (sh_i x2)), (3, (sh_i (((x3 + 1) : Nat) : Int)))]) [1, 2, 3, 0] rfl ?_
      exact k
    · have k := k.2 c2
      refine xr_iload_n (n := 2) (i := 2) rfl (List.mem_of_getElem? (i := 2) rfl) (by decide +kernel) ?_
      refine xr_iconst (n := 1) (by decide +kernel) ?_
      refine xr_iload_n (n := 3) (i := 3) rfl (List.mem_of_getElem? (i := 3) rfl) (by decide +kernel) ?_
      refine xr_ishl (by decide +kernel) ?_
      refine xr_ior (by decide +kernel) ?_
      refine xr_istore_n (n := 2) (i := 2) rfl (by decide) rfl (by decide +kernel) ?_
      refine xr_iinc (n := 1) (lo' := [(3, (sh_i (((x3 + 1) : Nat) : Int))), (2, (sh_i (i_or x2 (i_shl 1 (x3 : Int))))), (0, (sh_r 1)), (1, (sh_i thief))]) (List.mem_of_getElem? (i := 3) rfl) (by decide) rfl (by decide +kernel) ?_
      refine xr_goto (off := (-36)) (tgt := 14) (by decide) (by decide +kernel) ?_
      refine xr_sub (lo' := [(0, (sh_r 1)), (1, (sh_i thief)), (2, (sh_i (i_or x2 (i_shl 1 (x3 : Int))))), (3, (sh_i (((x3 + 1) : Nat) : Int)))]) [2, 3, 1, 0] rfl ?_
      exact k

theorem v_Sto_haul {g : sh_G} {d : Nat} {thief : Int} {day : Int} {B : Nat} (hB : ob0 B) {mem : sh_Mem} {Q : Option sh_V → sh_Mem → Prop}  (k : (sh_Cal g d m_Sto_isThief [(sh_r 1), (sh_i thief)] mem fun rv m1 => ∃ r1 : Int, rv = some (sh_i r1) ∧ (((i3 r1) = 0 → Q (some (sh_i (-1))) m1) ∧ (¬ (i3 r1) = 0 → (sh_Cal g d m_Sto_isDay [(sh_r 1), (sh_i day)] m1 fun rv m2 => ∃ r2 : Int, rv = some (sh_i r2) ∧ (((i3 r2) = 0 → Q (some (sh_i (-1))) m2) ∧ (¬ (i3 r2) = 0 → (sh_Cal g d m_State_canTake [(sh_r 5), (sh_i thief), (sh_i day)] m2 fun rv m3 => ∃ r3 : Int, rv = some (sh_i r3) ∧ ((¬ (i3 r3) = 0 → (m3 1 9 = (B : Int) ∧ (sh_Cal g d m_State_bagged [(sh_r 5), (sh_r B), (sh_i thief), (sh_i day)] m3 fun rv m4 => ∃ r4 : Int, rv = some (sh_i r4) ∧ Q (some (sh_i r4)) m4))) ∧ ((i3 r3) = 0 → Q (some (sh_i (-1))) m3)))))))))) : sh_Cal g (d + 1) m_Sto_haul [(sh_r 1), (sh_i thief), (sh_i day)] mem Q := by
  refine sh_met (by decide +kernel) (Nat.le_of_ble_eq_true rfl) (lo := [(0, (sh_r 1)), (1, (sh_i thief)), (2, (sh_i day))]) rfl ?_
  refine xr_aload_n (n := 0) (i := 0) rfl (List.mem_of_getElem? (i := 0) rfl) (by decide +kernel) ?_
  refine xr_iload_n (n := 1) (i := 1) rfl (List.mem_of_getElem? (i := 1) rfl) (by decide +kernel) ?_
  refine xr_callV (av := [(sh_i thief)]) rfl rfl rfl mo_Sto_isThief ml_Sto_138 im_Sto_isThief se_Sto_isThief rfl (Nat.le_of_ble_eq_true rfl) (by decide +kernel) (sh_mono k ?_)
  rintro rv m1 ⟨r1, rfl, k⟩
  show sh_X g (d + 1) m_Sto_haul _ _ [(sh_i r1)] _ _
  refine xr_if_eq (a' := (i3 r1)) rfl (off := 23) (tgt := 28) (by decide) (by decide +kernel) ⟨fun c1 => ?_, fun c1 => ?_⟩
  · have k := k.1 c1
    refine xr_iconst (n := (-1)) (by decide +kernel) ?_
    exact xr_iret rfl (by decide +kernel) k
  · have k := k.2 c1
    refine xr_aload_n (n := 0) (i := 0) rfl (List.mem_of_getElem? (i := 0) rfl) (by decide +kernel) ?_
    refine xr_iload_n (n := 2) (i := 2) rfl (List.mem_of_getElem? (i := 2) rfl) (by decide +kernel) ?_
    refine xr_callV (av := [(sh_i day)]) rfl rfl rfl mo_Sto_isDay ml_Sto_121 im_Sto_isDay se_Sto_isDay rfl (Nat.le_of_ble_eq_true rfl) (by decide +kernel) (sh_mono k ?_)
    rintro rv m2 ⟨r2, rfl, k⟩
    show sh_X g (d + 1) m_Sto_haul _ _ [(sh_i r2)] _ _
    refine xr_if_eq (a' := (i3 r2)) rfl (off := 15) (tgt := 28) (by decide) (by decide +kernel) ⟨fun c2 => ?_, fun c2 => ?_⟩
    · have k := k.1 c2
      refine xr_iconst (n := (-1)) (by decide +kernel) ?_
      exact xr_iret rfl (by decide +kernel) k
    · have k := k.2 c2
      refine xr_aload_n (n := 0) (i := 0) rfl (List.mem_of_getElem? (i := 0) rfl) (by decide +kernel) ?_
      refine xr_getR (o := 4) rfl fl_Sto_28 rfl (by decide +kernel) ?_
      show sh_X g (d + 1) m_Sto_haul _ _ ((sh_r 5) :: _) _ _
      refine xr_iload_n (n := 1) (i := 1) rfl (List.mem_of_getElem? (i := 1) rfl) (by decide +kernel) ?_
      refine xr_iload_n (n := 2) (i := 2) rfl (List.mem_of_getElem? (i := 2) rfl) (by decide +kernel) ?_
      refine xr_callV (av := [(sh_i thief), (sh_i day)]) rfl rfl rfl mo_State_canTake ml_Sto_150 im_State_canTake se_State_canTake rfl (Nat.le_of_ble_eq_true rfl) (by decide +kernel) (sh_mono k ?_)
      rintro rv m3 ⟨r3, rfl, k⟩
      show sh_X g (d + 1) m_Sto_haul _ _ [(sh_i r3)] _ _
      refine xr_if_ne (a' := (i3 r3)) rfl (off := 5) (tgt := 30) (by decide) (by decide +kernel) ⟨fun c3 => ?_, fun c3 => ?_⟩
      · have k := k.1 c3
        refine xr_aload_n (n := 0) (i := 0) rfl (List.mem_of_getElem? (i := 0) rfl) (by decide +kernel) ?_
        refine xr_getR (o := 4) rfl fl_Sto_28 rfl (by decide +kernel) ?_
        show sh_X g (d + 1) m_Sto_haul _ _ ((sh_r 5) :: _) _ _
        refine xr_aload_n (n := 0) (i := 0) rfl (List.mem_of_getElem? (i := 0) rfl) (by decide +kernel) ?_
        obtain ⟨o, k⟩ := k
        refine xr_getD (b := B) rfl fl_Sto_72 rfl o (by decide +kernel) ?_
        refine xr_iload_n (n := 1) (i := 1) rfl (List.mem_of_getElem? (i := 1) rfl) (by decide +kernel) ?_
        refine xr_iload_n (n := 2) (i := 2) rfl (List.mem_of_getElem? (i := 2) rfl) (by decide +kernel) ?_
        refine xr_callV (av := [(sh_r B), (sh_i thief), (sh_i day)]) rfl rfl rfl mo_State_bagged ml_Sto_204 im_State_bagged se_State_bagged rfl (Nat.le_of_ble_eq_true rfl) (by decide +kernel) (sh_mono k ?_)
        rintro rv m4 ⟨r4, rfl, k⟩
        show sh_X g (d + 1) m_Sto_haul _ _ [(sh_i r4)] _ _
        exact xr_iret rfl (by decide +kernel) k
      · have k := k.2 c3
        refine xr_iconst (n := (-1)) (by decide +kernel) ?_
        exact xr_iret rfl (by decide +kernel) k

theorem v_Sto_price {g : sh_G} {d : Nat} {thief : Int} {B : Nat} (hB : ob0 B) {mem : sh_Mem} {Q : Option sh_V → sh_Mem → Prop}  (k : (sh_Cal g d m_Sto_isThief [(sh_r 1), (sh_i thief)] mem fun rv m1 => ∃ r1 : Int, rv = some (sh_i r1) ∧ (((i3 r1) = 0 → Q (some (sh_i (-1))) m1) ∧ (¬ (i3 r1) = 0 → (sh_Cal g d m_State_hasPiece [(sh_r 5), (sh_i thief)] m1 fun rv m2 => ∃ r2 : Int, rv = some (sh_i r2) ∧ ((¬ (i3 r2) = 0 → (m2 1 9 = (B : Int) ∧ (sh_Cal g d m_State_paidFor [(sh_r 5), (sh_r B), (sh_i thief)] m2 fun rv m3 => ∃ r3 : Int, rv = some (sh_i r3) ∧ Q (some (sh_i r3)) m3))) ∧ ((i3 r2) = 0 → Q (some (sh_i (-1))) m2))))))) : sh_Cal g (d + 1) m_Sto_price [(sh_r 1), (sh_i thief)] mem Q := by
  refine sh_met (by decide +kernel) (Nat.le_of_ble_eq_true rfl) (lo := [(0, (sh_r 1)), (1, (sh_i thief))]) rfl ?_
  refine xr_aload_n (n := 0) (i := 0) rfl (List.mem_of_getElem? (i := 0) rfl) (by decide +kernel) ?_
  refine xr_iload_n (n := 1) (i := 1) rfl (List.mem_of_getElem? (i := 1) rfl) (by decide +kernel) ?_
  refine xr_callV (av := [(sh_i thief)]) rfl rfl rfl mo_Sto_isThief ml_Sto_138 im_Sto_isThief se_Sto_isThief rfl (Nat.le_of_ble_eq_true rfl) (by decide +kernel) (sh_mono k ?_)
  rintro rv m1 ⟨r1, rfl, k⟩
  show sh_X g (d + 1) m_Sto_price _ _ [(sh_i r1)] _ _
  refine xr_if_eq (a' := (i3 r1)) rfl (off := 14) (tgt := 19) (by decide) (by decide +kernel) ⟨fun c1 => ?_, fun c1 => ?_⟩
  · have k := k.1 c1
    refine xr_iconst (n := (-1)) (by decide +kernel) ?_
    exact xr_iret rfl (by decide +kernel) k
  · have k := k.2 c1
    refine xr_aload_n (n := 0) (i := 0) rfl (List.mem_of_getElem? (i := 0) rfl) (by decide +kernel) ?_
    refine xr_getR (o := 4) rfl fl_Sto_28 rfl (by decide +kernel) ?_
    show sh_X g (d + 1) m_Sto_price _ _ ((sh_r 5) :: _) _ _
    refine xr_iload_n (n := 1) (i := 1) rfl (List.mem_of_getElem? (i := 1) rfl) (by decide +kernel) ?_
    refine xr_callV (av := [(sh_i thief)]) rfl rfl rfl mo_State_hasPiece ml_Sto_147 im_State_hasPiece se_State_hasPiece rfl (Nat.le_of_ble_eq_true rfl) (by decide +kernel) (sh_mono k ?_)
    rintro rv m2 ⟨r2, rfl, k⟩
    show sh_X g (d + 1) m_Sto_price _ _ [(sh_i r2)] _ _
    refine xr_if_ne (a' := (i3 r2)) rfl (off := 5) (tgt := 21) (by decide) (by decide +kernel) ⟨fun c2 => ?_, fun c2 => ?_⟩
    · have k := k.1 c2
      refine xr_aload_n (n := 0) (i := 0) rfl (List.mem_of_getElem? (i := 0) rfl) (by decide +kernel) ?_
      refine xr_getR (o := 4) rfl fl_Sto_28 rfl (by decide +kernel) ?_
      show sh_X g (d + 1) m_Sto_price _ _ ((sh_r 5) :: _) _ _
      refine xr_aload_n (n := 0) (i := 0) rfl (List.mem_of_getElem? (i := 0) rfl) (by decide +kernel) ?_
      obtain ⟨o, k⟩ := k
      refine xr_getD (b := B) rfl fl_Sto_72 rfl o (by decide +kernel) ?_
      refine xr_iload_n (n := 1) (i := 1) rfl (List.mem_of_getElem? (i := 1) rfl) (by decide +kernel) ?_
      refine xr_callV (av := [(sh_r B), (sh_i thief)]) rfl rfl rfl mo_State_paidFor ml_Sto_207 im_State_paidFor se_State_paidFor rfl (Nat.le_of_ble_eq_true rfl) (by decide +kernel) (sh_mono k ?_)
      rintro rv m3 ⟨r3, rfl, k⟩
      show sh_X g (d + 1) m_Sto_price _ _ [(sh_i r3)] _ _
      exact xr_iret rfl (by decide +kernel) k
    · have k := k.2 c2
      refine xr_iconst (n := (-1)) (by decide +kernel) ?_
      exact xr_iret rfl (by decide +kernel) k

theorem v_Sto_all {g : sh_G} {d : Nat}   {mem : sh_Mem} {Q : Option sh_V → sh_Mem → Prop}  (k : (sh_Cal g d m_State_sumOfThieves [(sh_r 5), (sh_i 16)] mem fun rv m1 => ∃ r1 : Int, rv = some (sh_i r1) ∧ Q (some (sh_i r1)) m1)) : sh_Cal g (d + 1) m_Sto_all [(sh_r 1)] mem Q := by
  refine sh_met (by decide +kernel) (Nat.le_of_ble_eq_true rfl) (lo := [(0, (sh_r 1))]) rfl ?_
  refine xr_aload_n (n := 0) (i := 0) rfl (List.mem_of_getElem? (i := 0) rfl) (by decide +kernel) ?_
  refine xr_getR (o := 4) rfl fl_Sto_28 rfl (by decide +kernel) ?_
  show sh_X g (d + 1) m_Sto_all _ _ ((sh_r 5) :: _) _ _
  refine xr_bipush (n := 16) (v := 16) (by decide) (by decide +kernel) ?_
  refine xr_callV (av := [(sh_i 16)]) rfl rfl rfl mo_State_sumOfThieves ml_Sto_198 im_State_sumOfThieves se_State_sumOfThieves rfl (Nat.le_of_ble_eq_true rfl) (by decide +kernel) (sh_mono k ?_)
  rintro rv m1 ⟨r1, rfl, k⟩
  show sh_X g (d + 1) m_Sto_all _ _ [(sh_i r1)] _ _
  exact xr_iret rfl (by decide +kernel) k

theorem v_Sto_rich {g : sh_G} {d : Nat}   {mem : sh_Mem} {Q : Option sh_V → sh_Mem → Prop}  (k : (sh_Cal g d m_Sto_firstWithMost [(sh_r 1), (sh_i 36)] mem fun rv m1 => ∃ r1 : Int, rv = some (sh_i r1) ∧ Q (some (sh_i r1)) m1)) : sh_Cal g (d + 1) m_Sto_rich [(sh_r 1)] mem Q := by
  refine sh_met (by decide +kernel) (Nat.le_of_ble_eq_true rfl) (lo := [(0, (sh_r 1))]) rfl ?_
  refine xr_aload_n (n := 0) (i := 0) rfl (List.mem_of_getElem? (i := 0) rfl) (by decide +kernel) ?_
  refine xr_bipush (n := 36) (v := 36) (by decide) (by decide +kernel) ?_
  refine xr_callV (av := [(sh_i 36)]) rfl rfl rfl mo_Sto_firstWithMost ml_Sto_210 im_Sto_firstWithMost se_Sto_firstWithMost rfl (Nat.le_of_ble_eq_true rfl) (by decide +kernel) (sh_mono k ?_)
  rintro rv m1 ⟨r1, rfl, k⟩
  show sh_X g (d + 1) m_Sto_rich _ _ [(sh_i r1)] _ _
  exact xr_iret rfl (by decide +kernel) k

theorem v_Sto_guilty {g : sh_G} {d : Nat}   {mem : sh_Mem} {Q : Option sh_V → sh_Mem → Prop}  (k : (sh_Cal g d m_Sto_firstWithMost [(sh_r 1), (sh_i 32)] mem fun rv m1 => ∃ r1 : Int, rv = some (sh_i r1) ∧ Q (some (sh_i r1)) m1)) : sh_Cal g (d + 1) m_Sto_guilty [(sh_r 1)] mem Q := by
  refine sh_met (by decide +kernel) (Nat.le_of_ble_eq_true rfl) (lo := [(0, (sh_r 1))]) rfl ?_
  refine xr_aload_n (n := 0) (i := 0) rfl (List.mem_of_getElem? (i := 0) rfl) (by decide +kernel) ?_
  refine xr_bipush (n := 32) (v := 32) (by decide) (by decide +kernel) ?_
  refine xr_callV (av := [(sh_i 32)]) rfl rfl rfl mo_Sto_firstWithMost ml_Sto_210 im_Sto_firstWithMost se_Sto_firstWithMost rfl (Nat.le_of_ble_eq_true rfl) (by decide +kernel) (sh_mono k ?_)
  rintro rv m1 ⟨r1, rfl, k⟩
  show sh_X g (d + 1) m_Sto_guilty _ _ [(sh_i r1)] _ _
  exact xr_iret rfl (by decide +kernel) k

theorem v_Sto_later {g : sh_G} {d : Nat} {day : Int} {nights : Int} {B : Nat} (hB : ob0 B) {mem : sh_Mem} {Q : Option sh_V → sh_Mem → Prop}  (k : (sh_Cal g d m_Sto_isDay [(sh_r 1), (sh_i day)] mem fun rv m1 => ∃ r1 : Int, rv = some (sh_i r1) ∧ (((i3 r1) = 0 → Q (some (sh_i (-1))) m1) ∧ (¬ (i3 r1) = 0 → (sh_Cal g d m_Sto_isWithin [(sh_i nights), (sh_i 0), (sh_i 60)] m1 fun rv m2 => ∃ r2 : Int, rv = some (sh_i r2) ∧ ((¬ (i3 r2) = 0 → (m2 1 9 = (B : Int) ∧ (sh_Cal g d m_State_leftBehind [(sh_r 5), (sh_r B), (sh_i day), (sh_i nights)] m2 fun rv m3 => ∃ r3 : Int, rv = some (sh_i r3) ∧ Q (some (sh_i r3)) m3))) ∧ ((i3 r2) = 0 → Q (some (sh_i (-1))) m2))))))) : sh_Cal g (d + 1) m_Sto_later [(sh_r 1), (sh_i day), (sh_i nights)] mem Q := by
  refine sh_met (by decide +kernel) (Nat.le_of_ble_eq_true rfl) (lo := [(0, (sh_r 1)), (1, (sh_i day)), (2, (sh_i nights))]) rfl ?_
  refine xr_aload_n (n := 0) (i := 0) rfl (List.mem_of_getElem? (i := 0) rfl) (by decide +kernel) ?_
  refine xr_iload_n (n := 1) (i := 1) rfl (List.mem_of_getElem? (i := 1) rfl) (by decide +kernel) ?_
  refine xr_callV (av := [(sh_i day)]) rfl rfl rfl mo_Sto_isDay ml_Sto_121 im_Sto_isDay se_Sto_isDay rfl (Nat.le_of_ble_eq_true rfl) (by decide +kernel) (sh_mono k ?_)
  rintro rv m1 ⟨r1, rfl, k⟩
  show sh_X g (d + 1) m_Sto_later _ _ [(sh_i r1)] _ _
  refine xr_if_eq (a' := (i3 r1)) rfl (off := 13) (tgt := 18) (by decide) (by decide +kernel) ⟨fun c1 => ?_, fun c1 => ?_⟩
  · have k := k.1 c1
    refine xr_iconst (n := (-1)) (by decide +kernel) ?_
    exact xr_iret rfl (by decide +kernel) k
  · have k := k.2 c1
    refine xr_iload_n (n := 2) (i := 2) rfl (List.mem_of_getElem? (i := 2) rfl) (by decide +kernel) ?_
    refine xr_iconst (n := 0) (by decide +kernel) ?_
    refine xr_bipush (n := 60) (v := 60) (by decide) (by decide +kernel) ?_
    refine xr_callS (av := [(sh_i nights), (sh_i 0), (sh_i 60)]) mo_Sto_isWithin ml_Sto_213 sa_Sto_isWithin rfl (Nat.le_of_ble_eq_true rfl) (by decide +kernel) (sh_mono k ?_)
    rintro rv m2 ⟨r2, rfl, k⟩
    show sh_X g (d + 1) m_Sto_later _ _ [(sh_i r2)] _ _
    refine xr_if_ne (a' := (i3 r2)) rfl (off := 5) (tgt := 20) (by decide) (by decide +kernel) ⟨fun c2 => ?_, fun c2 => ?_⟩
    · have k := k.1 c2
      refine xr_aload_n (n := 0) (i := 0) rfl (List.mem_of_getElem? (i := 0) rfl) (by decide +kernel) ?_
      refine xr_getR (o := 4) rfl fl_Sto_28 rfl (by decide +kernel) ?_
      show sh_X g (d + 1) m_Sto_later _ _ ((sh_r 5) :: _) _ _
      refine xr_aload_n (n := 0) (i := 0) rfl (List.mem_of_getElem? (i := 0) rfl) (by decide +kernel) ?_
      obtain ⟨o, k⟩ := k
      refine xr_getD (b := B) rfl fl_Sto_72 rfl o (by decide +kernel) ?_
      refine xr_iload_n (n := 1) (i := 1) rfl (List.mem_of_getElem? (i := 1) rfl) (by decide +kernel) ?_
      refine xr_iload_n (n := 2) (i := 2) rfl (List.mem_of_getElem? (i := 2) rfl) (by decide +kernel) ?_
      refine xr_callV (av := [(sh_r B), (sh_i day), (sh_i nights)]) rfl rfl rfl mo_State_leftBehind ml_Sto_217 im_State_leftBehind se_State_leftBehind rfl (Nat.le_of_ble_eq_true rfl) (by decide +kernel) (sh_mono k ?_)
      rintro rv m3 ⟨r3, rfl, k⟩
      show sh_X g (d + 1) m_Sto_later _ _ [(sh_i r3)] _ _
      exact xr_iret rfl (by decide +kernel) k
    · have k := k.2 c2
      refine xr_iconst (n := (-1)) (by decide +kernel) ?_
      exact xr_iret rfl (by decide +kernel) k

theorem v_Sto_guards {g : sh_G} {d : Nat} {day : Int} {nights : Int} {B : Nat} (hB : ob0 B) {mem : sh_Mem} {Q : Option sh_V → sh_Mem → Prop}  (k : (sh_Cal g d m_Sto_isDay [(sh_r 1), (sh_i day)] mem fun rv m1 => ∃ r1 : Int, rv = some (sh_i r1) ∧ (((i3 r1) = 0 → Q (some (sh_i (-1))) m1) ∧ (¬ (i3 r1) = 0 → (sh_Cal g d m_Sto_isWithin [(sh_i nights), (sh_i 0), (sh_i 60)] m1 fun rv m2 => ∃ r2 : Int, rv = some (sh_i r2) ∧ ((¬ (i3 r2) = 0 → (m2 1 9 = (B : Int) ∧ (sh_Cal g d m_State_guardBehind [(sh_r 5), (sh_r B), (sh_i day), (sh_i nights)] m2 fun rv m3 => ∃ r3 : Int, rv = some (sh_i r3) ∧ Q (some (sh_i r3)) m3))) ∧ ((i3 r2) = 0 → Q (some (sh_i (-1))) m2))))))) : sh_Cal g (d + 1) m_Sto_guards [(sh_r 1), (sh_i day), (sh_i nights)] mem Q := by
  refine sh_met (by decide +kernel) (Nat.le_of_ble_eq_true rfl) (lo := [(0, (sh_r 1)), (1, (sh_i day)), (2, (sh_i nights))]) rfl ?_
  refine xr_aload_n (n := 0) (i := 0) rfl (List.mem_of_getElem? (i := 0) rfl) (by decide +kernel) ?_
  refine xr_iload_n (n := 1) (i := 1) rfl (List.mem_of_getElem? (i := 1) rfl) (by decide +kernel) ?_
  refine xr_callV (av := [(sh_i day)]) rfl rfl rfl mo_Sto_isDay ml_Sto_121 im_Sto_isDay se_Sto_isDay rfl (Nat.le_of_ble_eq_true rfl) (by decide +kernel) (sh_mono k ?_)
  rintro rv m1 ⟨r1, rfl, k⟩
  show sh_X g (d + 1) m_Sto_guards _ _ [(sh_i r1)] _ _
  refine xr_if_eq (a' := (i3 r1)) rfl (off := 13) (tgt := 18) (by decide) (by decide +kernel) ⟨fun c1 => ?_, fun c1 => ?_⟩
  · have k := k.1 c1
    refine xr_iconst (n := (-1)) (by decide +kernel) ?_
    exact xr_iret rfl (by decide +kernel) k
  · have k := k.2 c1
    refine xr_iload_n (n := 2) (i := 2) rfl (List.mem_of_getElem? (i := 2) rfl) (by decide +kernel) ?_
    refine xr_iconst (n := 0) (by decide +kernel) ?_
    refine xr_bipush (n := 60) (v := 60) (by decide) (by decide +kernel) ?_
    refine xr_callS (av := [(sh_i nights), (sh_i 0), (sh_i 60)]) mo_Sto_isWithin ml_Sto_213 sa_Sto_isWithin rfl (Nat.le_of_ble_eq_true rfl) (by decide +kernel) (sh_mono k ?_)
    rintro rv m2 ⟨r2, rfl, k⟩
    show sh_X g (d + 1) m_Sto_guards _ _ [(sh_i r2)] _ _
    refine xr_if_ne (a' := (i3 r2)) rfl (off := 5) (tgt := 20) (by decide) (by decide +kernel) ⟨fun c2 => ?_, fun c2 => ?_⟩
    · have k := k.1 c2
      refine xr_aload_n (n := 0) (i := 0) rfl (List.mem_of_getElem? (i := 0) rfl) (by decide +kernel) ?_
      refine xr_getR (o := 4) rfl fl_Sto_28 rfl (by decide +kernel) ?_
      show sh_X g (d + 1) m_Sto_guards _ _ ((sh_r 5) :: _) _ _
      refine xr_aload_n (n := 0) (i := 0) rfl (List.mem_of_getElem? (i := 0) rfl) (by decide +kernel) ?_
      obtain ⟨o, k⟩ := k
      refine xr_getD (b := B) rfl fl_Sto_72 rfl o (by decide +kernel) ?_
      refine xr_iload_n (n := 1) (i := 1) rfl (List.mem_of_getElem? (i := 1) rfl) (by decide +kernel) ?_
      refine xr_iload_n (n := 2) (i := 2) rfl (List.mem_of_getElem? (i := 2) rfl) (by decide +kernel) ?_
      refine xr_callV (av := [(sh_r B), (sh_i day), (sh_i nights)]) rfl rfl rfl mo_State_guardBehind ml_Sto_220 im_State_guardBehind se_State_guardBehind rfl (Nat.le_of_ble_eq_true rfl) (by decide +kernel) (sh_mono k ?_)
      rintro rv m3 ⟨r3, rfl, k⟩
      show sh_X g (d + 1) m_Sto_guards _ _ [(sh_i r3)] _ _
      exact xr_iret rfl (by decide +kernel) k
    · have k := k.2 c2
      refine xr_iconst (n := (-1)) (by decide +kernel) ?_
      exact xr_iret rfl (by decide +kernel) k

theorem v_Sto_keeps {g : sh_G} {d : Nat} {thief : Int} {nights : Int}  {mem : sh_Mem} {Q : Option sh_V → sh_Mem → Prop}  (k : (sh_Cal g d m_Sto_isThief [(sh_r 1), (sh_i thief)] mem fun rv m1 => ∃ r1 : Int, rv = some (sh_i r1) ∧ (((i3 r1) = 0 → Q (some (sh_i (-1))) m1) ∧ (¬ (i3 r1) = 0 → (sh_Cal g d m_Sto_isWithin [(sh_i nights), (sh_i 0), (sh_i 60)] m1 fun rv m2 => ∃ r2 : Int, rv = some (sh_i r2) ∧ ((¬ (i3 r2) = 0 → (sh_Cal g d m_State_muchBehind [(sh_r 5), (sh_i thief), (sh_i nights)] m2 fun rv m3 => ∃ r3 : Int, rv = some (sh_i r3) ∧ Q (some (sh_i r3)) m3)) ∧ ((i3 r2) = 0 → Q (some (sh_i (-1))) m2))))))) : sh_Cal g (d + 1) m_Sto_keeps [(sh_r 1), (sh_i thief), (sh_i nights)] mem Q := by
  refine sh_met (by decide +kernel) (Nat.le_of_ble_eq_true rfl) (lo := [(0, (sh_r 1)), (1, (sh_i thief)), (2, (sh_i nights))]) rfl ?_
  refine xr_aload_n (n := 0) (i := 0) rfl (List.mem_of_getElem? (i := 0) rfl) (by decide +kernel) ?_
  refine xr_iload_n (n := 1) (i := 1) rfl (List.mem_of_getElem? (i := 1) rfl) (by decide +kernel) ?_
  refine xr_callV (av := [(sh_i thief)]) rfl rfl rfl mo_Sto_isThief ml_Sto_138 im_Sto_isThief se_Sto_isThief rfl (Nat.le_of_ble_eq_true rfl) (by decide +kernel) (sh_mono k ?_)
  rintro rv m1 ⟨r1, rfl, k⟩
  show sh_X g (d + 1) m_Sto_keeps _ _ [(sh_i r1)] _ _
  refine xr_if_eq (a' := (i3 r1)) rfl (off := 13) (tgt := 18) (by decide) (by decide +kernel) ⟨fun c1 => ?_, fun c1 => ?_⟩
  · have k := k.1 c1
    refine xr_iconst (n := (-1)) (by decide +kernel) ?_
    exact xr_iret rfl (by decide +kernel) k
  · have k := k.2 c1
    refine xr_iload_n (n := 2) (i := 2) rfl (List.mem_of_getElem? (i := 2) rfl) (by decide +kernel) ?_
    refine xr_iconst (n := 0) (by decide +kernel) ?_
    refine xr_bipush (n := 60) (v := 60) (by decide) (by decide +kernel) ?_
    refine xr_callS (av := [(sh_i nights), (sh_i 0), (sh_i 60)]) mo_Sto_isWithin ml_Sto_213 sa_Sto_isWithin rfl (Nat.le_of_ble_eq_true rfl) (by decide +kernel) (sh_mono k ?_)
    rintro rv m2 ⟨r2, rfl, k⟩
    show sh_X g (d + 1) m_Sto_keeps _ _ [(sh_i r2)] _ _
    refine xr_if_ne (a' := (i3 r2)) rfl (off := 5) (tgt := 20) (by decide) (by decide +kernel) ⟨fun c2 => ?_, fun c2 => ?_⟩
    · have k := k.1 c2
      refine xr_aload_n (n := 0) (i := 0) rfl (List.mem_of_getElem? (i := 0) rfl) (by decide +kernel) ?_
      refine xr_getR (o := 4) rfl fl_Sto_28 rfl (by decide +kernel) ?_
      show sh_X g (d + 1) m_Sto_keeps _ _ ((sh_r 5) :: _) _ _
      refine xr_iload_n (n := 1) (i := 1) rfl (List.mem_of_getElem? (i := 1) rfl) (by decide +kernel) ?_
      refine xr_iload_n (n := 2) (i := 2) rfl (List.mem_of_getElem? (i := 2) rfl) (by decide +kernel) ?_
      refine xr_callV (av := [(sh_i thief), (sh_i nights)]) rfl rfl rfl mo_State_muchBehind ml_Sto_223 im_State_muchBehind se_State_muchBehind rfl (Nat.le_of_ble_eq_true rfl) (by decide +kernel) (sh_mono k ?_)
      rintro rv m3 ⟨r3, rfl, k⟩
      show sh_X g (d + 1) m_Sto_keeps _ _ [(sh_i r3)] _ _
      exact xr_iret rfl (by decide +kernel) k
    · have k := k.2 c2
      refine xr_iconst (n := (-1)) (by decide +kernel) ?_
      exact xr_iret rfl (by decide +kernel) k

theorem v_Sto_freed {g : sh_G} {d : Nat} {thief : Int}  {mem : sh_Mem} {Q : Option sh_V → sh_Mem → Prop}  (k : (sh_Cal g d m_Sto_isThief [(sh_r 1), (sh_i thief)] mem fun rv m1 => ∃ r1 : Int, rv = some (sh_i r1) ∧ (((i3 r1) = 0 → Q (some (sh_i (-1))) m1) ∧ (¬ (i3 r1) = 0 → ((0 ≤ (28 + thief) ∧ (28 + thief) < 45) ∧ Q (some (sh_i (m1 6 ((28 + thief)).toNat))) m1))))) : sh_Cal g (d + 1) m_Sto_freed [(sh_r 1), (sh_i thief)] mem Q := by
  refine sh_met (by decide +kernel) (Nat.le_of_ble_eq_true rfl) (lo := [(0, (sh_r 1)), (1, (sh_i thief))]) rfl ?_
  refine xr_aload_n (n := 0) (i := 0) rfl (List.mem_of_getElem? (i := 0) rfl) (by decide +kernel) ?_
  refine xr_iload_n (n := 1) (i := 1) rfl (List.mem_of_getElem? (i := 1) rfl) (by decide +kernel) ?_
  refine xr_callV (av := [(sh_i thief)]) rfl rfl rfl mo_Sto_isThief ml_Sto_138 im_Sto_isThief se_Sto_isThief rfl (Nat.le_of_ble_eq_true rfl) (by decide +kernel) (sh_mono k ?_)
  rintro rv m1 ⟨r1, rfl, k⟩
  show sh_X g (d + 1) m_Sto_freed _ _ [(sh_i r1)] _ _
  refine xr_if_eq (a' := (i3 r1)) rfl (off := 18) (tgt := 23) (by decide) (by decide +kernel) ⟨fun c1 => ?_, fun c1 => ?_⟩
  · have k := k.1 c1
    refine xr_iconst (n := (-1)) (by decide +kernel) ?_
    exact xr_iret rfl (by decide +kernel) k
  · have k := k.2 c1
    refine xr_aload_n (n := 0) (i := 0) rfl (List.mem_of_getElem? (i := 0) rfl) (by decide +kernel) ?_
    refine xr_getR (o := 4) rfl fl_Sto_28 rfl (by decide +kernel) ?_
    show sh_X g (d + 1) m_Sto_freed _ _ ((sh_r 5) :: _) _ _
    refine xr_getR (o := 1) rfl fl_Sto_132 rfl (by decide +kernel) ?_
    show sh_X g (d + 1) m_Sto_freed _ _ ((sh_r 6) :: _) _ _
    refine xr_bipush (n := 28) (v := 28) (by decide) (by decide +kernel) ?_
    refine xr_iload_n (n := 1) (i := 1) rfl (List.mem_of_getElem? (i := 1) rfl) (by decide +kernel) ?_
    refine xr_iadd (by decide +kernel) ?_
    show sh_X g (d + 1) m_Sto_freed _ _ ((sh_i (28 + thief)) :: _) _ _
    obtain ⟨o, k⟩ := k
    refine xr_iald rfl o.1 o.2 (by decide +kernel) ?_
    refine xr_goto (off := 4) (tgt := 24) (by decide) (by decide +kernel) ?_
    exact xr_iret rfl (by decide +kernel) k

theorem v_Sto_opens {g : sh_G} {d : Nat} {thief : Int} {day : Int} {B : Nat} (hB : ob0 B) {mem : sh_Mem} {Q : Option sh_V → sh_Mem → Prop}  (k : (sh_Cal g d m_Sto_isThief [(sh_r 1), (sh_i thief)] mem fun rv m1 => ∃ r1 : Int, rv = some (sh_i r1) ∧ (((i3 r1) = 0 → Q (some (sh_i (-1))) m1) ∧ (¬ (i3 r1) = 0 → (sh_Cal g d m_Sto_isDay [(sh_r 1), (sh_i day)] m1 fun rv m2 => ∃ r2 : Int, rv = some (sh_i r2) ∧ ((¬ (i3 r2) = 0 → sh_X g (d + 1) m_Sto_opens 20 [(0, (sh_r 1)), (1, (sh_i thief)), (2, (sh_i day)), (3, (sh_i 0))] [] m2 (sh_K m_Sto_opens Q)) ∧ ((i3 r2) = 0 → Q (some (sh_i (-1))) m2))))))) : sh_Cal g (d + 1) m_Sto_opens [(sh_r 1), (sh_i thief), (sh_i day)] mem Q := by
  refine sh_met (by decide +kernel) (Nat.le_of_ble_eq_true rfl) (lo := [(0, (sh_r 1)), (1, (sh_i thief)), (2, (sh_i day))]) rfl ?_
  refine xr_aload_n (n := 0) (i := 0) rfl (List.mem_of_getElem? (i := 0) rfl) (by decide +kernel) ?_
  refine xr_iload_n (n := 1) (i := 1) rfl (List.mem_of_getElem? (i := 1) rfl) (by decide +kernel) ?_
  refine xr_callV (av := [(sh_i thief)]) rfl rfl rfl mo_Sto_isThief ml_Sto_138 im_Sto_isThief se_Sto_isThief rfl (Nat.le_of_ble_eq_true rfl) (by decide +kernel) (sh_mono k ?_)
  rintro rv m1 ⟨r1, rfl, k⟩
  show sh_X g (d + 1) m_Sto_opens _ _ [(sh_i r1)] _ _
  refine xr_if_eq (a' := (i3 r1)) rfl (off := 11) (tgt := 16) (by decide) (by decide +kernel) ⟨fun c1 => ?_, fun c1 => ?_⟩
  · have k := k.1 c1
    refine xr_iconst (n := (-1)) (by decide +kernel) ?_
    exact xr_iret rfl (by decide +kernel) k
  · have k := k.2 c1
    refine xr_aload_n (n := 0) (i := 0) rfl (List.mem_of_getElem? (i := 0) rfl) (by decide +kernel) ?_
    refine xr_iload_n (n := 2) (i := 2) rfl (List.mem_of_getElem? (i := 2) rfl) (by decide +kernel) ?_
    refine xr_callV (av := [(sh_i day)]) rfl rfl rfl mo_Sto_isDay ml_Sto_121 im_Sto_isDay se_Sto_isDay rfl (Nat.le_of_ble_eq_true rfl) (by decide +kernel) (sh_mono k ?_)
    rintro rv m2 ⟨r2, rfl, k⟩
    show sh_X g (d + 1) m_Sto_opens _ _ [(sh_i r2)] _ _
    refine xr_if_ne (a' := (i3 r2)) rfl (off := 5) (tgt := 18) (by decide) (by decide +kernel) ⟨fun c2 => ?_, fun c2 => ?_⟩
    · have k := k.1 c2
      refine xr_iconst (n := 0) (by decide +kernel) ?_
      refine xr_istore_n (n := 3) (i := 3) rfl (by decide) rfl (by decide +kernel) ?_
      refine xr_sub (lo' := [(0, (sh_r 1)), (1, (sh_i thief)), (2, (sh_i day)), (3, (sh_i 0))]) [1, 2, 3, 0] rfl ?_
      exact k
    · have k := k.2 c2
      refine xr_iconst (n := (-1)) (by decide +kernel) ?_
      exact xr_iret rfl (by decide +kernel) k
theorem v_Sto_opens_20 {g : sh_G} {d : Nat} {thief : Int} {day : Int} {B : Nat} (hB : ob0 B) {mem : sh_Mem} {Q : Option sh_V → sh_Mem → Prop}  {x3 : Nat} (k : ((60 < (i3 (x3 : Int)) → Q (some (sh_i (-1))) mem) ∧ (¬ 60 < (i3 (x3 : Int)) → (mem 1 9 = (B : Int) ∧ (sh_Cal g d m_State_isOpenBehind [(sh_r 5), (sh_r B), (sh_i thief), (sh_i day), (sh_i (x3 : Int))] mem fun rv m1 => ∃ r1 : Int, rv = some (sh_i r1) ∧ (((i3 r1) = 0 → sh_X g (d + 1) m_Sto_opens 20 [(0, (sh_r 1)), (1, (sh_i thief)), (2, (sh_i day)), (3, (sh_i (((x3 + 1) : Nat) : Int)))] [] m1 (sh_K m_Sto_opens Q)) ∧ (¬ (i3 r1) = 0 → Q (some (sh_i (x3 : Int))) m1))))))) : sh_X g (d + 1) m_Sto_opens 20 [(0, (sh_r 1)), (1, (sh_i thief)), (2, (sh_i day)), (3, (sh_i (x3 : Int)))] [] mem (sh_K m_Sto_opens Q) := by
  refine xr_iload_n (n := 3) (i := 3) rfl (List.mem_of_getElem? (i := 3) rfl) (by decide +kernel) ?_
  refine xr_bipush (n := 60) (v := 60) (by decide) (by decide +kernel) ?_
  refine xr_icmp_gt (a' := (i3 (x3 : Int))) (b' := 60) rfl (by decide) (off := 28) (tgt := 51) (by decide) (by decide +kernel) ⟨fun c1 => ?_, fun c1 => ?_⟩
  · have k := k.1 c1
    refine xr_iconst (n := (-1)) (by decide +kernel) ?_
    exact xr_iret rfl (by decide +kernel) k
  · have k := k.2 c1
    refine xr_aload_n (n := 0) (i := 0) rfl (List.mem_of_getElem? (i := 0) rfl) (by decide +kernel) ?_
    refine xr_getR (o := 4) rfl fl_Sto_28 rfl (by decide +kernel) ?_
    show sh_X g (d + 1) m_Sto_opens _ _ ((sh_r 5) :: _) _ _
    refine xr_aload_n (n := 0) (i := 0) rfl (List.mem_of_getElem? (i := 0) rfl) (by decide +kernel) ?_
    obtain ⟨o, k⟩ := k
    refine xr_getD (b := B) rfl fl_Sto_72 rfl o (by decide +kernel) ?_
    refine xr_iload_n (n := 1) (i := 1) rfl (List.mem_of_getElem? (i := 1) rfl) (by decide +kernel) ?_
    refine xr_iload_n (n := 2) (i := 2) rfl (List.mem_of_getElem? (i := 2) rfl) (by decide +kernel) ?_
    refine xr_iload_n (n := 3) (i := 3) rfl (List.mem_of_getElem? (i := 3) rfl) (by decide +kernel) ?_
    refine xr_callV (av := [(sh_r B), (sh_i thief), (sh_i day), (sh_i (x3 : Int))]) rfl rfl rfl mo_State_isOpenBehind ml_Sto_227 im_State_isOpenBehind se_State_isOpenBehind rfl (Nat.le_of_ble_eq_true rfl) (by decide +kernel) (sh_mono k ?_)
    rintro rv m1 ⟨r1, rfl, k⟩
    show sh_X g (d + 1) m_Sto_opens _ _ [(sh_i r1)] _ _
    refine xr_if_eq (a' := (i3 r1)) rfl (off := 5) (tgt := 45) (by decide) (by decide +kernel) ⟨fun c2 => ?_, fun c2 => ?_⟩
    · have k := k.1 c2
      refine xr_iinc (n := 1) (lo' := [(3, (sh_i (((x3 + 1) : Nat) : Int))), (0, (sh_r 1)), (1, (sh_i thief)), (2, (sh_i day))]) (List.mem_of_getElem? (i := 3) rfl) (by decide) rfl (by decide +kernel) ?_
      refine xr_goto (off := (-28)) (tgt := 20) (by decide) (by decide +kernel) ?_
      refine xr_sub (lo' := [(0, (sh_r 1)), (1, (sh_i thief)), (2, (sh_i day)), (3, (sh_i (((x3 + 1) : Nat) : Int)))]) [1, 2, 3, 0] rfl ?_
      exact k
    · have k := k.2 c2
      refine xr_iload_n (n := 3) (i := 3) rfl (List.mem_of_getElem? (i := 3) rfl) (by decide +kernel) ?_
      exact xr_iret rfl (by decide +kernel) k

theorem v_Sto_whole {g : sh_G} {d : Nat}  {B : Nat} (hB : ob0 B) {mem : sh_Mem} {Q : Option sh_V → sh_Mem → Prop}  (k : sh_X g (d + 1) m_Sto_whole 4 [(0, (sh_r 1)), (1, (sh_i 0)), (2, (sh_i 0))] [] mem (sh_K m_Sto_whole Q)) : sh_Cal g (d + 1) m_Sto_whole [(sh_r 1)] mem Q := by
  refine sh_met (by decide +kernel) (Nat.le_of_ble_eq_true rfl) (lo := [(0, (sh_r 1))]) rfl ?_
  refine xr_iconst (n := 0) (by decide +kernel) ?_
  refine xr_istore_n (n := 1) (i := 1) rfl (by decide) rfl (by decide +kernel) ?_
  refine xr_iconst (n := 0) (by decide +kernel) ?_
  refine xr_istore_n (n := 2) (i := 2) rfl (by decide) rfl (by decide +kernel) ?_
  refine xr_sub (lo' := [(0, (sh_r 1)), (1, (sh_i 0)), (2, (sh_i 0))]) [2, 1, 0] rfl ?_
  exact k
theorem v_Sto_whole_4 {g : sh_G} {d : Nat}  {B : Nat} (hB : ob0 B) {mem : sh_Mem} {Q : Option sh_V → sh_Mem → Prop}  {x1 : Int} {x2 : Nat} (k : (mem 1 9 = (B : Int) ∧ (((i3 (mem B 0)) ≤ (i3 (x2 : Int)) → ((60 < (i3 x1) → Q (some (sh_i (-1))) mem) ∧ (¬ 60 < (i3 x1) → Q (some (sh_i x1)) mem))) ∧ (¬ (i3 (mem B 0)) ≤ (i3 (x2 : Int)) → (mem 1 9 = (B : Int) ∧ (x2 < 8 ∧ (x2 < 45 ∧ sh_X g (d + 1) m_Sto_whole 4 [(0, (sh_r 1)), (1, (sh_i (if (i3 x1) < (i3 ((mem (B + 3) x2) - (mem 6 x2))) then ((mem (B + 3) x2) - (mem 6 x2)) else x1))), (2, (sh_i (((x2 + 1) : Nat) : Int)))] [] mem (sh_K m_Sto_whole Q)))))))) : sh_X g (d + 1) m_Sto_whole 4 [(0, (sh_r 1)), (1, (sh_i x1)), (2, (sh_i (x2 : Int)))] [] mem (sh_K m_Sto_whole Q) := by
  refine xr_iload_n (n := 2) (i := 2) rfl (List.mem_of_getElem? (i := 2) rfl) (by decide +kernel) ?_
  refine xr_aload_n (n := 0) (i := 0) rfl (List.mem_of_getElem? (i := 0) rfl) (by decide +kernel) ?_
  obtain ⟨o, k⟩ := k
  refine xr_getD (b := B) rfl fl_Sto_72 rfl o (by decide +kernel) ?_
  refine xr_getI (ob0_0 hB) fl_Sto_201 (by decide) (by decide +kernel) ?_
  refine xr_icmp_ge (a' := (i3 (x2 : Int))) (b' := (i3 (mem B 0))) rfl rfl (off := 35) (tgt := 47) (by decide) (by decide +kernel) ⟨fun c1 => ?_, fun c1 => ?_⟩
  · have k := k.1 c1
    refine xr_iload_n (n := 1) (i := 1) rfl (List.mem_of_getElem? (i := 1) rfl) (by decide +kernel) ?_
    refine xr_bipush (n := 60) (v := 60) (by decide) (by decide +kernel) ?_
    refine xr_icmp_gt (a' := (i3 x1)) (b' := 60) rfl (by decide) (off := 7) (tgt := 57) (by decide) (by decide +kernel) ⟨fun c2 => ?_, fun c2 => ?_⟩
    · have k := k.1 c2
      refine xr_iconst (n := (-1)) (by decide +kernel) ?_
      exact xr_iret rfl (by decide +kernel) k
    · have k := k.2 c2
      refine xr_iload_n (n := 1) (i := 1) rfl (List.mem_of_getElem? (i := 1) rfl) (by decide +kernel) ?_
      refine xr_goto (off := 4) (tgt := 58) (by decide) (by decide +kernel) ?_
      exact xr_iret rfl (by decide +kernel) k
  · have k := k.2 c1
    refine xr_iload_n (n := 1) (i := 1) rfl (List.mem_of_getElem? (i := 1) rfl) (by decide +kernel) ?_
    refine xr_aload_n (n := 0) (i := 0) rfl (List.mem_of_getElem? (i := 0) rfl) (by decide +kernel) ?_
    obtain ⟨o, k⟩ := k
    refine xr_getD (b := B) rfl fl_Sto_72 rfl o (by decide +kernel) ?_
    refine xr_getR (o := 3) (ob0_0 hB) fl_Sto_129 rfl (by decide +kernel) ?_
    show sh_X g (d + 1) m_Sto_whole _ _ ((sh_r (B + 3)) :: _) _ _
    refine xr_iload_n (n := 2) (i := 2) rfl (List.mem_of_getElem? (i := 2) rfl) (by decide +kernel) ?_
    obtain ⟨o, k⟩ := k
    refine xr_ialdN (j := x2) rfl (ob0_3 hB) o (by decide +kernel) ?_
    refine xr_aload_n (n := 0) (i := 0) rfl (List.mem_of_getElem? (i := 0) rfl) (by decide +kernel) ?_
    refine xr_getR (o := 4) rfl fl_Sto_28 rfl (by decide +kernel) ?_
    show sh_X g (d + 1) m_Sto_whole _ _ ((sh_r 5) :: _) _ _
    refine xr_getR (o := 1) rfl fl_Sto_132 rfl (by decide +kernel) ?_
    show sh_X g (d + 1) m_Sto_whole _ _ ((sh_r 6) :: _) _ _
    refine xr_iconst (n := 0) (by decide +kernel) ?_
    refine xr_iload_n (n := 2) (i := 2) rfl (List.mem_of_getElem? (i := 2) rfl) (by decide +kernel) ?_
    refine xr_iadd (by decide +kernel) ?_
    rw [Int.zero_add]
    show sh_X g (d + 1) m_Sto_whole _ _ ((sh_i (x2 : Int)) :: _) _ _
    obtain ⟨o, k⟩ := k
    refine xr_ialdN (j := x2) rfl rfl o (by decide +kernel) ?_
    refine xr_isub (by decide +kernel) ?_
    show sh_X g (d + 1) m_Sto_whole _ _ ((sh_i ((mem (B + 3) x2) - (mem 6 x2))) :: _) _ _
    refine xr_mmax ml_Sto_231 (Nat.le_of_ble_eq_true rfl) (by decide +kernel) ?_
    refine xr_istore_n (n := 1) (i := 1) rfl (by decide) rfl (by decide +kernel) ?_
    refine xr_iinc (n := 1) (lo' := [(2, (sh_i (((x2 + 1) : Nat) : Int))), (1, (sh_i (if (i3 x1) < (i3 ((mem (B + 3) x2) - (mem 6 x2))) then ((mem (B + 3) x2) - (mem 6 x2)) else x1))), (0, (sh_r 1))]) (List.mem_of_getElem? (i := 2) rfl) (by decide) rfl (by decide +kernel) ?_
    refine xr_goto (off := (-40)) (tgt := 4) (by decide) (by decide +kernel) ?_
    refine xr_sub (lo' := [(0, (sh_r 1)), (1, (sh_i (if (i3 x1) < (i3 ((mem (B + 3) x2) - (mem 6 x2))) then ((mem (B + 3) x2) - (mem 6 x2)) else x1))), (2, (sh_i (((x2 + 1) : Nat) : Int)))]) [2, 1, 0] rfl ?_
    exact k

theorem v_Sto_waits {g : sh_G} {d : Nat} {thief : Int} {what : Int} {B : Nat} (hB : ob0 B) {mem : sh_Mem} {Q : Option sh_V → sh_Mem → Prop}  (k : (sh_Cal g d m_Sto_isThief [(sh_r 1), (sh_i thief)] mem fun rv m1 => ∃ r1 : Int, rv = some (sh_i r1) ∧ (((i3 r1) = 0 → Q (some (sh_i (-1))) m1) ∧ (¬ (i3 r1) = 0 → (sh_Cal g d m_Sto_isWithin [(sh_i what), (sh_i 0), (sh_i 1)] m1 fun rv m2 => ∃ r2 : Int, rv = some (sh_i r2) ∧ (((i3 r2) = 0 → Q (some (sh_i (-1))) m2) ∧ (¬ (i3 r2) = 0 → (sh_Cal g d m_State_hasPiece [(sh_r 5), (sh_i thief)] m2 fun rv m3 => ∃ r3 : Int, rv = some (sh_i r3) ∧ ((¬ (i3 r3) = 0 → sh_X g (d + 1) m_Sto_waits 38 [(0, (sh_r 1)), (1, (sh_i thief)), (2, (sh_i what)), (3, (sh_i (-1))), (4, (sh_i 0)), (5, (sh_i 0))] [] m3 (sh_K m_Sto_waits Q)) ∧ ((i3 r3) = 0 → Q (some (sh_i (-1))) m3)))))))))) : sh_Cal g (d + 1) m_Sto_waits [(sh_r 1), (sh_i thief), (sh_i what)] mem Q := by
  refine sh_met (by decide +kernel) (Nat.le_of_ble_eq_true rfl) (lo := [(0, (sh_r 1)), (1, (sh_i thief)), (2, (sh_i what))]) rfl ?_
  refine xr_aload_n (n := 0) (i := 0) rfl (List.mem_of_getElem? (i := 0) rfl) (by decide +kernel) ?_
  refine xr_iload_n (n := 1) (i := 1) rfl (List.mem_of_getElem? (i := 1) rfl) (by decide +kernel) ?_
  refine xr_callV (av := [(sh_i thief)]) rfl rfl rfl mo_Sto_isThief ml_Sto_138 im_Sto_isThief se_Sto_isThief rfl (Nat.le_of_ble_eq_true rfl) (by decide +kernel) (sh_mono k ?_)
  rintro rv m1 ⟨r1, rfl, k⟩
  show sh_X g (d + 1) m_Sto_waits _ _ [(sh_i r1)] _ _
  refine xr_if_eq (a' := (i3 r1)) rfl (off := 23) (tgt := 28) (by decide) (by decide +kernel) ⟨fun c1 => ?_, fun c1 => ?_⟩
  · have k := k.1 c1
    refine xr_iconst (n := (-1)) (by decide +kernel) ?_
    exact xr_iret rfl (by decide +kernel) k
  · have k := k.2 c1
    refine xr_iload_n (n := 2) (i := 2) rfl (List.mem_of_getElem? (i := 2) rfl) (by decide +kernel) ?_
    refine xr_iconst (n := 0) (by decide +kernel) ?_
    refine xr_iconst (n := 1) (by decide +kernel) ?_
    refine xr_callS (av := [(sh_i what), (sh_i 0), (sh_i 1)]) mo_Sto_isWithin ml_Sto_213 sa_Sto_isWithin rfl (Nat.le_of_ble_eq_true rfl) (by decide +kernel) (sh_mono k ?_)
    rintro rv m2 ⟨r2, rfl, k⟩
    show sh_X g (d + 1) m_Sto_waits _ _ [(sh_i r2)] _ _
    refine xr_if_eq (a' := (i3 r2)) rfl (off := 14) (tgt := 28) (by decide) (by decide +kernel) ⟨fun c2 => ?_, fun c2 => ?_⟩
    · have k := k.1 c2
      refine xr_iconst (n := (-1)) (by decide +kernel) ?_
      exact xr_iret rfl (by decide +kernel) k
    · have k := k.2 c2
      refine xr_aload_n (n := 0) (i := 0) rfl (List.mem_of_getElem? (i := 0) rfl) (by decide +kernel) ?_
      refine xr_getR (o := 4) rfl fl_Sto_28 rfl (by decide +kernel) ?_
      show sh_X g (d + 1) m_Sto_waits _ _ ((sh_r 5) :: _) _ _
      refine xr_iload_n (n := 1) (i := 1) rfl (List.mem_of_getElem? (i := 1) rfl) (by decide +kernel) ?_
      refine xr_callV (av := [(sh_i thief)]) rfl rfl rfl mo_State_hasPiece ml_Sto_147 im_State_hasPiece se_State_hasPiece rfl (Nat.le_of_ble_eq_true rfl) (by decide +kernel) (sh_mono k ?_)
      rintro rv m3 ⟨r3, rfl, k⟩
      show sh_X g (d + 1) m_Sto_waits _ _ [(sh_i r3)] _ _
      refine xr_if_ne (a' := (i3 r3)) rfl (off := 5) (tgt := 30) (by decide) (by decide +kernel) ⟨fun c3 => ?_, fun c3 => ?_⟩
      · have k := k.1 c3
        refine xr_iconst (n := (-1)) (by decide +kernel) ?_
        refine xr_istore_n (n := 3) (i := 3) rfl (by decide) rfl (by decide +kernel) ?_
        refine xr_iconst (n := 0) (by decide +kernel) ?_
        refine xr_istore (i := 4) (by decide) rfl (by decide +kernel) ?_
        refine xr_iconst (n := 0) (by decide +kernel) ?_
        refine xr_istore (i := 5) (by decide) rfl (by decide +kernel) ?_
        refine xr_sub (lo' := [(0, (sh_r 1)), (1, (sh_i thief)), (2, (sh_i what)), (3, (sh_i (-1))), (4, (sh_i 0)), (5, (sh_i 0))]) [3, 4, 5, 2, 1, 0] rfl ?_
        exact k
      · have k := k.2 c3
        refine xr_iconst (n := (-1)) (by decide +kernel) ?_
        exact xr_iret rfl (by decide +kernel) k
theorem v_Sto_waits_38 {g : sh_G} {d : Nat} {thief : Int} {what : Int} {B : Nat} (hB : ob0 B) {mem : sh_Mem} {Q : Option sh_V → sh_Mem → Prop}  {x3 : Int} {x4 : Int} {x5 : Nat} (k : ((30 < (i3 (x5 : Int)) → ((¬ (i3 what) = 0 → Q (some (sh_i x3)) mem) ∧ ((i3 what) = 0 → Q (some (sh_i x4)) mem))) ∧ (¬ 30 < (i3 (x5 : Int)) → (mem 1 9 = (B : Int) ∧ (sh_Cal g d m_State_paidBehind [(sh_r 5), (sh_r B), (sh_i thief), (sh_i (x5 : Int))] mem fun rv m1 => ∃ r1 : Int, rv = some (sh_i r1) ∧ (((i3 r1) ≤ (i3 x3) → sh_X g (d + 1) m_Sto_waits 38 [(0, (sh_r 1)), (1, (sh_i thief)), (2, (sh_i what)), (3, (sh_i x3)), (4, (sh_i x4)), (5, (sh_i (((x5 + 1) : Nat) : Int)))] [] m1 (sh_K m_Sto_waits Q)) ∧ (¬ (i3 r1) ≤ (i3 x3) → sh_X g (d + 1) m_Sto_waits 38 [(0, (sh_r 1)), (1, (sh_i thief)), (2, (sh_i what)), (3, (sh_i r1)), (4, (sh_i (x5 : Int))), (5, (sh_i (((x5 + 1) : Nat) : Int)))] [] m1 (sh_K m_Sto_waits Q)))))))) : sh_X g (d + 1) m_Sto_waits 38 [(0, (sh_r 1)), (1, (sh_i thief)), (2, (sh_i what)), (3, (sh_i x3)), (4, (sh_i x4)), (5, (sh_i (x5 : Int)))] [] mem (sh_K m_Sto_waits Q) := by
  refine xr_iload (i := 5) (List.mem_of_getElem? (i := 5) rfl) (by decide +kernel) ?_
  refine xr_bipush (n := 30) (v := 30) (by decide) (by decide +kernel) ?_
  refine xr_icmp_gt (a' := (i3 (x5 : Int))) (b' := 30) rfl (by decide) (off := 38) (tgt := 80) (by decide) (by decide +kernel) ⟨fun c1 => ?_, fun c1 => ?_⟩
  · have k := k.1 c1
    refine xr_iload_n (n := 2) (i := 2) rfl (List.mem_of_getElem? (i := 2) rfl) (by decide +kernel) ?_
    refine xr_if_ne (a' := (i3 what)) rfl (off := 8) (tgt := 89) (by decide) (by decide +kernel) ⟨fun c2 => ?_, fun c2 => ?_⟩
    · have k := k.1 c2
      refine xr_iload_n (n := 3) (i := 3) rfl (List.mem_of_getElem? (i := 3) rfl) (by decide +kernel) ?_
      exact xr_iret rfl (by decide +kernel) k
    · have k := k.2 c2
      refine xr_iload (i := 4) (List.mem_of_getElem? (i := 4) rfl) (by decide +kernel) ?_
      refine xr_goto (off := 4) (tgt := 90) (by decide) (by decide +kernel) ?_
      exact xr_iret rfl (by decide +kernel) k
  · have k := k.2 c1
    refine xr_aload_n (n := 0) (i := 0) rfl (List.mem_of_getElem? (i := 0) rfl) (by decide +kernel) ?_
    refine xr_getR (o := 4) rfl fl_Sto_28 rfl (by decide +kernel) ?_
    show sh_X g (d + 1) m_Sto_waits _ _ ((sh_r 5) :: _) _ _
    refine xr_aload_n (n := 0) (i := 0) rfl (List.mem_of_getElem? (i := 0) rfl) (by decide +kernel) ?_
    obtain ⟨o, k⟩ := k
    refine xr_getD (b := B) rfl fl_Sto_72 rfl o (by decide +kernel) ?_
    refine xr_iload_n (n := 1) (i := 1) rfl (List.mem_of_getElem? (i := 1) rfl) (by decide +kernel) ?_
    refine xr_iload (i := 5) (List.mem_of_getElem? (i := 5) rfl) (by decide +kernel) ?_
    refine xr_callV (av := [(sh_r B), (sh_i thief), (sh_i (x5 : Int))]) rfl rfl rfl mo_State_paidBehind ml_Sto_236 im_State_paidBehind se_State_paidBehind rfl (Nat.le_of_ble_eq_true rfl) (by decide +kernel) (sh_mono k ?_)
    rintro rv m1 ⟨r1, rfl, k⟩
    show sh_X g (d + 1) m_Sto_waits _ _ [(sh_i r1)] _ _
    refine xr_istore (i := 6) (by decide) rfl (by decide +kernel) ?_
    refine xr_iload (i := 6) (List.mem_of_getElem? (i := 0) rfl) (by decide +kernel) ?_
    refine xr_iload_n (n := 3) (i := 3) rfl (List.mem_of_getElem? (i := 4) rfl) (by decide +kernel) ?_
    refine xr_icmp_le (a' := (i3 r1)) (b' := (i3 x3)) rfl rfl (off := 10) (tgt := 74) (by decide) (by decide +kernel) ⟨fun c3 => ?_, fun c3 => ?_⟩
    · have k := k.1 c3
      refine xr_iinc (n := 1) (lo' := [(5, (sh_i (((x5 + 1) : Nat) : Int))), (6, (sh_i r1)), (0, (sh_r 1)), (1, (sh_i thief)), (2, (sh_i what)), (3, (sh_i x3)), (4, (sh_i x4))]) (List.mem_of_getElem? (i := 6) rfl) (by decide) rfl (by decide +kernel) ?_
      refine xr_goto (off := (-39)) (tgt := 38) (by decide) (by decide +kernel) ?_
      refine xr_sub (lo' := [(0, (sh_r 1)), (1, (sh_i thief)), (2, (sh_i what)), (3, (sh_i x3)), (4, (sh_i x4)), (5, (sh_i (((x5 + 1) : Nat) : Int)))]) [2, 3, 4, 5, 6, 0] rfl ?_
      exact k
    · have k := k.2 c3
      refine xr_iload (i := 6) (List.mem_of_getElem? (i := 0) rfl) (by decide +kernel) ?_
      refine xr_istore_n (n := 3) (i := 3) rfl (by decide) rfl (by decide +kernel) ?_
      refine xr_iload (i := 5) (List.mem_of_getElem? (i := 6) rfl) (by decide +kernel) ?_
      refine xr_istore (i := 4) (by decide) rfl (by decide +kernel) ?_
      refine xr_iinc (n := 1) (lo' := [(5, (sh_i (((x5 + 1) : Nat) : Int))), (4, (sh_i (x5 : Int))), (3, (sh_i r1)), (6, (sh_i r1)), (0, (sh_r 1)), (1, (sh_i thief)), (2, (sh_i what))]) (List.mem_of_getElem? (i := 6) rfl) (by decide) rfl (by decide +kernel) ?_
      refine xr_goto (off := (-39)) (tgt := 38) (by decide) (by decide +kernel) ?_
      refine xr_sub (lo' := [(0, (sh_r 1)), (1, (sh_i thief)), (2, (sh_i what)), (3, (sh_i r1)), (4, (sh_i (x5 : Int))), (5, (sh_i (((x5 + 1) : Nat) : Int)))]) [4, 5, 6, 2, 1, 0] rfl ?_
      exact k

theorem v_Sto_glads {g : sh_G} {d : Nat} {thief : Int} {what : Int}  {mem : sh_Mem} {Q : Option sh_V → sh_Mem → Prop}  (k : (sh_Cal g d m_Sto_isThief [(sh_r 1), (sh_i thief)] mem fun rv m1 => ∃ r1 : Int, rv = some (sh_i r1) ∧ (((i3 r1) = 0 → Q (some (sh_i (-1))) m1) ∧ (¬ (i3 r1) = 0 → (sh_Cal g d m_Sto_isWithin [(sh_i what), (sh_i 0), (sh_i 1)] m1 fun rv m2 => ∃ r2 : Int, rv = some (sh_i r2) ∧ (((i3 r2) = 0 → Q (some (sh_i (-1))) m2) ∧ (¬ (i3 r2) = 0 → (sh_Cal g d m_State_hasPiece [(sh_r 5), (sh_i thief)] m2 fun rv m3 => ∃ r3 : Int, rv = some (sh_i r3) ∧ ((¬ (i3 r3) = 0 → sh_X g (d + 1) m_Sto_glads 38 [(0, (sh_r 1)), (1, (sh_i thief)), (2, (sh_i what)), (3, (sh_i (-1))), (4, (sh_i 0)), (5, (sh_i 0))] [] m3 (sh_K m_Sto_glads Q)) ∧ ((i3 r3) = 0 → Q (some (sh_i (-1))) m3)))))))))) : sh_Cal g (d + 1) m_Sto_glads [(sh_r 1), (sh_i thief), (sh_i what)] mem Q := by
  refine sh_met (by decide +kernel) (Nat.le_of_ble_eq_true rfl) (lo := [(0, (sh_r 1)), (1, (sh_i thief)), (2, (sh_i what))]) rfl ?_
  refine xr_aload_n (n := 0) (i := 0) rfl (List.mem_of_getElem? (i := 0) rfl) (by decide +kernel) ?_
  refine xr_iload_n (n := 1) (i := 1) rfl (List.mem_of_getElem? (i := 1) rfl) (by decide +kernel) ?_
  refine xr_callV (av := [(sh_i thief)]) rfl rfl rfl mo_Sto_isThief ml_Sto_138 im_Sto_isThief se_Sto_isThief rfl (Nat.le_of_ble_eq_true rfl) (by decide +kernel) (sh_mono k ?_)
  rintro rv m1 ⟨r1, rfl, k⟩
  show sh_X g (d + 1) m_Sto_glads _ _ [(sh_i r1)] _ _
  refine xr_if_eq (a' := (i3 r1)) rfl (off := 23) (tgt := 28) (by decide) (by decide +kernel) ⟨fun c1 => ?_, fun c1 => ?_⟩
  · have k := k.1 c1
    refine xr_iconst (n := (-1)) (by decide +kernel) ?_
    exact xr_iret rfl (by decide +kernel) k
  · have k := k.2 c1
    refine xr_iload_n (n := 2) (i := 2) rfl (List.mem_of_getElem? (i := 2) rfl) (by decide +kernel) ?_
    refine xr_iconst (n := 0) (by decide +kernel) ?_
    refine xr_iconst (n := 1) (by decide +kernel) ?_
    refine xr_callS (av := [(sh_i what), (sh_i 0), (sh_i 1)]) mo_Sto_isWithin ml_Sto_213 sa_Sto_isWithin rfl (Nat.le_of_ble_eq_true rfl) (by decide +kernel) (sh_mono k ?_)
    rintro rv m2 ⟨r2, rfl, k⟩
    show sh_X g (d + 1) m_Sto_glads _ _ [(sh_i r2)] _ _
    refine xr_if_eq (a' := (i3 r2)) rfl (off := 14) (tgt := 28) (by decide) (by decide +kernel) ⟨fun c2 => ?_, fun c2 => ?_⟩
    · have k := k.1 c2
      refine xr_iconst (n := (-1)) (by decide +kernel) ?_
      exact xr_iret rfl (by decide +kernel) k
    · have k := k.2 c2
      refine xr_aload_n (n := 0) (i := 0) rfl (List.mem_of_getElem? (i := 0) rfl) (by decide +kernel) ?_
      refine xr_getR (o := 4) rfl fl_Sto_28 rfl (by decide +kernel) ?_
      show sh_X g (d + 1) m_Sto_glads _ _ ((sh_r 5) :: _) _ _
      refine xr_iload_n (n := 1) (i := 1) rfl (List.mem_of_getElem? (i := 1) rfl) (by decide +kernel) ?_
      refine xr_callV (av := [(sh_i thief)]) rfl rfl rfl mo_State_hasPiece ml_Sto_147 im_State_hasPiece se_State_hasPiece rfl (Nat.le_of_ble_eq_true rfl) (by decide +kernel) (sh_mono k ?_)
      rintro rv m3 ⟨r3, rfl, k⟩
      show sh_X g (d + 1) m_Sto_glads _ _ [(sh_i r3)] _ _
      refine xr_if_ne (a' := (i3 r3)) rfl (off := 5) (tgt := 30) (by decide) (by decide +kernel) ⟨fun c3 => ?_, fun c3 => ?_⟩
      · have k := k.1 c3
        refine xr_iconst (n := (-1)) (by decide +kernel) ?_
        refine xr_istore_n (n := 3) (i := 3) rfl (by decide) rfl (by decide +kernel) ?_
        refine xr_iconst (n := 0) (by decide +kernel) ?_
        refine xr_istore (i := 4) (by decide) rfl (by decide +kernel) ?_
        refine xr_iconst (n := 0) (by decide +kernel) ?_
        refine xr_istore (i := 5) (by decide) rfl (by decide +kernel) ?_
        refine xr_sub (lo' := [(0, (sh_r 1)), (1, (sh_i thief)), (2, (sh_i what)), (3, (sh_i (-1))), (4, (sh_i 0)), (5, (sh_i 0))]) [3, 4, 5, 2, 1, 0] rfl ?_
        exact k
      · have k := k.2 c3
        refine xr_iconst (n := (-1)) (by decide +kernel) ?_
        exact xr_iret rfl (by decide +kernel) k
theorem v_Sto_glads_38 {g : sh_G} {d : Nat} {thief : Int} {what : Int}  {mem : sh_Mem} {Q : Option sh_V → sh_Mem → Prop}  {x3 : Int} {x4 : Int} {x5 : Nat} (k : ((30 < (i3 (x5 : Int)) → ((¬ (i3 what) = 0 → Q (some (sh_i x3)) mem) ∧ ((i3 what) = 0 → Q (some (sh_i x4)) mem))) ∧ (¬ 30 < (i3 (x5 : Int)) → (sh_Cal g d m_State_joyBehind [(sh_r 5), (sh_i thief), (sh_i (x5 : Int))] mem fun rv m1 => ∃ r1 : Int, rv = some (sh_i r1) ∧ (((i3 r1) ≤ (i3 x3) → sh_X g (d + 1) m_Sto_glads 38 [(0, (sh_r 1)), (1, (sh_i thief)), (2, (sh_i what)), (3, (sh_i x3)), (4, (sh_i x4)), (5, (sh_i (((x5 + 1) : Nat) : Int)))] [] m1 (sh_K m_Sto_glads Q)) ∧ (¬ (i3 r1) ≤ (i3 x3) → sh_X g (d + 1) m_Sto_glads 38 [(0, (sh_r 1)), (1, (sh_i thief)), (2, (sh_i what)), (3, (sh_i r1)), (4, (sh_i (x5 : Int))), (5, (sh_i (((x5 + 1) : Nat) : Int)))] [] m1 (sh_K m_Sto_glads Q))))))) : sh_X g (d + 1) m_Sto_glads 38 [(0, (sh_r 1)), (1, (sh_i thief)), (2, (sh_i what)), (3, (sh_i x3)), (4, (sh_i x4)), (5, (sh_i (x5 : Int)))] [] mem (sh_K m_Sto_glads Q) := by
  refine xr_iload (i := 5) (List.mem_of_getElem? (i := 5) rfl) (by decide +kernel) ?_
  refine xr_bipush (n := 30) (v := 30) (by decide) (by decide +kernel) ?_
  refine xr_icmp_gt (a' := (i3 (x5 : Int))) (b' := 30) rfl (by decide) (off := 34) (tgt := 76) (by decide) (by decide +kernel) ⟨fun c1 => ?_, fun c1 => ?_⟩
  · have k := k.1 c1
    refine xr_iload_n (n := 2) (i := 2) rfl (List.mem_of_getElem? (i := 2) rfl) (by decide +kernel) ?_
    refine xr_if_ne (a' := (i3 what)) rfl (off := 8) (tgt := 85) (by decide) (by decide +kernel) ⟨fun c2 => ?_, fun c2 => ?_⟩
    · have k := k.1 c2
      refine xr_iload_n (n := 3) (i := 3) rfl (List.mem_of_getElem? (i := 3) rfl) (by decide +kernel) ?_
      exact xr_iret rfl (by decide +kernel) k
    · have k := k.2 c2
      refine xr_iload (i := 4) (List.mem_of_getElem? (i := 4) rfl) (by decide +kernel) ?_
      refine xr_goto (off := 4) (tgt := 86) (by decide) (by decide +kernel) ?_
      exact xr_iret rfl (by decide +kernel) k
  · have k := k.2 c1
    refine xr_aload_n (n := 0) (i := 0) rfl (List.mem_of_getElem? (i := 0) rfl) (by decide +kernel) ?_
    refine xr_getR (o := 4) rfl fl_Sto_28 rfl (by decide +kernel) ?_
    show sh_X g (d + 1) m_Sto_glads _ _ ((sh_r 5) :: _) _ _
    refine xr_iload_n (n := 1) (i := 1) rfl (List.mem_of_getElem? (i := 1) rfl) (by decide +kernel) ?_
    refine xr_iload (i := 5) (List.mem_of_getElem? (i := 5) rfl) (by decide +kernel) ?_
    refine xr_callV (av := [(sh_i thief), (sh_i (x5 : Int))]) rfl rfl rfl mo_State_joyBehind ml_Sto_239 im_State_joyBehind se_State_joyBehind rfl (Nat.le_of_ble_eq_true rfl) (by decide +kernel) (sh_mono k ?_)
    rintro rv m1 ⟨r1, rfl, k⟩
    show sh_X g (d + 1) m_Sto_glads _ _ [(sh_i r1)] _ _
    refine xr_istore (i := 6) (by decide) rfl (by decide +kernel) ?_
    refine xr_iload (i := 6) (List.mem_of_getElem? (i := 0) rfl) (by decide +kernel) ?_
    refine xr_iload_n (n := 3) (i := 3) rfl (List.mem_of_getElem? (i := 4) rfl) (by decide +kernel) ?_
    refine xr_icmp_le (a' := (i3 r1)) (b' := (i3 x3)) rfl rfl (off := 10) (tgt := 70) (by decide) (by decide +kernel) ⟨fun c3 => ?_, fun c3 => ?_⟩
    · have k := k.1 c3
      refine xr_iinc (n := 1) (lo' := [(5, (sh_i (((x5 + 1) : Nat) : Int))), (6, (sh_i r1)), (0, (sh_r 1)), (1, (sh_i thief)), (2, (sh_i what)), (3, (sh_i x3)), (4, (sh_i x4))]) (List.mem_of_getElem? (i := 6) rfl) (by decide) rfl (by decide +kernel) ?_
      refine xr_goto (off := (-35)) (tgt := 38) (by decide) (by decide +kernel) ?_
      refine xr_sub (lo' := [(0, (sh_r 1)), (1, (sh_i thief)), (2, (sh_i what)), (3, (sh_i x3)), (4, (sh_i x4)), (5, (sh_i (((x5 + 1) : Nat) : Int)))]) [2, 3, 4, 5, 6, 0] rfl ?_
      exact k
    · have k := k.2 c3
      refine xr_iload (i := 6) (List.mem_of_getElem? (i := 0) rfl) (by decide +kernel) ?_
      refine xr_istore_n (n := 3) (i := 3) rfl (by decide) rfl (by decide +kernel) ?_
      refine xr_iload (i := 5) (List.mem_of_getElem? (i := 6) rfl) (by decide +kernel) ?_
      refine xr_istore (i := 4) (by decide) rfl (by decide +kernel) ?_
      refine xr_iinc (n := 1) (lo' := [(5, (sh_i (((x5 + 1) : Nat) : Int))), (4, (sh_i (x5 : Int))), (3, (sh_i r1)), (6, (sh_i r1)), (0, (sh_r 1)), (1, (sh_i thief)), (2, (sh_i what))]) (List.mem_of_getElem? (i := 6) rfl) (by decide) rfl (by decide +kernel) ?_
      refine xr_goto (off := (-35)) (tgt := 38) (by decide) (by decide +kernel) ?_
      refine xr_sub (lo' := [(0, (sh_r 1)), (1, (sh_i thief)), (2, (sh_i what)), (3, (sh_i r1)), (4, (sh_i (x5 : Int))), (5, (sh_i (((x5 + 1) : Nat) : Int)))]) [4, 5, 6, 2, 1, 0] rfl ?_
      exact k

theorem v_Sto_slack {g : sh_G} {d : Nat} {nights : Int} {B : Nat} (hB : ob0 B) {mem : sh_Mem} {Q : Option sh_V → sh_Mem → Prop}  (k : (sh_Cal g d m_Sto_isWithin [(sh_i nights), (sh_i 0), (sh_i 60)] mem fun rv m1 => ∃ r1 : Int, rv = some (sh_i r1) ∧ ((¬ (i3 r1) = 0 → sh_X g (d + 1) m_Sto_slack 20 [(0, (sh_r 1)), (1, (sh_i nights)), (2, (sh_i (-1))), (3, (sh_i 10)), (4, (sh_i 0))] [] m1 (sh_K m_Sto_slack Q)) ∧ ((i3 r1) = 0 → Q (some (sh_i (-1))) m1)))) : sh_Cal g (d + 1) m_Sto_slack [(sh_r 1), (sh_i nights)] mem Q := by
  refine sh_met (by decide +kernel) (Nat.le_of_ble_eq_true rfl) (lo := [(0, (sh_r 1)), (1, (sh_i nights))]) rfl ?_
  refine xr_iload_n (n := 1) (i := 1) rfl (List.mem_of_getElem? (i := 1) rfl) (by decide +kernel) ?_
  refine xr_iconst (n := 0) (by decide +kernel) ?_
  refine xr_bipush (n := 60) (v := 60) (by decide) (by decide +kernel) ?_
  refine xr_callS (av := [(sh_i nights), (sh_i 0), (sh_i 60)]) mo_Sto_isWithin ml_Sto_213 sa_Sto_isWithin rfl (Nat.le_of_ble_eq_true rfl) (by decide +kernel) (sh_mono k ?_)
  rintro rv m1 ⟨r1, rfl, k⟩
  show sh_X g (d + 1) m_Sto_slack _ _ [(sh_i r1)] _ _
  refine xr_if_ne (a' := (i3 r1)) rfl (off := 5) (tgt := 12) (by decide) (by decide +kernel) ⟨fun c1 => ?_, fun c1 => ?_⟩
  · have k := k.1 c1
    refine xr_iconst (n := (-1)) (by decide +kernel) ?_
    refine xr_istore_n (n := 2) (i := 2) rfl (by decide) rfl (by decide +kernel) ?_
    refine xr_bipush (n := 10) (v := 10) (by decide) (by decide +kernel) ?_
    refine xr_istore_n (n := 3) (i := 3) rfl (by decide) rfl (by decide +kernel) ?_
    refine xr_iconst (n := 0) (by decide +kernel) ?_
    refine xr_istore (i := 4) (by decide) rfl (by decide +kernel) ?_
    refine xr_sub (lo' := [(0, (sh_r 1)), (1, (sh_i nights)), (2, (sh_i (-1))), (3, (sh_i 10)), (4, (sh_i 0))]) [3, 4, 2, 1, 0] rfl ?_
    exact k
  · have k := k.2 c1
    refine xr_iconst (n := (-1)) (by decide +kernel) ?_
    exact xr_iret rfl (by decide +kernel) k
theorem v_Sto_slack_20 {g : sh_G} {d : Nat} {nights : Int} {B : Nat} (hB : ob0 B) {mem : sh_Mem} {Q : Option sh_V → sh_Mem → Prop}  {x2 : Int} {x3 : Int} {x4 : Nat} (k : (mem 1 9 = (B : Int) ∧ (((i3 (mem B 0)) ≤ (i3 (x4 : Int)) → Q (some (sh_i x2)) mem) ∧ (¬ (i3 (mem B 0)) ≤ (i3 (x4 : Int)) → (mem 1 9 = (B : Int) ∧ (sh_Cal g d m_State_guardBehind [(sh_r 5), (sh_r B), (sh_i (x4 : Int)), (sh_i nights)] mem fun rv m1 => ∃ r1 : Int, rv = some (sh_i r1) ∧ (((i3 x3) ≤ (i3 r1) → sh_X g (d + 1) m_Sto_slack 20 [(0, (sh_r 1)), (1, (sh_i nights)), (2, (sh_i x2)), (3, (sh_i x3)), (4, (sh_i (((x4 + 1) : Nat) : Int)))] [] m1 (sh_K m_Sto_slack Q)) ∧ (¬ (i3 x3) ≤ (i3 r1) → sh_X g (d + 1) m_Sto_slack 20 [(0, (sh_r 1)), (1, (sh_i nights)), (2, (sh_i (x4 : Int))), (3, (sh_i r1)), (4, (sh_i (((x4 + 1) : Nat) : Int)))] [] m1 (sh_K m_Sto_slack Q))))))))) : sh_X g (d + 1) m_Sto_slack 20 [(0, (sh_r 1)), (1, (sh_i nights)), (2, (sh_i x2)), (3, (sh_i x3)), (4, (sh_i (x4 : Int)))] [] mem (sh_K m_Sto_slack Q) := by
  refine xr_iload (i := 4) (List.mem_of_getElem? (i := 4) rfl) (by decide +kernel) ?_
  refine xr_aload_n (n := 0) (i := 0) rfl (List.mem_of_getElem? (i := 0) rfl) (by decide +kernel) ?_
  obtain ⟨o, k⟩ := k
  refine xr_getD (b := B) rfl fl_Sto_72 rfl o (by decide +kernel) ?_
  refine xr_getI (ob0_0 hB) fl_Sto_201 (by decide) (by decide +kernel) ?_
  refine xr_icmp_ge (a' := (i3 (x4 : Int))) (b' := (i3 (mem B 0))) rfl rfl (off := 37) (tgt := 66) (by decide) (by decide +kernel) ⟨fun c1 => ?_, fun c1 => ?_⟩
  · have k := k.1 c1
    refine xr_iload_n (n := 2) (i := 2) rfl (List.mem_of_getElem? (i := 2) rfl) (by decide +kernel) ?_
    exact xr_iret rfl (by decide +kernel) k
  · have k := k.2 c1
    refine xr_aload_n (n := 0) (i := 0) rfl (List.mem_of_getElem? (i := 0) rfl) (by decide +kernel) ?_
    refine xr_getR (o := 4) rfl fl_Sto_28 rfl (by decide +kernel) ?_
    show sh_X g (d + 1) m_Sto_slack _ _ ((sh_r 5) :: _) _ _
    refine xr_aload_n (n := 0) (i := 0) rfl (List.mem_of_getElem? (i := 0) rfl) (by decide +kernel) ?_
    obtain ⟨o, k⟩ := k
    refine xr_getD (b := B) rfl fl_Sto_72 rfl o (by decide +kernel) ?_
    refine xr_iload (i := 4) (List.mem_of_getElem? (i := 4) rfl) (by decide +kernel) ?_
    refine xr_iload_n (n := 1) (i := 1) rfl (List.mem_of_getElem? (i := 1) rfl) (by decide +kernel) ?_
    refine xr_callV (av := [(sh_r B), (sh_i (x4 : Int)), (sh_i nights)]) rfl rfl rfl mo_State_guardBehind ml_Sto_220 im_State_guardBehind se_State_guardBehind rfl (Nat.le_of_ble_eq_true rfl) (by decide +kernel) (sh_mono k ?_)
    rintro rv m1 ⟨r1, rfl, k⟩
    show sh_X g (d + 1) m_Sto_slack _ _ [(sh_i r1)] _ _
    refine xr_istore (i := 5) (by decide) rfl (by decide +kernel) ?_
    refine xr_iload (i := 5) (List.mem_of_getElem? (i := 0) rfl) (by decide +kernel) ?_
    refine xr_iload_n (n := 3) (i := 3) rfl (List.mem_of_getElem? (i := 4) rfl) (by decide +kernel) ?_
    refine xr_icmp_ge (a' := (i3 r1)) (b' := (i3 x3)) rfl rfl (off := 9) (tgt := 60) (by decide) (by decide +kernel) ⟨fun c2 => ?_, fun c2 => ?_⟩
    · have k := k.1 c2
      refine xr_iinc (n := 1) (lo' := [(4, (sh_i (((x4 + 1) : Nat) : Int))), (5, (sh_i r1)), (0, (sh_r 1)), (1, (sh_i nights)), (2, (sh_i x2)), (3, (sh_i x3))]) (List.mem_of_getElem? (i := 5) rfl) (by decide) rfl (by decide +kernel) ?_
      refine xr_goto (off := (-43)) (tgt := 20) (by decide) (by decide +kernel) ?_
      refine xr_sub (lo' := [(0, (sh_r 1)), (1, (sh_i nights)), (2, (sh_i x2)), (3, (sh_i x3)), (4, (sh_i (((x4 + 1) : Nat) : Int)))]) [2, 3, 4, 5, 0] rfl ?_
      exact k
    · have k := k.2 c2
      refine xr_iload (i := 5) (List.mem_of_getElem? (i := 0) rfl) (by decide +kernel) ?_
      refine xr_istore_n (n := 3) (i := 3) rfl (by decide) rfl (by decide +kernel) ?_
      refine xr_iload (i := 4) (List.mem_of_getElem? (i := 5) rfl) (by decide +kernel) ?_
      refine xr_istore_n (n := 2) (i := 2) rfl (by decide) rfl (by decide +kernel) ?_
      refine xr_iinc (n := 1) (lo' := [(4, (sh_i (((x4 + 1) : Nat) : Int))), (2, (sh_i (x4 : Int))), (3, (sh_i r1)), (5, (sh_i r1)), (0, (sh_r 1)), (1, (sh_i nights))]) (List.mem_of_getElem? (i := 5) rfl) (by decide) rfl (by decide +kernel) ?_
      refine xr_goto (off := (-43)) (tgt := 20) (by decide) (by decide +kernel) ?_
      refine xr_sub (lo' := [(0, (sh_r 1)), (1, (sh_i nights)), (2, (sh_i (x4 : Int))), (3, (sh_i r1)), (4, (sh_i (((x4 + 1) : Nat) : Int)))]) [4, 5, 1, 2, 0] rfl ?_
      exact k

theorem v_Sto_gang {g : sh_G} {d : Nat} {what : Int} {B : Nat} (hB : ob0 B) {mem : sh_Mem} {Q : Option sh_V → sh_Mem → Prop}  (k : (((i3 what) = (-1) → sh_X g (d + 1) m_Sto_gang 16 [(0, (sh_r 1)), (1, (sh_i what))] [] mem (sh_K m_Sto_gang Q)) ∧ (¬ (i3 what) = (-1) → (sh_Cal g d m_Sto_isThief [(sh_r 1), (sh_i what)] mem fun rv m1 => ∃ r1 : Int, rv = some (sh_i r1) ∧ ((¬ (i3 r1) = 0 → sh_X g (d + 1) m_Sto_gang 16 [(0, (sh_r 1)), (1, (sh_i what))] [] m1 (sh_K m_Sto_gang Q)) ∧ ((i3 r1) = 0 → Q (some (sh_i (-2))) m1)))))) : sh_Cal g (d + 1) m_Sto_gang [(sh_r 1), (sh_i what)] mem Q := by
  refine sh_met (by decide +kernel) (Nat.le_of_ble_eq_true rfl) (lo := [(0, (sh_r 1)), (1, (sh_i what))]) rfl ?_
  refine xr_iload_n (n := 1) (i := 1) rfl (List.mem_of_getElem? (i := 1) rfl) (by decide +kernel) ?_
  refine xr_iconst (n := (-1)) (by decide +kernel) ?_
  refine xr_icmp_eq (a' := (i3 what)) (b' := (-1)) rfl (by decide) (off := 14) (tgt := 16) (by decide) (by decide +kernel) ⟨fun c1 => ?_, fun c1 => ?_⟩
  · have k := k.1 c1
    refine xr_sub (lo' := [(0, (sh_r 1)), (1, (sh_i what))]) [0, 1] rfl ?_
    exact k
  · have k := k.2 c1
    refine xr_aload_n (n := 0) (i := 0) rfl (List.mem_of_getElem? (i := 0) rfl) (by decide +kernel) ?_
    refine xr_iload_n (n := 1) (i := 1) rfl (List.mem_of_getElem? (i := 1) rfl) (by decide +kernel) ?_
    refine xr_callV (av := [(sh_i what)]) rfl rfl rfl mo_Sto_isThief ml_Sto_138 im_Sto_isThief se_Sto_isThief rfl (Nat.le_of_ble_eq_true rfl) (by decide +kernel) (sh_mono k ?_)
    rintro rv m1 ⟨r1, rfl, k⟩
    show sh_X g (d + 1) m_Sto_gang _ _ [(sh_i r1)] _ _
    refine xr_if_ne (a' := (i3 r1)) rfl (off := 6) (tgt := 16) (by decide) (by decide +kernel) ⟨fun c2 => ?_, fun c2 => ?_⟩
    · have k := k.1 c2
      refine xr_sub (lo' := [(0, (sh_r 1)), (1, (sh_i what))]) [0, 1] rfl ?_
      exact k
    · have k := k.2 c2
      refine xr_bipush (n := (-2)) (v := (-2)) (by decide) (by decide +kernel) ?_
      exact xr_iret rfl (by decide +kernel) k
theorem v_Sto_gang_16 {g : sh_G} {d : Nat} {what : Int} {B : Nat} (hB : ob0 B) {mem : sh_Mem} {Q : Option sh_V → sh_Mem → Prop}   (k : (mem 1 9 = (B : Int) ∧ (sh_Cal g d m_Gang_search [(sh_r 15), (sh_r 5), (sh_r B)] mem fun rv m1 => rv = none ∧ ((¬ (i3 what) = (-1) → ((0 ≤ what ∧ what < 4) ∧ Q (some (sh_i (m1 17 (what).toNat))) m1)) ∧ ((i3 what) = (-1) → Q (some (sh_i (m1 15 2))) m1))))) : sh_X g (d + 1) m_Sto_gang 16 [(0, (sh_r 1)), (1, (sh_i what))] [] mem (sh_K m_Sto_gang Q) := by
  refine xr_aload_n (n := 0) (i := 0) rfl (List.mem_of_getElem? (i := 0) rfl) (by decide +kernel) ?_
  refine xr_getR (o := 14) rfl fl_Sto_52 rfl (by decide +kernel) ?_
  show sh_X g (d + 1) m_Sto_gang _ _ ((sh_r 15) :: _) _ _
  refine xr_aload_n (n := 0) (i := 0) rfl (List.mem_of_getElem? (i := 0) rfl) (by decide +kernel) ?_
  refine xr_getR (o := 4) rfl fl_Sto_28 rfl (by decide +kernel) ?_
  show sh_X g (d + 1) m_Sto_gang _ _ ((sh_r 5) :: _) _ _
  refine xr_aload_n (n := 0) (i := 0) rfl (List.mem_of_getElem? (i := 0) rfl) (by decide +kernel) ?_
  obtain ⟨o, k⟩ := k
  refine xr_getD (b := B) rfl fl_Sto_72 rfl o (by decide +kernel) ?_
  refine xr_callV (av := [(sh_r 5), (sh_r B)]) rfl rfl rfl mo_Gang_search ml_Sto_242 im_Gang_search se_Gang_search rfl (Nat.le_of_ble_eq_true rfl) (by decide +kernel) (sh_mono k ?_)
  rintro rv m1 ⟨rfl, k⟩
  show sh_X g (d + 1) m_Sto_gang _ _ [] _ _
  refine xr_iload_n (n := 1) (i := 1) rfl (List.mem_of_getElem? (i := 1) rfl) (by decide +kernel) ?_
  refine xr_iconst (n := (-1)) (by decide +kernel) ?_
  refine xr_icmp_ne (a' := (i3 what)) (b' := (-1)) rfl (by decide) (off := 13) (tgt := 46) (by decide) (by decide +kernel) ⟨fun c1 => ?_, fun c1 => ?_⟩
  · have k := k.1 c1
    refine xr_aload_n (n := 0) (i := 0) rfl (List.mem_of_getElem? (i := 0) rfl) (by decide +kernel) ?_
    refine xr_getR (o := 14) rfl fl_Sto_52 rfl (by decide +kernel) ?_
    show sh_X g (d + 1) m_Sto_gang _ _ ((sh_r 15) :: _) _ _
    refine xr_getR (o := 2) rfl fl_Sto_249 rfl (by decide +kernel) ?_
    show sh_X g (d + 1) m_Sto_gang _ _ ((sh_r 17) :: _) _ _
    refine xr_iload_n (n := 1) (i := 1) rfl (List.mem_of_getElem? (i := 1) rfl) (by decide +kernel) ?_
    obtain ⟨o, k⟩ := k
    refine xr_iald rfl o.1 o.2 (by decide +kernel) ?_
    exact xr_iret rfl (by decide +kernel) k
  · have k := k.2 c1
    refine xr_aload_n (n := 0) (i := 0) rfl (List.mem_of_getElem? (i := 0) rfl) (by decide +kernel) ?_
    refine xr_getR (o := 14) rfl fl_Sto_52 rfl (by decide +kernel) ?_
    show sh_X g (d + 1) m_Sto_gang _ _ ((sh_r 15) :: _) _ _
    refine xr_getI rfl fl_Sto_246 (by decide) (by decide +kernel) ?_
    refine xr_goto (off := 12) (tgt := 55) (by decide) (by decide +kernel) ?_
    exact xr_iret rfl (by decide +kernel) k

theorem v_Sto_cover {g : sh_G} {d : Nat}  {B : Nat} (hB : ob0 B) {mem : sh_Mem} {Q : Option sh_V → sh_Mem → Prop}  (k : (mem 1 9 = (B : Int) ∧ (sh_Cal g d m_State_bestReadySkill [(sh_r 5), (sh_r B)] mem fun rv m1 => ∃ r1 : Int, rv = some (sh_i r1) ∧ sh_X g (d + 1) m_Sto_cover 16 [(0, (sh_r 1)), (1, (sh_i r1)), (2, (sh_i 0)), (3, (sh_i 0))] [] m1 (sh_K m_Sto_cover Q)))) : sh_Cal g (d + 1) m_Sto_cover [(sh_r 1)] mem Q := by
  refine sh_met (by decide +kernel) (Nat.le_of_ble_eq_true rfl) (lo := [(0, (sh_r 1))]) rfl ?_
  refine xr_aload_n (n := 0) (i := 0) rfl (List.mem_of_getElem? (i := 0) rfl) (by decide +kernel) ?_
  refine xr_getR (o := 4) rfl fl_Sto_28 rfl (by decide +kernel) ?_
  show sh_X g (d + 1) m_Sto_cover _ _ ((sh_r 5) :: _) _ _
  refine xr_aload_n (n := 0) (i := 0) rfl (List.mem_of_getElem? (i := 0) rfl) (by decide +kernel) ?_
  obtain ⟨o, k⟩ := k
  refine xr_getD (b := B) rfl fl_Sto_72 rfl o (by decide +kernel) ?_
  refine xr_callV (av := [(sh_r B)]) rfl rfl rfl mo_State_bestReadySkill ml_Sto_252 im_State_bestReadySkill se_State_bestReadySkill rfl (Nat.le_of_ble_eq_true rfl) (by decide +kernel) (sh_mono k ?_)
  rintro rv m1 ⟨r1, rfl, k⟩
  show sh_X g (d + 1) m_Sto_cover _ _ [(sh_i r1)] _ _
  refine xr_istore_n (n := 1) (i := 1) rfl (by decide) rfl (by decide +kernel) ?_
  refine xr_iconst (n := 0) (by decide +kernel) ?_
  refine xr_istore_n (n := 2) (i := 2) rfl (by decide) rfl (by decide +kernel) ?_
  refine xr_iconst (n := 0) (by decide +kernel) ?_
  refine xr_istore_n (n := 3) (i := 3) rfl (by decide) rfl (by decide +kernel) ?_
  refine xr_sub (lo' := [(0, (sh_r 1)), (1, (sh_i r1)), (2, (sh_i 0)), (3, (sh_i 0))]) [3, 2, 1, 0] rfl ?_
  exact k
theorem v_Sto_cover_16 {g : sh_G} {d : Nat}  {B : Nat} (hB : ob0 B) {mem : sh_Mem} {Q : Option sh_V → sh_Mem → Prop}  {x1 : Int} {x2 : Int} {x3 : Nat} (k : (mem 1 9 = (B : Int) ∧ (((i3 (mem B 0)) ≤ (i3 (x3 : Int)) → Q (some (sh_i x2)) mem) ∧ (¬ (i3 (mem B 0)) ≤ (i3 (x3 : Int)) → (x3 < 45 ∧ (((i3 (mem 6 x3)) ≤ 0 → sh_X g (d + 1) m_Sto_cover 16 [(0, (sh_r 1)), (1, (sh_i x1)), (2, (sh_i x2)), (3, (sh_i (((x3 + 1) : Nat) : Int)))] [] mem (sh_K m_Sto_cover Q)) ∧ (¬ (i3 (mem 6 x3)) ≤ 0 → ((8 + x3) < 45 ∧ (((i3 x1) < (i3 (mem 6 (8 + x3))) → sh_X g (d + 1) m_Sto_cover 16 [(0, (sh_r 1)), (1, (sh_i x1)), (2, (sh_i x2)), (3, (sh_i (((x3 + 1) : Nat) : Int)))] [] mem (sh_K m_Sto_cover Q)) ∧ (¬ (i3 x1) < (i3 (mem 6 (8 + x3))) → (((i3 x1) < 9 → ((8 + x3) < 45 ∧ sh_X g (d + 1) m_Sto_cover 16 [(0, (sh_r 1)), (1, (sh_i x1)), (2, (sh_i (x2 + ((x1 + 1) - (mem 6 (8 + x3)))))), (3, (sh_i (((x3 + 1) : Nat) : Int)))] [] mem (sh_K m_Sto_cover Q))) ∧ (¬ (i3 x1) < 9 → Q (some (sh_i (-1))) mem)))))))))))) : sh_X g (d + 1) m_Sto_cover 16 [(0, (sh_r 1)), (1, (sh_i x1)), (2, (sh_i x2)), (3, (sh_i (x3 : Int)))] [] mem (sh_K m_Sto_cover Q) := by
  refine xr_iload_n (n := 3) (i := 3) rfl (List.mem_of_getElem? (i := 3) rfl) (by decide +kernel) ?_
  refine xr_aload_n (n := 0) (i := 0) rfl (List.mem_of_getElem? (i := 0) rfl) (by decide +kernel) ?_
  obtain ⟨o, k⟩ := k
  refine xr_getD (b := B) rfl fl_Sto_72 rfl o (by decide +kernel) ?_
  refine xr_getI (ob0_0 hB) fl_Sto_201 (by decide) (by decide +kernel) ?_
  refine xr_icmp_ge (a' := (i3 (x3 : Int))) (b' := (i3 (mem B 0))) rfl rfl (off := 66) (tgt := 90) (by decide) (by decide +kernel) ⟨fun c1 => ?_, fun c1 => ?_⟩
  · have k := k.1 c1
    refine xr_iload_n (n := 2) (i := 2) rfl (List.mem_of_getElem? (i := 2) rfl) (by decide +kernel) ?_
    exact xr_iret rfl (by decide +kernel) k
  · have k := k.2 c1
    refine xr_aload_n (n := 0) (i := 0) rfl (List.mem_of_getElem? (i := 0) rfl) (by decide +kernel) ?_
    refine xr_getR (o := 4) rfl fl_Sto_28 rfl (by decide +kernel) ?_
    show sh_X g (d + 1) m_Sto_cover _ _ ((sh_r 5) :: _) _ _
    refine xr_getR (o := 1) rfl fl_Sto_132 rfl (by decide +kernel) ?_
    show sh_X g (d + 1) m_Sto_cover _ _ ((sh_r 6) :: _) _ _
    refine xr_iconst (n := 0) (by decide +kernel) ?_
    refine xr_iload_n (n := 3) (i := 3) rfl (List.mem_of_getElem? (i := 3) rfl) (by decide +kernel) ?_
    refine xr_iadd (by decide +kernel) ?_
    rw [Int.zero_add]
    show sh_X g (d + 1) m_Sto_cover _ _ ((sh_i (x3 : Int)) :: _) _ _
    obtain ⟨o, k⟩ := k
    refine xr_ialdN (j := x3) rfl rfl o (by decide +kernel) ?_
    refine xr_if_le (a' := (i3 (mem 6 x3))) rfl (off := 46) (tgt := 84) (by decide) (by decide +kernel) ⟨fun c2 => ?_, fun c2 => ?_⟩
    · have k := k.1 c2
      refine xr_iinc (n := 1) (lo' := [(3, (sh_i (((x3 + 1) : Nat) : Int))), (0, (sh_r 1)), (1, (sh_i x1)), (2, (sh_i x2))]) (List.mem_of_getElem? (i := 3) rfl) (by decide) rfl (by decide +kernel) ?_
      refine xr_goto (off := (-71)) (tgt := 16) (by decide) (by decide +kernel) ?_
      refine xr_sub (lo' := [(0, (sh_r 1)), (1, (sh_i x1)), (2, (sh_i x2)), (3, (sh_i (((x3 + 1) : Nat) : Int)))]) [1, 2, 3, 0] rfl ?_
      exact k
    · have k := k.2 c2
      refine xr_aload_n (n := 0) (i := 0) rfl (List.mem_of_getElem? (i := 0) rfl) (by decide +kernel) ?_
      refine xr_getR (o := 4) rfl fl_Sto_28 rfl (by decide +kernel) ?_
      show sh_X g (d + 1) m_Sto_cover _ _ ((sh_r 5) :: _) _ _
      refine xr_getR (o := 1) rfl fl_Sto_132 rfl (by decide +kernel) ?_
      show sh_X g (d + 1) m_Sto_cover _ _ ((sh_r 6) :: _) _ _
      refine xr_bipush (n := 8) (v := 8) (by decide) (by decide +kernel) ?_
      refine xr_iload_n (n := 3) (i := 3) rfl (List.mem_of_getElem? (i := 3) rfl) (by decide +kernel) ?_
      refine xr_iadd (by decide +kernel) ?_
      show sh_X g (d + 1) m_Sto_cover _ _ ((sh_i (((8 + x3) : Nat) : Int)) :: _) _ _
      obtain ⟨o, k⟩ := k
      refine xr_ialdN (j := (8 + x3)) rfl rfl o (by decide +kernel) ?_
      refine xr_iload_n (n := 1) (i := 1) rfl (List.mem_of_getElem? (i := 1) rfl) (by decide +kernel) ?_
      refine xr_icmp_gt (a' := (i3 (mem 6 (8 + x3)))) (b' := (i3 x1)) rfl rfl (off := 30) (tgt := 84) (by decide) (by decide +kernel) ⟨fun c3 => ?_, fun c3 => ?_⟩
      · have k := k.1 c3
        refine xr_iinc (n := 1) (lo' := [(3, (sh_i (((x3 + 1) : Nat) : Int))), (0, (sh_r 1)), (1, (sh_i x1)), (2, (sh_i x2))]) (List.mem_of_getElem? (i := 3) rfl) (by decide) rfl (by decide +kernel) ?_
        refine xr_goto (off := (-71)) (tgt := 16) (by decide) (by decide +kernel) ?_
        refine xr_sub (lo' := [(0, (sh_r 1)), (1, (sh_i x1)), (2, (sh_i x2)), (3, (sh_i (((x3 + 1) : Nat) : Int)))]) [1, 2, 3, 0] rfl ?_
        exact k
      · have k := k.2 c3
        refine xr_iload_n (n := 1) (i := 1) rfl (List.mem_of_getElem? (i := 1) rfl) (by decide +kernel) ?_
        refine xr_bipush (n := 9) (v := 9) (by decide) (by decide +kernel) ?_
        refine xr_icmp_lt (a' := (i3 x1)) (b' := 9) rfl (by decide) (off := 5) (tgt := 65) (by decide) (by decide +kernel) ⟨fun c4 => ?_, fun c4 => ?_⟩
        · have k := k.1 c4
          refine xr_iload_n (n := 2) (i := 2) rfl (List.mem_of_getElem? (i := 2) rfl) (by decide +kernel) ?_
          refine xr_iload_n (n := 1) (i := 1) rfl (List.mem_of_getElem? (i := 1) rfl) (by decide +kernel) ?_
          refine xr_iconst (n := 1) (by decide +kernel) ?_
          refine xr_iadd (by decide +kernel) ?_
          show sh_X g (d + 1) m_Sto_cover _ _ ((sh_i (x1 + 1)) :: _) _ _
          refine xr_aload_n (n := 0) (i := 0) rfl (List.mem_of_getElem? (i := 0) rfl) (by decide +kernel) ?_
          refine xr_getR (o := 4) rfl fl_Sto_28 rfl (by decide +kernel) ?_
          show sh_X g (d + 1) m_Sto_cover _ _ ((sh_r 5) :: _) _ _
          refine xr_getR (o := 1) rfl fl_Sto_132 rfl (by decide +kernel) ?_
          show sh_X g (d + 1) m_Sto_cover _ _ ((sh_r 6) :: _) _ _
          refine xr_bipush (n := 8) (v := 8) (by decide) (by decide +kernel) ?_
          refine xr_iload_n (n := 3) (i := 3) rfl (List.mem_of_getElem? (i := 3) rfl) (by decide +kernel) ?_
          refine xr_iadd (by decide +kernel) ?_
          show sh_X g (d + 1) m_Sto_cover _ _ ((sh_i (((8 + x3) : Nat) : Int)) :: _) _ _
          obtain ⟨o, k⟩ := k
          refine xr_ialdN (j := (8 + x3)) rfl rfl o (by decide +kernel) ?_
          refine xr_isub (by decide +kernel) ?_
          show sh_X g (d + 1) m_Sto_cover _ _ ((sh_i ((x1 + 1) - (mem 6 (8 + x3)))) :: _) _ _
          refine xr_iadd (by decide +kernel) ?_
          show sh_X g (d + 1) m_Sto_cover _ _ ((sh_i (x2 + ((x1 + 1) - (mem 6 (8 + x3))))) :: _) _ _
          refine xr_istore_n (n := 2) (i := 2) rfl (by decide) rfl (by decide +kernel) ?_
          refine xr_iinc (n := 1) (lo' := [(3, (sh_i (((x3 + 1) : Nat) : Int))), (2, (sh_i (x2 + ((x1 + 1) - (mem 6 (8 + x3)))))), (0, (sh_r 1)), (1, (sh_i x1))]) (List.mem_of_getElem? (i := 3) rfl) (by decide) rfl (by decide +kernel) ?_
          refine xr_goto (off := (-71)) (tgt := 16) (by decide) (by decide +kernel) ?_
          refine xr_sub (lo' := [(0, (sh_r 1)), (1, (sh_i x1)), (2, (sh_i (x2 + ((x1 + 1) - (mem 6 (8 + x3)))))), (3, (sh_i (((x3 + 1) : Nat) : Int)))]) [2, 3, 1, 0] rfl ?_
          exact k
        · have k := k.2 c4
          refine xr_iconst (n := (-1)) (by decide +kernel) ?_
          exact xr_iret rfl (by decide +kernel) k

theorem v_Sto_watch {g : sh_G} {d : Nat}  {B : Nat} (hB : ob0 B) {mem : sh_Mem} {Q : Option sh_V → sh_Mem → Prop}  (k : (sh_Cal g d m_Sto_mostWithout [(sh_r 1), (sh_i (-1))] mem fun rv m1 => ∃ r1 : Int, rv = some (sh_i r1) ∧ sh_X g (d + 1) m_Sto_watch 10 [(0, (sh_r 1)), (1, (sh_i r1)), (2, (sh_i (-1))), (3, (sh_i 0))] [] m1 (sh_K m_Sto_watch Q))) : sh_Cal g (d + 1) m_Sto_watch [(sh_r 1)] mem Q := by
  refine sh_met (by decide +kernel) (Nat.le_of_ble_eq_true rfl) (lo := [(0, (sh_r 1))]) rfl ?_
  refine xr_aload_n (n := 0) (i := 0) rfl (List.mem_of_getElem? (i := 0) rfl) (by decide +kernel) ?_
  refine xr_iconst (n := (-1)) (by decide +kernel) ?_
  refine xr_callV (av := [(sh_i (-1))]) rfl rfl rfl mo_Sto_mostWithout ml_Sto_255 im_Sto_mostWithout se_Sto_mostWithout rfl (Nat.le_of_ble_eq_true rfl) (by decide +kernel) (sh_mono k ?_)
  rintro rv m1 ⟨r1, rfl, k⟩
  show sh_X g (d + 1) m_Sto_watch _ _ [(sh_i r1)] _ _
  refine xr_istore_n (n := 1) (i := 1) rfl (by decide) rfl (by decide +kernel) ?_
  refine xr_iconst (n := (-1)) (by decide +kernel) ?_
  refine xr_istore_n (n := 2) (i := 2) rfl (by decide) rfl (by decide +kernel) ?_
  refine xr_iconst (n := 0) (by decide +kernel) ?_
  refine xr_istore_n (n := 3) (i := 3) rfl (by decide) rfl (by decide +kernel) ?_
  refine xr_sub (lo' := [(0, (sh_r 1)), (1, (sh_i r1)), (2, (sh_i (-1))), (3, (sh_i 0))]) [3, 2, 1, 0] rfl ?_
  exact k
theorem v_Sto_watch_10 {g : sh_G} {d : Nat}  {B : Nat} (hB : ob0 B) {mem : sh_Mem} {Q : Option sh_V → sh_Mem → Prop}  {x1 : Int} {x2 : Int} {x3 : Nat} (k : (mem 1 9 = (B : Int) ∧ (((i3 (mem B 0)) ≤ (i3 (x3 : Int)) → Q (some (sh_i x2)) mem) ∧ (¬ (i3 (mem B 0)) ≤ (i3 (x3 : Int)) → (sh_Cal g d m_Sto_mostWithout [(sh_r 1), (sh_i (x3 : Int))] mem fun rv m1 => ∃ r1 : Int, rv = some (sh_i r1) ∧ (((i3 x1) ≤ (i3 r1) → sh_X g (d + 1) m_Sto_watch 10 [(0, (sh_r 1)), (1, (sh_i x1)), (2, (sh_i x2)), (3, (sh_i (((x3 + 1) : Nat) : Int)))] [] m1 (sh_K m_Sto_watch Q)) ∧ (¬ (i3 x1) ≤ (i3 r1) → sh_X g (d + 1) m_Sto_watch 10 [(0, (sh_r 1)), (1, (sh_i r1)), (2, (sh_i (x3 : Int))), (3, (sh_i (((x3 + 1) : Nat) : Int)))] [] m1 (sh_K m_Sto_watch Q)))))))) : sh_X g (d + 1) m_Sto_watch 10 [(0, (sh_r 1)), (1, (sh_i x1)), (2, (sh_i x2)), (3, (sh_i (x3 : Int)))] [] mem (sh_K m_Sto_watch Q) := by
  refine xr_iload_n (n := 3) (i := 3) rfl (List.mem_of_getElem? (i := 3) rfl) (by decide +kernel) ?_
  refine xr_aload_n (n := 0) (i := 0) rfl (List.mem_of_getElem? (i := 0) rfl) (by decide +kernel) ?_
  obtain ⟨o, k⟩ := k
  refine xr_getD (b := B) rfl fl_Sto_72 rfl o (by decide +kernel) ?_
  refine xr_getI (ob0_0 hB) fl_Sto_201 (by decide) (by decide +kernel) ?_
  refine xr_icmp_ge (a' := (i3 (x3 : Int))) (b' := (i3 (mem B 0))) rfl rfl (off := 27) (tgt := 45) (by decide) (by decide +kernel) ⟨fun c1 => ?_, fun c1 => ?_⟩
  · have k := k.1 c1
    refine xr_iload_n (n := 2) (i := 2) rfl (List.mem_of_getElem? (i := 2) rfl) (by decide +kernel) ?_
    exact xr_iret rfl (by decide +kernel) k
  · have k := k.2 c1
    refine xr_aload_n (n := 0) (i := 0) rfl (List.mem_of_getElem? (i := 0) rfl) (by decide +kernel) ?_
    refine xr_iload_n (n := 3) (i := 3) rfl (List.mem_of_getElem? (i := 3) rfl) (by decide +kernel) ?_
    refine xr_callV (av := [(sh_i (x3 : Int))]) rfl rfl rfl mo_Sto_mostWithout ml_Sto_255 im_Sto_mostWithout se_Sto_mostWithout rfl (Nat.le_of_ble_eq_true rfl) (by decide +kernel) (sh_mono k ?_)
    rintro rv m1 ⟨r1, rfl, k⟩
    show sh_X g (d + 1) m_Sto_watch _ _ [(sh_i r1)] _ _
    refine xr_istore (i := 4) (by decide) rfl (by decide +kernel) ?_
    refine xr_iload (i := 4) (List.mem_of_getElem? (i := 0) rfl) (by decide +kernel) ?_
    refine xr_iload_n (n := 1) (i := 1) rfl (List.mem_of_getElem? (i := 2) rfl) (by decide +kernel) ?_
    refine xr_icmp_ge (a' := (i3 r1)) (b' := (i3 x1)) rfl rfl (off := 8) (tgt := 39) (by decide) (by decide +kernel) ⟨fun c2 => ?_, fun c2 => ?_⟩
    · have k := k.1 c2
      refine xr_iinc (n := 1) (lo' := [(3, (sh_i (((x3 + 1) : Nat) : Int))), (4, (sh_i r1)), (0, (sh_r 1)), (1, (sh_i x1)), (2, (sh_i x2))]) (List.mem_of_getElem? (i := 4) rfl) (by decide) rfl (by decide +kernel) ?_
      refine xr_goto (off := (-32)) (tgt := 10) (by decide) (by decide +kernel) ?_
      refine xr_sub (lo' := [(0, (sh_r 1)), (1, (sh_i x1)), (2, (sh_i x2)), (3, (sh_i (((x3 + 1) : Nat) : Int)))]) [2, 3, 4, 0] rfl ?_
      exact k
    · have k := k.2 c2
      refine xr_iload (i := 4) (List.mem_of_getElem? (i := 0) rfl) (by decide +kernel) ?_
      refine xr_istore_n (n := 1) (i := 1) rfl (by decide) rfl (by decide +kernel) ?_
      refine xr_iload_n (n := 3) (i := 3) rfl (List.mem_of_getElem? (i := 4) rfl) (by decide +kernel) ?_
      refine xr_istore_n (n := 2) (i := 2) rfl (by decide) rfl (by decide +kernel) ?_
      refine xr_iinc (n := 1) (lo' := [(3, (sh_i (((x3 + 1) : Nat) : Int))), (2, (sh_i (x3 : Int))), (1, (sh_i r1)), (4, (sh_i r1)), (0, (sh_r 1))]) (List.mem_of_getElem? (i := 4) rfl) (by decide) rfl (by decide +kernel) ?_
      refine xr_goto (off := (-32)) (tgt := 10) (by decide) (by decide +kernel) ?_
      refine xr_sub (lo' := [(0, (sh_r 1)), (1, (sh_i r1)), (2, (sh_i (x3 : Int))), (3, (sh_i (((x3 + 1) : Nat) : Int)))]) [4, 2, 1, 0] rfl ?_
      exact k

theorem v_Sto_spree {g : sh_G} {d : Nat} {thief : Int} {nights : Int} {what : Int} {B : Nat} (hB : ob0 B) {mem : sh_Mem} {Q : Option sh_V → sh_Mem → Prop}  (k : (sh_Cal g d m_Sto_isThief [(sh_r 1), (sh_i thief)] mem fun rv m1 => ∃ r1 : Int, rv = some (sh_i r1) ∧ (((i3 r1) = 0 → Q (some (sh_i (-2))) m1) ∧ (¬ (i3 r1) = 0 → (sh_Cal g d m_Sto_isWithin [(sh_i nights), (sh_i 1), (sh_i 5)] m1 fun rv m2 => ∃ r2 : Int, rv = some (sh_i r2) ∧ (((i3 r2) = 0 → Q (some (sh_i (-2))) m2) ∧ (¬ (i3 r2) = 0 → (sh_Cal g d m_Sto_isWithin [(sh_i what), (sh_i 0), (sh_i 1)] m2 fun rv m3 => ∃ r3 : Int, rv = some (sh_i r3) ∧ (((i3 r3) = 0 → Q (some (sh_i (-2))) m3) ∧ (¬ (i3 r3) = 0 → (sh_Cal g d m_State_isReady [(sh_r 5), (sh_i thief)] m3 fun rv m4 => ∃ r4 : Int, rv = some (sh_i r4) ∧ ((¬ (i3 r4) = 0 → (m4 1 9 = (B : Int) ∧ (sh_Cal g d m_Spr_search [(sh_r 18), (sh_r 5), (sh_r B), (sh_i thief), (sh_i nights)] m4 fun rv m5 => rv = none ∧ ((¬ (i3 what) = 0 → Q (some (sh_i (m5 18 6))) m5) ∧ ((i3 what) = 0 → Q (some (sh_i (m5 18 5))) m5))))) ∧ ((i3 r4) = 0 → Q (some (sh_i (-2))) m4))))))))))))) : sh_Cal g (d + 1) m_Sto_spree [(sh_r 1), (sh_i thief), (sh_i nights), (sh_i what)] mem Q := by
  refine sh_met (by decide +kernel) (Nat.le_of_ble_eq_true rfl) (lo := [(0, (sh_r 1)), (1, (sh_i thief)), (2, (sh_i nights)), (3, (sh_i what))]) rfl ?_
  refine xr_aload_n (n := 0) (i := 0) rfl (List.mem_of_getElem? (i := 0) rfl) (by decide +kernel) ?_
  refine xr_iload_n (n := 1) (i := 1) rfl (List.mem_of_getElem? (i := 1) rfl) (by decide +kernel) ?_
  refine xr_callV (av := [(sh_i thief)]) rfl rfl rfl mo_Sto_isThief ml_Sto_138 im_Sto_isThief se_Sto_isThief rfl (Nat.le_of_ble_eq_true rfl) (by decide +kernel) (sh_mono k ?_)
  rintro rv m1 ⟨r1, rfl, k⟩
  show sh_X g (d + 1) m_Sto_spree _ _ [(sh_i r1)] _ _
  refine xr_if_eq (a' := (i3 r1)) rfl (off := 32) (tgt := 37) (by decide) (by decide +kernel) ⟨fun c1 => ?_, fun c1 => ?_⟩
  · have k := k.1 c1
    refine xr_bipush (n := (-2)) (v := (-2)) (by decide) (by decide +kernel) ?_
    exact xr_iret rfl (by decide +kernel) k
  · have k := k.2 c1
    refine xr_iload_n (n := 2) (i := 2) rfl (List.mem_of_getElem? (i := 2) rfl) (by decide +kernel) ?_
    refine xr_iconst (n := 1) (by decide +kernel) ?_
    refine xr_iconst (n := 5) (by decide +kernel) ?_
    refine xr_callS (av := [(sh_i nights), (sh_i 1), (sh_i 5)]) mo_Sto_isWithin ml_Sto_213 sa_Sto_isWithin rfl (Nat.le_of_ble_eq_true rfl) (by decide +kernel) (sh_mono k ?_)
    rintro rv m2 ⟨r2, rfl, k⟩
    show sh_X g (d + 1) m_Sto_spree _ _ [(sh_i r2)] _ _
    refine xr_if_eq (a' := (i3 r2)) rfl (off := 23) (tgt := 37) (by decide) (by decide +kernel) ⟨fun c2 => ?_, fun c2 => ?_⟩
    · have k := k.1 c2
      refine xr_bipush (n := (-2)) (v := (-2)) (by decide) (by decide +kernel) ?_
      exact xr_iret rfl (by decide +kernel) k
    · have k := k.2 c2
      refine xr_iload_n (n := 3) (i := 3) rfl (List.mem_of_getElem? (i := 3) rfl) (by decide +kernel) ?_
      refine xr_iconst (n := 0) (by decide +kernel) ?_
      refine xr_iconst (n := 1) (by decide +kernel) ?_
      refine xr_callS (av := [(sh_i what), (sh_i 0), (sh_i 1)]) mo_Sto_isWithin ml_Sto_213 sa_Sto_isWithin rfl (Nat.le_of_ble_eq_true rfl) (by decide +kernel) (sh_mono k ?_)
      rintro rv m3 ⟨r3, rfl, k⟩
      show sh_X g (d + 1) m_Sto_spree _ _ [(sh_i r3)] _ _
      refine xr_if_eq (a' := (i3 r3)) rfl (off := 14) (tgt := 37) (by decide) (by decide +kernel) ⟨fun c3 => ?_, fun c3 => ?_⟩
      · have k := k.1 c3
        refine xr_bipush (n := (-2)) (v := (-2)) (by decide) (by decide +kernel) ?_
        exact xr_iret rfl (by decide +kernel) k
      · have k := k.2 c3
        refine xr_aload_n (n := 0) (i := 0) rfl (List.mem_of_getElem? (i := 0) rfl) (by decide +kernel) ?_
        refine xr_getR (o := 4) rfl fl_Sto_28 rfl (by decide +kernel) ?_
        show sh_X g (d + 1) m_Sto_spree _ _ ((sh_r 5) :: _) _ _
        refine xr_iload_n (n := 1) (i := 1) rfl (List.mem_of_getElem? (i := 1) rfl) (by decide +kernel) ?_
        refine xr_callV (av := [(sh_i thief)]) rfl rfl rfl mo_State_isReady ml_Sto_258 im_State_isReady se_State_isReady rfl (Nat.le_of_ble_eq_true rfl) (by decide +kernel) (sh_mono k ?_)
        rintro rv m4 ⟨r4, rfl, k⟩
        show sh_X g (d + 1) m_Sto_spree _ _ [(sh_i r4)] _ _
        refine xr_if_ne (a' := (i3 r4)) rfl (off := 6) (tgt := 40) (by decide) (by decide +kernel) ⟨fun c4 => ?_, fun c4 => ?_⟩
        · have k := k.1 c4
          refine xr_aload_n (n := 0) (i := 0) rfl (List.mem_of_getElem? (i := 0) rfl) (by decide +kernel) ?_
          refine xr_getR (o := 17) rfl fl_Sto_59 rfl (by decide +kernel) ?_
          show sh_X g (d + 1) m_Sto_spree _ _ ((sh_r 18) :: _) _ _
          refine xr_aload_n (n := 0) (i := 0) rfl (List.mem_of_getElem? (i := 0) rfl) (by decide +kernel) ?_
          refine xr_getR (o := 4) rfl fl_Sto_28 rfl (by decide +kernel) ?_
          show sh_X g (d + 1) m_Sto_spree _ _ ((sh_r 5) :: _) _ _
          refine xr_aload_n (n := 0) (i := 0) rfl (List.mem_of_getElem? (i := 0) rfl) (by decide +kernel) ?_
          obtain ⟨o, k⟩ := k
          refine xr_getD (b := B) rfl fl_Sto_72 rfl o (by decide +kernel) ?_
          refine xr_iload_n (n := 1) (i := 1) rfl (List.mem_of_getElem? (i := 1) rfl) (by decide +kernel) ?_
          refine xr_iload_n (n := 2) (i := 2) rfl (List.mem_of_getElem? (i := 2) rfl) (by decide +kernel) ?_
          refine xr_callV (av := [(sh_r 5), (sh_r B), (sh_i thief), (sh_i nights)]) rfl rfl rfl mo_Spr_search ml_Sto_261 im_Spr_search se_Spr_search rfl (Nat.le_of_ble_eq_true rfl) (by decide +kernel) (sh_mono k ?_)
          rintro rv m5 ⟨rfl, k⟩
          show sh_X g (d + 1) m_Sto_spree _ _ [] _ _
          refine xr_iload_n (n := 3) (i := 3) rfl (List.mem_of_getElem? (i := 3) rfl) (by decide +kernel) ?_
          refine xr_if_ne (a' := (i3 what)) rfl (off := 13) (tgt := 71) (by decide) (by decide +kernel) ⟨fun c5 => ?_, fun c5 => ?_⟩
          · have k := k.1 c5
            refine xr_aload_n (n := 0) (i := 0) rfl (List.mem_of_getElem? (i := 0) rfl) (by decide +kernel) ?_
            refine xr_getR (o := 17) rfl fl_Sto_59 rfl (by decide +kernel) ?_
            show sh_X g (d + 1) m_Sto_spree _ _ ((sh_r 18) :: _) _ _
            refine xr_getI rfl fl_Sto_265 (by decide) (by decide +kernel) ?_
            exact xr_iret rfl (by decide +kernel) k
          · have k := k.2 c5
            refine xr_aload_n (n := 0) (i := 0) rfl (List.mem_of_getElem? (i := 0) rfl) (by decide +kernel) ?_
            refine xr_getR (o := 17) rfl fl_Sto_59 rfl (by decide +kernel) ?_
            show sh_X g (d + 1) m_Sto_spree _ _ ((sh_r 18) :: _) _ _
            refine xr_getI rfl fl_Sto_264 (by decide) (by decide +kernel) ?_
            refine xr_goto (off := 10) (tgt := 78) (by decide) (by decide +kernel) ?_
            exact xr_iret rfl (by decide +kernel) k
        · have k := k.2 c4
          refine xr_bipush (n := (-2)) (v := (-2)) (by decide) (by decide +kernel) ?_
          exact xr_iret rfl (by decide +kernel) k

theorem v_Sto_see {g : sh_G} {d : Nat} {day : Int} {nights : Int} {opn : Int}  {mem : sh_Mem} {Q : Option sh_V → sh_Mem → Prop}  (k : (sh_Cal g d m_Sto_isDay [(sh_r 1), (sh_i day)] mem fun rv m1 => ∃ r1 : Int, rv = some (sh_i r1) ∧ (((i3 r1) = 0 → Q (some (sh_i 0)) m1) ∧ (¬ (i3 r1) = 0 → (sh_Cal g d m_Sto_isWithin [(sh_i nights), (sh_i 0), (sh_i 30)] m1 fun rv m2 => ∃ r2 : Int, rv = some (sh_i r2) ∧ ((¬ (i3 r2) = 0 → (sh_Cal g d m_Seen_add [(sh_r 11), (sh_i day), (sh_i nights), (sh_i opn)] m2 fun rv m3 => ∃ r3 : Int, rv = some (sh_i r3) ∧ ((r3 = 0 ∨ r3 = 1) ∧ Q (some (sh_i r3)) m3))) ∧ ((i3 r2) = 0 → Q (some (sh_i 0)) m2))))))) : sh_Cal g (d + 1) m_Sto_see [(sh_r 1), (sh_i day), (sh_i nights), (sh_i opn)] mem Q := by
  refine sh_met (by decide +kernel) (Nat.le_of_ble_eq_true rfl) (lo := [(0, (sh_r 1)), (1, (sh_i day)), (2, (sh_i nights)), (3, (sh_i opn))]) rfl ?_
  refine xr_aload_n (n := 0) (i := 0) rfl (List.mem_of_getElem? (i := 0) rfl) (by decide +kernel) ?_
  refine xr_iload_n (n := 1) (i := 1) rfl (List.mem_of_getElem? (i := 1) rfl) (by decide +kernel) ?_
  refine xr_callV (av := [(sh_i day)]) rfl rfl rfl mo_Sto_isDay ml_Sto_121 im_Sto_isDay se_Sto_isDay rfl (Nat.le_of_ble_eq_true rfl) (by decide +kernel) (sh_mono k ?_)
  rintro rv m1 ⟨r1, rfl, k⟩
  show sh_X g (d + 1) m_Sto_see _ _ [(sh_i r1)] _ _
  refine xr_if_eq (a' := (i3 r1)) rfl (off := 13) (tgt := 18) (by decide) (by decide +kernel) ⟨fun c1 => ?_, fun c1 => ?_⟩
  · have k := k.1 c1
    refine xr_iconst (n := 0) (by decide +kernel) ?_
    exact xr_zret rfl (by decide +kernel) (by decide) k
  · have k := k.2 c1
    refine xr_iload_n (n := 2) (i := 2) rfl (List.mem_of_getElem? (i := 2) rfl) (by decide +kernel) ?_
    refine xr_iconst (n := 0) (by decide +kernel) ?_
    refine xr_bipush (n := 30) (v := 30) (by decide) (by decide +kernel) ?_
    refine xr_callS (av := [(sh_i nights), (sh_i 0), (sh_i 30)]) mo_Sto_isWithin ml_Sto_213 sa_Sto_isWithin rfl (Nat.le_of_ble_eq_true rfl) (by decide +kernel) (sh_mono k ?_)
    rintro rv m2 ⟨r2, rfl, k⟩
    show sh_X g (d + 1) m_Sto_see _ _ [(sh_i r2)] _ _
    refine xr_if_ne (a' := (i3 r2)) rfl (off := 5) (tgt := 20) (by decide) (by decide +kernel) ⟨fun c2 => ?_, fun c2 => ?_⟩
    · have k := k.1 c2
      refine xr_aload_n (n := 0) (i := 0) rfl (List.mem_of_getElem? (i := 0) rfl) (by decide +kernel) ?_
      refine xr_getR (o := 10) rfl fl_Sto_45 rfl (by decide +kernel) ?_
      show sh_X g (d + 1) m_Sto_see _ _ ((sh_r 11) :: _) _ _
      refine xr_iload_n (n := 1) (i := 1) rfl (List.mem_of_getElem? (i := 1) rfl) (by decide +kernel) ?_
      refine xr_iload_n (n := 2) (i := 2) rfl (List.mem_of_getElem? (i := 2) rfl) (by decide +kernel) ?_
      refine xr_iload_n (n := 3) (i := 3) rfl (List.mem_of_getElem? (i := 3) rfl) (by decide +kernel) ?_
      refine xr_callV (av := [(sh_i day), (sh_i nights), (sh_i opn)]) rfl rfl rfl mo_Seen_add ml_Sto_268 im_Seen_add se_Seen_add rfl (Nat.le_of_ble_eq_true rfl) (by decide +kernel) (sh_mono k ?_)
      rintro rv m3 ⟨r3, rfl, k⟩
      show sh_X g (d + 1) m_Sto_see _ _ [(sh_i r3)] _ _
      exact xr_zret rfl (by decide +kernel) k.1 k.2
    · have k := k.2 c2
      refine xr_iconst (n := 0) (by decide +kernel) ?_
      exact xr_zret rfl (by decide +kernel) (by decide) k

theorem v_Sto_who {g : sh_G} {d : Nat}  {B : Nat} (hB : ob0 B) {mem : sh_Mem} {Q : Option sh_V → sh_Mem → Prop}  (k : sh_X g (d + 1) m_Sto_who 4 [(0, (sh_r 1)), (1, (sh_i 0)), (2, (sh_i 0))] [] mem (sh_K m_Sto_who Q)) : sh_Cal g (d + 1) m_Sto_who [(sh_r 1)] mem Q := by
  refine sh_met (by decide +kernel) (Nat.le_of_ble_eq_true rfl) (lo := [(0, (sh_r 1))]) rfl ?_
  refine xr_iconst (n := 0) (by decide +kernel) ?_
  refine xr_istore_n (n := 1) (i := 1) rfl (by decide) rfl (by decide +kernel) ?_
  refine xr_iconst (n := 0) (by decide +kernel) ?_
  refine xr_istore_n (n := 2) (i := 2) rfl (by decide) rfl (by decide +kernel) ?_
  refine xr_sub (lo' := [(0, (sh_r 1)), (1, (sh_i 0)), (2, (sh_i 0))]) [2, 1, 0] rfl ?_
  exact k
theorem v_Sto_who_4 {g : sh_G} {d : Nat}  {B : Nat} (hB : ob0 B) {mem : sh_Mem} {Q : Option sh_V → sh_Mem → Prop}  {x1 : Int} {x2 : Nat} (k : (mem 1 9 = (B : Int) ∧ (((i3 (mem B 1)) ≤ (i3 (x2 : Int)) → Q (some (sh_i x1)) mem) ∧ (¬ (i3 (mem B 1)) ≤ (i3 (x2 : Int)) → (mem 1 9 = (B : Int) ∧ (sh_Cal g d m_Seen_fits [(sh_r 11), (sh_r 5), (sh_r B), (sh_i (x2 : Int))] mem fun rv m1 => ∃ r1 : Int, rv = some (sh_i r1) ∧ (((i3 r1) = 0 → sh_X g (d + 1) m_Sto_who 4 [(0, (sh_r 1)), (1, (sh_i x1)), (2, (sh_i (((x2 + 1) : Nat) : Int)))] [] m1 (sh_K m_Sto_who Q)) ∧ (¬ (i3 r1) = 0 → sh_X g (d + 1) m_Sto_who 4 [(0, (sh_r 1)), (1, (sh_i (i_or x1 (i_shl 1 (x2 : Int))))), (2, (sh_i (((x2 + 1) : Nat) : Int)))] [] m1 (sh_K m_Sto_who Q))))))))) : sh_X g (d + 1) m_Sto_who 4 [(0, (sh_r 1)), (1, (sh_i x1)), (2, (sh_i (x2 : Int)))] [] mem (sh_K m_Sto_who Q) := by
  refine xr_iload_n (n := 2) (i := 2) rfl (List.mem_of_getElem? (i := 2) rfl) (by decide +kernel) ?_
  refine xr_aload_n (n := 0) (i := 0) rfl (List.mem_of_getElem? (i := 0) rfl) (by decide +kernel) ?_
  obtain ⟨o, k⟩ := k
  refine xr_getD (b := B) rfl fl_Sto_72 rfl o (by decide +kernel) ?_
  refine xr_getI (ob0_0 hB) fl_Sto_272 (by decide) (by decide +kernel) ?_
  refine xr_icmp_ge (a' := (i3 (x2 : Int))) (b' := (i3 (mem B 1))) rfl rfl (off := 34) (tgt := 46) (by decide) (by decide +kernel) ⟨fun c1 => ?_, fun c1 => ?_⟩
  · have k := k.1 c1
    refine xr_iload_n (n := 1) (i := 1) rfl (List.mem_of_getElem? (i := 1) rfl) (by decide +kernel) ?_
    exact xr_iret rfl (by decide +kernel) k
  · have k := k.2 c1
    refine xr_aload_n (n := 0) (i := 0) rfl (List.mem_of_getElem? (i := 0) rfl) (by decide +kernel) ?_
    refine xr_getR (o := 10) rfl fl_Sto_45 rfl (by decide +kernel) ?_
    show sh_X g (d + 1) m_Sto_who _ _ ((sh_r 11) :: _) _ _
    refine xr_aload_n (n := 0) (i := 0) rfl (List.mem_of_getElem? (i := 0) rfl) (by decide +kernel) ?_
    refine xr_getR (o := 4) rfl fl_Sto_28 rfl (by decide +kernel) ?_
    show sh_X g (d + 1) m_Sto_who _ _ ((sh_r 5) :: _) _ _
    refine xr_aload_n (n := 0) (i := 0) rfl (List.mem_of_getElem? (i := 0) rfl) (by decide +kernel) ?_
    obtain ⟨o, k⟩ := k
    refine xr_getD (b := B) rfl fl_Sto_72 rfl o (by decide +kernel) ?_
    refine xr_iload_n (n := 2) (i := 2) rfl (List.mem_of_getElem? (i := 2) rfl) (by decide +kernel) ?_
    refine xr_callV (av := [(sh_r 5), (sh_r B), (sh_i (x2 : Int))]) rfl rfl rfl mo_Seen_fits ml_Sto_275 im_Seen_fits se_Seen_fits rfl (Nat.le_of_ble_eq_true rfl) (by decide +kernel) (sh_mono k ?_)
    rintro rv m1 ⟨r1, rfl, k⟩
    show sh_X g (d + 1) m_Sto_who _ _ [(sh_i r1)] _ _
    refine xr_if_eq (a' := (i3 r1)) rfl (off := 9) (tgt := 40) (by decide) (by decide +kernel) ⟨fun c2 => ?_, fun c2 => ?_⟩
    · have k := k.1 c2
      refine xr_iinc (n := 1) (lo' := [(2, (sh_i (((x2 + 1) : Nat) : Int))), (0, (sh_r 1)), (1, (sh_i x1))]) (List.mem_of_getElem? (i := 2) rfl) (by decide) rfl (by decide +kernel) ?_
      refine xr_goto (off := (-39)) (tgt := 4) (by decide) (by decide +kernel) ?_
      refine xr_sub (lo' := [(0, (sh_r 1)), (1, (sh_i x1)), (2, (sh_i (((x2 + 1) : Nat) : Int)))]) [1, 2, 0] rfl ?_
      exact k
    · have k := k.2 c2
      refine xr_iload_n (n := 1) (i := 1) rfl (List.mem_of_getElem? (i := 1) rfl) (by decide +kernel) ?_
      refine xr_iconst (n := 1) (by decide +kernel) ?_
      refine xr_iload_n (n := 2) (i := 2) rfl (List.mem_of_getElem? (i := 2) rfl) (by decide +kernel) ?_
      refine xr_ishl (by decide +kernel) ?_
      refine xr_ior (by decide +kernel) ?_
      refine xr_istore_n (n := 1) (i := 1) rfl (by decide) rfl (by decide +kernel) ?_
      refine xr_iinc (n := 1) (lo' := [(2, (sh_i (((x2 + 1) : Nat) : Int))), (1, (sh_i (i_or x1 (i_shl 1 (x2 : Int))))), (0, (sh_r 1))]) (List.mem_of_getElem? (i := 2) rfl) (by decide) rfl (by decide +kernel) ?_
      refine xr_goto (off := (-39)) (tgt := 4) (by decide) (by decide +kernel) ?_
      refine xr_sub (lo' := [(0, (sh_r 1)), (1, (sh_i (i_or x1 (i_shl 1 (x2 : Int))))), (2, (sh_i (((x2 + 1) : Nat) : Int)))]) [2, 1, 0] rfl ?_
      exact k

theorem v_Sto_ask {g : sh_G} {d : Nat}  {B : Nat} (hB : ob0 B) {mem : sh_Mem} {Q : Option sh_V → sh_Mem → Prop}  (k : (sh_Cal g d m_Sto_who [(sh_r 1)] mem fun rv m1 => ∃ r1 : Int, rv = some (sh_i r1) ∧ (sh_Cal g d m_Int_bitCount [(sh_i r1)] m1 fun rv m2 => ∃ r2 : Int, rv = some (sh_i r2) ∧ sh_X g (d + 1) m_Sto_ask 18 [(0, (sh_r 1)), (1, (sh_i r1)), (2, (sh_i r2)), (3, (sh_i r2)), (4, (sh_i (-1))), (5, (sh_i 0))] [] m2 (sh_K m_Sto_ask Q)))) : sh_Cal g (d + 1) m_Sto_ask [(sh_r 1)] mem Q := by
  refine sh_met (by decide +kernel) (Nat.le_of_ble_eq_true rfl) (lo := [(0, (sh_r 1))]) rfl ?_
  refine xr_aload_n (n := 0) (i := 0) rfl (List.mem_of_getElem? (i := 0) rfl) (by decide +kernel) ?_
  refine xr_callV (av := []) rfl rfl rfl mo_Sto_who ml_Sto_279 im_Sto_who se_Sto_who rfl (Nat.le_of_ble_eq_true rfl) (by decide +kernel) (sh_mono k ?_)
  rintro rv m1 ⟨r1, rfl, k⟩
  show sh_X g (d + 1) m_Sto_ask _ _ [(sh_i r1)] _ _
  refine xr_istore_n (n := 1) (i := 1) rfl (by decide) rfl (by decide +kernel) ?_
  refine xr_iload_n (n := 1) (i := 1) rfl (List.mem_of_getElem? (i := 0) rfl) (by decide +kernel) ?_
  refine xr_callS (av := [(sh_i r1)]) mo_Int_bitCount ml_Sto_282 sa_Int_bitCount rfl (Nat.le_of_ble_eq_true rfl) (by decide +kernel) (sh_mono k ?_)
  rintro rv m2 ⟨r2, rfl, k⟩
  show sh_X g (d + 1) m_Sto_ask _ _ [(sh_i r2)] _ _
  refine xr_istore_n (n := 2) (i := 2) rfl (by decide) rfl (by decide +kernel) ?_
  refine xr_iload_n (n := 2) (i := 2) rfl (List.mem_of_getElem? (i := 0) rfl) (by decide +kernel) ?_
  refine xr_istore_n (n := 3) (i := 3) rfl (by decide) rfl (by decide +kernel) ?_
  refine xr_iconst (n := (-1)) (by decide +kernel) ?_
  refine xr_istore (i := 4) (by decide) rfl (by decide +kernel) ?_
  refine xr_iconst (n := 0) (by decide +kernel) ?_
  refine xr_istore (i := 5) (by decide) rfl (by decide +kernel) ?_
  refine xr_sub (lo' := [(0, (sh_r 1)), (1, (sh_i r1)), (2, (sh_i r2)), (3, (sh_i r2)), (4, (sh_i (-1))), (5, (sh_i 0))]) [5, 4, 3, 2, 1, 0] rfl ?_
  exact k
theorem v_Sto_ask_18 {g : sh_G} {d : Nat}  {B : Nat} (hB : ob0 B) {mem : sh_Mem} {Q : Option sh_V → sh_Mem → Prop}  {x1 : Int} {x2 : Int} {x3 : Int} {x4 : Int} {x5 : Nat} (k : ((30 < (i3 (x5 : Int)) → Q (some (sh_i x4)) mem) ∧ (¬ 30 < (i3 (x5 : Int)) → sh_X g (d + 1) m_Sto_ask 28 [(0, (sh_r 1)), (1, (sh_i x1)), (2, (sh_i x2)), (3, (sh_i x3)), (4, (sh_i x4)), (5, (sh_i (x5 : Int))), (6, (sh_i 0))] [] mem (sh_K m_Sto_ask Q)))) : sh_X g (d + 1) m_Sto_ask 18 [(0, (sh_r 1)), (1, (sh_i x1)), (2, (sh_i x2)), (3, (sh_i x3)), (4, (sh_i x4)), (5, (sh_i (x5 : Int)))] [] mem (sh_K m_Sto_ask Q) := by
  refine xr_iload (i := 5) (List.mem_of_getElem? (i := 5) rfl) (by decide +kernel) ?_
  refine xr_bipush (n := 30) (v := 30) (by decide) (by decide +kernel) ?_
  refine xr_icmp_gt (a' := (i3 (x5 : Int))) (b' := 30) rfl (by decide) (off := 75) (tgt := 97) (by decide) (by decide +kernel) ⟨fun c1 => ?_, fun c1 => ?_⟩
  · have k := k.1 c1
    refine xr_iload (i := 4) (List.mem_of_getElem? (i := 4) rfl) (by decide +kernel) ?_
    exact xr_iret rfl (by decide +kernel) k
  · have k := k.2 c1
    refine xr_iconst (n := 0) (by decide +kernel) ?_
    refine xr_istore (i := 6) (by decide) rfl (by decide +kernel) ?_
    refine xr_sub (lo' := [(0, (sh_r 1)), (1, (sh_i x1)), (2, (sh_i x2)), (3, (sh_i x3)), (4, (sh_i x4)), (5, (sh_i (x5 : Int))), (6, (sh_i 0))]) [1, 2, 3, 4, 5, 6, 0] rfl ?_
    exact k
theorem v_Sto_ask_28 {g : sh_G} {d : Nat}  {B : Nat} (hB : ob0 B) {mem : sh_Mem} {Q : Option sh_V → sh_Mem → Prop}  {x1 : Int} {x2 : Int} {x3 : Int} {x4 : Int} {x5 : Nat} {x6 : Nat} (k : (mem 1 9 = (B : Int) ∧ (((i3 (mem B 0)) ≤ (i3 (x6 : Int)) → sh_X g (d + 1) m_Sto_ask 18 [(0, (sh_r 1)), (1, (sh_i x1)), (2, (sh_i x2)), (3, (sh_i x3)), (4, (sh_i x4)), (5, (sh_i (((x5 + 1) : Nat) : Int)))] [] mem (sh_K m_Sto_ask Q)) ∧ (¬ (i3 (mem B 0)) ≤ (i3 (x6 : Int)) → (sh_Cal g d m_Sto_openTo [(sh_r 1), (sh_i (x6 : Int)), (sh_i (x5 : Int))] mem fun rv m1 => ∃ r1 : Int, rv = some (sh_i r1) ∧ (sh_Cal g d m_Int_bitCount [(sh_i (i_and x1 r1))] m1 fun rv m2 => ∃ r2 : Int, rv = some (sh_i r2) ∧ (((i3 x3) ≤ (i3 (if (i3 r2) < (i3 (x2 - r2)) then (x2 - r2) else r2)) → sh_X g (d + 1) m_Sto_ask 28 [(0, (sh_r 1)), (1, (sh_i x1)), (2, (sh_i x2)), (3, (sh_i x3)), (4, (sh_i x4)), (5, (sh_i (x5 : Int))), (6, (sh_i (((x6 + 1) : Nat) : Int)))] [] m2 (sh_K m_Sto_ask Q)) ∧ (¬ (i3 x3) ≤ (i3 (if (i3 r2) < (i3 (x2 - r2)) then (x2 - r2) else r2)) → sh_X g (d + 1) m_Sto_ask 28 [(0, (sh_r 1)), (1, (sh_i x1)), (2, (sh_i x2)), (3, (sh_i (if (i3 r2) < (i3 (x2 - r2)) then (x2 - r2) else r2))), (4, (sh_i ((((8 * x5) + x6) : Nat) : Int))), (5, (sh_i (x5 : Int))), (6, (sh_i (((x6 + 1) : Nat) : Int)))] [] m2 (sh_K m_Sto_ask Q))))))))) : sh_X g (d + 1) m_Sto_ask 28 [(0, (sh_r 1)), (1, (sh_i x1)), (2, (sh_i x2)), (3, (sh_i x3)), (4, (sh_i x4)), (5, (sh_i (x5 : Int))), (6, (sh_i (x6 : Int)))] [] mem (sh_K m_Sto_ask Q) := by
  refine xr_iload (i := 6) (List.mem_of_getElem? (i := 6) rfl) (by decide +kernel) ?_
  refine xr_aload_n (n := 0) (i := 0) rfl (List.mem_of_getElem? (i := 0) rfl) (by decide +kernel) ?_
  obtain ⟨o, k⟩ := k
  refine xr_getD (b := B) rfl fl_Sto_72 rfl o (by decide +kernel) ?_
  refine xr_getI (ob0_0 hB) fl_Sto_201 (by decide) (by decide +kernel) ?_
  refine xr_icmp_ge (a' := (i3 (x6 : Int))) (b' := (i3 (mem B 0))) rfl rfl (off := 54) (tgt := 91) (by decide) (by decide +kernel) ⟨fun c1 => ?_, fun c1 => ?_⟩
  · have k := k.1 c1
    refine xr_iinc (n := 1) (lo' := [(5, (sh_i (((x5 + 1) : Nat) : Int))), (0, (sh_r 1)), (1, (sh_i x1)), (2, (sh_i x2)), (3, (sh_i x3)), (4, (sh_i x4)), (6, (sh_i (x6 : Int)))]) (List.mem_of_getElem? (i := 5) rfl) (by decide) rfl (by decide +kernel) ?_
    refine xr_goto (off := (-76)) (tgt := 18) (by decide) (by decide +kernel) ?_
    refine xr_sub (lo' := [(0, (sh_r 1)), (1, (sh_i x1)), (2, (sh_i x2)), (3, (sh_i x3)), (4, (sh_i x4)), (5, (sh_i (((x5 + 1) : Nat) : Int)))]) [1, 2, 3, 4, 5, 0] rfl ?_
    exact k
  · have k := k.2 c1
    refine xr_iload_n (n := 1) (i := 1) rfl (List.mem_of_getElem? (i := 1) rfl) (by decide +kernel) ?_
    refine xr_aload_n (n := 0) (i := 0) rfl (List.mem_of_getElem? (i := 0) rfl) (by decide +kernel) ?_
    refine xr_iload (i := 6) (List.mem_of_getElem? (i := 6) rfl) (by decide +kernel) ?_
    refine xr_iload (i := 5) (List.mem_of_getElem? (i := 5) rfl) (by decide +kernel) ?_
    refine xr_callV (av := [(sh_i (x6 : Int)), (sh_i (x5 : Int))]) rfl rfl rfl mo_Sto_openTo ml_Sto_287 im_Sto_openTo se_Sto_openTo rfl (Nat.le_of_ble_eq_true rfl) (by decide +kernel) (sh_mono k ?_)
    rintro rv m1 ⟨r1, rfl, k⟩
    show sh_X g (d + 1) m_Sto_ask _ _ [(sh_i r1), (sh_i x1)] _ _
    refine xr_iand (by decide +kernel) ?_
    refine xr_callS (av := [(sh_i (i_and x1 r1))]) mo_Int_bitCount ml_Sto_282 sa_Int_bitCount rfl (Nat.le_of_ble_eq_true rfl) (by decide +kernel) (sh_mono k ?_)
    rintro rv m2 ⟨r2, rfl, k⟩
    show sh_X g (d + 1) m_Sto_ask _ _ [(sh_i r2)] _ _
    refine xr_istore (i := 7) (by decide) rfl (by decide +kernel) ?_
    refine xr_iload (i := 7) (List.mem_of_getElem? (i := 0) rfl) (by decide +kernel) ?_
    refine xr_iload_n (n := 2) (i := 2) rfl (List.mem_of_getElem? (i := 3) rfl) (by decide +kernel) ?_
    refine xr_iload (i := 7) (List.mem_of_getElem? (i := 0) rfl) (by decide +kernel) ?_
    refine xr_isub (by decide +kernel) ?_
    show sh_X g (d + 1) m_Sto_ask _ _ ((sh_i (x2 - r2)) :: _) _ _
    refine xr_mmax ml_Sto_231 (Nat.le_of_ble_eq_true rfl) (by decide +kernel) ?_
    refine xr_istore (i := 8) (by decide) rfl (by decide +kernel) ?_
    refine xr_iload (i := 8) (List.mem_of_getElem? (i := 0) rfl) (by decide +kernel) ?_
    refine xr_iload_n (n := 3) (i := 3) rfl (List.mem_of_getElem? (i := 5) rfl) (by decide +kernel) ?_
    refine xr_icmp_ge (a' := (i3 (if (i3 r2) < (i3 (x2 - r2)) then (x2 - r2) else r2))) (b' := (i3 x3)) rfl rfl (off := 16) (tgt := 85) (by decide) (by decide +kernel) ⟨fun c2 => ?_, fun c2 => ?_⟩
    · have k := k.1 c2
      refine xr_iinc (n := 1) (lo' := [(6, (sh_i (((x6 + 1) : Nat) : Int))), (8, (sh_i (if (i3 r2) < (i3 (x2 - r2)) then (x2 - r2) else r2))), (7, (sh_i r2)), (0, (sh_r 1)), (1, (sh_i x1)), (2, (sh_i x2)), (3, (sh_i x3)), (4, (sh_i x4)), (5, (sh_i (x5 : Int)))]) (List.mem_of_getElem? (i := 8) rfl) (by decide) rfl (by decide +kernel) ?_
      refine xr_goto (off := (-60)) (tgt := 28) (by decide) (by decide +kernel) ?_
      refine xr_sub (lo' := [(0, (sh_r 1)), (1, (sh_i x1)), (2, (sh_i x2)), (3, (sh_i x3)), (4, (sh_i x4)), (5, (sh_i (x5 : Int))), (6, (sh_i (((x6 + 1) : Nat) : Int)))]) [3, 4, 5, 6, 7, 8, 0] rfl ?_
      exact k
    · have k := k.2 c2
      refine xr_iload (i := 8) (List.mem_of_getElem? (i := 0) rfl) (by decide +kernel) ?_
      refine xr_istore_n (n := 3) (i := 3) rfl (by decide) rfl (by decide +kernel) ?_
      refine xr_bipush (n := 8) (v := 8) (by decide) (by decide +kernel) ?_
      refine xr_iload (i := 5) (List.mem_of_getElem? (i := 7) rfl) (by decide +kernel) ?_
      refine xr_imul (by decide +kernel) ?_
      show sh_X g (d + 1) m_Sto_ask _ _ ((sh_i (((8 * x5) : Nat) : Int)) :: _) _ _
      refine xr_iload (i := 6) (List.mem_of_getElem? (i := 8) rfl) (by decide +kernel) ?_
      refine xr_iadd (by decide +kernel) ?_
      show sh_X g (d + 1) m_Sto_ask _ _ ((sh_i ((((8 * x5) + x6) : Nat) : Int)) :: _) _ _
      refine xr_istore (i := 4) (by decide) rfl (by decide +kernel) ?_
      refine xr_iinc (n := 1) (lo' := [(6, (sh_i (((x6 + 1) : Nat) : Int))), (4, (sh_i ((((8 * x5) + x6) : Nat) : Int))), (3, (sh_i (if (i3 r2) < (i3 (x2 - r2)) then (x2 - r2) else r2))), (8, (sh_i (if (i3 r2) < (i3 (x2 - r2)) then (x2 - r2) else r2))), (7, (sh_i r2)), (0, (sh_r 1)), (1, (sh_i x1)), (2, (sh_i x2)), (5, (sh_i (x5 : Int)))]) (List.mem_of_getElem? (i := 8) rfl) (by decide) rfl (by decide +kernel) ?_
      refine xr_goto (off := (-60)) (tgt := 28) (by decide) (by decide +kernel) ?_
      refine xr_sub (lo' := [(0, (sh_r 1)), (1, (sh_i x1)), (2, (sh_i x2)), (3, (sh_i (if (i3 r2) < (i3 (x2 - r2)) then (x2 - r2) else r2))), (4, (sh_i ((((8 * x5) + x6) : Nat) : Int))), (5, (sh_i (x5 : Int))), (6, (sh_i (((x6 + 1) : Nat) : Int)))]) [5, 6, 7, 2, 1, 8, 0] rfl ?_
      exact k

theorem v_Sto_chance {g : sh_G} {d : Nat} {thief : Int} {day : Int} {nights : Int} {odds : Int} {B : Nat} (hB : ob0 B) {mem : sh_Mem} {Q : Option sh_V → sh_Mem → Prop}  (k : (sh_Cal g d m_Sto_isThief [(sh_r 1), (sh_i thief)] mem fun rv m1 => ∃ r1 : Int, rv = some (sh_i r1) ∧ (((i3 r1) = 0 → Q (some (sh_i (-1))) m1) ∧ (¬ (i3 r1) = 0 → (sh_Cal g d m_Sto_isDay [(sh_r 1), (sh_i day)] m1 fun rv m2 => ∃ r2 : Int, rv = some (sh_i r2) ∧ (((i3 r2) = 0 → Q (some (sh_i (-1))) m2) ∧ (¬ (i3 r2) = 0 → (sh_Cal g d m_Sto_isWithin [(sh_i nights), (sh_i 1), (sh_i 6)] m2 fun rv m3 => ∃ r3 : Int, rv = some (sh_i r3) ∧ (((i3 r3) = 0 → Q (some (sh_i (-1))) m3) ∧ (¬ (i3 r3) = 0 → (sh_Cal g d m_Sto_isWithin [(sh_i odds), (sh_i 0), (sh_i 10)] m3 fun rv m4 => ∃ r4 : Int, rv = some (sh_i r4) ∧ ((¬ (i3 r4) = 0 → (sh_Cal g d m_State_isFreeBehind [(sh_r 5), (sh_i thief), (sh_i nights)] m4 fun rv m5 => ∃ r5 : Int, rv = some (sh_i r5) ∧ (((i3 r5) = 0 → Q (some (sh_i 0)) m5) ∧ (¬ (i3 r5) = 0 → (m5 1 9 = (B : Int) ∧ (sh_Cal g d m_State_leftBehind [(sh_r 5), (sh_r B), (sh_i day), (sh_i nights)] m5 fun rv m6 => ∃ r6 : Int, rv = some (sh_i r6) ∧ ((0 < (i3 r6) → sh_X g (d + 1) m_Sto_chance 77 [(0, (sh_r 1)), (1, (sh_i thief)), (2, (sh_i day)), (3, (sh_i nights)), (4, (sh_i odds)), (5, (sh_i 1000000)), (6, (sh_i 0))] [] m6 (sh_K m_Sto_chance Q)) ∧ (¬ 0 < (i3 r6) → Q (some (sh_i 0)) m6)))))))) ∧ ((i3 r4) = 0 → Q (some (sh_i (-1))) m4))))))))))))) : sh_Cal g (d + 1) m_Sto_chance [(sh_r 1), (sh_i thief), (sh_i day), (sh_i nights), (sh_i odds)] mem Q := by
  refine sh_met (by decide +kernel) (Nat.le_of_ble_eq_true rfl) (lo := [(0, (sh_r 1)), (1, (sh_i thief)), (2, (sh_i day)), (3, (sh_i nights)), (4, (sh_i odds))]) rfl ?_
  refine xr_aload_n (n := 0) (i := 0) rfl (List.mem_of_getElem? (i := 0) rfl) (by decide +kernel) ?_
  refine xr_iload_n (n := 1) (i := 1) rfl (List.mem_of_getElem? (i := 1) rfl) (by decide +kernel) ?_
  refine xr_callV (av := [(sh_i thief)]) rfl rfl rfl mo_Sto_isThief ml_Sto_138 im_Sto_isThief se_Sto_isThief rfl (Nat.le_of_ble_eq_true rfl) (by decide +kernel) (sh_mono k ?_)
  rintro rv m1 ⟨r1, rfl, k⟩
  show sh_X g (d + 1) m_Sto_chance _ _ [(sh_i r1)] _ _
  refine xr_if_eq (a' := (i3 r1)) rfl (off := 32) (tgt := 37) (by decide) (by decide +kernel) ⟨fun c1 => ?_, fun c1 => ?_⟩
  · have k := k.1 c1
    refine xr_iconst (n := (-1)) (by decide +kernel) ?_
    exact xr_iret rfl (by decide +kernel) k
  · have k := k.2 c1
    refine xr_aload_n (n := 0) (i := 0) rfl (List.mem_of_getElem? (i := 0) rfl) (by decide +kernel) ?_
    refine xr_iload_n (n := 2) (i := 2) rfl (List.mem_of_getElem? (i := 2) rfl) (by decide +kernel) ?_
    refine xr_callV (av := [(sh_i day)]) rfl rfl rfl mo_Sto_isDay ml_Sto_121 im_Sto_isDay se_Sto_isDay rfl (Nat.le_of_ble_eq_true rfl) (by decide +kernel) (sh_mono k ?_)
    rintro rv m2 ⟨r2, rfl, k⟩
    show sh_X g (d + 1) m_Sto_chance _ _ [(sh_i r2)] _ _
    refine xr_if_eq (a' := (i3 r2)) rfl (off := 24) (tgt := 37) (by decide) (by decide +kernel) ⟨fun c2 => ?_, fun c2 => ?_⟩
    · have k := k.1 c2
      refine xr_iconst (n := (-1)) (by decide +kernel) ?_
      exact xr_iret rfl (by decide +kernel) k
    · have k := k.2 c2
      refine xr_iload_n (n := 3) (i := 3) rfl (List.mem_of_getElem? (i := 3) rfl) (by decide +kernel) ?_
      refine xr_iconst (n := 1) (by decide +kernel) ?_
      refine xr_bipush (n := 6) (v := 6) (by decide) (by decide +kernel) ?_
      refine xr_callS (av := [(sh_i nights), (sh_i 1), (sh_i 6)]) mo_Sto_isWithin ml_Sto_213 sa_Sto_isWithin rfl (Nat.le_of_ble_eq_true rfl) (by decide +kernel) (sh_mono k ?_)
      rintro rv m3 ⟨r3, rfl, k⟩
      show sh_X g (d + 1) m_Sto_chance _ _ [(sh_i r3)] _ _
      refine xr_if_eq (a' := (i3 r3)) rfl (off := 14) (tgt := 37) (by decide) (by decide +kernel) ⟨fun c3 => ?_, fun c3 => ?_⟩
      · have k := k.1 c3
        refine xr_iconst (n := (-1)) (by decide +kernel) ?_
        exact xr_iret rfl (by decide +kernel) k
      · have k := k.2 c3
        refine xr_iload (i := 4) (List.mem_of_getElem? (i := 4) rfl) (by decide +kernel) ?_
        refine xr_iconst (n := 0) (by decide +kernel) ?_
        refine xr_bipush (n := 10) (v := 10) (by decide) (by decide +kernel) ?_
        refine xr_callS (av := [(sh_i odds), (sh_i 0), (sh_i 10)]) mo_Sto_isWithin ml_Sto_213 sa_Sto_isWithin rfl (Nat.le_of_ble_eq_true rfl) (by decide +kernel) (sh_mono k ?_)
        rintro rv m4 ⟨r4, rfl, k⟩
        show sh_X g (d + 1) m_Sto_chance _ _ [(sh_i r4)] _ _
        refine xr_if_ne (a' := (i3 r4)) rfl (off := 5) (tgt := 39) (by decide) (by decide +kernel) ⟨fun c4 => ?_, fun c4 => ?_⟩
        · have k := k.1 c4
          refine xr_aload_n (n := 0) (i := 0) rfl (List.mem_of_getElem? (i := 0) rfl) (by decide +kernel) ?_
          refine xr_getR (o := 4) rfl fl_Sto_28 rfl (by decide +kernel) ?_
          show sh_X g (d + 1) m_Sto_chance _ _ ((sh_r 5) :: _) _ _
          refine xr_iload_n (n := 1) (i := 1) rfl (List.mem_of_getElem? (i := 1) rfl) (by decide +kernel) ?_
          refine xr_iload_n (n := 3) (i := 3) rfl (List.mem_of_getElem? (i := 3) rfl) (by decide +kernel) ?_
          refine xr_callV (av := [(sh_i thief), (sh_i nights)]) rfl rfl rfl mo_State_isFreeBehind ml_Sto_290 im_State_isFreeBehind se_State_isFreeBehind rfl (Nat.le_of_ble_eq_true rfl) (by decide +kernel) (sh_mono k ?_)
          rintro rv m5 ⟨r5, rfl, k⟩
          show sh_X g (d + 1) m_Sto_chance _ _ [(sh_i r5)] _ _
          refine xr_if_eq (a' := (i3 r5)) rfl (off := 19) (tgt := 67) (by decide) (by decide +kernel) ⟨fun c5 => ?_, fun c5 => ?_⟩
          · have k := k.1 c5
            refine xr_iconst (n := 0) (by decide +kernel) ?_
            exact xr_iret rfl (by decide +kernel) k
          · have k := k.2 c5
            refine xr_aload_n (n := 0) (i := 0) rfl (List.mem_of_getElem? (i := 0) rfl) (by decide +kernel) ?_
            refine xr_getR (o := 4) rfl fl_Sto_28 rfl (by decide +kernel) ?_
            show sh_X g (d + 1) m_Sto_chance _ _ ((sh_r 5) :: _) _ _
            refine xr_aload_n (n := 0) (i := 0) rfl (List.mem_of_getElem? (i := 0) rfl) (by decide +kernel) ?_
            obtain ⟨o, k⟩ := k
            refine xr_getD (b := B) rfl fl_Sto_72 rfl o (by decide +kernel) ?_
            refine xr_iload_n (n := 2) (i := 2) rfl (List.mem_of_getElem? (i := 2) rfl) (by decide +kernel) ?_
            refine xr_iload_n (n := 3) (i := 3) rfl (List.mem_of_getElem? (i := 3) rfl) (by decide +kernel) ?_
            refine xr_callV (av := [(sh_r B), (sh_i day), (sh_i nights)]) rfl rfl rfl mo_State_leftBehind ml_Sto_217 im_State_leftBehind se_State_leftBehind rfl (Nat.le_of_ble_eq_true rfl) (by decide +kernel) (sh_mono k ?_)
            rintro rv m6 ⟨r6, rfl, k⟩
            show sh_X g (d + 1) m_Sto_chance _ _ [(sh_i r6)] _ _
            refine xr_if_gt (a' := (i3 r6)) rfl (off := 5) (tgt := 69) (by decide) (by decide +kernel) ⟨fun c6 => ?_, fun c6 => ?_⟩
            · have k := k.1 c6
              refine xr_ldcwI (v := 1000000) (by decide) ki_Sto_293 (by decide +kernel) ?_
              refine xr_istore (i := 5) (by decide) rfl (by decide +kernel) ?_
              refine xr_iconst (n := 0) (by decide +kernel) ?_
              refine xr_istore (i := 6) (by decide) rfl (by decide +kernel) ?_
              refine xr_sub (lo' := [(0, (sh_r 1)), (1, (sh_i thief)), (2, (sh_i day)), (3, (sh_i nights)), (4, (sh_i odds)), (5, (sh_i 1000000)), (6, (sh_i 0))]) [2, 3, 4, 5, 6, 1, 0] rfl ?_
              exact k
            · have k := k.2 c6
              refine xr_iconst (n := 0) (by decide +kernel) ?_
              exact xr_iret rfl (by decide +kernel) k
        · have k := k.2 c4
          refine xr_iconst (n := (-1)) (by decide +kernel) ?_
          exact xr_iret rfl (by decide +kernel) k
theorem v_Sto_chance_77 {g : sh_G} {d : Nat} {thief : Int} {day : Int} {nights : Int} {odds : Int} {B : Nat} (hB : ob0 B) {mem : sh_Mem} {Q : Option sh_V → sh_Mem → Prop}  {x5 : Int} {x6 : Nat} (k : (((i3 nights) ≤ (i3 (x6 : Int)) → ((0 ≤ (8 + day) ∧ (8 + day) < 45) ∧ (mem 1 9 = (B : Int) ∧ ((0 ≤ day ∧ day < 8) ∧ (mem 1 9 = (B : Int) ∧ ((0 ≤ thief ∧ thief < 4) ∧ (sh_Cal g d m_Sto_weightOpen [(sh_i (mem 6 ((8 + day)).toNat)), (sh_i (mem (B + 4) (day).toNat)), (sh_i (mem (B + 6) (thief).toNat)), (sh_i nights), (sh_i odds)] mem fun rv m1 => ∃ r1 : Int, rv = some (sh_i r1) ∧ Q (some (sh_i (x5 * r1))) m1))))))) ∧ (¬ (i3 nights) ≤ (i3 (x6 : Int)) → sh_X g (d + 1) m_Sto_chance 77 [(0, (sh_r 1)), (1, (sh_i thief)), (2, (sh_i day)), (3, (sh_i nights)), (4, (sh_i odds)), (5, (sh_i (i_div x5 10))), (6, (sh_i (((x6 + 1) : Nat) : Int)))] [] mem (sh_K m_Sto_chance Q)))) : sh_X g (d + 1) m_Sto_chance 77 [(0, (sh_r 1)), (1, (sh_i thief)), (2, (sh_i day)), (3, (sh_i nights)), (4, (sh_i odds)), (5, (sh_i x5)), (6, (sh_i (x6 : Int)))] [] mem (sh_K m_Sto_chance Q) := by
  refine xr_iload (i := 6) (List.mem_of_getElem? (i := 6) rfl) (by decide +kernel) ?_
  refine xr_iload_n (n := 3) (i := 3) rfl (List.mem_of_getElem? (i := 3) rfl) (by decide +kernel) ?_
  refine xr_icmp_ge (a' := (i3 (x6 : Int))) (b' := (i3 nights)) rfl rfl (off := 16) (tgt := 96) (by decide) (by decide +kernel) ⟨fun c1 => ?_, fun c1 => ?_⟩
  · have k := k.1 c1
    refine xr_iload (i := 5) (List.mem_of_getElem? (i := 5) rfl) (by decide +kernel) ?_
    refine xr_aload_n (n := 0) (i := 0) rfl (List.mem_of_getElem? (i := 0) rfl) (by decide +kernel) ?_
    refine xr_getR (o := 4) rfl fl_Sto_28 rfl (by decide +kernel) ?_
    show sh_X g (d + 1) m_Sto_chance _ _ ((sh_r 5) :: _) _ _
    refine xr_getR (o := 1) rfl fl_Sto_132 rfl (by decide +kernel) ?_
    show sh_X g (d + 1) m_Sto_chance _ _ ((sh_r 6) :: _) _ _
    refine xr_bipush (n := 8) (v := 8) (by decide) (by decide +kernel) ?_
    refine xr_iload_n (n := 2) (i := 2) rfl (List.mem_of_getElem? (i := 2) rfl) (by decide +kernel) ?_
    refine xr_iadd (by decide +kernel) ?_
    show sh_X g (d + 1) m_Sto_chance _ _ ((sh_i (8 + day)) :: _) _ _
    obtain ⟨o, k⟩ := k
    refine xr_iald rfl o.1 o.2 (by decide +kernel) ?_
    refine xr_aload_n (n := 0) (i := 0) rfl (List.mem_of_getElem? (i := 0) rfl) (by decide +kernel) ?_
    obtain ⟨o, k⟩ := k
    refine xr_getD (b := B) rfl fl_Sto_72 rfl o (by decide +kernel) ?_
    refine xr_getR (o := 4) (ob0_0 hB) fl_Sto_135 rfl (by decide +kernel) ?_
    show sh_X g (d + 1) m_Sto_chance _ _ ((sh_r (B + 4)) :: _) _ _
    refine xr_iload_n (n := 2) (i := 2) rfl (List.mem_of_getElem? (i := 2) rfl) (by decide +kernel) ?_
    obtain ⟨o, k⟩ := k
    refine xr_iald (ob0_4 hB) o.1 o.2 (by decide +kernel) ?_
    refine xr_aload_n (n := 0) (i := 0) rfl (List.mem_of_getElem? (i := 0) rfl) (by decide +kernel) ?_
    obtain ⟨o, k⟩ := k
    refine xr_getD (b := B) rfl fl_Sto_72 rfl o (by decide +kernel) ?_
    refine xr_getR (o := 6) (ob0_0 hB) fl_Sto_141 rfl (by decide +kernel) ?_
    show sh_X g (d + 1) m_Sto_chance _ _ ((sh_r (B + 6)) :: _) _ _
    refine xr_iload_n (n := 1) (i := 1) rfl (List.mem_of_getElem? (i := 1) rfl) (by decide +kernel) ?_
    obtain ⟨o, k⟩ := k
    refine xr_iald (ob0_6 hB) o.1 o.2 (by decide +kernel) ?_
    refine xr_iload_n (n := 3) (i := 3) rfl (List.mem_of_getElem? (i := 3) rfl) (by decide +kernel) ?_
    refine xr_iload (i := 4) (List.mem_of_getElem? (i := 4) rfl) (by decide +kernel) ?_
    refine xr_callS (av := [(sh_i (mem 6 ((8 + day)).toNat)), (sh_i (mem (B + 4) (day).toNat)), (sh_i (mem (B + 6) (thief).toNat)), (sh_i nights), (sh_i odds)]) mo_Sto_weightOpen ml_Sto_294 sa_Sto_weightOpen rfl (Nat.le_of_ble_eq_true rfl) (by decide +kernel) (sh_mono k ?_)
    rintro rv m1 ⟨r1, rfl, k⟩
    show sh_X g (d + 1) m_Sto_chance _ _ [(sh_i r1), (sh_i x5)] _ _
    refine xr_imul (by decide +kernel) ?_
    show sh_X g (d + 1) m_Sto_chance _ _ ((sh_i (x5 * r1)) :: _) _ _
    exact xr_iret rfl (by decide +kernel) k
  · have k := k.2 c1
    refine xr_iload (i := 5) (List.mem_of_getElem? (i := 5) rfl) (by decide +kernel) ?_
    refine xr_bipush (n := 10) (v := 10) (by decide) (by decide +kernel) ?_
    refine xr_idiv (by decide) (by decide +kernel) ?_
    refine xr_istore (i := 5) (by decide) rfl (by decide +kernel) ?_
    refine xr_iinc (n := 1) (lo' := [(6, (sh_i (((x6 + 1) : Nat) : Int))), (5, (sh_i (i_div x5 10))), (0, (sh_r 1)), (1, (sh_i thief)), (2, (sh_i day)), (3, (sh_i nights)), (4, (sh_i odds))]) (List.mem_of_getElem? (i := 6) rfl) (by decide) rfl (by decide +kernel) ?_
    refine xr_goto (off := (-16)) (tgt := 77) (by decide) (by decide +kernel) ?_
    refine xr_sub (lo' := [(0, (sh_r 1)), (1, (sh_i thief)), (2, (sh_i day)), (3, (sh_i nights)), (4, (sh_i odds)), (5, (sh_i (i_div x5 10))), (6, (sh_i (((x6 + 1) : Nat) : Int)))]) [2, 3, 4, 5, 6, 1, 0] rfl ?_
    exact k

theorem v_Sto_years {g : sh_G} {d : Nat} {seed : Int} {nights : Int} {what : Int} {B : Nat} (hB : ob0 B) {mem : sh_Mem} {Q : Option sh_V → sh_Mem → Prop}  (k : (sh_Cal g d m_Sto_isWithin [(sh_i seed), (sh_i 0), (sh_i 9999)] mem fun rv m1 => ∃ r1 : Int, rv = some (sh_i r1) ∧ (((i3 r1) = 0 → Q (some (sh_i (-1))) m1) ∧ (¬ (i3 r1) = 0 → (sh_Cal g d m_Sto_isWithin [(sh_i nights), (sh_i 1), (sh_i 99)] m1 fun rv m2 => ∃ r2 : Int, rv = some (sh_i r2) ∧ (((i3 r2) = 0 → Q (some (sh_i (-1))) m2) ∧ (¬ (i3 r2) = 0 → (sh_Cal g d m_Sto_isWithin [(sh_i what), (sh_i 0), (sh_i 2)] m2 fun rv m3 => ∃ r3 : Int, rv = some (sh_i r3) ∧ ((¬ (i3 r3) = 0 → (sh_Cal g d m_State_copy [(sh_r 7), (sh_r 5)] m3 fun rv m4 => rv = none ∧ sh_X g (d + 1) m_Sto_years 52 [(0, (sh_r 1)), (1, (sh_i seed)), (2, (sh_i nights)), (3, (sh_i what)), (4, (sh_i 0)), (5, (sh_i seed)), (6, (sh_i 0))] [] m4 (sh_K m_Sto_years Q))) ∧ ((i3 r3) = 0 → Q (some (sh_i (-1))) m3)))))))))) : sh_Cal g (d + 1) m_Sto_years [(sh_r 1), (sh_i seed), (sh_i nights), (sh_i what)] mem Q := by
  refine sh_met (by decide +kernel) (Nat.le_of_ble_eq_true rfl) (lo := [(0, (sh_r 1)), (1, (sh_i seed)), (2, (sh_i nights)), (3, (sh_i what))]) rfl ?_
  refine xr_iload_n (n := 1) (i := 1) rfl (List.mem_of_getElem? (i := 1) rfl) (by decide +kernel) ?_
  refine xr_iconst (n := 0) (by decide +kernel) ?_
  refine xr_sipush (n := 9999) (v := 9999) (by decide) (by decide +kernel) ?_
  refine xr_callS (av := [(sh_i seed), (sh_i 0), (sh_i 9999)]) mo_Sto_isWithin ml_Sto_213 sa_Sto_isWithin rfl (Nat.le_of_ble_eq_true rfl) (by decide +kernel) (sh_mono k ?_)
  rintro rv m1 ⟨r1, rfl, k⟩
  show sh_X g (d + 1) m_Sto_years _ _ [(sh_i r1)] _ _
  refine xr_if_eq (a' := (i3 r1)) rfl (off := 22) (tgt := 30) (by decide) (by decide +kernel) ⟨fun c1 => ?_, fun c1 => ?_⟩
  · have k := k.1 c1
    refine xr_iconst (n := (-1)) (by decide +kernel) ?_
    exact xr_iret rfl (by decide +kernel) k
  · have k := k.2 c1
    refine xr_iload_n (n := 2) (i := 2) rfl (List.mem_of_getElem? (i := 2) rfl) (by decide +kernel) ?_
    refine xr_iconst (n := 1) (by decide +kernel) ?_
    refine xr_bipush (n := 99) (v := 99) (by decide) (by decide +kernel) ?_
    refine xr_callS (av := [(sh_i nights), (sh_i 1), (sh_i 99)]) mo_Sto_isWithin ml_Sto_213 sa_Sto_isWithin rfl (Nat.le_of_ble_eq_true rfl) (by decide +kernel) (sh_mono k ?_)
    rintro rv m2 ⟨r2, rfl, k⟩
    show sh_X g (d + 1) m_Sto_years _ _ [(sh_i r2)] _ _
    refine xr_if_eq (a' := (i3 r2)) rfl (off := 12) (tgt := 30) (by decide) (by decide +kernel) ⟨fun c2 => ?_, fun c2 => ?_⟩
    · have k := k.1 c2
      refine xr_iconst (n := (-1)) (by decide +kernel) ?_
      exact xr_iret rfl (by decide +kernel) k
    · have k := k.2 c2
      refine xr_iload_n (n := 3) (i := 3) rfl (List.mem_of_getElem? (i := 3) rfl) (by decide +kernel) ?_
      refine xr_iconst (n := 0) (by decide +kernel) ?_
      refine xr_iconst (n := 2) (by decide +kernel) ?_
      refine xr_callS (av := [(sh_i what), (sh_i 0), (sh_i 2)]) mo_Sto_isWithin ml_Sto_213 sa_Sto_isWithin rfl (Nat.le_of_ble_eq_true rfl) (by decide +kernel) (sh_mono k ?_)
      rintro rv m3 ⟨r3, rfl, k⟩
      show sh_X g (d + 1) m_Sto_years _ _ [(sh_i r3)] _ _
      refine xr_if_ne (a' := (i3 r3)) rfl (off := 5) (tgt := 32) (by decide) (by decide +kernel) ⟨fun c3 => ?_, fun c3 => ?_⟩
      · have k := k.1 c3
        refine xr_aload_n (n := 0) (i := 0) rfl (List.mem_of_getElem? (i := 0) rfl) (by decide +kernel) ?_
        refine xr_getR (o := 6) rfl fl_Sto_32 rfl (by decide +kernel) ?_
        show sh_X g (d + 1) m_Sto_years _ _ ((sh_r 7) :: _) _ _
        refine xr_aload_n (n := 0) (i := 0) rfl (List.mem_of_getElem? (i := 0) rfl) (by decide +kernel) ?_
        refine xr_getR (o := 4) rfl fl_Sto_28 rfl (by decide +kernel) ?_
        show sh_X g (d + 1) m_Sto_years _ _ ((sh_r 5) :: _) _ _
        refine xr_callV (av := [(sh_r 5)]) rfl rfl rfl mo_State_copy ml_Sto_305 im_State_copy se_State_copy rfl (Nat.le_of_ble_eq_true rfl) (by decide +kernel) (sh_mono k ?_)
        rintro rv m4 ⟨rfl, k⟩
        show sh_X g (d + 1) m_Sto_years _ _ [] _ _
        refine xr_iconst (n := 0) (by decide +kernel) ?_
        refine xr_istore (i := 4) (by decide) rfl (by decide +kernel) ?_
        refine xr_iload_n (n := 1) (i := 1) rfl (List.mem_of_getElem? (i := 2) rfl) (by decide +kernel) ?_
        refine xr_istore (i := 5) (by decide) rfl (by decide +kernel) ?_
        refine xr_iconst (n := 0) (by decide +kernel) ?_
        refine xr_istore (i := 6) (by decide) rfl (by decide +kernel) ?_
        refine xr_sub (lo' := [(0, (sh_r 1)), (1, (sh_i seed)), (2, (sh_i nights)), (3, (sh_i what)), (4, (sh_i 0)), (5, (sh_i seed)), (6, (sh_i 0))]) [3, 4, 5, 6, 2, 1, 0] rfl ?_
        exact k
      · have k := k.2 c3
        refine xr_iconst (n := (-1)) (by decide +kernel) ?_
        exact xr_iret rfl (by decide +kernel) k
theorem v_Sto_years_52 {g : sh_G} {d : Nat} {seed : Int} {nights : Int} {what : Int} {B : Nat} (hB : ob0 B) {mem : sh_Mem} {Q : Option sh_V → sh_Mem → Prop}  {x4 : Int} {x5 : Int} {x6 : Nat} (k : (((i3 nights) ≤ (i3 (x6 : Int)) → ((¬ (i3 what) = 0 → ((¬ (i3 what) = 1 → (sh_Cal g d m_State_prisoners [(sh_r 7)] mem fun rv m1 => ∃ r1 : Int, rv = some (sh_i r1) ∧ Q (some (sh_i r1)) m1)) ∧ ((i3 what) = 1 → (sh_Cal g d m_State_sumOfThieves [(sh_r 7), (sh_i 36)] mem fun rv m2 => ∃ r2 : Int, rv = some (sh_i r2) ∧ Q (some (sh_i r2)) m2)))) ∧ ((i3 what) = 0 → Q (some (sh_i x4)) mem))) ∧ (¬ (i3 nights) ≤ (i3 (x6 : Int)) → (mem 1 9 = (B : Int) ∧ (((i3 (mem B 1)) ≤ 0 → (mem 1 9 = (B : Int) ∧ (sh_Cal g d m_State_sleep [(sh_r 7), (sh_r B)] mem fun rv m3 => rv = none ∧ sh_X g (d + 1) m_Sto_years 52 [(0, (sh_r 1)), (1, (sh_i seed)), (2, (sh_i nights)), (3, (sh_i what)), (4, (sh_i x4)), (5, (sh_i x5)), (6, (sh_i (((x6 + 1) : Nat) : Int)))] [] m3 (sh_K m_Sto_years Q)))) ∧ (¬ (i3 (mem B 1)) ≤ 0 → (mem 1 9 = (B : Int) ∧ (((i3 (mem B 0)) ≤ 0 → (mem 1 9 = (B : Int) ∧ (sh_Cal g d m_State_sleep [(sh_r 7), (sh_r B)] mem fun rv m4 => rv = none ∧ sh_X g (d + 1) m_Sto_years 52 [(0, (sh_r 1)), (1, (sh_i seed)), (2, (sh_i nights)), (3, (sh_i what)), (4, (sh_i x4)), (5, (sh_i x5)), (6, (sh_i (((x6 + 1) : Nat) : Int)))] [] m4 (sh_K m_Sto_years Q)))) ∧ (¬ (i3 (mem B 0)) ≤ 0 → (sh_Cal g d m_Sto_nextDraw [(sh_i x5)] mem fun rv m5 => ∃ r3 : Int, rv = some (sh_i r3) ∧ (m5 1 9 = (B : Int) ∧ (¬ Int32.ofInt (m5 B 1) = 0 ∧ (sh_Cal g d m_Sto_nextDraw [(sh_i r3)] m5 fun rv m6 => ∃ r4 : Int, rv = some (sh_i r4) ∧ (m6 1 9 = (B : Int) ∧ (¬ Int32.ofInt (m6 B 0) = 0 ∧ (sh_Cal g d m_Sto_nextDraw [(sh_i r4)] m6 fun rv m7 => ∃ r5 : Int, rv = some (sh_i r5) ∧ (sh_Cal g d m_Sto_tryDrawn [(sh_r 1), (sh_i (i_rem (i_shr r3 16) (m5 B 1))), (sh_i (i_rem (i_shr r4 16) (m6 B 0))), (sh_i (i_rem (i_shr r5 16) 4))] m7 fun rv m8 => ∃ r6 : Int, rv = some (sh_i r6) ∧ (m8 1 9 = (B : Int) ∧ (sh_Cal g d m_State_sleep [(sh_r 7), (sh_r B)] m8 fun rv m9 => rv = none ∧ sh_X g (d + 1) m_Sto_years 52 [(0, (sh_r 1)), (1, (sh_i seed)), (2, (sh_i nights)), (3, (sh_i what)), (4, (sh_i (x4 + r6))), (5, (sh_i r5)), (6, (sh_i (((x6 + 1) : Nat) : Int)))] [] m9 (sh_K m_Sto_years Q)))))))))))))))))))) : sh_X g (d + 1) m_Sto_years 52 [(0, (sh_r 1)), (1, (sh_i seed)), (2, (sh_i nights)), (3, (sh_i what)), (4, (sh_i x4)), (5, (sh_i x5)), (6, (sh_i (x6 : Int)))] [] mem (sh_K m_Sto_years Q) := by
  refine xr_iload (i := 6) (List.mem_of_getElem? (i := 6) rfl) (by decide +kernel) ?_
  refine xr_iload_n (n := 2) (i := 2) rfl (List.mem_of_getElem? (i := 2) rfl) (by decide +kernel) ?_
  refine xr_icmp_ge (a' := (i3 (x6 : Int))) (b' := (i3 nights)) rfl rfl (off := 111) (tgt := 166) (by decide) (by decide +kernel) ⟨fun c1 => ?_, fun c1 => ?_⟩
  · have k := k.1 c1
    refine xr_iload_n (n := 3) (i := 3) rfl (List.mem_of_getElem? (i := 3) rfl) (by decide +kernel) ?_
    refine xr_if_ne (a' := (i3 what)) rfl (off := 6) (tgt := 173) (by decide) (by decide +kernel) ⟨fun c2 => ?_, fun c2 => ?_⟩
    · have k := k.1 c2
      refine xr_iload_n (n := 3) (i := 3) rfl (List.mem_of_getElem? (i := 3) rfl) (by decide +kernel) ?_
      refine xr_iconst (n := 1) (by decide +kernel) ?_
      refine xr_icmp_ne (a' := (i3 what)) (b' := 1) rfl (by decide) (off := 15) (tgt := 190) (by decide) (by decide +kernel) ⟨fun c3 => ?_, fun c3 => ?_⟩
      · have k := k.1 c3
        refine xr_aload_n (n := 0) (i := 0) rfl (List.mem_of_getElem? (i := 0) rfl) (by decide +kernel) ?_
        refine xr_getR (o := 6) rfl fl_Sto_32 rfl (by decide +kernel) ?_
        show sh_X g (d + 1) m_Sto_years _ _ ((sh_r 7) :: _) _ _
        refine xr_callV (av := []) rfl rfl rfl mo_State_prisoners ml_Sto_315 im_State_prisoners se_State_prisoners rfl (Nat.le_of_ble_eq_true rfl) (by decide +kernel) (sh_mono k ?_)
        rintro rv m1 ⟨r1, rfl, k⟩
        show sh_X g (d + 1) m_Sto_years _ _ [(sh_i r1)] _ _
        exact xr_iret rfl (by decide +kernel) k
      · have k := k.2 c3
        refine xr_aload_n (n := 0) (i := 0) rfl (List.mem_of_getElem? (i := 0) rfl) (by decide +kernel) ?_
        refine xr_getR (o := 6) rfl fl_Sto_32 rfl (by decide +kernel) ?_
        show sh_X g (d + 1) m_Sto_years _ _ ((sh_r 7) :: _) _ _
        refine xr_bipush (n := 36) (v := 36) (by decide) (by decide +kernel) ?_
        refine xr_callV (av := [(sh_i 36)]) rfl rfl rfl mo_State_sumOfThieves ml_Sto_198 im_State_sumOfThieves se_State_sumOfThieves rfl (Nat.le_of_ble_eq_true rfl) (by decide +kernel) (sh_mono k ?_)
        rintro rv m2 ⟨r2, rfl, k⟩
        show sh_X g (d + 1) m_Sto_years _ _ [(sh_i r2)] _ _
        refine xr_goto (off := 10) (tgt := 197) (by decide) (by decide +kernel) ?_
        exact xr_iret rfl (by decide +kernel) k
    · have k := k.2 c2
      refine xr_iload (i := 4) (List.mem_of_getElem? (i := 4) rfl) (by decide +kernel) ?_
      exact xr_iret rfl (by decide +kernel) k
  · have k := k.2 c1
    refine xr_aload_n (n := 0) (i := 0) rfl (List.mem_of_getElem? (i := 0) rfl) (by decide +kernel) ?_
    obtain ⟨o, k⟩ := k
    refine xr_getD (b := B) rfl fl_Sto_72 rfl o (by decide +kernel) ?_
    refine xr_getI (ob0_0 hB) fl_Sto_272 (by decide) (by decide +kernel) ?_
    refine xr_if_le (a' := (i3 (mem B 1))) rfl (off := 84) (tgt := 149) (by decide) (by decide +kernel) ⟨fun c4 => ?_, fun c4 => ?_⟩
    · have k := k.1 c4
      refine xr_aload_n (n := 0) (i := 0) rfl (List.mem_of_getElem? (i := 0) rfl) (by decide +kernel) ?_
      refine xr_getR (o := 6) rfl fl_Sto_32 rfl (by decide +kernel) ?_
      show sh_X g (d + 1) m_Sto_years _ _ ((sh_r 7) :: _) _ _
      refine xr_aload_n (n := 0) (i := 0) rfl (List.mem_of_getElem? (i := 0) rfl) (by decide +kernel) ?_
      obtain ⟨o, k⟩ := k
      refine xr_getD (b := B) rfl fl_Sto_72 rfl o (by decide +kernel) ?_
      refine xr_callV (av := [(sh_r B)]) rfl rfl rfl mo_State_sleep ml_Sto_180 im_State_sleep se_State_sleep rfl (Nat.le_of_ble_eq_true rfl) (by decide +kernel) (sh_mono k ?_)
      rintro rv m3 ⟨rfl, k⟩
      show sh_X g (d + 1) m_Sto_years _ _ [] _ _
      refine xr_iinc (n := 1) (lo' := [(6, (sh_i (((x6 + 1) : Nat) : Int))), (0, (sh_r 1)), (1, (sh_i seed)), (2, (sh_i nights)), (3, (sh_i what)), (4, (sh_i x4)), (5, (sh_i x5))]) (List.mem_of_getElem? (i := 6) rfl) (by decide) rfl (by decide +kernel) ?_
      refine xr_goto (off := (-111)) (tgt := 52) (by decide) (by decide +kernel) ?_
      refine xr_sub (lo' := [(0, (sh_r 1)), (1, (sh_i seed)), (2, (sh_i nights)), (3, (sh_i what)), (4, (sh_i x4)), (5, (sh_i x5)), (6, (sh_i (((x6 + 1) : Nat) : Int)))]) [1, 2, 3, 4, 5, 6, 0] rfl ?_
      exact k
    · have k := k.2 c4
      refine xr_aload_n (n := 0) (i := 0) rfl (List.mem_of_getElem? (i := 0) rfl) (by decide +kernel) ?_
      obtain ⟨o, k⟩ := k
      refine xr_getD (b := B) rfl fl_Sto_72 rfl o (by decide +kernel) ?_
      refine xr_getI (ob0_0 hB) fl_Sto_201 (by decide) (by decide +kernel) ?_
      refine xr_if_le (a' := (i3 (mem B 0))) rfl (off := 74) (tgt := 149) (by decide) (by decide +kernel) ⟨fun c5 => ?_, fun c5 => ?_⟩
      · have k := k.1 c5
        refine xr_aload_n (n := 0) (i := 0) rfl (List.mem_of_getElem? (i := 0) rfl) (by decide +kernel) ?_
        refine xr_getR (o := 6) rfl fl_Sto_32 rfl (by decide +kernel) ?_
        show sh_X g (d + 1) m_Sto_years _ _ ((sh_r 7) :: _) _ _
        refine xr_aload_n (n := 0) (i := 0) rfl (List.mem_of_getElem? (i := 0) rfl) (by decide +kernel) ?_
        obtain ⟨o, k⟩ := k
        refine xr_getD (b := B) rfl fl_Sto_72 rfl o (by decide +kernel) ?_
        refine xr_callV (av := [(sh_r B)]) rfl rfl rfl mo_State_sleep ml_Sto_180 im_State_sleep se_State_sleep rfl (Nat.le_of_ble_eq_true rfl) (by decide +kernel) (sh_mono k ?_)
        rintro rv m4 ⟨rfl, k⟩
        show sh_X g (d + 1) m_Sto_years _ _ [] _ _
        refine xr_iinc (n := 1) (lo' := [(6, (sh_i (((x6 + 1) : Nat) : Int))), (0, (sh_r 1)), (1, (sh_i seed)), (2, (sh_i nights)), (3, (sh_i what)), (4, (sh_i x4)), (5, (sh_i x5))]) (List.mem_of_getElem? (i := 6) rfl) (by decide) rfl (by decide +kernel) ?_
        refine xr_goto (off := (-111)) (tgt := 52) (by decide) (by decide +kernel) ?_
        refine xr_sub (lo' := [(0, (sh_r 1)), (1, (sh_i seed)), (2, (sh_i nights)), (3, (sh_i what)), (4, (sh_i x4)), (5, (sh_i x5)), (6, (sh_i (((x6 + 1) : Nat) : Int)))]) [1, 2, 3, 4, 5, 6, 0] rfl ?_
        exact k
      · have k := k.2 c5
        refine xr_iload (i := 5) (List.mem_of_getElem? (i := 5) rfl) (by decide +kernel) ?_
        refine xr_callS (av := [(sh_i x5)]) mo_Sto_nextDraw ml_Sto_308 sa_Sto_nextDraw rfl (Nat.le_of_ble_eq_true rfl) (by decide +kernel) (sh_mono k ?_)
        rintro rv m5 ⟨r3, rfl, k⟩
        show sh_X g (d + 1) m_Sto_years _ _ [(sh_i r3)] _ _
        refine xr_istore (i := 5) (by decide) rfl (by decide +kernel) ?_
        refine xr_iload (i := 5) (List.mem_of_getElem? (i := 0) rfl) (by decide +kernel) ?_
        refine xr_bipush (n := 16) (v := 16) (by decide) (by decide +kernel) ?_
        refine xr_ishr (by decide +kernel) ?_
        refine xr_aload_n (n := 0) (i := 0) rfl (List.mem_of_getElem? (i := 1) rfl) (by decide +kernel) ?_
        obtain ⟨o, k⟩ := k
        refine xr_getD (b := B) rfl fl_Sto_72 rfl o (by decide +kernel) ?_
        refine xr_getI (ob0_0 hB) fl_Sto_272 (by decide) (by decide +kernel) ?_
        obtain ⟨o, k⟩ := k
        refine xr_irem o (by decide +kernel) ?_
        refine xr_istore (i := 7) (by decide) rfl (by decide +kernel) ?_
        refine xr_iload (i := 5) (List.mem_of_getElem? (i := 1) rfl) (by decide +kernel) ?_
        refine xr_callS (av := [(sh_i r3)]) mo_Sto_nextDraw ml_Sto_308 sa_Sto_nextDraw rfl (Nat.le_of_ble_eq_true rfl) (by decide +kernel) (sh_mono k ?_)
        rintro rv m6 ⟨r4, rfl, k⟩
        show sh_X g (d + 1) m_Sto_years _ _ [(sh_i r4)] _ _
        refine xr_istore (i := 5) (by decide) rfl (by decide +kernel) ?_
        refine xr_iload (i := 5) (List.mem_of_getElem? (i := 0) rfl) (by decide +kernel) ?_
        refine xr_bipush (n := 16) (v := 16) (by decide) (by decide +kernel) ?_
        refine xr_ishr (by decide +kernel) ?_
        refine xr_aload_n (n := 0) (i := 0) rfl (List.mem_of_getElem? (i := 2) rfl) (by decide +kernel) ?_
        obtain ⟨o, k⟩ := k
        refine xr_getD (b := B) rfl fl_Sto_72 rfl o (by decide +kernel) ?_
        refine xr_getI (ob0_0 hB) fl_Sto_201 (by decide) (by decide +kernel) ?_
        obtain ⟨o, k⟩ := k
        refine xr_irem o (by decide +kernel) ?_
        refine xr_istore (i := 8) (by decide) rfl (by decide +kernel) ?_
        refine xr_iload (i := 5) (List.mem_of_getElem? (i := 1) rfl) (by decide +kernel) ?_
        refine xr_callS (av := [(sh_i r4)]) mo_Sto_nextDraw ml_Sto_308 sa_Sto_nextDraw rfl (Nat.le_of_ble_eq_true rfl) (by decide +kernel) (sh_mono k ?_)
        rintro rv m7 ⟨r5, rfl, k⟩
        show sh_X g (d + 1) m_Sto_years _ _ [(sh_i r5)] _ _
        refine xr_istore (i := 5) (by decide) rfl (by decide +kernel) ?_
        refine xr_iload (i := 4) (List.mem_of_getElem? (i := 7) rfl) (by decide +kernel) ?_
        refine xr_aload_n (n := 0) (i := 0) rfl (List.mem_of_getElem? (i := 3) rfl) (by decide +kernel) ?_
        refine xr_iload (i := 7) (List.mem_of_getElem? (i := 2) rfl) (by decide +kernel) ?_
        refine xr_iload (i := 8) (List.mem_of_getElem? (i := 1) rfl) (by decide +kernel) ?_
        refine xr_iload (i := 5) (List.mem_of_getElem? (i := 0) rfl) (by decide +kernel) ?_
        refine xr_bipush (n := 16) (v := 16) (by decide) (by decide +kernel) ?_
        refine xr_ishr (by decide +kernel) ?_
        refine xr_iconst (n := 4) (by decide +kernel) ?_
        refine xr_irem (by decide) (by decide +kernel) ?_
        refine xr_callV (av := [(sh_i (i_rem (i_shr r3 16) (m5 B 1))), (sh_i (i_rem (i_shr r4 16) (m6 B 0))), (sh_i (i_rem (i_shr r5 16) 4))]) rfl rfl rfl mo_Sto_tryDrawn ml_Sto_311 im_Sto_tryDrawn se_Sto_tryDrawn rfl (Nat.le_of_ble_eq_true rfl) (by decide +kernel) (sh_mono k ?_)
        rintro rv m8 ⟨r6, rfl, k⟩
        show sh_X g (d + 1) m_Sto_years _ _ [(sh_i r6), (sh_i x4)] _ _
        refine xr_iadd (by decide +kernel) ?_
        show sh_X g (d + 1) m_Sto_years _ _ ((sh_i (x4 + r6)) :: _) _ _
        refine xr_istore (i := 4) (by decide) rfl (by decide +kernel) ?_
        refine xr_aload_n (n := 0) (i := 0) rfl (List.mem_of_getElem? (i := 4) rfl) (by decide +kernel) ?_
        refine xr_getR (o := 6) rfl fl_Sto_32 rfl (by decide +kernel) ?_
        show sh_X g (d + 1) m_Sto_years _ _ ((sh_r 7) :: _) _ _
        refine xr_aload_n (n := 0) (i := 0) rfl (List.mem_of_getElem? (i := 4) rfl) (by decide +kernel) ?_
        obtain ⟨o, k⟩ := k
        refine xr_getD (b := B) rfl fl_Sto_72 rfl o (by decide +kernel) ?_
        refine xr_callV (av := [(sh_r B)]) rfl rfl rfl mo_State_sleep ml_Sto_180 im_State_sleep se_State_sleep rfl (Nat.le_of_ble_eq_true rfl) (by decide +kernel) (sh_mono k ?_)
        rintro rv m9 ⟨rfl, k⟩
        show sh_X g (d + 1) m_Sto_years _ _ [] _ _
        refine xr_iinc (n := 1) (lo' := [(6, (sh_i (((x6 + 1) : Nat) : Int))), (4, (sh_i (x4 + r6))), (5, (sh_i r5)), (8, (sh_i (i_rem (i_shr r4 16) (m6 B 0)))), (7, (sh_i (i_rem (i_shr r3 16) (m5 B 1)))), (0, (sh_r 1)), (1, (sh_i seed)), (2, (sh_i nights)), (3, (sh_i what))]) (List.mem_of_getElem? (i := 8) rfl) (by decide) rfl (by decide +kernel) ?_
        refine xr_goto (off := (-111)) (tgt := 52) (by decide) (by decide +kernel) ?_
        refine xr_sub (lo' := [(0, (sh_r 1)), (1, (sh_i seed)), (2, (sh_i nights)), (3, (sh_i what)), (4, (sh_i (x4 + r6))), (5, (sh_i r5)), (6, (sh_i (((x6 + 1) : Nat) : Int)))]) [5, 6, 7, 8, 1, 2, 0] rfl ?_
        exact k

theorem v_Sto_mark {g : sh_G} {d : Nat} {mark : Int} {back : Int} {Y : Nat} (hY : ob10 Y) {mem : sh_Mem} {Q : Option sh_V → sh_Mem → Prop}  (k : (sh_Cal g d m_Sto_isWithin [(sh_i mark), (sh_i 0), (sh_i 3)] mem fun rv m1 => ∃ r1 : Int, rv = some (sh_i r1) ∧ ((¬ (i3 r1) = 0 → ((¬ (i3 back) = 0 → ((0 ≤ mark ∧ mark < 4) ∧ ((¬ (i3 (m1 (52 + 11 * (mark).toNat) 0)) = 0 → ((0 ≤ mark ∧ mark < 4) ∧ (m1 1 11 = (Y : Int) ∧ (sh_Cal g d m_Mark_goBack [(sh_r (52 + 11 * (mark).toNat)), (sh_r 5), (sh_r Y), (sh_r 11)] m1 fun rv m2 => rv = none ∧ (sh_Cal g d m_Past_clear [(sh_r 9)] m2 fun rv m3 => rv = none ∧ Q (some (sh_i 1)) m3))))) ∧ ((i3 (m1 (52 + 11 * (mark).toNat) 0)) = 0 → Q (some (sh_i 0)) m1)))) ∧ ((i3 back) = 0 → ((0 ≤ mark ∧ mark < 4) ∧ (m1 1 11 = (Y : Int) ∧ (sh_Cal g d m_Mark_lay [(sh_r (52 + 11 * (mark).toNat)), (sh_r 5), (sh_r Y), (sh_r 11)] m1 fun rv m4 => rv = none ∧ Q (some (sh_i 1)) m4)))))) ∧ ((i3 r1) = 0 → Q (some (sh_i 0)) m1)))) : sh_Cal g (d + 1) m_Sto_mark [(sh_r 1), (sh_i mark), (sh_i back)] mem Q := by
  refine sh_met (by decide +kernel) (Nat.le_of_ble_eq_true rfl) (lo := [(0, (sh_r 1)), (1, (sh_i mark)), (2, (sh_i back))]) rfl ?_
  refine xr_iload_n (n := 1) (i := 1) rfl (List.mem_of_getElem? (i := 1) rfl) (by decide +kernel) ?_
  refine xr_iconst (n := 0) (by decide +kernel) ?_
  refine xr_iconst (n := 3) (by decide +kernel) ?_
  refine xr_callS (av := [(sh_i mark), (sh_i 0), (sh_i 3)]) mo_Sto_isWithin ml_Sto_213 sa_Sto_isWithin rfl (Nat.le_of_ble_eq_true rfl) (by decide +kernel) (sh_mono k ?_)
  rintro rv m1 ⟨r1, rfl, k⟩
  show sh_X g (d + 1) m_Sto_mark _ _ [(sh_i r1)] _ _
  refine xr_if_ne (a' := (i3 r1)) rfl (off := 5) (tgt := 11) (by decide) (by decide +kernel) ⟨fun c1 => ?_, fun c1 => ?_⟩
  · have k := k.1 c1
    refine xr_iload_n (n := 2) (i := 2) rfl (List.mem_of_getElem? (i := 2) rfl) (by decide +kernel) ?_
    refine xr_if_ne (a' := (i3 back)) rfl (off := 26) (tgt := 38) (by decide) (by decide +kernel) ⟨fun c2 => ?_, fun c2 => ?_⟩
    · have k := k.1 c2
      refine xr_aload_n (n := 0) (i := 0) rfl (List.mem_of_getElem? (i := 0) rfl) (by decide +kernel) ?_
      refine xr_getR (o := 20) rfl fl_Sto_65 rfl (by decide +kernel) ?_
      show sh_X g (d + 1) m_Sto_mark _ _ ((sh_r 21) :: _) _ _
      refine xr_iload_n (n := 1) (i := 1) rfl (List.mem_of_getElem? (i := 1) rfl) (by decide +kernel) ?_
      obtain ⟨o, k⟩ := k
      refine xr_aald o.1 o.2 (by decide +kernel) ?_
      refine xr_getI (ob3_0 (ob3_ix (j := (mark).toNat) (by omega))) fl_Sto_113 (by decide) (by decide +kernel) ?_
      refine xr_if_ne (a' := (i3 (m1 (52 + 11 * (mark).toNat) 0))) rfl (off := 5) (tgt := 52) (by decide) (by decide +kernel) ⟨fun c3 => ?_, fun c3 => ?_⟩
      · have k := k.1 c3
        refine xr_aload_n (n := 0) (i := 0) rfl (List.mem_of_getElem? (i := 0) rfl) (by decide +kernel) ?_
        refine xr_getR (o := 20) rfl fl_Sto_65 rfl (by decide +kernel) ?_
        show sh_X g (d + 1) m_Sto_mark _ _ ((sh_r 21) :: _) _ _
        refine xr_iload_n (n := 1) (i := 1) rfl (List.mem_of_getElem? (i := 1) rfl) (by decide +kernel) ?_
        obtain ⟨o, k⟩ := k
        refine xr_aald o.1 o.2 (by decide +kernel) ?_
        refine xr_aload_n (n := 0) (i := 0) rfl (List.mem_of_getElem? (i := 0) rfl) (by decide +kernel) ?_
        refine xr_getR (o := 4) rfl fl_Sto_28 rfl (by decide +kernel) ?_
        show sh_X g (d + 1) m_Sto_mark _ _ ((sh_r 5) :: _) _ _
        refine xr_aload_n (n := 0) (i := 0) rfl (List.mem_of_getElem? (i := 0) rfl) (by decide +kernel) ?_
        obtain ⟨o, k⟩ := k
        refine xr_getD (b := Y) rfl fl_Sto_82 rfl o (by decide +kernel) ?_
        refine xr_aload_n (n := 0) (i := 0) rfl (List.mem_of_getElem? (i := 0) rfl) (by decide +kernel) ?_
        refine xr_getR (o := 10) rfl fl_Sto_45 rfl (by decide +kernel) ?_
        show sh_X g (d + 1) m_Sto_mark _ _ ((sh_r 11) :: _) _ _
        refine xr_callV (av := [(sh_r 5), (sh_r Y), (sh_r 11)]) (ob3_0 (ob3_ix (j := (mark).toNat) (by omega))) rfl rfl mo_Mark_goBack ml_Sto_322 im_Mark_goBack se_Mark_goBack rfl (Nat.le_of_ble_eq_true rfl) (by decide +kernel) (sh_mono k ?_)
        rintro rv m2 ⟨rfl, k⟩
        show sh_X g (d + 1) m_Sto_mark _ _ [] _ _
        refine xr_aload_n (n := 0) (i := 0) rfl (List.mem_of_getElem? (i := 0) rfl) (by decide +kernel) ?_
        refine xr_getR (o := 8) rfl fl_Sto_38 rfl (by decide +kernel) ?_
        show sh_X g (d + 1) m_Sto_mark _ _ ((sh_r 9) :: _) _ _
        refine xr_callV (av := []) rfl rfl rfl mo_Past_clear ml_Sto_106 im_Past_clear se_Past_clear rfl (Nat.le_of_ble_eq_true rfl) (by decide +kernel) (sh_mono k ?_)
        rintro rv m3 ⟨rfl, k⟩
        show sh_X g (d + 1) m_Sto_mark _ _ [] _ _
        refine xr_iconst (n := 1) (by decide +kernel) ?_
        exact xr_zret rfl (by decide +kernel) (by decide) k
      · have k := k.2 c3
        refine xr_iconst (n := 0) (by decide +kernel) ?_
        exact xr_zret rfl (by decide +kernel) (by decide) k
    · have k := k.2 c2
      refine xr_aload_n (n := 0) (i := 0) rfl (List.mem_of_getElem? (i := 0) rfl) (by decide +kernel) ?_
      refine xr_getR (o := 20) rfl fl_Sto_65 rfl (by decide +kernel) ?_
      show sh_X g (d + 1) m_Sto_mark _ _ ((sh_r 21) :: _) _ _
      refine xr_iload_n (n := 1) (i := 1) rfl (List.mem_of_getElem? (i := 1) rfl) (by decide +kernel) ?_
      obtain ⟨o, k⟩ := k
      refine xr_aald o.1 o.2 (by decide +kernel) ?_
      refine xr_aload_n (n := 0) (i := 0) rfl (List.mem_of_getElem? (i := 0) rfl) (by decide +kernel) ?_
      refine xr_getR (o := 4) rfl fl_Sto_28 rfl (by decide +kernel) ?_
      show sh_X g (d + 1) m_Sto_mark _ _ ((sh_r 5) :: _) _ _
      refine xr_aload_n (n := 0) (i := 0) rfl (List.mem_of_getElem? (i := 0) rfl) (by decide +kernel) ?_
      obtain ⟨o, k⟩ := k
      refine xr_getD (b := Y) rfl fl_Sto_82 rfl o (by decide +kernel) ?_
      refine xr_aload_n (n := 0) (i := 0) rfl (List.mem_of_getElem? (i := 0) rfl) (by decide +kernel) ?_
      refine xr_getR (o := 10) rfl fl_Sto_45 rfl (by decide +kernel) ?_
      show sh_X g (d + 1) m_Sto_mark _ _ ((sh_r 11) :: _) _ _
      refine xr_callV (av := [(sh_r 5), (sh_r Y), (sh_r 11)]) (ob3_0 (ob3_ix (j := (mark).toNat) (by omega))) rfl rfl mo_Mark_lay ml_Sto_318 im_Mark_lay se_Mark_lay rfl (Nat.le_of_ble_eq_true rfl) (by decide +kernel) (sh_mono k ?_)
      rintro rv m4 ⟨rfl, k⟩
      show sh_X g (d + 1) m_Sto_mark _ _ [] _ _
      refine xr_iconst (n := 1) (by decide +kernel) ?_
      exact xr_zret rfl (by decide +kernel) (by decide) k
  · have k := k.2 c1
    refine xr_iconst (n := 0) (by decide +kernel) ?_
    exact xr_zret rfl (by decide +kernel) (by decide) k

theorem v_Sto_count {g : sh_G} {d : Nat} {what : Int} {B : Nat} (hB : ob0 B) {Y : Nat} (hY : ob10 Y) {mem : sh_Mem} {Q : Option sh_V → sh_Mem → Prop}  (k : (((i3 what) = 0 → (mem 1 9 = (B : Int) ∧ Q (some (sh_i (mem B 0))) mem)) ∧ (((i3 what) = 1 → (mem 1 9 = (B : Int) ∧ Q (some (sh_i (mem B 1))) mem)) ∧ (((i3 what) = 2 → Q (some (sh_i (mem 6 44))) mem) ∧ (((i3 what) = 3 → (sh_Cal g d m_Sto_leftOfAll [(sh_r 1)] mem fun rv m1 => ∃ r1 : Int, rv = some (sh_i r1) ∧ Q (some (sh_i r1)) m1)) ∧ (((i3 what) = 4 → (sh_Cal g d m_State_prisoners [(sh_r 5)] mem fun rv m2 => ∃ r2 : Int, rv = some (sh_i r2) ∧ Q (some (sh_i r2)) m2)) ∧ (((i3 what) = 5 → (sh_Cal g d m_State_holders [(sh_r 5)] mem fun rv m3 => ∃ r3 : Int, rv = some (sh_i r3) ∧ Q (some (sh_i r3)) m3)) ∧ (((i3 what) = 6 → (sh_Cal g d m_State_sumOfThieves [(sh_r 5), (sh_i 36)] mem fun rv m4 => ∃ r4 : Int, rv = some (sh_i r4) ∧ Q (some (sh_i r4)) m4)) ∧ (((i3 what) = 7 → (sh_Cal g d m_State_sumOfThieves [(sh_r 5), (sh_i 40)] mem fun rv m5 => ∃ r5 : Int, rv = some (sh_i r5) ∧ Q (some (sh_i r5)) m5)) ∧ (((i3 what) = 8 → (mem 1 11 = (Y : Int) ∧ Q (some (sh_i (mem Y 0))) mem)) ∧ (((i3 what) = 9 → Q (some (sh_i (mem 11 0))) mem) ∧ (((i3 what) = 10 → Q (some (sh_i (mem 9 2))) mem) ∧ (((i3 what) = 11 → Q (some (sh_i (mem 2 1))) mem) ∧ (((i3 what) < 0 ∨ 11 < (i3 what)) → Q (some (sh_i (-1))) mem)))))))))))))) : sh_Cal g (d + 1) m_Sto_count [(sh_r 1), (sh_i what)] mem Q := by
  refine sh_met (by decide +kernel) (Nat.le_of_ble_eq_true rfl) (lo := [(0, (sh_r 1)), (1, (sh_i what))]) rfl ?_
  refine xr_iload_n (n := 1) (i := 1) rfl (List.mem_of_getElem? (i := 1) rfl) (by decide +kernel) ?_
  rcases (by omega : (i3 what) = 0 ∨ (i3 what) = 1 ∨ (i3 what) = 2 ∨ (i3 what) = 3 ∨ (i3 what) = 4 ∨ (i3 what) = 5 ∨ (i3 what) = 6 ∨ (i3 what) = 7 ∨ (i3 what) = 8 ∨ (i3 what) = 9 ∨ (i3 what) = 10 ∨ (i3 what) = 11 ∨ ((i3 what) < 0 ∨ 11 < (i3 what))) with c1 | c1 | c1 | c1 | c1 | c1 | c1 | c1 | c1 | c1 | c1 | c1 | c1
  · have k := k.1 c1
    refine xr_tabIn (dflt := 163) (low := 0) (high := 11) (offs := #[63, 71, 79, 90, 95, 103, 111, 121, 131, 139, 147, 155]) (len := 63) 0 c1 (by decide) (by decide) rfl (tgt := 64) (by decide) (by decide +kernel) ?_
    refine xr_aload_n (n := 0) (i := 0) rfl (List.mem_of_getElem? (i := 0) rfl) (by decide +kernel) ?_
    obtain ⟨o, k⟩ := k
    refine xr_getD (b := B) rfl fl_Sto_72 rfl o (by decide +kernel) ?_
    refine xr_getI (ob0_0 hB) fl_Sto_201 (by decide) (by decide +kernel) ?_
    exact xr_iret rfl (by decide +kernel) k
  · have k := k.2.1 c1
    refine xr_tabIn (dflt := 163) (low := 0) (high := 11) (offs := #[63, 71, 79, 90, 95, 103, 111, 121, 131, 139, 147, 155]) (len := 63) 1 c1 (by decide) (by decide) rfl (tgt := 72) (by decide) (by decide +kernel) ?_
    refine xr_aload_n (n := 0) (i := 0) rfl (List.mem_of_getElem? (i := 0) rfl) (by decide +kernel) ?_
    obtain ⟨o, k⟩ := k
    refine xr_getD (b := B) rfl fl_Sto_72 rfl o (by decide +kernel) ?_
    refine xr_getI (ob0_0 hB) fl_Sto_272 (by decide) (by decide +kernel) ?_
    exact xr_iret rfl (by decide +kernel) k
  · have k := k.2.2.1 c1
    refine xr_tabIn (dflt := 163) (low := 0) (high := 11) (offs := #[63, 71, 79, 90, 95, 103, 111, 121, 131, 139, 147, 155]) (len := 63) 2 c1 (by decide) (by decide) rfl (tgt := 80) (by decide) (by decide +kernel) ?_
    refine xr_aload_n (n := 0) (i := 0) rfl (List.mem_of_getElem? (i := 0) rfl) (by decide +kernel) ?_
    refine xr_getR (o := 4) rfl fl_Sto_28 rfl (by decide +kernel) ?_
    show sh_X g (d + 1) m_Sto_count _ _ ((sh_r 5) :: _) _ _
    refine xr_getR (o := 1) rfl fl_Sto_132 rfl (by decide +kernel) ?_
    show sh_X g (d + 1) m_Sto_count _ _ ((sh_r 6) :: _) _ _
    refine xr_bipush (n := 44) (v := 44) (by decide) (by decide +kernel) ?_
    refine xr_ialdN (j := 44) rfl rfl (by decide) (by decide +kernel) ?_
    exact xr_iret rfl (by decide +kernel) k
  · have k := k.2.2.2.1 c1
    refine xr_tabIn (dflt := 163) (low := 0) (high := 11) (offs := #[63, 71, 79, 90, 95, 103, 111, 121, 131, 139, 147, 155]) (len := 63) 3 c1 (by decide) (by decide) rfl (tgt := 91) (by decide) (by decide +kernel) ?_
    refine xr_aload_n (n := 0) (i := 0) rfl (List.mem_of_getElem? (i := 0) rfl) (by decide +kernel) ?_
    refine xr_callV (av := []) rfl rfl rfl mo_Sto_leftOfAll ml_Sto_325 im_Sto_leftOfAll se_Sto_leftOfAll rfl (Nat.le_of_ble_eq_true rfl) (by decide +kernel) (sh_mono k ?_)
    rintro rv m1 ⟨r1, rfl, k⟩
    show sh_X g (d + 1) m_Sto_count _ _ [(sh_i r1)] _ _
    exact xr_iret rfl (by decide +kernel) k
  · have k := k.2.2.2.2.1 c1
    refine xr_tabIn (dflt := 163) (low := 0) (high := 11) (offs := #[63, 71, 79, 90, 95, 103, 111, 121, 131, 139, 147, 155]) (len := 63) 4 c1 (by decide) (by decide) rfl (tgt := 96) (by decide) (by decide +kernel) ?_
    refine xr_aload_n (n := 0) (i := 0) rfl (List.mem_of_getElem? (i := 0) rfl) (by decide +kernel) ?_
    refine xr_getR (o := 4) rfl fl_Sto_28 rfl (by decide +kernel) ?_
    show sh_X g (d + 1) m_Sto_count _ _ ((sh_r 5) :: _) _ _
    refine xr_callV (av := []) rfl rfl rfl mo_State_prisoners ml_Sto_315 im_State_prisoners se_State_prisoners rfl (Nat.le_of_ble_eq_true rfl) (by decide +kernel) (sh_mono k ?_)
    rintro rv m2 ⟨r2, rfl, k⟩
    show sh_X g (d + 1) m_Sto_count _ _ [(sh_i r2)] _ _
    exact xr_iret rfl (by decide +kernel) k
  · have k := k.2.2.2.2.2.1 c1
    refine xr_tabIn (dflt := 163) (low := 0) (high := 11) (offs := #[63, 71, 79, 90, 95, 103, 111, 121, 131, 139, 147, 155]) (len := 63) 5 c1 (by decide) (by decide) rfl (tgt := 104) (by decide) (by decide +kernel) ?_
    refine xr_aload_n (n := 0) (i := 0) rfl (List.mem_of_getElem? (i := 0) rfl) (by decide +kernel) ?_
    refine xr_getR (o := 4) rfl fl_Sto_28 rfl (by decide +kernel) ?_
    show sh_X g (d + 1) m_Sto_count _ _ ((sh_r 5) :: _) _ _
    refine xr_callV (av := []) rfl rfl rfl mo_State_holders ml_Sto_183 im_State_holders se_State_holders rfl (Nat.le_of_ble_eq_true rfl) (by decide +kernel) (sh_mono k ?_)
    rintro rv m3 ⟨r3, rfl, k⟩
    show sh_X g (d + 1) m_Sto_count _ _ [(sh_i r3)] _ _
    exact xr_iret rfl (by decide +kernel) k
  · have k := k.2.2.2.2.2.2.1 c1
    refine xr_tabIn (dflt := 163) (low := 0) (high := 11) (offs := #[63, 71, 79, 90, 95, 103, 111, 121, 131, 139, 147, 155]) (len := 63) 6 c1 (by decide) (by decide) rfl (tgt := 112) (by decide) (by decide +kernel) ?_
    refine xr_aload_n (n := 0) (i := 0) rfl (List.mem_of_getElem? (i := 0) rfl) (by decide +kernel) ?_
    refine xr_getR (o := 4) rfl fl_Sto_28 rfl (by decide +kernel) ?_
    show sh_X g (d + 1) m_Sto_count _ _ ((sh_r 5) :: _) _ _
    refine xr_bipush (n := 36) (v := 36) (by decide) (by decide +kernel) ?_
    refine xr_callV (av := [(sh_i 36)]) rfl rfl rfl mo_State_sumOfThieves ml_Sto_198 im_State_sumOfThieves se_State_sumOfThieves rfl (Nat.le_of_ble_eq_true rfl) (by decide +kernel) (sh_mono k ?_)
    rintro rv m4 ⟨r4, rfl, k⟩
    show sh_X g (d + 1) m_Sto_count _ _ [(sh_i r4)] _ _
    exact xr_iret rfl (by decide +kernel) k
  · have k := k.2.2.2.2.2.2.2.1 c1
    refine xr_tabIn (dflt := 163) (low := 0) (high := 11) (offs := #[63, 71, 79, 90, 95, 103, 111, 121, 131, 139, 147, 155]) (len := 63) 7 c1 (by decide) (by decide) rfl (tgt := 122) (by decide) (by decide +kernel) ?_
    refine xr_aload_n (n := 0) (i := 0) rfl (List.mem_of_getElem? (i := 0) rfl) (by decide +kernel) ?_
    refine xr_getR (o := 4) rfl fl_Sto_28 rfl (by decide +kernel) ?_
    show sh_X g (d + 1) m_Sto_count _ _ ((sh_r 5) :: _) _ _
    refine xr_bipush (n := 40) (v := 40) (by decide) (by decide +kernel) ?_
    refine xr_callV (av := [(sh_i 40)]) rfl rfl rfl mo_State_sumOfThieves ml_Sto_198 im_State_sumOfThieves se_State_sumOfThieves rfl (Nat.le_of_ble_eq_true rfl) (by decide +kernel) (sh_mono k ?_)
    rintro rv m5 ⟨r5, rfl, k⟩
    show sh_X g (d + 1) m_Sto_count _ _ [(sh_i r5)] _ _
    exact xr_iret rfl (by decide +kernel) k
  · have k := k.2.2.2.2.2.2.2.2.1 c1
    refine xr_tabIn (dflt := 163) (low := 0) (high := 11) (offs := #[63, 71, 79, 90, 95, 103, 111, 121, 131, 139, 147, 155]) (len := 63) 8 c1 (by decide) (by decide) rfl (tgt := 132) (by decide) (by decide +kernel) ?_
    refine xr_aload_n (n := 0) (i := 0) rfl (List.mem_of_getElem? (i := 0) rfl) (by decide +kernel) ?_
    obtain ⟨o, k⟩ := k
    refine xr_getD (b := Y) rfl fl_Sto_82 rfl o (by decide +kernel) ?_
    refine xr_getI (ob10_0 hY) fl_Sto_110 (by decide) (by decide +kernel) ?_
    exact xr_iret rfl (by decide +kernel) k
  · have k := k.2.2.2.2.2.2.2.2.2.1 c1
    refine xr_tabIn (dflt := 163) (low := 0) (high := 11) (offs := #[63, 71, 79, 90, 95, 103, 111, 121, 131, 139, 147, 155]) (len := 63) 9 c1 (by decide) (by decide) rfl (tgt := 140) (by decide) (by decide +kernel) ?_
    refine xr_aload_n (n := 0) (i := 0) rfl (List.mem_of_getElem? (i := 0) rfl) (by decide +kernel) ?_
    refine xr_getR (o := 10) rfl fl_Sto_45 rfl (by decide +kernel) ?_
    show sh_X g (d + 1) m_Sto_count _ _ ((sh_r 11) :: _) _ _
    refine xr_getI rfl fl_Sto_328 (by decide) (by decide +kernel) ?_
    exact xr_iret rfl (by decide +kernel) k
  · have k := k.2.2.2.2.2.2.2.2.2.2.1 c1
    refine xr_tabIn (dflt := 163) (low := 0) (high := 11) (offs := #[63, 71, 79, 90, 95, 103, 111, 121, 131, 139, 147, 155]) (len := 63) 10 c1 (by decide) (by decide) rfl (tgt := 148) (by decide) (by decide +kernel) ?_
    refine xr_aload_n (n := 0) (i := 0) rfl (List.mem_of_getElem? (i := 0) rfl) (by decide +kernel) ?_
    refine xr_getR (o := 8) rfl fl_Sto_38 rfl (by decide +kernel) ?_
    show sh_X g (d + 1) m_Sto_count _ _ ((sh_r 9) :: _) _ _
    refine xr_getI rfl fl_Sto_331 (by decide) (by decide +kernel) ?_
    exact xr_iret rfl (by decide +kernel) k
  · have k := k.2.2.2.2.2.2.2.2.2.2.2.1 c1
    refine xr_tabIn (dflt := 163) (low := 0) (high := 11) (offs := #[63, 71, 79, 90, 95, 103, 111, 121, 131, 139, 147, 155]) (len := 63) 11 c1 (by decide) (by decide) rfl (tgt := 156) (by decide) (by decide +kernel) ?_
    refine xr_aload_n (n := 0) (i := 0) rfl (List.mem_of_getElem? (i := 0) rfl) (by decide +kernel) ?_
    refine xr_getR (o := 1) rfl fl_Sto_10 rfl (by decide +kernel) ?_
    show sh_X g (d + 1) m_Sto_count _ _ ((sh_r 2) :: _) _ _
    refine xr_getI rfl fl_Sto_94 (by decide) (by decide +kernel) ?_
    exact xr_iret rfl (by decide +kernel) k
  · have k := k.2.2.2.2.2.2.2.2.2.2.2.2 c1
    refine xr_tabOut (dflt := 163) (low := 0) (high := 11) (offs := #[63, 71, 79, 90, 95, 103, 111, 121, 131, 139, 147, 155]) (len := 63) c1 (tgt := 164) (by decide) (by decide +kernel) ?_
    refine xr_iconst (n := (-1)) (by decide +kernel) ?_
    exact xr_iret rfl (by decide +kernel) k

theorem v_Sto_isDay {g : sh_G} {d : Nat} {day : Int} {B : Nat} (hB : ob0 B) {mem : sh_Mem} {Q : Option sh_V → sh_Mem → Prop}  (k : (((i3 day) < 0 → Q (some (sh_i 0)) mem) ∧ (¬ (i3 day) < 0 → (mem 1 9 = (B : Int) ∧ (((i3 (mem B 0)) ≤ (i3 day) → Q (some (sh_i 0)) mem) ∧ (¬ (i3 (mem B 0)) ≤ (i3 day) → Q (some (sh_i 1)) mem)))))) : sh_Cal g d m_Sto_isDay [(sh_r 1), (sh_i day)] mem Q := by
  refine sh_met (by decide +kernel) (Nat.le_of_ble_eq_true rfl) (lo := [(0, (sh_r 1)), (1, (sh_i day))]) rfl ?_
  refine xr_iload_n (n := 1) (i := 1) rfl (List.mem_of_getElem? (i := 1) rfl) (by decide +kernel) ?_
  refine xr_if_lt (a' := (i3 day)) rfl (off := 18) (tgt := 19) (by decide) (by decide +kernel) ⟨fun c1 => ?_, fun c1 => ?_⟩
  · have k := k.1 c1
    refine xr_iconst (n := 0) (by decide +kernel) ?_
    exact xr_zret rfl (by decide +kernel) (by decide) k
  · have k := k.2 c1
    refine xr_iload_n (n := 1) (i := 1) rfl (List.mem_of_getElem? (i := 1) rfl) (by decide +kernel) ?_
    refine xr_aload_n (n := 0) (i := 0) rfl (List.mem_of_getElem? (i := 0) rfl) (by decide +kernel) ?_
    obtain ⟨o, k⟩ := k
    refine xr_getD (b := B) rfl fl_Sto_72 rfl o (by decide +kernel) ?_
    refine xr_getI (ob0_0 hB) fl_Sto_201 (by decide) (by decide +kernel) ?_
    refine xr_icmp_ge (a' := (i3 day)) (b' := (i3 (mem B 0))) rfl rfl (off := 7) (tgt := 19) (by decide) (by decide +kernel) ⟨fun c2 => ?_, fun c2 => ?_⟩
    · have k := k.1 c2
      refine xr_iconst (n := 0) (by decide +kernel) ?_
      exact xr_zret rfl (by decide +kernel) (by decide) k
    · have k := k.2 c2
      refine xr_iconst (n := 1) (by decide +kernel) ?_
      refine xr_goto (off := 4) (tgt := 20) (by decide) (by decide +kernel) ?_
      exact xr_zret rfl (by decide +kernel) (by decide) k

theorem v_Sto_isThief {g : sh_G} {d : Nat} {thief : Int} {B : Nat} (hB : ob0 B) {mem : sh_Mem} {Q : Option sh_V → sh_Mem → Prop}  (k : (((i3 thief) < 0 → Q (some (sh_i 0)) mem) ∧ (¬ (i3 thief) < 0 → (mem 1 9 = (B : Int) ∧ (((i3 (mem B 1)) ≤ (i3 thief) → Q (some (sh_i 0)) mem) ∧ (¬ (i3 (mem B 1)) ≤ (i3 thief) → Q (some (sh_i 1)) mem)))))) : sh_Cal g d m_Sto_isThief [(sh_r 1), (sh_i thief)] mem Q := by
  refine sh_met (by decide +kernel) (Nat.le_of_ble_eq_true rfl) (lo := [(0, (sh_r 1)), (1, (sh_i thief))]) rfl ?_
  refine xr_iload_n (n := 1) (i := 1) rfl (List.mem_of_getElem? (i := 1) rfl) (by decide +kernel) ?_
  refine xr_if_lt (a' := (i3 thief)) rfl (off := 18) (tgt := 19) (by decide) (by decide +kernel) ⟨fun c1 => ?_, fun c1 => ?_⟩
  · have k := k.1 c1
    refine xr_iconst (n := 0) (by decide +kernel) ?_
    exact xr_zret rfl (by decide +kernel) (by decide) k
  · have k := k.2 c1
    refine xr_iload_n (n := 1) (i := 1) rfl (List.mem_of_getElem? (i := 1) rfl) (by decide +kernel) ?_
    refine xr_aload_n (n := 0) (i := 0) rfl (List.mem_of_getElem? (i := 0) rfl) (by decide +kernel) ?_
    obtain ⟨o, k⟩ := k
    refine xr_getD (b := B) rfl fl_Sto_72 rfl o (by decide +kernel) ?_
    refine xr_getI (ob0_0 hB) fl_Sto_272 (by decide) (by decide +kernel) ?_
    refine xr_icmp_ge (a' := (i3 thief)) (b' := (i3 (mem B 1))) rfl rfl (off := 7) (tgt := 19) (by decide) (by decide +kernel) ⟨fun c2 => ?_, fun c2 => ?_⟩
    · have k := k.1 c2
      refine xr_iconst (n := 0) (by decide +kernel) ?_
      exact xr_zret rfl (by decide +kernel) (by decide) k
    · have k := k.2 c2
      refine xr_iconst (n := 1) (by decide +kernel) ?_
      refine xr_goto (off := 4) (tgt := 20) (by decide) (by decide +kernel) ?_
      exact xr_zret rfl (by decide +kernel) (by decide) k

theorem v_Sto_isWithin {g : sh_G} {d : Nat} {number : Int} {least : Int} {most : Int}  {mem : sh_Mem} {Q : Option sh_V → sh_Mem → Prop}  (k : (((i3 number) < (i3 least) → Q (some (sh_i 0)) mem) ∧ (¬ (i3 number) < (i3 least) → (((i3 most) < (i3 number) → Q (some (sh_i 0)) mem) ∧ (¬ (i3 most) < (i3 number) → Q (some (sh_i 1)) mem))))) : sh_Cal g d m_Sto_isWithin [(sh_i number), (sh_i least), (sh_i most)] mem Q := by
  refine sh_met (by decide +kernel) (Nat.le_of_ble_eq_true rfl) (lo := [(0, (sh_i number)), (1, (sh_i least)), (2, (sh_i most))]) rfl ?_
  refine xr_iload_n (n := 0) (i := 0) rfl (List.mem_of_getElem? (i := 0) rfl) (by decide +kernel) ?_
  refine xr_iload_n (n := 1) (i := 1) rfl (List.mem_of_getElem? (i := 1) rfl) (by decide +kernel) ?_
  refine xr_icmp_lt (a' := (i3 number)) (b' := (i3 least)) rfl rfl (off := 12) (tgt := 14) (by decide) (by decide +kernel) ⟨fun c1 => ?_, fun c1 => ?_⟩
  · have k := k.1 c1
    refine xr_iconst (n := 0) (by decide +kernel) ?_
    exact xr_zret rfl (by decide +kernel) (by decide) k
  · have k := k.2 c1
    refine xr_iload_n (n := 0) (i := 0) rfl (List.mem_of_getElem? (i := 0) rfl) (by decide +kernel) ?_
    refine xr_iload_n (n := 2) (i := 2) rfl (List.mem_of_getElem? (i := 2) rfl) (by decide +kernel) ?_
    refine xr_icmp_gt (a' := (i3 number)) (b' := (i3 most)) rfl rfl (off := 7) (tgt := 14) (by decide) (by decide +kernel) ⟨fun c2 => ?_, fun c2 => ?_⟩
    · have k := k.1 c2
      refine xr_iconst (n := 0) (by decide +kernel) ?_
      exact xr_zret rfl (by decide +kernel) (by decide) k
    · have k := k.2 c2
      refine xr_iconst (n := 1) (by decide +kernel) ?_
      refine xr_goto (off := 4) (tgt := 15) (by decide) (by decide +kernel) ?_
      exact xr_zret rfl (by decide +kernel) (by decide) k

theorem v_Sto_leftOfAll {g : sh_G} {d : Nat}  {B : Nat} (hB : ob0 B) {mem : sh_Mem} {Q : Option sh_V → sh_Mem → Prop}  (k : sh_X g d m_Sto_leftOfAll 4 [(0, (sh_r 1)), (1, (sh_i 0)), (2, (sh_i 0))] [] mem (sh_K m_Sto_leftOfAll Q)) : sh_Cal g d m_Sto_leftOfAll [(sh_r 1)] mem Q := by
  refine sh_met (by decide +kernel) (Nat.le_of_ble_eq_true rfl) (lo := [(0, (sh_r 1))]) rfl ?_
  refine xr_iconst (n := 0) (by decide +kernel) ?_
  refine xr_istore_n (n := 1) (i := 1) rfl (by decide) rfl (by decide +kernel) ?_
  refine xr_iconst (n := 0) (by decide +kernel) ?_
  refine xr_istore_n (n := 2) (i := 2) rfl (by decide) rfl (by decide +kernel) ?_
  refine xr_sub (lo' := [(0, (sh_r 1)), (1, (sh_i 0)), (2, (sh_i 0))]) [2, 1, 0] rfl ?_
  exact k
theorem v_Sto_leftOfAll_4 {g : sh_G} {d : Nat}  {B : Nat} (hB : ob0 B) {mem : sh_Mem} {Q : Option sh_V → sh_Mem → Prop}  {x1 : Int} {x2 : Nat} (k : (mem 1 9 = (B : Int) ∧ (((i3 (mem B 0)) ≤ (i3 (x2 : Int)) → Q (some (sh_i x1)) mem) ∧ (¬ (i3 (mem B 0)) ≤ (i3 (x2 : Int)) → (x2 < 45 ∧ sh_X g d m_Sto_leftOfAll 4 [(0, (sh_r 1)), (1, (sh_i (x1 + (mem 6 x2)))), (2, (sh_i (((x2 + 1) : Nat) : Int)))] [] mem (sh_K m_Sto_leftOfAll Q)))))) : sh_X g d m_Sto_leftOfAll 4 [(0, (sh_r 1)), (1, (sh_i x1)), (2, (sh_i (x2 : Int)))] [] mem (sh_K m_Sto_leftOfAll Q) := by
  refine xr_iload_n (n := 2) (i := 2) rfl (List.mem_of_getElem? (i := 2) rfl) (by decide +kernel) ?_
  refine xr_aload_n (n := 0) (i := 0) rfl (List.mem_of_getElem? (i := 0) rfl) (by decide +kernel) ?_
  obtain ⟨o, k⟩ := k
  refine xr_getD (b := B) rfl fl_Sto_72 rfl o (by decide +kernel) ?_
  refine xr_getI (ob0_0 hB) fl_Sto_201 (by decide) (by decide +kernel) ?_
  refine xr_icmp_ge (a' := (i3 (x2 : Int))) (b' := (i3 (mem B 0))) rfl rfl (off := 23) (tgt := 35) (by decide) (by decide +kernel) ⟨fun c1 => ?_, fun c1 => ?_⟩
  · have k := k.1 c1
    refine xr_iload_n (n := 1) (i := 1) rfl (List.mem_of_getElem? (i := 1) rfl) (by decide +kernel) ?_
    exact xr_iret rfl (by decide +kernel) k
  · have k := k.2 c1
    refine xr_iload_n (n := 1) (i := 1) rfl (List.mem_of_getElem? (i := 1) rfl) (by decide +kernel) ?_
    refine xr_aload_n (n := 0) (i := 0) rfl (List.mem_of_getElem? (i := 0) rfl) (by decide +kernel) ?_
    refine xr_getR (o := 4) rfl fl_Sto_28 rfl (by decide +kernel) ?_
    show sh_X g d m_Sto_leftOfAll _ _ ((sh_r 5) :: _) _ _
    refine xr_getR (o := 1) rfl fl_Sto_132 rfl (by decide +kernel) ?_
    show sh_X g d m_Sto_leftOfAll _ _ ((sh_r 6) :: _) _ _
    refine xr_iconst (n := 0) (by decide +kernel) ?_
    refine xr_iload_n (n := 2) (i := 2) rfl (List.mem_of_getElem? (i := 2) rfl) (by decide +kernel) ?_
    refine xr_iadd (by decide +kernel) ?_
    rw [Int.zero_add]
    show sh_X g d m_Sto_leftOfAll _ _ ((sh_i (x2 : Int)) :: _) _ _
    obtain ⟨o, k⟩ := k
    refine xr_ialdN (j := x2) rfl rfl o (by decide +kernel) ?_
    refine xr_iadd (by decide +kernel) ?_
    show sh_X g d m_Sto_leftOfAll _ _ ((sh_i (x1 + (mem 6 x2))) :: _) _ _
    refine xr_istore_n (n := 1) (i := 1) rfl (by decide) rfl (by decide +kernel) ?_
    refine xr_iinc (n := 1) (lo' := [(2, (sh_i (((x2 + 1) : Nat) : Int))), (1, (sh_i (x1 + (mem 6 x2)))), (0, (sh_r 1))]) (List.mem_of_getElem? (i := 2) rfl) (by decide) rfl (by decide +kernel) ?_
    refine xr_goto (off := (-28)) (tgt := 4) (by decide) (by decide +kernel) ?_
    refine xr_sub (lo' := [(0, (sh_r 1)), (1, (sh_i (x1 + (mem 6 x2)))), (2, (sh_i (((x2 + 1) : Nat) : Int)))]) [2, 1, 0] rfl ?_
    exact k

theorem v_Sto_firstWithMost {g : sh_G} {d : Nat} {row : Int} {B : Nat} (hB : ob0 B) {mem : sh_Mem} {Q : Option sh_V → sh_Mem → Prop}  (k : sh_X g d m_Sto_firstWithMost 7 [(0, (sh_r 1)), (1, (sh_i row)), (2, (sh_i (-1))), (3, (sh_i (-1))), (4, (sh_i 0))] [] mem (sh_K m_Sto_firstWithMost Q)) : sh_Cal g d m_Sto_firstWithMost [(sh_r 1), (sh_i row)] mem Q := by
  refine sh_met (by decide +kernel) (Nat.le_of_ble_eq_true rfl) (lo := [(0, (sh_r 1)), (1, (sh_i row))]) rfl ?_
  refine xr_iconst (n := (-1)) (by decide +kernel) ?_
  refine xr_istore_n (n := 2) (i := 2) rfl (by decide) rfl (by decide +kernel) ?_
  refine xr_iconst (n := (-1)) (by decide +kernel) ?_
  refine xr_istore_n (n := 3) (i := 3) rfl (by decide) rfl (by decide +kernel) ?_
  refine xr_iconst (n := 0) (by decide +kernel) ?_
  refine xr_istore (i := 4) (by decide) rfl (by decide +kernel) ?_
  refine xr_sub (lo' := [(0, (sh_r 1)), (1, (sh_i row)), (2, (sh_i (-1))), (3, (sh_i (-1))), (4, (sh_i 0))]) [3, 4, 2, 1, 0] rfl ?_
  exact k
theorem v_Sto_firstWithMost_7 {g : sh_G} {d : Nat} {row : Int} {B : Nat} (hB : ob0 B) {mem : sh_Mem} {Q : Option sh_V → sh_Mem → Prop}  {x2 : Int} {x3 : Int} {x4 : Nat} (k : (mem 1 9 = (B : Int) ∧ (((i3 (mem B 1)) ≤ (i3 (x4 : Int)) → Q (some (sh_i x2)) mem) ∧ (¬ (i3 (mem B 1)) ≤ (i3 (x4 : Int)) → ((0 ≤ (row + (x4 : Int)) ∧ (row + (x4 : Int)) < 45) ∧ (((i3 (mem 6 ((row + (x4 : Int))).toNat)) ≤ (i3 x3) → sh_X g d m_Sto_firstWithMost 7 [(0, (sh_r 1)), (1, (sh_i row)), (2, (sh_i x2)), (3, (sh_i x3)), (4, (sh_i (((x4 + 1) : Nat) : Int)))] [] mem (sh_K m_Sto_firstWithMost Q)) ∧ (¬ (i3 (mem 6 ((row + (x4 : Int))).toNat)) ≤ (i3 x3) → ((0 ≤ (row + (x4 : Int)) ∧ (row + (x4 : Int)) < 45) ∧ sh_X g d m_Sto_firstWithMost 7 [(0, (sh_r 1)), (1, (sh_i row)), (2, (sh_i (x4 : Int))), (3, (sh_i (mem 6 ((row + (x4 : Int))).toNat))), (4, (sh_i (((x4 + 1) : Nat) : Int)))] [] mem (sh_K m_Sto_firstWithMost Q))))))))) : sh_X g d m_Sto_firstWithMost 7 [(0, (sh_r 1)), (1, (sh_i row)), (2, (sh_i x2)), (3, (sh_i x3)), (4, (sh_i (x4 : Int)))] [] mem (sh_K m_Sto_firstWithMost Q) := by
  refine xr_iload (i := 4) (List.mem_of_getElem? (i := 4) rfl) (by decide +kernel) ?_
  refine xr_aload_n (n := 0) (i := 0) rfl (List.mem_of_getElem? (i := 0) rfl) (by decide +kernel) ?_
  obtain ⟨o, k⟩ := k
  refine xr_getD (b := B) rfl fl_Sto_72 rfl o (by decide +kernel) ?_
  refine xr_getI (ob0_0 hB) fl_Sto_272 (by decide) (by decide +kernel) ?_
  refine xr_icmp_ge (a' := (i3 (x4 : Int))) (b' := (i3 (mem B 1))) rfl rfl (off := 41) (tgt := 57) (by decide) (by decide +kernel) ⟨fun c1 => ?_, fun c1 => ?_⟩
  · have k := k.1 c1
    refine xr_iload_n (n := 2) (i := 2) rfl (List.mem_of_getElem? (i := 2) rfl) (by decide +kernel) ?_
    exact xr_iret rfl (by decide +kernel) k
  · have k := k.2 c1
    refine xr_aload_n (n := 0) (i := 0) rfl (List.mem_of_getElem? (i := 0) rfl) (by decide +kernel) ?_
    refine xr_getR (o := 4) rfl fl_Sto_28 rfl (by decide +kernel) ?_
    show sh_X g d m_Sto_firstWithMost _ _ ((sh_r 5) :: _) _ _
    refine xr_getR (o := 1) rfl fl_Sto_132 rfl (by decide +kernel) ?_
    show sh_X g d m_Sto_firstWithMost _ _ ((sh_r 6) :: _) _ _
    refine xr_iload_n (n := 1) (i := 1) rfl (List.mem_of_getElem? (i := 1) rfl) (by decide +kernel) ?_
    refine xr_iload (i := 4) (List.mem_of_getElem? (i := 4) rfl) (by decide +kernel) ?_
    refine xr_iadd (by decide +kernel) ?_
    show sh_X g d m_Sto_firstWithMost _ _ ((sh_i (row + (x4 : Int))) :: _) _ _
    obtain ⟨o, k⟩ := k
    refine xr_iald rfl o.1 o.2 (by decide +kernel) ?_
    refine xr_iload_n (n := 3) (i := 3) rfl (List.mem_of_getElem? (i := 3) rfl) (by decide +kernel) ?_
    refine xr_icmp_le (a' := (i3 (mem 6 ((row + (x4 : Int))).toNat))) (b' := (i3 x3)) rfl rfl (off := 19) (tgt := 51) (by decide) (by decide +kernel) ⟨fun c2 => ?_, fun c2 => ?_⟩
    · have k := k.1 c2
      refine xr_iinc (n := 1) (lo' := [(4, (sh_i (((x4 + 1) : Nat) : Int))), (0, (sh_r 1)), (1, (sh_i row)), (2, (sh_i x2)), (3, (sh_i x3))]) (List.mem_of_getElem? (i := 4) rfl) (by decide) rfl (by decide +kernel) ?_
      refine xr_goto (off := (-47)) (tgt := 7) (by decide) (by decide +kernel) ?_
      refine xr_sub (lo' := [(0, (sh_r 1)), (1, (sh_i row)), (2, (sh_i x2)), (3, (sh_i x3)), (4, (sh_i (((x4 + 1) : Nat) : Int)))]) [1, 2, 3, 4, 0] rfl ?_
      exact k
    · have k := k.2 c2
      refine xr_aload_n (n := 0) (i := 0) rfl (List.mem_of_getElem? (i := 0) rfl) (by decide +kernel) ?_
      refine xr_getR (o := 4) rfl fl_Sto_28 rfl (by decide +kernel) ?_
      show sh_X g d m_Sto_firstWithMost _ _ ((sh_r 5) :: _) _ _
      refine xr_getR (o := 1) rfl fl_Sto_132 rfl (by decide +kernel) ?_
      show sh_X g d m_Sto_firstWithMost _ _ ((sh_r 6) :: _) _ _
      refine xr_iload_n (n := 1) (i := 1) rfl (List.mem_of_getElem? (i := 1) rfl) (by decide +kernel) ?_
      refine xr_iload (i := 4) (List.mem_of_getElem? (i := 4) rfl) (by decide +kernel) ?_
      refine xr_iadd (by decide +kernel) ?_
      show sh_X g d m_Sto_firstWithMost _ _ ((sh_i (row + (x4 : Int))) :: _) _ _
      obtain ⟨o, k⟩ := k
      refine xr_iald rfl o.1 o.2 (by decide +kernel) ?_
      refine xr_istore_n (n := 3) (i := 3) rfl (by decide) rfl (by decide +kernel) ?_
      refine xr_iload (i := 4) (List.mem_of_getElem? (i := 4) rfl) (by decide +kernel) ?_
      refine xr_istore_n (n := 2) (i := 2) rfl (by decide) rfl (by decide +kernel) ?_
      refine xr_iinc (n := 1) (lo' := [(4, (sh_i (((x4 + 1) : Nat) : Int))), (2, (sh_i (x4 : Int))), (3, (sh_i (mem 6 ((row + (x4 : Int))).toNat))), (0, (sh_r 1)), (1, (sh_i row))]) (List.mem_of_getElem? (i := 4) rfl) (by decide) rfl (by decide +kernel) ?_
      refine xr_goto (off := (-47)) (tgt := 7) (by decide) (by decide +kernel) ?_
      refine xr_sub (lo' := [(0, (sh_r 1)), (1, (sh_i row)), (2, (sh_i (x4 : Int))), (3, (sh_i (mem 6 ((row + (x4 : Int))).toNat))), (4, (sh_i (((x4 + 1) : Nat) : Int)))]) [3, 4, 1, 2, 0] rfl ?_
      exact k

theorem v_Sto_mostWithout {g : sh_G} {d : Nat} {barred : Int} {B : Nat} (hB : ob0 B) {mem : sh_Mem} {Q : Option sh_V → sh_Mem → Prop}  (k : sh_X g (d + 1) m_Sto_mostWithout 4 [(0, (sh_r 1)), (1, (sh_i barred)), (2, (sh_i 0)), (3, (sh_i 0))] [] mem (sh_K m_Sto_mostWithout Q)) : sh_Cal g (d + 1) m_Sto_mostWithout [(sh_r 1), (sh_i barred)] mem Q := by
  refine sh_met (by decide +kernel) (Nat.le_of_ble_eq_true rfl) (lo := [(0, (sh_r 1)), (1, (sh_i barred))]) rfl ?_
  refine xr_iconst (n := 0) (by decide +kernel) ?_
  refine xr_istore_n (n := 2) (i := 2) rfl (by decide) rfl (by decide +kernel) ?_
  refine xr_iconst (n := 0) (by decide +kernel) ?_
  refine xr_istore_n (n := 3) (i := 3) rfl (by decide) rfl (by decide +kernel) ?_
  refine xr_sub (lo' := [(0, (sh_r 1)), (1, (sh_i barred)), (2, (sh_i 0)), (3, (sh_i 0))]) [2, 3, 1, 0] rfl ?_
  exact k
theorem v_Sto_mostWithout_4 {g : sh_G} {d : Nat} {barred : Int} {B : Nat} (hB : ob0 B) {mem : sh_Mem} {Q : Option sh_V → sh_Mem → Prop}  {x2 : Int} {x3 : Nat} (k : (mem 1 9 = (B : Int) ∧ (((i3 (mem B 1)) ≤ (i3 (x3 : Int)) → Q (some (sh_i x2)) mem) ∧ (¬ (i3 (mem B 1)) ≤ (i3 (x3 : Int)) → sh_X g (d + 1) m_Sto_mostWithout 18 [(0, (sh_r 1)), (1, (sh_i barred)), (2, (sh_i x2)), (3, (sh_i (x3 : Int))), (4, (sh_i 0))] [] mem (sh_K m_Sto_mostWithout Q))))) : sh_X g (d + 1) m_Sto_mostWithout 4 [(0, (sh_r 1)), (1, (sh_i barred)), (2, (sh_i x2)), (3, (sh_i (x3 : Int)))] [] mem (sh_K m_Sto_mostWithout Q) := by
  refine xr_iload_n (n := 3) (i := 3) rfl (List.mem_of_getElem? (i := 3) rfl) (by decide +kernel) ?_
  refine xr_aload_n (n := 0) (i := 0) rfl (List.mem_of_getElem? (i := 0) rfl) (by decide +kernel) ?_
  obtain ⟨o, k⟩ := k
  refine xr_getD (b := B) rfl fl_Sto_72 rfl o (by decide +kernel) ?_
  refine xr_getI (ob0_0 hB) fl_Sto_272 (by decide) (by decide +kernel) ?_
  refine xr_icmp_ge (a' := (i3 (x3 : Int))) (b' := (i3 (mem B 1))) rfl rfl (off := 55) (tgt := 67) (by decide) (by decide +kernel) ⟨fun c1 => ?_, fun c1 => ?_⟩
  · have k := k.1 c1
    refine xr_iload_n (n := 2) (i := 2) rfl (List.mem_of_getElem? (i := 2) rfl) (by decide +kernel) ?_
    exact xr_iret rfl (by decide +kernel) k
  · have k := k.2 c1
    refine xr_iconst (n := 0) (by decide +kernel) ?_
    refine xr_istore (i := 4) (by decide) rfl (by decide +kernel) ?_
    refine xr_sub (lo' := [(0, (sh_r 1)), (1, (sh_i barred)), (2, (sh_i x2)), (3, (sh_i (x3 : Int))), (4, (sh_i 0))]) [1, 2, 3, 4, 0] rfl ?_
    exact k
theorem v_Sto_mostWithout_18 {g : sh_G} {d : Nat} {barred : Int} {B : Nat} (hB : ob0 B) {mem : sh_Mem} {Q : Option sh_V → sh_Mem → Prop}  {x2 : Int} {x3 : Nat} {x4 : Nat} (k : (mem 1 9 = (B : Int) ∧ (((i3 (mem B 0)) ≤ (i3 (x4 : Int)) → sh_X g (d + 1) m_Sto_mostWithout 4 [(0, (sh_r 1)), (1, (sh_i barred)), (2, (sh_i x2)), (3, (sh_i (((x3 + 1) : Nat) : Int)))] [] mem (sh_K m_Sto_mostWithout Q)) ∧ (¬ (i3 (mem B 0)) ≤ (i3 (x4 : Int)) → (((i3 (x4 : Int)) = (i3 barred) → sh_X g (d + 1) m_Sto_mostWithout 18 [(0, (sh_r 1)), (1, (sh_i barred)), (2, (sh_i x2)), (3, (sh_i (x3 : Int))), (4, (sh_i (((x4 + 1) : Nat) : Int)))] [] mem (sh_K m_Sto_mostWithout Q)) ∧ (¬ (i3 (x4 : Int)) = (i3 barred) → (mem 1 9 = (B : Int) ∧ (sh_Cal g d m_State_bagged [(sh_r 5), (sh_r B), (sh_i (x3 : Int)), (sh_i (x4 : Int))] mem fun rv m1 => ∃ r1 : Int, rv = some (sh_i r1) ∧ sh_X g (d + 1) m_Sto_mostWithout 18 [(0, (sh_r 1)), (1, (sh_i barred)), (2, (sh_i (if (i3 x2) < (i3 r1) then r1 else x2))), (3, (sh_i (x3 : Int))), (4, (sh_i (((x4 + 1) : Nat) : Int)))] [] m1 (sh_K m_Sto_mostWithout Q))))))))) : sh_X g (d + 1) m_Sto_mostWithout 18 [(0, (sh_r 1)), (1, (sh_i barred)), (2, (sh_i x2)), (3, (sh_i (x3 : Int))), (4, (sh_i (x4 : Int)))] [] mem (sh_K m_Sto_mostWithout Q) := by
  refine xr_iload (i := 4) (List.mem_of_getElem? (i := 4) rfl) (by decide +kernel) ?_
  refine xr_aload_n (n := 0) (i := 0) rfl (List.mem_of_getElem? (i := 0) rfl) (by decide +kernel) ?_
  obtain ⟨o, k⟩ := k
  refine xr_getD (b := B) rfl fl_Sto_72 rfl o (by decide +kernel) ?_
  refine xr_getI (ob0_0 hB) fl_Sto_201 (by decide) (by decide +kernel) ?_
  refine xr_icmp_ge (a' := (i3 (x4 : Int))) (b' := (i3 (mem B 0))) rfl rfl (off := 34) (tgt := 61) (by decide) (by decide +kernel) ⟨fun c1 => ?_, fun c1 => ?_⟩
  · have k := k.1 c1
    refine xr_iinc (n := 1) (lo' := [(3, (sh_i (((x3 + 1) : Nat) : Int))), (0, (sh_r 1)), (1, (sh_i barred)), (2, (sh_i x2)), (4, (sh_i (x4 : Int)))]) (List.mem_of_getElem? (i := 3) rfl) (by decide) rfl (by decide +kernel) ?_
    refine xr_goto (off := (-60)) (tgt := 4) (by decide) (by decide +kernel) ?_
    refine xr_sub (lo' := [(0, (sh_r 1)), (1, (sh_i barred)), (2, (sh_i x2)), (3, (sh_i (((x3 + 1) : Nat) : Int)))]) [1, 2, 3, 0] rfl ?_
    exact k
  · have k := k.2 c1
    refine xr_iload (i := 4) (List.mem_of_getElem? (i := 4) rfl) (by decide +kernel) ?_
    refine xr_iload_n (n := 1) (i := 1) rfl (List.mem_of_getElem? (i := 1) rfl) (by decide +kernel) ?_
    refine xr_icmp_eq (a' := (i3 (x4 : Int))) (b' := (i3 barred)) rfl rfl (off := 22) (tgt := 55) (by decide) (by decide +kernel) ⟨fun c2 => ?_, fun c2 => ?_⟩
    · have k := k.1 c2
      refine xr_iinc (n := 1) (lo' := [(4, (sh_i (((x4 + 1) : Nat) : Int))), (0, (sh_r 1)), (1, (sh_i barred)), (2, (sh_i x2)), (3, (sh_i (x3 : Int)))]) (List.mem_of_getElem? (i := 4) rfl) (by decide) rfl (by decide +kernel) ?_
      refine xr_goto (off := (-40)) (tgt := 18) (by decide) (by decide +kernel) ?_
      refine xr_sub (lo' := [(0, (sh_r 1)), (1, (sh_i barred)), (2, (sh_i x2)), (3, (sh_i (x3 : Int))), (4, (sh_i (((x4 + 1) : Nat) : Int)))]) [1, 2, 3, 4, 0] rfl ?_
      exact k
    · have k := k.2 c2
      refine xr_iload_n (n := 2) (i := 2) rfl (List.mem_of_getElem? (i := 2) rfl) (by decide +kernel) ?_
      refine xr_aload_n (n := 0) (i := 0) rfl (List.mem_of_getElem? (i := 0) rfl) (by decide +kernel) ?_
      refine xr_getR (o := 4) rfl fl_Sto_28 rfl (by decide +kernel) ?_
      show sh_X g (d + 1) m_Sto_mostWithout _ _ ((sh_r 5) :: _) _ _
      refine xr_aload_n (n := 0) (i := 0) rfl (List.mem_of_getElem? (i := 0) rfl) (by decide +kernel) ?_
      obtain ⟨o, k⟩ := k
      refine xr_getD (b := B) rfl fl_Sto_72 rfl o (by decide +kernel) ?_
      refine xr_iload_n (n := 3) (i := 3) rfl (List.mem_of_getElem? (i := 3) rfl) (by decide +kernel) ?_
      refine xr_iload (i := 4) (List.mem_of_getElem? (i := 4) rfl) (by decide +kernel) ?_
      refine xr_callV (av := [(sh_r B), (sh_i (x3 : Int)), (sh_i (x4 : Int))]) rfl rfl rfl mo_State_bagged ml_Sto_204 im_State_bagged se_State_bagged rfl (Nat.le_of_ble_eq_true rfl) (by decide +kernel) (sh_mono k ?_)
      rintro rv m1 ⟨r1, rfl, k⟩
      show sh_X g (d + 1) m_Sto_mostWithout _ _ [(sh_i r1), (sh_i x2)] _ _
      refine xr_mmax ml_Sto_231 (Nat.le_of_ble_eq_true rfl) (by decide +kernel) ?_
      refine xr_istore_n (n := 2) (i := 2) rfl (by decide) rfl (by decide +kernel) ?_
      refine xr_iinc (n := 1) (lo' := [(4, (sh_i (((x4 + 1) : Nat) : Int))), (2, (sh_i (if (i3 x2) < (i3 r1) then r1 else x2))), (0, (sh_r 1)), (1, (sh_i barred)), (3, (sh_i (x3 : Int)))]) (List.mem_of_getElem? (i := 4) rfl) (by decide) rfl (by decide +kernel) ?_
      refine xr_goto (off := (-40)) (tgt := 18) (by decide) (by decide +kernel) ?_
      refine xr_sub (lo' := [(0, (sh_r 1)), (1, (sh_i barred)), (2, (sh_i (if (i3 x2) < (i3 r1) then r1 else x2))), (3, (sh_i (x3 : Int))), (4, (sh_i (((x4 + 1) : Nat) : Int)))]) [2, 3, 1, 4, 0] rfl ?_
      exact k

theorem v_Sto_openTo {g : sh_G} {d : Nat} {day : Int} {nights : Int} {B : Nat} (hB : ob0 B) {mem : sh_Mem} {Q : Option sh_V → sh_Mem → Prop}  (k : sh_X g (d + 1) m_Sto_openTo 5 [(0, (sh_r 1)), (1, (sh_i day)), (2, (sh_i nights)), (3, (sh_i 0)), (4, (sh_i 0))] [] mem (sh_K m_Sto_openTo Q)) : sh_Cal g (d + 1) m_Sto_openTo [(sh_r 1), (sh_i day), (sh_i nights)] mem Q := by
  refine sh_met (by decide +kernel) (Nat.le_of_ble_eq_true rfl) (lo := [(0, (sh_r 1)), (1, (sh_i day)), (2, (sh_i nights))]) rfl ?_
  refine xr_iconst (n := 0) (by decide +kernel) ?_
  refine xr_istore_n (n := 3) (i := 3) rfl (by decide) rfl (by decide +kernel) ?_
  refine xr_iconst (n := 0) (by decide +kernel) ?_
  refine xr_istore (i := 4) (by decide) rfl (by decide +kernel) ?_
  refine xr_sub (lo' := [(0, (sh_r 1)), (1, (sh_i day)), (2, (sh_i nights)), (3, (sh_i 0)), (4, (sh_i 0))]) [2, 3, 4, 1, 0] rfl ?_
  exact k
theorem v_Sto_openTo_5 {g : sh_G} {d : Nat} {day : Int} {nights : Int} {B : Nat} (hB : ob0 B) {mem : sh_Mem} {Q : Option sh_V → sh_Mem → Prop}  {x3 : Int} {x4 : Nat} (k : (mem 1 9 = (B : Int) ∧ (((i3 (mem B 1)) ≤ (i3 (x4 : Int)) → Q (some (sh_i x3)) mem) ∧ (¬ (i3 (mem B 1)) ≤ (i3 (x4 : Int)) → (mem 1 9 = (B : Int) ∧ (sh_Cal g d m_State_isOpenBehind [(sh_r 5), (sh_r B), (sh_i (x4 : Int)), (sh_i day), (sh_i nights)] mem fun rv m1 => ∃ r1 : Int, rv = some (sh_i r1) ∧ (((i3 r1) = 0 → sh_X g (d + 1) m_Sto_openTo 5 [(0, (sh_r 1)), (1, (sh_i day)), (2, (sh_i nights)), (3, (sh_i x3)), (4, (sh_i (((x4 + 1) : Nat) : Int)))] [] m1 (sh_K m_Sto_openTo Q)) ∧ (¬ (i3 r1) = 0 → sh_X g (d + 1) m_Sto_openTo 5 [(0, (sh_r 1)), (1, (sh_i day)), (2, (sh_i nights)), (3, (sh_i (i_or x3 (i_shl 1 (x4 : Int))))), (4, (sh_i (((x4 + 1) : Nat) : Int)))] [] m1 (sh_K m_Sto_openTo Q))))))))) : sh_X g (d + 1) m_Sto_openTo 5 [(0, (sh_r 1)), (1, (sh_i day)), (2, (sh_i nights)), (3, (sh_i x3)), (4, (sh_i (x4 : Int)))] [] mem (sh_K m_Sto_openTo Q) := by
  refine xr_iload (i := 4) (List.mem_of_getElem? (i := 4) rfl) (by decide +kernel) ?_
  refine xr_aload_n (n := 0) (i := 0) rfl (List.mem_of_getElem? (i := 0) rfl) (by decide +kernel) ?_
  obtain ⟨o, k⟩ := k
  refine xr_getD (b := B) rfl fl_Sto_72 rfl o (by decide +kernel) ?_
  refine xr_getI (ob0_0 hB) fl_Sto_272 (by decide) (by decide +kernel) ?_
  refine xr_icmp_ge (a' := (i3 (x4 : Int))) (b' := (i3 (mem B 1))) rfl rfl (off := 34) (tgt := 48) (by decide) (by decide +kernel) ⟨fun c1 => ?_, fun c1 => ?_⟩
  · have k := k.1 c1
    refine xr_iload_n (n := 3) (i := 3) rfl (List.mem_of_getElem? (i := 3) rfl) (by decide +kernel) ?_
    exact xr_iret rfl (by decide +kernel) k
  · have k := k.2 c1
    refine xr_aload_n (n := 0) (i := 0) rfl (List.mem_of_getElem? (i := 0) rfl) (by decide +kernel) ?_
    refine xr_getR (o := 4) rfl fl_Sto_28 rfl (by decide +kernel) ?_
    show sh_X g (d + 1) m_Sto_openTo _ _ ((sh_r 5) :: _) _ _
    refine xr_aload_n (n := 0) (i := 0) rfl (List.mem_of_getElem? (i := 0) rfl) (by decide +kernel) ?_
    obtain ⟨o, k⟩ := k
    refine xr_getD (b := B) rfl fl_Sto_72 rfl o (by decide +kernel) ?_
    refine xr_iload (i := 4) (List.mem_of_getElem? (i := 4) rfl) (by decide +kernel) ?_
    refine xr_iload_n (n := 1) (i := 1) rfl (List.mem_of_getElem? (i := 1) rfl) (by decide +kernel) ?_
    refine xr_iload_n (n := 2) (i := 2) rfl (List.mem_of_getElem? (i := 2) rfl) (by decide +kernel) ?_
    refine xr_callV (av := [(sh_r B), (sh_i (x4 : Int)), (sh_i day), (sh_i nights)]) rfl rfl rfl mo_State_isOpenBehind ml_Sto_227 im_State_isOpenBehind se_State_isOpenBehind rfl (Nat.le_of_ble_eq_true rfl) (by decide +kernel) (sh_mono k ?_)
    rintro rv m1 ⟨r1, rfl, k⟩
    show sh_X g (d + 1) m_Sto_openTo _ _ [(sh_i r1)] _ _
    refine xr_if_eq (a' := (i3 r1)) rfl (off := 10) (tgt := 42) (by decide) (by decide +kernel) ⟨fun c2 => ?_, fun c2 => ?_⟩
    · have k := k.1 c2
      refine xr_iinc (n := 1) (lo' := [(4, (sh_i (((x4 + 1) : Nat) : Int))), (0, (sh_r 1)), (1, (sh_i day)), (2, (sh_i nights)), (3, (sh_i x3))]) (List.mem_of_getElem? (i := 4) rfl) (by decide) rfl (by decide +kernel) ?_
      refine xr_goto (off := (-40)) (tgt := 5) (by decide) (by decide +kernel) ?_
      refine xr_sub (lo' := [(0, (sh_r 1)), (1, (sh_i day)), (2, (sh_i nights)), (3, (sh_i x3)), (4, (sh_i (((x4 + 1) : Nat) : Int)))]) [1, 2, 3, 4, 0] rfl ?_
      exact k
    · have k := k.2 c2
      refine xr_iload_n (n := 3) (i := 3) rfl (List.mem_of_getElem? (i := 3) rfl) (by decide +kernel) ?_
      refine xr_iconst (n := 1) (by decide +kernel) ?_
      refine xr_iload (i := 4) (List.mem_of_getElem? (i := 4) rfl) (by decide +kernel) ?_
      refine xr_ishl (by decide +kernel) ?_
      refine xr_ior (by decide +kernel) ?_
      refine xr_istore_n (n := 3) (i := 3) rfl (by decide) rfl (by decide +kernel) ?_
      refine xr_iinc (n := 1) (lo' := [(4, (sh_i (((x4 + 1) : Nat) : Int))), (3, (sh_i (i_or x3 (i_shl 1 (x4 : Int))))), (0, (sh_r 1)), (1, (sh_i day)), (2, (sh_i nights))]) (List.mem_of_getElem? (i := 4) rfl) (by decide) rfl (by decide +kernel) ?_
      refine xr_goto (off := (-40)) (tgt := 5) (by decide) (by decide +kernel) ?_
      refine xr_sub (lo' := [(0, (sh_r 1)), (1, (sh_i day)), (2, (sh_i nights)), (3, (sh_i (i_or x3 (i_shl 1 (x4 : Int))))), (4, (sh_i (((x4 + 1) : Nat) : Int)))]) [2, 3, 4, 1, 0] rfl ?_
      exact k

theorem v_Sto_weightOpen {g : sh_G} {d : Nat} {guard : Int} {told : Int} {skill : Int} {nights : Int} {odds : Int}  {mem : sh_Mem} {Q : Option sh_V → sh_Mem → Prop}  (k : ((0 < (i3 nights) → (sh_Cal g d m_State_relaxed [(sh_i guard), (sh_i told)] mem fun rv m1 => ∃ r1 : Int, rv = some (sh_i r1) ∧ (sh_Cal g d m_State_relaxed [(sh_i (if (i3 (guard + 3)) < (i3 9) then (guard + 3) else (9 : Int))), (sh_i told)] m1 fun rv m2 => ∃ r2 : Int, rv = some (sh_i r2) ∧ (sh_Cal g d m_Sto_weightOpen [(sh_i r1), (sh_i told), (sh_i skill), (sh_i (nights - 1)), (sh_i odds)] m2 fun rv m3 => ∃ r3 : Int, rv = some (sh_i r3) ∧ (sh_Cal g d m_Sto_weightOpen [(sh_i r2), (sh_i told), (sh_i skill), (sh_i (nights - 1)), (sh_i odds)] m3 fun rv m4 => ∃ r4 : Int, rv = some (sh_i r4) ∧ Q (some (sh_i (((10 - odds) * r3) + (odds * r4)))) m4))))) ∧ (¬ 0 < (i3 nights) → (((i3 skill) < (i3 guard) → Q (some (sh_i 0)) mem) ∧ (¬ (i3 skill) < (i3 guard) → Q (some (sh_i 1)) mem))))) : sh_Cal g (d + 1) m_Sto_weightOpen [(sh_i guard), (sh_i told), (sh_i skill), (sh_i nights), (sh_i odds)] mem Q := by
  refine sh_met (by decide +kernel) (Nat.le_of_ble_eq_true rfl) (lo := [(0, (sh_i guard)), (1, (sh_i told)), (2, (sh_i skill)), (3, (sh_i nights)), (4, (sh_i odds))]) rfl ?_
  refine xr_iload_n (n := 3) (i := 3) rfl (List.mem_of_getElem? (i := 3) rfl) (by decide +kernel) ?_
  refine xr_if_gt (a' := (i3 nights)) rfl (off := 14) (tgt := 15) (by decide) (by decide +kernel) ⟨fun c1 => ?_, fun c1 => ?_⟩
  · have k := k.1 c1
    refine xr_iload_n (n := 0) (i := 0) rfl (List.mem_of_getElem? (i := 0) rfl) (by decide +kernel) ?_
    refine xr_iload_n (n := 1) (i := 1) rfl (List.mem_of_getElem? (i := 1) rfl) (by decide +kernel) ?_
    refine xr_callS (av := [(sh_i guard), (sh_i told)]) mo_State_relaxed ml_Sto_332 sa_State_relaxed rfl (Nat.le_of_ble_eq_true rfl) (by decide +kernel) (sh_mono k ?_)
    rintro rv m1 ⟨r1, rfl, k⟩
    show sh_X g (d + 1) m_Sto_weightOpen _ _ [(sh_i r1)] _ _
    refine xr_istore (i := 5) (by decide) rfl (by decide +kernel) ?_
    refine xr_bipush (n := 9) (v := 9) (by decide) (by decide +kernel) ?_
    refine xr_iload_n (n := 0) (i := 0) rfl (List.mem_of_getElem? (i := 1) rfl) (by decide +kernel) ?_
    refine xr_iconst (n := 3) (by decide +kernel) ?_
    refine xr_iadd (by decide +kernel) ?_
    show sh_X g (d + 1) m_Sto_weightOpen _ _ ((sh_i (guard + 3)) :: _) _ _
    refine xr_mmin ml_Sto_335 (Nat.le_of_ble_eq_true rfl) (by decide +kernel) ?_
    refine xr_iload_n (n := 1) (i := 1) rfl (List.mem_of_getElem? (i := 2) rfl) (by decide +kernel) ?_
    refine xr_callS (av := [(sh_i (if (i3 (guard + 3)) < (i3 9) then (guard + 3) else (9 : Int))), (sh_i told)]) mo_State_relaxed ml_Sto_332 sa_State_relaxed rfl (Nat.le_of_ble_eq_true rfl) (by decide +kernel) (sh_mono k ?_)
    rintro rv m2 ⟨r2, rfl, k⟩
    show sh_X g (d + 1) m_Sto_weightOpen _ _ [(sh_i r2)] _ _
    refine xr_istore (i := 6) (by decide) rfl (by decide +kernel) ?_
    refine xr_bipush (n := 10) (v := 10) (by decide) (by decide +kernel) ?_
    refine xr_iload (i := 4) (List.mem_of_getElem? (i := 6) rfl) (by decide +kernel) ?_
    refine xr_isub (by decide +kernel) ?_
    show sh_X g (d + 1) m_Sto_weightOpen _ _ ((sh_i (10 - odds)) :: _) _ _
    refine xr_iload (i := 5) (List.mem_of_getElem? (i := 1) rfl) (by decide +kernel) ?_
    refine xr_iload_n (n := 1) (i := 1) rfl (List.mem_of_getElem? (i := 3) rfl) (by decide +kernel) ?_
    refine xr_iload_n (n := 2) (i := 2) rfl (List.mem_of_getElem? (i := 4) rfl) (by decide +kernel) ?_
    refine xr_iload_n (n := 3) (i := 3) rfl (List.mem_of_getElem? (i := 5) rfl) (by decide +kernel) ?_
    refine xr_iconst (n := 1) (by decide +kernel) ?_
    refine xr_isub (by decide +kernel) ?_
    show sh_X g (d + 1) m_Sto_weightOpen _ _ ((sh_i (nights - 1)) :: _) _ _
    refine xr_iload (i := 4) (List.mem_of_getElem? (i := 6) rfl) (by decide +kernel) ?_
    refine xr_callS (av := [(sh_i r1), (sh_i told), (sh_i skill), (sh_i (nights - 1)), (sh_i odds)]) mo_Sto_weightOpen ml_Sto_294 sa_Sto_weightOpen rfl (Nat.le_of_ble_eq_true rfl) (by decide +kernel) (sh_mono k ?_)
    rintro rv m3 ⟨r3, rfl, k⟩
    show sh_X g (d + 1) m_Sto_weightOpen _ _ [(sh_i r3), (sh_i (10 - odds))] _ _
    refine xr_imul (by decide +kernel) ?_
    show sh_X g (d + 1) m_Sto_weightOpen _ _ ((sh_i ((10 - odds) * r3)) :: _) _ _
    refine xr_iload (i := 4) (List.mem_of_getElem? (i := 6) rfl) (by decide +kernel) ?_
    refine xr_iload (i := 6) (List.mem_of_getElem? (i := 0) rfl) (by decide +kernel) ?_
    refine xr_iload_n (n := 1) (i := 1) rfl (List.mem_of_getElem? (i := 3) rfl) (by decide +kernel) ?_
    refine xr_iload_n (n := 2) (i := 2) rfl (List.mem_of_getElem? (i := 4) rfl) (by decide +kernel) ?_
    refine xr_iload_n (n := 3) (i := 3) rfl (List.mem_of_getElem? (i := 5) rfl) (by decide +kernel) ?_
    refine xr_iconst (n := 1) (by decide +kernel) ?_
    refine xr_isub (by decide +kernel) ?_
    show sh_X g (d + 1) m_Sto_weightOpen _ _ ((sh_i (nights - 1)) :: _) _ _
    refine xr_iload (i := 4) (List.mem_of_getElem? (i := 6) rfl) (by decide +kernel) ?_
    refine xr_callS (av := [(sh_i r2), (sh_i told), (sh_i skill), (sh_i (nights - 1)), (sh_i odds)]) mo_Sto_weightOpen ml_Sto_294 sa_Sto_weightOpen rfl (Nat.le_of_ble_eq_true rfl) (by decide +kernel) (sh_mono k ?_)
    rintro rv m4 ⟨r4, rfl, k⟩
    show sh_X g (d + 1) m_Sto_weightOpen _ _ [(sh_i r4), (sh_i odds), (sh_i ((10 - odds) * r3))] _ _
    refine xr_imul (by decide +kernel) ?_
    show sh_X g (d + 1) m_Sto_weightOpen _ _ ((sh_i (odds * r4)) :: _) _ _
    refine xr_iadd (by decide +kernel) ?_
    show sh_X g (d + 1) m_Sto_weightOpen _ _ ((sh_i (((10 - odds) * r3) + (odds * r4))) :: _) _ _
    exact xr_iret rfl (by decide +kernel) k
  · have k := k.2 c1
    refine xr_iload_n (n := 2) (i := 2) rfl (List.mem_of_getElem? (i := 2) rfl) (by decide +kernel) ?_
    refine xr_iload_n (n := 0) (i := 0) rfl (List.mem_of_getElem? (i := 0) rfl) (by decide +kernel) ?_
    refine xr_icmp_lt (a' := (i3 skill)) (b' := (i3 guard)) rfl rfl (off := 7) (tgt := 13) (by decide) (by decide +kernel) ⟨fun c2 => ?_, fun c2 => ?_⟩
    · have k := k.1 c2
      refine xr_iconst (n := 0) (by decide +kernel) ?_
      exact xr_iret rfl (by decide +kernel) k
    · have k := k.2 c2
      refine xr_iconst (n := 1) (by decide +kernel) ?_
      refine xr_goto (off := 4) (tgt := 14) (by decide) (by decide +kernel) ?_
      exact xr_iret rfl (by decide +kernel) k

theorem v_Sto_isContent {g : sh_G} {d : Nat} {mine : Int} {his : Int} {lose : Int} {tells : Int} {nt : Int}  {mem : sh_Mem} {Q : Option sh_V → sh_Mem → Prop}  (k : (sh_Cal g d m_Sto_gain [(sh_i mine), (sh_i his), (sh_i lose), (sh_i tells), (sh_i nt)] mem fun rv m1 => ∃ r1 : Int, rv = some (sh_i r1) ∧ (sh_Cal g d m_Sto_gain [(sh_i (1 - mine)), (sh_i his), (sh_i lose), (sh_i tells), (sh_i nt)] m1 fun rv m2 => ∃ r2 : Int, rv = some (sh_i r2) ∧ (((i3 r1) < (i3 r2) → Q (some (sh_i 0)) m2) ∧ (¬ (i3 r1) < (i3 r2) → Q (some (sh_i 1)) m2))))) : sh_Cal g (d + 1) m_Sto_isContent [(sh_i mine), (sh_i his), (sh_i lose), (sh_i tells), (sh_i nt)] mem Q := by
  refine sh_met (by decide +kernel) (Nat.le_of_ble_eq_true rfl) (lo := [(0, (sh_i mine)), (1, (sh_i his)), (2, (sh_i lose)), (3, (sh_i tells)), (4, (sh_i nt))]) rfl ?_
  refine xr_iload_n (n := 0) (i := 0) rfl (List.mem_of_getElem? (i := 0) rfl) (by decide +kernel) ?_
  refine xr_iload_n (n := 1) (i := 1) rfl (List.mem_of_getElem? (i := 1) rfl) (by decide +kernel) ?_
  refine xr_iload_n (n := 2) (i := 2) rfl (List.mem_of_getElem? (i := 2) rfl) (by decide +kernel) ?_
  refine xr_iload_n (n := 3) (i := 3) rfl (List.mem_of_getElem? (i := 3) rfl) (by decide +kernel) ?_
  refine xr_iload (i := 4) (List.mem_of_getElem? (i := 4) rfl) (by decide +kernel) ?_
  refine xr_callS (av := [(sh_i mine), (sh_i his), (sh_i lose), (sh_i tells), (sh_i nt)]) mo_Sto_gain ml_Sto_338 sa_Sto_gain rfl (Nat.le_of_ble_eq_true rfl) (by decide +kernel) (sh_mono k ?_)
  rintro rv m1 ⟨r1, rfl, k⟩
  show sh_X g (d + 1) m_Sto_isContent _ _ [(sh_i r1)] _ _
  refine xr_iconst (n := 1) (by decide +kernel) ?_
  refine xr_iload_n (n := 0) (i := 0) rfl (List.mem_of_getElem? (i := 0) rfl) (by decide +kernel) ?_
  refine xr_isub (by decide +kernel) ?_
  show sh_X g (d + 1) m_Sto_isContent _ _ ((sh_i (1 - mine)) :: _) _ _
  refine xr_iload_n (n := 1) (i := 1) rfl (List.mem_of_getElem? (i := 1) rfl) (by decide +kernel) ?_
  refine xr_iload_n (n := 2) (i := 2) rfl (List.mem_of_getElem? (i := 2) rfl) (by decide +kernel) ?_
  refine xr_iload_n (n := 3) (i := 3) rfl (List.mem_of_getElem? (i := 3) rfl) (by decide +kernel) ?_
  refine xr_iload (i := 4) (List.mem_of_getElem? (i := 4) rfl) (by decide +kernel) ?_
  refine xr_callS (av := [(sh_i (1 - mine)), (sh_i his), (sh_i lose), (sh_i tells), (sh_i nt)]) mo_Sto_gain ml_Sto_338 sa_Sto_gain rfl (Nat.le_of_ble_eq_true rfl) (by decide +kernel) (sh_mono k ?_)
  rintro rv m2 ⟨r2, rfl, k⟩
  show sh_X g (d + 1) m_Sto_isContent _ _ [(sh_i r2), (sh_i r1)] _ _
  refine xr_icmp_lt (a' := (i3 r1)) (b' := (i3 r2)) rfl rfl (off := 7) (tgt := 27) (by decide) (by decide +kernel) ⟨fun c1 => ?_, fun c1 => ?_⟩
  · have k := k.1 c1
    refine xr_iconst (n := 0) (by decide +kernel) ?_
    exact xr_zret rfl (by decide +kernel) (by decide) k
  · have k := k.2 c1
    refine xr_iconst (n := 1) (by decide +kernel) ?_
    refine xr_goto (off := 4) (tgt := 28) (by decide) (by decide +kernel) ?_
    exact xr_zret rfl (by decide +kernel) (by decide) k

theorem v_Sto_gain {g : sh_G} {d : Nat} {mine : Int} {his : Int} {lose : Int} {tells : Int} {nt : Int}  {mem : sh_Mem} {Q : Option sh_V → sh_Mem → Prop}  (k : ((¬ (i3 mine) = 1 → ((¬ (i3 his) = 1 → Q (some (sh_i 0)) mem) ∧ ((i3 his) = 1 → Q (some (sh_i nt)) mem))) ∧ ((i3 mine) = 1 → ((¬ (i3 his) = 1 → Q (some (sh_i tells)) mem) ∧ ((i3 his) = 1 → Q (some (sh_i (-lose))) mem))))) : sh_Cal g d m_Sto_gain [(sh_i mine), (sh_i his), (sh_i lose), (sh_i tells), (sh_i nt)] mem Q := by
  refine sh_met (by decide +kernel) (Nat.le_of_ble_eq_true rfl) (lo := [(0, (sh_i mine)), (1, (sh_i his)), (2, (sh_i lose)), (3, (sh_i tells)), (4, (sh_i nt))]) rfl ?_
  refine xr_iload_n (n := 0) (i := 0) rfl (List.mem_of_getElem? (i := 0) rfl) (by decide +kernel) ?_
  refine xr_iconst (n := 1) (by decide +kernel) ?_
  refine xr_icmp_ne (a' := (i3 mine)) (b' := 1) rfl (by decide) (off := 15) (tgt := 17) (by decide) (by decide +kernel) ⟨fun c1 => ?_, fun c1 => ?_⟩
  · have k := k.1 c1
    refine xr_iload_n (n := 1) (i := 1) rfl (List.mem_of_getElem? (i := 1) rfl) (by decide +kernel) ?_
    refine xr_iconst (n := 1) (by decide +kernel) ?_
    refine xr_icmp_ne (a' := (i3 his)) (b' := 1) rfl (by decide) (off := 8) (tgt := 27) (by decide) (by decide +kernel) ⟨fun c2 => ?_, fun c2 => ?_⟩
    · have k := k.1 c2
      refine xr_iconst (n := 0) (by decide +kernel) ?_
      exact xr_iret rfl (by decide +kernel) k
    · have k := k.2 c2
      refine xr_iload (i := 4) (List.mem_of_getElem? (i := 4) rfl) (by decide +kernel) ?_
      refine xr_goto (off := 4) (tgt := 28) (by decide) (by decide +kernel) ?_
      exact xr_iret rfl (by decide +kernel) k
  · have k := k.2 c1
    refine xr_iload_n (n := 1) (i := 1) rfl (List.mem_of_getElem? (i := 1) rfl) (by decide +kernel) ?_
    refine xr_iconst (n := 1) (by decide +kernel) ?_
    refine xr_icmp_ne (a' := (i3 his)) (b' := 1) rfl (by decide) (off := 8) (tgt := 15) (by decide) (by decide +kernel) ⟨fun c3 => ?_, fun c3 => ?_⟩
    · have k := k.1 c3
      refine xr_iload_n (n := 3) (i := 3) rfl (List.mem_of_getElem? (i := 3) rfl) (by decide +kernel) ?_
      exact xr_iret rfl (by decide +kernel) k
    · have k := k.2 c3
      refine xr_iload_n (n := 2) (i := 2) rfl (List.mem_of_getElem? (i := 2) rfl) (by decide +kernel) ?_
      refine xr_ineg (by decide +kernel) ?_
      refine xr_goto (off := 4) (tgt := 16) (by decide) (by decide +kernel) ?_
      exact xr_iret rfl (by decide +kernel) k

theorem v_Sto_nextDraw {g : sh_G} {d : Nat} {gg : Int}  {mem : sh_Mem} {Q : Option sh_V → sh_Mem → Prop}  (k : Q (some (sh_i (i_and ((gg * 1103515245) + 12345) 2147483647))) mem) : sh_Cal g d m_Sto_nextDraw [(sh_i gg)] mem Q := by
  refine sh_met (by decide +kernel) (Nat.le_of_ble_eq_true rfl) (lo := [(0, (sh_i gg))]) rfl ?_
  refine xr_iload_n (n := 0) (i := 0) rfl (List.mem_of_getElem? (i := 0) rfl) (by decide +kernel) ?_
  refine xr_ldcwI (v := 1103515245) (by decide) ki_Sto_341 (by decide +kernel) ?_
  refine xr_imul (by decide +kernel) ?_
  show sh_X g d m_Sto_nextDraw _ _ ((sh_i (gg * 1103515245)) :: _) _ _
  refine xr_sipush (n := 12345) (v := 12345) (by decide) (by decide +kernel) ?_
  refine xr_iadd (by decide +kernel) ?_
  show sh_X g d m_Sto_nextDraw _ _ ((sh_i ((gg * 1103515245) + 12345)) :: _) _ _
  refine xr_ldcwI (v := 2147483647) (by decide) ki_Sto_342 (by decide +kernel) ?_
  refine xr_iand (by decide +kernel) ?_
  exact xr_iret rfl (by decide +kernel) k

theorem v_Sto_tryDrawn {g : sh_G} {d : Nat} {thief : Int} {day : Int} {choice : Int} {B : Nat} (hB : ob0 B) {mem : sh_Mem} {Q : Option sh_V → sh_Mem → Prop}  (k : ((1 < (i3 choice) → (sh_Cal g d m_State_canPart [(sh_r 7), (sh_i thief)] mem fun rv m1 => ∃ r1 : Int, rv = some (sh_i r1) ∧ (((i3 r1) = 0 → Q (some (sh_i 0)) m1) ∧ (¬ (i3 r1) = 0 → ((¬ (i3 choice) = 2 → (sh_Cal g d m_State_enjoy [(sh_r 7), (sh_i thief)] m1 fun rv m2 => ∃ r2 : Int, rv = some (sh_i r2) ∧ Q (some (sh_i 0)) m2)) ∧ ((i3 choice) = 2 → (m1 1 9 = (B : Int) ∧ (sh_Cal g d m_State_cashIn [(sh_r 7), (sh_r B), (sh_i thief)] m1 fun rv m3 => ∃ r3 : Int, rv = some (sh_i r3) ∧ Q (some (sh_i 0)) m3)))))))) ∧ (¬ 1 < (i3 choice) → (sh_Cal g d m_State_canTake [(sh_r 7), (sh_i thief), (sh_i day)] mem fun rv m4 => ∃ r4 : Int, rv = some (sh_i r4) ∧ (((i3 r4) = 0 → Q (some (sh_i 0)) m4) ∧ (¬ (i3 r4) = 0 → (m4 1 9 = (B : Int) ∧ (sh_Cal g d m_State_take [(sh_r 7), (sh_r B), (sh_i thief), (sh_i day)] m4 fun rv m5 => ∃ r5 : Int, rv = some (sh_i r5) ∧ Q (some (sh_i r5)) m5)))))))) : sh_Cal g (d + 1) m_Sto_tryDrawn [(sh_r 1), (sh_i thief), (sh_i day), (sh_i choice)] mem Q := by
  refine sh_met (by decide +kernel) (Nat.le_of_ble_eq_true rfl) (lo := [(0, (sh_r 1)), (1, (sh_i thief)), (2, (sh_i day)), (3, (sh_i choice))]) rfl ?_
  refine xr_iload_n (n := 3) (i := 3) rfl (List.mem_of_getElem? (i := 3) rfl) (by decide +kernel) ?_
  refine xr_iconst (n := 1) (by decide +kernel) ?_
  refine xr_icmp_gt (a' := (i3 choice)) (b' := 1) rfl (by decide) (off := 33) (tgt := 35) (by decide) (by decide +kernel) ⟨fun c1 => ?_, fun c1 => ?_⟩
  · have k := k.1 c1
    refine xr_aload_n (n := 0) (i := 0) rfl (List.mem_of_getElem? (i := 0) rfl) (by decide +kernel) ?_
    refine xr_getR (o := 6) rfl fl_Sto_32 rfl (by decide +kernel) ?_
    show sh_X g (d + 1) m_Sto_tryDrawn _ _ ((sh_r 7) :: _) _ _
    refine xr_iload_n (n := 1) (i := 1) rfl (List.mem_of_getElem? (i := 1) rfl) (by decide +kernel) ?_
    refine xr_callV (av := [(sh_i thief)]) rfl rfl rfl mo_State_canPart ml_Sto_162 im_State_canPart se_State_canPart rfl (Nat.le_of_ble_eq_true rfl) (by decide +kernel) (sh_mono k ?_)
    rintro rv m1 ⟨r1, rfl, k⟩
    show sh_X g (d + 1) m_Sto_tryDrawn _ _ [(sh_i r1)] _ _
    refine xr_if_eq (a' := (i3 r1)) rfl (off := 33) (tgt := 76) (by decide) (by decide +kernel) ⟨fun c2 => ?_, fun c2 => ?_⟩
    · have k := k.1 c2
      refine xr_iconst (n := 0) (by decide +kernel) ?_
      exact xr_iret rfl (by decide +kernel) k
    · have k := k.2 c2
      refine xr_iload_n (n := 3) (i := 3) rfl (List.mem_of_getElem? (i := 3) rfl) (by decide +kernel) ?_
      refine xr_iconst (n := 2) (by decide +kernel) ?_
      refine xr_icmp_ne (a' := (i3 choice)) (b' := 2) rfl (by decide) (off := 19) (tgt := 67) (by decide) (by decide +kernel) ⟨fun c3 => ?_, fun c3 => ?_⟩
      · have k := k.1 c3
        refine xr_aload_n (n := 0) (i := 0) rfl (List.mem_of_getElem? (i := 0) rfl) (by decide +kernel) ?_
        refine xr_getR (o := 6) rfl fl_Sto_32 rfl (by decide +kernel) ?_
        show sh_X g (d + 1) m_Sto_tryDrawn _ _ ((sh_r 7) :: _) _ _
        refine xr_iload_n (n := 1) (i := 1) rfl (List.mem_of_getElem? (i := 1) rfl) (by decide +kernel) ?_
        refine xr_callV (av := [(sh_i thief)]) rfl rfl rfl mo_State_enjoy ml_Sto_169 im_State_enjoy se_State_enjoy rfl (Nat.le_of_ble_eq_true rfl) (by decide +kernel) (sh_mono k ?_)
        rintro rv m2 ⟨r2, rfl, k⟩
        show sh_X g (d + 1) m_Sto_tryDrawn _ _ [(sh_i r2)] _ _
        refine xr_popI (by decide +kernel) ?_
        refine xr_iconst (n := 0) (by decide +kernel) ?_
        exact xr_iret rfl (by decide +kernel) k
      · have k := k.2 c3
        refine xr_aload_n (n := 0) (i := 0) rfl (List.mem_of_getElem? (i := 0) rfl) (by decide +kernel) ?_
        refine xr_getR (o := 6) rfl fl_Sto_32 rfl (by decide +kernel) ?_
        show sh_X g (d + 1) m_Sto_tryDrawn _ _ ((sh_r 7) :: _) _ _
        refine xr_aload_n (n := 0) (i := 0) rfl (List.mem_of_getElem? (i := 0) rfl) (by decide +kernel) ?_
        obtain ⟨o, k⟩ := k
        refine xr_getD (b := B) rfl fl_Sto_72 rfl o (by decide +kernel) ?_
        refine xr_iload_n (n := 1) (i := 1) rfl (List.mem_of_getElem? (i := 1) rfl) (by decide +kernel) ?_
        refine xr_callV (av := [(sh_r B), (sh_i thief)]) rfl rfl rfl mo_State_cashIn ml_Sto_165 im_State_cashIn se_State_cashIn rfl (Nat.le_of_ble_eq_true rfl) (by decide +kernel) (sh_mono k ?_)
        rintro rv m3 ⟨r3, rfl, k⟩
        show sh_X g (d + 1) m_Sto_tryDrawn _ _ [(sh_i r3)] _ _
        refine xr_popI (by decide +kernel) ?_
        refine xr_goto (off := 12) (tgt := 76) (by decide) (by decide +kernel) ?_
        refine xr_iconst (n := 0) (by decide +kernel) ?_
        exact xr_iret rfl (by decide +kernel) k
  · have k := k.2 c1
    refine xr_aload_n (n := 0) (i := 0) rfl (List.mem_of_getElem? (i := 0) rfl) (by decide +kernel) ?_
    refine xr_getR (o := 6) rfl fl_Sto_32 rfl (by decide +kernel) ?_
    show sh_X g (d + 1) m_Sto_tryDrawn _ _ ((sh_r 7) :: _) _ _
    refine xr_iload_n (n := 1) (i := 1) rfl (List.mem_of_getElem? (i := 1) rfl) (by decide +kernel) ?_
    refine xr_iload_n (n := 2) (i := 2) rfl (List.mem_of_getElem? (i := 2) rfl) (by decide +kernel) ?_
    refine xr_callV (av := [(sh_i thief), (sh_i day)]) rfl rfl rfl mo_State_canTake ml_Sto_150 im_State_canTake se_State_canTake rfl (Nat.le_of_ble_eq_true rfl) (by decide +kernel) (sh_mono k ?_)
    rintro rv m4 ⟨r4, rfl, k⟩
    show sh_X g (d + 1) m_Sto_tryDrawn _ _ [(sh_i r4)] _ _
    refine xr_if_eq (a' := (i3 r4)) rfl (off := 19) (tgt := 33) (by decide) (by decide +kernel) ⟨fun c4 => ?_, fun c4 => ?_⟩
    · have k := k.1 c4
      refine xr_iconst (n := 0) (by decide +kernel) ?_
      exact xr_iret rfl (by decide +kernel) k
    · have k := k.2 c4
      refine xr_aload_n (n := 0) (i := 0) rfl (List.mem_of_getElem? (i := 0) rfl) (by decide +kernel) ?_
      refine xr_getR (o := 6) rfl fl_Sto_32 rfl (by decide +kernel) ?_
      show sh_X g (d + 1) m_Sto_tryDrawn _ _ ((sh_r 7) :: _) _ _
      refine xr_aload_n (n := 0) (i := 0) rfl (List.mem_of_getElem? (i := 0) rfl) (by decide +kernel) ?_
      obtain ⟨o, k⟩ := k
      refine xr_getD (b := B) rfl fl_Sto_72 rfl o (by decide +kernel) ?_
      refine xr_iload_n (n := 1) (i := 1) rfl (List.mem_of_getElem? (i := 1) rfl) (by decide +kernel) ?_
      refine xr_iload_n (n := 2) (i := 2) rfl (List.mem_of_getElem? (i := 2) rfl) (by decide +kernel) ?_
      refine xr_callV (av := [(sh_r B), (sh_i thief), (sh_i day)]) rfl rfl rfl mo_State_take ml_Sto_158 im_State_take se_State_take rfl (Nat.le_of_ble_eq_true rfl) (by decide +kernel) (sh_mono k ?_)
      rintro rv m5 ⟨r5, rfl, k⟩
      show sh_X g (d + 1) m_Sto_tryDrawn _ _ [(sh_i r5)] _ _
      refine xr_goto (off := 4) (tgt := 34) (by decide) (by decide +kernel) ?_
      exact xr_iret rfl (by decide +kernel) k
