theorem v_Mod_caughtOnes {g : sh_G} {d : Nat}   {mem : sh_Mem} {Q : Option sh_V → sh_Mem → Prop}  (k : sh_X g (d + 1) m_Mod_caughtOnes 4 [(0, (sh_r 96)), (1, (sh_i 0)), (2, (sh_i 0))] [] mem (sh_K m_Mod_caughtOnes Q)) : sh_Cal g (d + 1) m_Mod_caughtOnes [(sh_r 96)] mem Q := by
  refine sh_met (by decide +kernel) (Nat.le_of_ble_eq_true rfl) (lo := [(0, (sh_r 96))]) rfl ?_
  refine xr_iconst (n := 0) (by decide +kernel) ?_
  refine xr_istore_n (n := 1) (i := 1) rfl (by decide) rfl (by decide +kernel) ?_
  refine xr_iconst (n := 0) (by decide +kernel) ?_
  refine xr_istore_n (n := 2) (i := 2) rfl (by decide) rfl (by decide +kernel) ?_
  refine xr_sub (lo' := [(0, (sh_r 96)), (1, (sh_i 0)), (2, (sh_i 0))]) [2, 1, 0] rfl ?_
  exact k
theorem v_Mod_caughtOnes_4 {g : sh_G} {d : Nat}   {mem : sh_Mem} {Q : Option sh_V → sh_Mem → Prop}  {x1 : Int} {x2 : Nat} (k : (((i3 (mem 98 1)) ≤ (i3 (x2 : Int)) → Q (some (sh_i x1)) mem) ∧ (¬ (i3 (mem 98 1)) ≤ (i3 (x2 : Int)) → (sh_Cal g d m_Mod_isFree [(sh_r 96), (sh_i (x2 : Int))] mem fun rv m1 => ∃ r1 : Int, rv = some (sh_i r1) ∧ (((i3 r1) = 0 → sh_X g (d + 1) m_Mod_caughtOnes 4 [(0, (sh_r 96)), (1, (sh_i (i_or x1 (i_shl 1 (x2 : Int))))), (2, (sh_i (((x2 + 1) : Nat) : Int)))] [] m1 (sh_K m_Mod_caughtOnes Q)) ∧ (¬ (i3 r1) = 0 → sh_X g (d + 1) m_Mod_caughtOnes 4 [(0, (sh_r 96)), (1, (sh_i (i_or x1 0))), (2, (sh_i (((x2 + 1) : Nat) : Int)))] [] m1 (sh_K m_Mod_caughtOnes Q))))))) : sh_X g (d + 1) m_Mod_caughtOnes 4 [(0, (sh_r 96)), (1, (sh_i x1)), (2, (sh_i (x2 : Int)))] [] mem (sh_K m_Mod_caughtOnes Q) := by
  refine xr_iload_n (n := 2) (i := 2) rfl (List.mem_of_getElem? (i := 2) rfl) (by decide +kernel) ?_
  refine xr_aload_n (n := 0) (i := 0) rfl (List.mem_of_getElem? (i := 0) rfl) (by decide +kernel) ?_
  refine xr_getR (o := 2) rfl fl_Mod_13 rfl (by decide +kernel) ?_
  show sh_X g (d + 1) m_Mod_caughtOnes _ _ ((sh_r 98) :: _) _ _
  refine xr_iconst (n := 1) (by decide +kernel) ?_
  refine xr_ialdN (j := 1) rfl rfl (by decide) (by decide +kernel) ?_
  refine xr_icmp_ge (a' := (i3 (x2 : Int))) (b' := (i3 (mem 98 1))) rfl rfl (off := 27) (tgt := 38) (by decide) (by decide +kernel) ⟨fun c1 => ?_, fun c1 => ?_⟩
  · have k := k.1 c1
    refine xr_iload_n (n := 1) (i := 1) rfl (List.mem_of_getElem? (i := 1) rfl) (by decide +kernel) ?_
    exact xr_iret rfl (by decide +kernel) k
  · have k := k.2 c1
    refine xr_iload_n (n := 1) (i := 1) rfl (List.mem_of_getElem? (i := 1) rfl) (by decide +kernel) ?_
    refine xr_aload_n (n := 0) (i := 0) rfl (List.mem_of_getElem? (i := 0) rfl) (by decide +kernel) ?_
    refine xr_iload_n (n := 2) (i := 2) rfl (List.mem_of_getElem? (i := 2) rfl) (by decide +kernel) ?_
    refine xr_callV (av := [(sh_i (x2 : Int))]) rfl rfl rfl mo_Mod_isFree ml_Mod_343 im_Mod_isFree se_Mod_isFree rfl (Nat.le_of_ble_eq_true rfl) (by decide +kernel) (sh_mono k ?_)
    rintro rv m1 ⟨r1, rfl, k⟩
    show sh_X g (d + 1) m_Mod_caughtOnes _ _ [(sh_i r1), (sh_i x1)] _ _
    refine xr_if_eq (a' := (i3 r1)) rfl (off := 7) (tgt := 27) (by decide) (by decide +kernel) ⟨fun c2 => ?_, fun c2 => ?_⟩
    · have k := k.1 c2
      refine xr_iconst (n := 1) (by decide +kernel) ?_
      refine xr_iload_n (n := 2) (i := 2) rfl (List.mem_of_getElem? (i := 2) rfl) (by decide +kernel) ?_
      refine xr_ishl (by decide +kernel) ?_
      refine xr_ior (by decide +kernel) ?_
      refine xr_istore_n (n := 1) (i := 1) rfl (by decide) rfl (by decide +kernel) ?_
      refine xr_iinc (n := 1) (lo' := [(2, (sh_i (((x2 + 1) : Nat) : Int))), (1, (sh_i (i_or x1 (i_shl 1 (x2 : Int))))), (0, (sh_r 96))]) (List.mem_of_getElem? (i := 2) rfl) (by decide) rfl (by decide +kernel) ?_
      refine xr_goto (off := (-31)) (tgt := 4) (by decide) (by decide +kernel) ?_
      refine xr_sub (lo' := [(0, (sh_r 96)), (1, (sh_i (i_or x1 (i_shl 1 (x2 : Int))))), (2, (sh_i (((x2 + 1) : Nat) : Int)))]) [2, 1, 0] rfl ?_
      exact k
    · have k := k.2 c2
      refine xr_iconst (n := 0) (by decide +kernel) ?_
      refine xr_goto (off := 6) (tgt := 30) (by decide) (by decide +kernel) ?_
      refine xr_ior (by decide +kernel) ?_
      refine xr_istore_n (n := 1) (i := 1) rfl (by decide) rfl (by decide +kernel) ?_
      refine xr_iinc (n := 1) (lo' := [(2, (sh_i (((x2 + 1) : Nat) : Int))), (1, (sh_i (i_or x1 0))), (0, (sh_r 96))]) (List.mem_of_getElem? (i := 2) rfl) (by decide) rfl (by decide +kernel) ?_
      refine xr_goto (off := (-31)) (tgt := 4) (by decide) (by decide +kernel) ?_
      refine xr_sub (lo' := [(0, (sh_r 96)), (1, (sh_i (i_or x1 0))), (2, (sh_i (((x2 + 1) : Nat) : Int)))]) [2, 1, 0] rfl ?_
      exact k

theorem v_Mod_sumOf {g : sh_G} {d : Nat} {fr : Nat} {many : Nat}  {mem : sh_Mem} {Q : Option sh_V → sh_Mem → Prop}  (k : sh_X g d m_Mod_sumOf 5 [(0, (sh_r 96)), (1, (sh_i (fr : Int))), (2, (sh_i (many : Int))), (3, (sh_i 0)), (4, (sh_i (fr : Int)))] [] mem (sh_K m_Mod_sumOf Q)) : sh_Cal g d m_Mod_sumOf [(sh_r 96), (sh_i (fr : Int)), (sh_i (many : Int))] mem Q := by
  refine sh_met (by decide +kernel) (Nat.le_of_ble_eq_true rfl) (lo := [(0, (sh_r 96)), (1, (sh_i (fr : Int))), (2, (sh_i (many : Int)))]) rfl ?_
  refine xr_iconst (n := 0) (by decide +kernel) ?_
  refine xr_istore_n (n := 3) (i := 3) rfl (by decide) rfl (by decide +kernel) ?_
  refine xr_iload_n (n := 1) (i := 1) rfl (List.mem_of_getElem? (i := 2) rfl) (by decide +kernel) ?_
  refine xr_istore (i := 4) (by decide) rfl (by decide +kernel) ?_
  refine xr_sub (lo' := [(0, (sh_r 96)), (1, (sh_i (fr : Int))), (2, (sh_i (many : Int))), (3, (sh_i 0)), (4, (sh_i (fr : Int)))]) [2, 3, 4, 1, 0] rfl ?_
  exact k
theorem v_Mod_sumOf_5 {g : sh_G} {d : Nat} {fr : Nat} {many : Nat}  {mem : sh_Mem} {Q : Option sh_V → sh_Mem → Prop}  {x3 : Int} {x4 : Nat} (k : (((i3 (((fr + many) : Nat) : Int)) ≤ (i3 (x4 : Int)) → Q (some (sh_i x3)) mem) ∧ (¬ (i3 (((fr + many) : Nat) : Int)) ≤ (i3 (x4 : Int)) → (x4 < 45 ∧ sh_X g d m_Mod_sumOf 5 [(0, (sh_r 96)), (1, (sh_i (fr : Int))), (2, (sh_i (many : Int))), (3, (sh_i (x3 + (mem 129 x4)))), (4, (sh_i (((x4 + 1) : Nat) : Int)))] [] mem (sh_K m_Mod_sumOf Q))))) : sh_X g d m_Mod_sumOf 5 [(0, (sh_r 96)), (1, (sh_i (fr : Int))), (2, (sh_i (many : Int))), (3, (sh_i x3)), (4, (sh_i (x4 : Int)))] [] mem (sh_K m_Mod_sumOf Q) := by
  refine xr_iload (i := 4) (List.mem_of_getElem? (i := 4) rfl) (by decide +kernel) ?_
  refine xr_iload_n (n := 1) (i := 1) rfl (List.mem_of_getElem? (i := 1) rfl) (by decide +kernel) ?_
  refine xr_iload_n (n := 2) (i := 2) rfl (List.mem_of_getElem? (i := 2) rfl) (by decide +kernel) ?_
  refine xr_iadd (by decide +kernel) ?_
  show sh_X g d m_Mod_sumOf _ _ ((sh_i (((fr + many) : Nat) : Int)) :: _) _ _
  refine xr_icmp_ge (a' := (i3 (x4 : Int))) (b' := (i3 (((fr + many) : Nat) : Int))) rfl rfl (off := 19) (tgt := 29) (by decide) (by decide +kernel) ⟨fun c1 => ?_, fun c1 => ?_⟩
  · have k := k.1 c1
    refine xr_iload_n (n := 3) (i := 3) rfl (List.mem_of_getElem? (i := 3) rfl) (by decide +kernel) ?_
    exact xr_iret rfl (by decide +kernel) k
  · have k := k.2 c1
    refine xr_iload_n (n := 3) (i := 3) rfl (List.mem_of_getElem? (i := 3) rfl) (by decide +kernel) ?_
    refine xr_aload_n (n := 0) (i := 0) rfl (List.mem_of_getElem? (i := 0) rfl) (by decide +kernel) ?_
    refine xr_getR (o := 33) rfl fl_Mod_108 rfl (by decide +kernel) ?_
    show sh_X g d m_Mod_sumOf _ _ ((sh_r 129) :: _) _ _
    refine xr_iload (i := 4) (List.mem_of_getElem? (i := 4) rfl) (by decide +kernel) ?_
    obtain ⟨o, k⟩ := k
    refine xr_ialdN (j := x4) rfl rfl o (by decide +kernel) ?_
    refine xr_iadd (by decide +kernel) ?_
    show sh_X g d m_Mod_sumOf _ _ ((sh_i (x3 + (mem 129 x4))) :: _) _ _
    refine xr_istore_n (n := 3) (i := 3) rfl (by decide) rfl (by decide +kernel) ?_
    refine xr_iinc (n := 1) (lo' := [(4, (sh_i (((x4 + 1) : Nat) : Int))), (3, (sh_i (x3 + (mem 129 x4)))), (0, (sh_r 96)), (1, (sh_i (fr : Int))), (2, (sh_i (many : Int)))]) (List.mem_of_getElem? (i := 4) rfl) (by decide) rfl (by decide +kernel) ?_
    refine xr_goto (off := (-21)) (tgt := 5) (by decide) (by decide +kernel) ?_
    refine xr_sub (lo' := [(0, (sh_r 96)), (1, (sh_i (fr : Int))), (2, (sh_i (many : Int))), (3, (sh_i (x3 + (mem 129 x4)))), (4, (sh_i (((x4 + 1) : Nat) : Int)))]) [2, 3, 4, 1, 0] rfl ?_
    exact k

theorem v_Mod_day {g : sh_G} {d : Nat} {day : Int} {what : Int}  {mem : sh_Mem} {Q : Option sh_V → sh_Mem → Prop}  (k : (∀ m1 : sh_Mem, m1 = ms mem 96 (ru (mem 96) 0 0) → (sh_Cal g d m_Mod_isDay [(sh_r 96), (sh_i day)] m1 fun rv m2 => ∃ r1 : Int, rv = some (sh_i r1) ∧ (((i3 r1) = 0 → Q (some (sh_i (-1))) m2) ∧ (¬ (i3 r1) = 0 → (sh_Cal g d m_Mod_within [(sh_i what), (sh_i 0), (sh_i 4)] m2 fun rv m3 => ∃ r2 : Int, rv = some (sh_i r2) ∧ ((¬ (i3 r2) = 0 → ((2 ≤ (i3 what) → ((¬ (i3 what) = 2 → ((¬ (i3 what) = 3 → ((0 ≤ day ∧ day < 16) ∧ Q (some (sh_i (m3 103 (day).toNat))) m3)) ∧ ((i3 what) = 3 → ((0 ≤ (9 + day) ∧ (9 + day) < 45) ∧ Q (some (sh_i (m3 129 ((9 + day)).toNat))) m3)))) ∧ ((i3 what) = 2 → ((0 ≤ (1 + day) ∧ (1 + day) < 45) ∧ Q (some (sh_i (m3 129 ((1 + day)).toNat))) m3)))) ∧ (¬ 2 ≤ (i3 what) → ((¬ (i3 what) = 0 → ((0 ≤ day ∧ day < 16) ∧ Q (some (sh_i (m3 102 (day).toNat))) m3)) ∧ ((i3 what) = 0 → ((0 ≤ day ∧ day < 16) ∧ Q (some (sh_i (m3 101 (day).toNat))) m3)))))) ∧ ((i3 r2) = 0 → Q (some (sh_i (-1))) m3)))))))) : sh_Cal g (d + 1) m_Mod_day [(sh_r 96), (sh_i day), (sh_i what)] mem Q := by
  refine sh_met (by decide +kernel) (Nat.le_of_ble_eq_true rfl) (lo := [(0, (sh_r 96)), (1, (sh_i day)), (2, (sh_i what))]) rfl ?_
  refine xr_aload_n (n := 0) (i := 0) rfl (List.mem_of_getElem? (i := 0) rfl) (by decide +kernel) ?_
  refine xr_iconst (n := 0) (by decide +kernel) ?_
  refine xr_putI rfl pl_Mod_141 rfl (by decide +kernel) ?_
  have k := k _ rfl
  generalize hg_m1 : ms mem 96 (ru (mem 96) 0 0) = m1 at k ⊢
  refine xr_aload_n (n := 0) (i := 0) rfl (List.mem_of_getElem? (i := 0) rfl) (by decide +kernel) ?_
  refine xr_iload_n (n := 1) (i := 1) rfl (List.mem_of_getElem? (i := 1) rfl) (by decide +kernel) ?_
  refine xr_callV (av := [(sh_i day)]) rfl rfl rfl mo_Mod_isDay ml_Mod_383 im_Mod_isDay se_Mod_isDay rfl (Nat.le_of_ble_eq_true rfl) (by decide +kernel) (sh_mono k ?_)
  rintro rv m2 ⟨r1, rfl, k⟩
  show sh_X g (d + 1) m_Mod_day _ _ [(sh_i r1)] _ _
  refine xr_if_eq (a' := (i3 r1)) rfl (off := 12) (tgt := 22) (by decide) (by decide +kernel) ⟨fun c1 => ?_, fun c1 => ?_⟩
  · have k := k.1 c1
    refine xr_iconst (n := (-1)) (by decide +kernel) ?_
    exact xr_iret rfl (by decide +kernel) k
  · have k := k.2 c1
    refine xr_iload_n (n := 2) (i := 2) rfl (List.mem_of_getElem? (i := 2) rfl) (by decide +kernel) ?_
    refine xr_iconst (n := 0) (by decide +kernel) ?_
    refine xr_iconst (n := 4) (by decide +kernel) ?_
    refine xr_callS (av := [(sh_i what), (sh_i 0), (sh_i 4)]) mo_Mod_within ml_Mod_264 sa_Mod_within rfl (Nat.le_of_ble_eq_true rfl) (by decide +kernel) (sh_mono k ?_)
    rintro rv m3 ⟨r2, rfl, k⟩
    show sh_X g (d + 1) m_Mod_day _ _ [(sh_i r2)] _ _
    refine xr_if_ne (a' := (i3 r2)) rfl (off := 5) (tgt := 24) (by decide) (by decide +kernel) ⟨fun c2 => ?_, fun c2 => ?_⟩
    · have k := k.1 c2
      refine xr_iload_n (n := 2) (i := 2) rfl (List.mem_of_getElem? (i := 2) rfl) (by decide +kernel) ?_
      refine xr_iconst (n := 2) (by decide +kernel) ?_
      refine xr_icmp_ge (a' := (i3 what)) (b' := 2) rfl (by decide) (off := 23) (tgt := 49) (by decide) (by decide +kernel) ⟨fun c3 => ?_, fun c3 => ?_⟩
      · have k := k.1 c3
        refine xr_iload_n (n := 2) (i := 2) rfl (List.mem_of_getElem? (i := 2) rfl) (by decide +kernel) ?_
        refine xr_iconst (n := 2) (by decide +kernel) ?_
        refine xr_icmp_ne (a' := (i3 what)) (b' := 2) rfl (by decide) (off := 14) (tgt := 65) (by decide) (by decide +kernel) ⟨fun c4 => ?_, fun c4 => ?_⟩
        · have k := k.1 c4
          refine xr_iload_n (n := 2) (i := 2) rfl (List.mem_of_getElem? (i := 2) rfl) (by decide +kernel) ?_
          refine xr_iconst (n := 3) (by decide +kernel) ?_
          refine xr_icmp_ne (a' := (i3 what)) (b' := 3) rfl (by decide) (off := 15) (tgt := 82) (by decide) (by decide +kernel) ⟨fun c5 => ?_, fun c5 => ?_⟩
          · have k := k.1 c5
            refine xr_aload_n (n := 0) (i := 0) rfl (List.mem_of_getElem? (i := 0) rfl) (by decide +kernel) ?_
            refine xr_getR (o := 7) rfl fl_Mod_29 rfl (by decide +kernel) ?_
            show sh_X g (d + 1) m_Mod_day _ _ ((sh_r 103) :: _) _ _
            refine xr_iload_n (n := 1) (i := 1) rfl (List.mem_of_getElem? (i := 1) rfl) (by decide +kernel) ?_
            obtain ⟨o, k⟩ := k
            refine xr_iald rfl o.1 o.2 (by decide +kernel) ?_
            exact xr_iret rfl (by decide +kernel) k
          · have k := k.2 c5
            refine xr_aload_n (n := 0) (i := 0) rfl (List.mem_of_getElem? (i := 0) rfl) (by decide +kernel) ?_
            refine xr_getR (o := 33) rfl fl_Mod_108 rfl (by decide +kernel) ?_
            show sh_X g (d + 1) m_Mod_day _ _ ((sh_r 129) :: _) _ _
            refine xr_bipush (n := 9) (v := 9) (by decide) (by decide +kernel) ?_
            refine xr_iload_n (n := 1) (i := 1) rfl (List.mem_of_getElem? (i := 1) rfl) (by decide +kernel) ?_
            refine xr_iadd (by decide +kernel) ?_
            show sh_X g (d + 1) m_Mod_day _ _ ((sh_i (9 + day)) :: _) _ _
            obtain ⟨o, k⟩ := k
            refine xr_iald rfl o.1 o.2 (by decide +kernel) ?_
            refine xr_goto (off := 9) (tgt := 88) (by decide) (by decide +kernel) ?_
            exact xr_iret rfl (by decide +kernel) k
        · have k := k.2 c4
          refine xr_aload_n (n := 0) (i := 0) rfl (List.mem_of_getElem? (i := 0) rfl) (by decide +kernel) ?_
          refine xr_getR (o := 33) rfl fl_Mod_108 rfl (by decide +kernel) ?_
          show sh_X g (d + 1) m_Mod_day _ _ ((sh_r 129) :: _) _ _
          refine xr_iconst (n := 1) (by decide +kernel) ?_
          refine xr_iload_n (n := 1) (i := 1) rfl (List.mem_of_getElem? (i := 1) rfl) (by decide +kernel) ?_
          refine xr_iadd (by decide +kernel) ?_
          show sh_X g (d + 1) m_Mod_day _ _ ((sh_i (1 + day)) :: _) _ _
          obtain ⟨o, k⟩ := k
          refine xr_iald rfl o.1 o.2 (by decide +kernel) ?_
          refine xr_goto (off := 26) (tgt := 88) (by decide) (by decide +kernel) ?_
          exact xr_iret rfl (by decide +kernel) k
      · have k := k.2 c3
        refine xr_iload_n (n := 2) (i := 2) rfl (List.mem_of_getElem? (i := 2) rfl) (by decide +kernel) ?_
        refine xr_if_ne (a' := (i3 what)) rfl (off := 12) (tgt := 42) (by decide) (by decide +kernel) ⟨fun c6 => ?_, fun c6 => ?_⟩
        · have k := k.1 c6
          refine xr_aload_n (n := 0) (i := 0) rfl (List.mem_of_getElem? (i := 0) rfl) (by decide +kernel) ?_
          refine xr_getR (o := 6) rfl fl_Mod_26 rfl (by decide +kernel) ?_
          show sh_X g (d + 1) m_Mod_day _ _ ((sh_r 102) :: _) _ _
          refine xr_iload_n (n := 1) (i := 1) rfl (List.mem_of_getElem? (i := 1) rfl) (by decide +kernel) ?_
          obtain ⟨o, k⟩ := k
          refine xr_iald rfl o.1 o.2 (by decide +kernel) ?_
          exact xr_iret rfl (by decide +kernel) k
        · have k := k.2 c6
          refine xr_aload_n (n := 0) (i := 0) rfl (List.mem_of_getElem? (i := 0) rfl) (by decide +kernel) ?_
          refine xr_getR (o := 5) rfl fl_Mod_23 rfl (by decide +kernel) ?_
          show sh_X g (d + 1) m_Mod_day _ _ ((sh_r 101) :: _) _ _
          refine xr_iload_n (n := 1) (i := 1) rfl (List.mem_of_getElem? (i := 1) rfl) (by decide +kernel) ?_
          obtain ⟨o, k⟩ := k
          refine xr_iald rfl o.1 o.2 (by decide +kernel) ?_
          refine xr_goto (off := 9) (tgt := 48) (by decide) (by decide +kernel) ?_
          exact xr_iret rfl (by decide +kernel) k
    · have k := k.2 c2
      refine xr_iconst (n := (-1)) (by decide +kernel) ?_
      exact xr_iret rfl (by decide +kernel) k

theorem v_Mod_thief {g : sh_G} {d : Nat} {thief : Int} {what : Int}  {mem : sh_Mem} {Q : Option sh_V → sh_Mem → Prop}  (k : (∀ m1 : sh_Mem, m1 = ms mem 96 (ru (mem 96) 0 0) → (sh_Cal g d m_Mod_isThief [(sh_r 96), (sh_i thief)] m1 fun rv m2 => ∃ r1 : Int, rv = some (sh_i r1) ∧ (((i3 r1) = 0 → Q (some (sh_i (-2))) m2) ∧ (¬ (i3 r1) = 0 → (sh_Cal g d m_Mod_within [(sh_i what), (sh_i 0), (sh_i 8)] m2 fun rv m3 => ∃ r2 : Int, rv = some (sh_i r2) ∧ ((¬ (i3 r2) = 0 → ((¬ (i3 what) = 0 → ((¬ (i3 what) = 1 → ((0 ≤ ((17 + (4 * (what - 2))) + thief) ∧ ((17 + (4 * (what - 2))) + thief) < 45) ∧ Q (some (sh_i (m3 129 (((17 + (4 * (what - 2))) + thief)).toNat))) m3)) ∧ ((i3 what) = 1 → ((0 ≤ thief ∧ thief < 8) ∧ Q (some (sh_i (m3 105 (thief).toNat))) m3)))) ∧ ((i3 what) = 0 → ((0 ≤ thief ∧ thief < 8) ∧ Q (some (sh_i (m3 104 (thief).toNat))) m3)))) ∧ ((i3 r2) = 0 → Q (some (sh_i (-2))) m3)))))))) : sh_Cal g (d + 1) m_Mod_thief [(sh_r 96), (sh_i thief), (sh_i what)] mem Q := by
  refine sh_met (by decide +kernel) (Nat.le_of_ble_eq_true rfl) (lo := [(0, (sh_r 96)), (1, (sh_i thief)), (2, (sh_i what))]) rfl ?_
  refine xr_aload_n (n := 0) (i := 0) rfl (List.mem_of_getElem? (i := 0) rfl) (by decide +kernel) ?_
  refine xr_iconst (n := 0) (by decide +kernel) ?_
  refine xr_putI rfl pl_Mod_141 rfl (by decide +kernel) ?_
  have k := k _ rfl
  generalize hg_m1 : ms mem 96 (ru (mem 96) 0 0) = m1 at k ⊢
  refine xr_aload_n (n := 0) (i := 0) rfl (List.mem_of_getElem? (i := 0) rfl) (by decide +kernel) ?_
  refine xr_iload_n (n := 1) (i := 1) rfl (List.mem_of_getElem? (i := 1) rfl) (by decide +kernel) ?_
  refine xr_callV (av := [(sh_i thief)]) rfl rfl rfl mo_Mod_isThief ml_Mod_386 im_Mod_isThief se_Mod_isThief rfl (Nat.le_of_ble_eq_true rfl) (by decide +kernel) (sh_mono k ?_)
  rintro rv m2 ⟨r1, rfl, k⟩
  show sh_X g (d + 1) m_Mod_thief _ _ [(sh_i r1)] _ _
  refine xr_if_eq (a' := (i3 r1)) rfl (off := 13) (tgt := 23) (by decide) (by decide +kernel) ⟨fun c1 => ?_, fun c1 => ?_⟩
  · have k := k.1 c1
    refine xr_bipush (n := (-2)) (v := (-2)) (by decide) (by decide +kernel) ?_
    exact xr_iret rfl (by decide +kernel) k
  · have k := k.2 c1
    refine xr_iload_n (n := 2) (i := 2) rfl (List.mem_of_getElem? (i := 2) rfl) (by decide +kernel) ?_
    refine xr_iconst (n := 0) (by decide +kernel) ?_
    refine xr_bipush (n := 8) (v := 8) (by decide) (by decide +kernel) ?_
    refine xr_callS (av := [(sh_i what), (sh_i 0), (sh_i 8)]) mo_Mod_within ml_Mod_264 sa_Mod_within rfl (Nat.le_of_ble_eq_true rfl) (by decide +kernel) (sh_mono k ?_)
    rintro rv m3 ⟨r2, rfl, k⟩
    show sh_X g (d + 1) m_Mod_thief _ _ [(sh_i r2)] _ _
    refine xr_if_ne (a' := (i3 r2)) rfl (off := 6) (tgt := 26) (by decide) (by decide +kernel) ⟨fun c2 => ?_, fun c2 => ?_⟩
    · have k := k.1 c2
      refine xr_iload_n (n := 2) (i := 2) rfl (List.mem_of_getElem? (i := 2) rfl) (by decide +kernel) ?_
      refine xr_if_ne (a' := (i3 what)) rfl (off := 12) (tgt := 39) (by decide) (by decide +kernel) ⟨fun c3 => ?_, fun c3 => ?_⟩
      · have k := k.1 c3
        refine xr_iload_n (n := 2) (i := 2) rfl (List.mem_of_getElem? (i := 2) rfl) (by decide +kernel) ?_
        refine xr_iconst (n := 1) (by decide +kernel) ?_
        refine xr_icmp_ne (a' := (i3 what)) (b' := 1) rfl (by decide) (off := 12) (tgt := 53) (by decide) (by decide +kernel) ⟨fun c4 => ?_, fun c4 => ?_⟩
        · have k := k.1 c4
          refine xr_aload_n (n := 0) (i := 0) rfl (List.mem_of_getElem? (i := 0) rfl) (by decide +kernel) ?_
          refine xr_getR (o := 33) rfl fl_Mod_108 rfl (by decide +kernel) ?_
          show sh_X g (d + 1) m_Mod_thief _ _ ((sh_r 129) :: _) _ _
          refine xr_bipush (n := 17) (v := 17) (by decide) (by decide +kernel) ?_
          refine xr_iconst (n := 4) (by decide +kernel) ?_
          refine xr_iload_n (n := 2) (i := 2) rfl (List.mem_of_getElem? (i := 2) rfl) (by decide +kernel) ?_
          refine xr_iconst (n := 2) (by decide +kernel) ?_
          refine xr_isub (by decide +kernel) ?_
          show sh_X g (d + 1) m_Mod_thief _ _ ((sh_i (what - 2)) :: _) _ _
          refine xr_imul (by decide +kernel) ?_
          show sh_X g (d + 1) m_Mod_thief _ _ ((sh_i (4 * (what - 2))) :: _) _ _
          refine xr_iadd (by decide +kernel) ?_
          show sh_X g (d + 1) m_Mod_thief _ _ ((sh_i (17 + (4 * (what - 2)))) :: _) _ _
          refine xr_iload_n (n := 1) (i := 1) rfl (List.mem_of_getElem? (i := 1) rfl) (by decide +kernel) ?_
          refine xr_iadd (by decide +kernel) ?_
          show sh_X g (d + 1) m_Mod_thief _ _ ((sh_i ((17 + (4 * (what - 2))) + thief)) :: _) _ _
          obtain ⟨o, k⟩ := k
          refine xr_iald rfl o.1 o.2 (by decide +kernel) ?_
          exact xr_iret rfl (by decide +kernel) k
        · have k := k.2 c4
          refine xr_aload_n (n := 0) (i := 0) rfl (List.mem_of_getElem? (i := 0) rfl) (by decide +kernel) ?_
          refine xr_getR (o := 9) rfl fl_Mod_35 rfl (by decide +kernel) ?_
          show sh_X g (d + 1) m_Mod_thief _ _ ((sh_r 105) :: _) _ _
          refine xr_iload_n (n := 1) (i := 1) rfl (List.mem_of_getElem? (i := 1) rfl) (by decide +kernel) ?_
          obtain ⟨o, k⟩ := k
          refine xr_iald rfl o.1 o.2 (by decide +kernel) ?_
          refine xr_goto (off := 18) (tgt := 68) (by decide) (by decide +kernel) ?_
          exact xr_iret rfl (by decide +kernel) k
      · have k := k.2 c3
        refine xr_aload_n (n := 0) (i := 0) rfl (List.mem_of_getElem? (i := 0) rfl) (by decide +kernel) ?_
        refine xr_getR (o := 8) rfl fl_Mod_32 rfl (by decide +kernel) ?_
        show sh_X g (d + 1) m_Mod_thief _ _ ((sh_r 104) :: _) _ _
        refine xr_iload_n (n := 1) (i := 1) rfl (List.mem_of_getElem? (i := 1) rfl) (by decide +kernel) ?_
        obtain ⟨o, k⟩ := k
        refine xr_iald rfl o.1 o.2 (by decide +kernel) ?_
        refine xr_goto (off := 32) (tgt := 68) (by decide) (by decide +kernel) ?_
        exact xr_iret rfl (by decide +kernel) k
    · have k := k.2 c2
      refine xr_bipush (n := (-2)) (v := (-2)) (by decide) (by decide +kernel) ?_
      exact xr_iret rfl (by decide +kernel) k

theorem v_Mod_keepsIt {g : sh_G} {d : Nat}   {mem : sh_Mem} {Q : Option sh_V → sh_Mem → Prop}  (k : ((¬ (i3 (mem 96 51)) = 16 → sh_X g (d + 1) m_Mod_keepsIt 49 [(0, (sh_r 96))] [] mem (sh_K m_Mod_keepsIt Q)) ∧ ((i3 (mem 96 51)) = 16 → sh_X g (d + 1) m_Mod_keepsIt 11 [(0, (sh_r 96)), (1, (sh_i 0))] [] mem (sh_K m_Mod_keepsIt Q)))) : sh_Cal g (d + 1) m_Mod_keepsIt [(sh_r 96)] mem Q := by
  refine sh_met (by decide +kernel) (Nat.le_of_ble_eq_true rfl) (lo := [(0, (sh_r 96))]) rfl ?_
  refine xr_aload_n (n := 0) (i := 0) rfl (List.mem_of_getElem? (i := 0) rfl) (by decide +kernel) ?_
  refine xr_getI rfl fl_Mod_333 (by decide) (by decide +kernel) ?_
  refine xr_bipush (n := 16) (v := 16) (by decide) (by decide +kernel) ?_
  refine xr_icmp_ne (a' := (i3 (mem 96 51))) (b' := 16) rfl (by decide) (off := 43) (tgt := 49) (by decide) (by decide +kernel) ⟨fun c1 => ?_, fun c1 => ?_⟩
  · have k := k.1 c1
    refine xr_sub (lo' := [(0, (sh_r 96))]) [0] rfl ?_
    exact k
  · have k := k.2 c1
    refine xr_iconst (n := 0) (by decide +kernel) ?_
    refine xr_istore_n (n := 1) (i := 1) rfl (by decide) rfl (by decide +kernel) ?_
    refine xr_sub (lo' := [(0, (sh_r 96)), (1, (sh_i 0))]) [1, 0] rfl ?_
    exact k
theorem v_Mod_keepsIt_49 {g : sh_G} {d : Nat}   {mem : sh_Mem} {Q : Option sh_V → sh_Mem → Prop}   (k : (sh_Cal g d m_Mod_copies [(sh_r 129), (sh_i 0), (sh_r 134), (sh_i (45 * (mem 96 51)))] mem fun rv m1 => rv = none ∧ (∀ m2 : sh_Mem, m2 = ms m1 96 (ru (m1 96) 51 ((m1 96 51) + 1)) → Q none m2))) : sh_X g (d + 1) m_Mod_keepsIt 49 [(0, (sh_r 96))] [] mem (sh_K m_Mod_keepsIt Q) := by
  refine xr_aload_n (n := 0) (i := 0) rfl (List.mem_of_getElem? (i := 0) rfl) (by decide +kernel) ?_
  refine xr_getR (o := 33) rfl fl_Mod_108 rfl (by decide +kernel) ?_
  show sh_X g (d + 1) m_Mod_keepsIt _ _ ((sh_r 129) :: _) _ _
  refine xr_iconst (n := 0) (by decide +kernel) ?_
  refine xr_aload_n (n := 0) (i := 0) rfl (List.mem_of_getElem? (i := 0) rfl) (by decide +kernel) ?_
  refine xr_getR (o := 38) rfl fl_Mod_123 rfl (by decide +kernel) ?_
  show sh_X g (d + 1) m_Mod_keepsIt _ _ ((sh_r 134) :: _) _ _
  refine xr_bipush (n := 45) (v := 45) (by decide) (by decide +kernel) ?_
  refine xr_aload_n (n := 0) (i := 0) rfl (List.mem_of_getElem? (i := 0) rfl) (by decide +kernel) ?_
  refine xr_getI rfl fl_Mod_333 (by decide) (by decide +kernel) ?_
  refine xr_imul (by decide +kernel) ?_
  show sh_X g (d + 1) m_Mod_keepsIt _ _ ((sh_i (45 * (mem 96 51))) :: _) _ _
  refine xr_callS (av := [(sh_r 129), (sh_i 0), (sh_r 134), (sh_i (45 * (mem 96 51)))]) mo_Mod_copies ml_Mod_389 sa_Mod_copies rfl (Nat.le_of_ble_eq_true rfl) (by decide +kernel) (sh_mono k ?_)
  rintro rv m1 ⟨rfl, k⟩
  show sh_X g (d + 1) m_Mod_keepsIt _ _ [] _ _
  refine xr_aload_n (n := 0) (i := 0) rfl (List.mem_of_getElem? (i := 0) rfl) (by decide +kernel) ?_
  refine xr_dupR (by decide +kernel) ?_
  refine xr_getI rfl fl_Mod_333 (by decide) (by decide +kernel) ?_
  refine xr_iconst (n := 1) (by decide +kernel) ?_
  refine xr_iadd (by decide +kernel) ?_
  show sh_X g (d + 1) m_Mod_keepsIt _ _ ((sh_i ((m1 96 51) + 1)) :: _) _ _
  refine xr_putI rfl pl_Mod_333 rfl (by decide +kernel) ?_
  have k := k _ rfl
  generalize hg_m2 : ms m1 96 (ru (m1 96) 51 ((m1 96 51) + 1)) = m2 at k ⊢
  exact xr_ret rfl (by decide +kernel) k
theorem v_Mod_keepsIt_11 {g : sh_G} {d : Nat}   {mem : sh_Mem} {Q : Option sh_V → sh_Mem → Prop}  {x1 : Nat} (k : ((675 ≤ (i3 (x1 : Int)) → (∀ m1 : sh_Mem, m1 = ms mem 96 (ru (mem 96) 51 ((mem 96 51) - 1)) → sh_X g (d + 1) m_Mod_keepsIt 49 [(0, (sh_r 96))] [] m1 (sh_K m_Mod_keepsIt Q))) ∧ (¬ 675 ≤ (i3 (x1 : Int)) → ((x1 + 45) < 720 ∧ (x1 < 720 ∧ (∀ m2 : sh_Mem, m2 = ms mem 134 (ru (mem 134) x1 (mem 134 (x1 + 45))) → sh_X g (d + 1) m_Mod_keepsIt 11 [(0, (sh_r 96)), (1, (sh_i (((x1 + 1) : Nat) : Int)))] [] m2 (sh_K m_Mod_keepsIt Q))))))) : sh_X g (d + 1) m_Mod_keepsIt 11 [(0, (sh_r 96)), (1, (sh_i (x1 : Int)))] [] mem (sh_K m_Mod_keepsIt Q) := by
  refine xr_iload_n (n := 1) (i := 1) rfl (List.mem_of_getElem? (i := 1) rfl) (by decide +kernel) ?_
  refine xr_sipush (n := 675) (v := 675) (by decide) (by decide +kernel) ?_
  refine xr_icmp_ge (a' := (i3 (x1 : Int))) (b' := 675) rfl (by decide) (off := 24) (tgt := 39) (by decide) (by decide +kernel) ⟨fun c1 => ?_, fun c1 => ?_⟩
  · have k := k.1 c1
    refine xr_aload_n (n := 0) (i := 0) rfl (List.mem_of_getElem? (i := 0) rfl) (by decide +kernel) ?_
    refine xr_dupR (by decide +kernel) ?_
    refine xr_getI rfl fl_Mod_333 (by decide) (by decide +kernel) ?_
    refine xr_iconst (n := 1) (by decide +kernel) ?_
    refine xr_isub (by decide +kernel) ?_
    show sh_X g (d + 1) m_Mod_keepsIt _ _ ((sh_i ((mem 96 51) - 1)) :: _) _ _
    refine xr_putI rfl pl_Mod_333 rfl (by decide +kernel) ?_
    have k := k _ rfl
    generalize hg_m1 : ms mem 96 (ru (mem 96) 51 ((mem 96 51) - 1)) = m1 at k ⊢
    refine xr_sub (lo' := [(0, (sh_r 96))]) [0] rfl ?_
    exact k
  · have k := k.2 c1
    refine xr_aload_n (n := 0) (i := 0) rfl (List.mem_of_getElem? (i := 0) rfl) (by decide +kernel) ?_
    refine xr_getR (o := 38) rfl fl_Mod_123 rfl (by decide +kernel) ?_
    show sh_X g (d + 1) m_Mod_keepsIt _ _ ((sh_r 134) :: _) _ _
    refine xr_iload_n (n := 1) (i := 1) rfl (List.mem_of_getElem? (i := 1) rfl) (by decide +kernel) ?_
    refine xr_aload_n (n := 0) (i := 0) rfl (List.mem_of_getElem? (i := 0) rfl) (by decide +kernel) ?_
    refine xr_getR (o := 38) rfl fl_Mod_123 rfl (by decide +kernel) ?_
    show sh_X g (d + 1) m_Mod_keepsIt _ _ ((sh_r 134) :: _) _ _
    refine xr_iload_n (n := 1) (i := 1) rfl (List.mem_of_getElem? (i := 1) rfl) (by decide +kernel) ?_
    refine xr_bipush (n := 45) (v := 45) (by decide) (by decide +kernel) ?_
    refine xr_iadd (by decide +kernel) ?_
    show sh_X g (d + 1) m_Mod_keepsIt _ _ ((sh_i (((x1 + 45) : Nat) : Int)) :: _) _ _
    obtain ⟨o, k⟩ := k
    refine xr_ialdN (j := (x1 + 45)) rfl rfl o (by decide +kernel) ?_
    have o9 := True.intro
    obtain ⟨o, k⟩ := k
    refine xr_iastN (j := x1) rfl rfl o (by decide +kernel) ?_
    have k := k _ rfl
    generalize hg_m2 : ms mem 134 (ru (mem 134) x1 (mem 134 (x1 + 45))) = m2 at k ⊢
    refine xr_iinc (n := 1) (lo' := [(1, (sh_i (((x1 + 1) : Nat) : Int))), (0, (sh_r 96))]) (List.mem_of_getElem? (i := 1) rfl) (by decide) rfl (by decide +kernel) ?_
    refine xr_goto (off := (-25)) (tgt := 11) (by decide) (by decide +kernel) ?_
    refine xr_sub (lo' := [(0, (sh_r 96)), (1, (sh_i (((x1 + 1) : Nat) : Int)))]) [1, 0] rfl ?_
    exact k

theorem v_Mod_steal {g : sh_G} {d : Nat} {thief : Int} {day : Int}  {mem : sh_Mem} {Q : Option sh_V → sh_Mem → Prop}  (k : (∀ m1 : sh_Mem, m1 = ms mem 96 (ru (mem 96) 0 0) → (sh_Cal g d m_Mod_isThief [(sh_r 96), (sh_i thief)] m1 fun rv m2 => ∃ r1 : Int, rv = some (sh_i r1) ∧ (((i3 r1) = 0 → Q (some (sh_i (-1))) m2) ∧ (¬ (i3 r1) = 0 → (sh_Cal g d m_Mod_isDay [(sh_r 96), (sh_i day)] m2 fun rv m3 => ∃ r2 : Int, rv = some (sh_i r2) ∧ (((i3 r2) = 0 → Q (some (sh_i (-1))) m3) ∧ (¬ (i3 r2) = 0 → (sh_Cal g d m_Mod_couldSteal [(sh_r 96), (sh_i thief)] m3 fun rv m4 => ∃ r3 : Int, rv = some (sh_i r3) ∧ (((i3 r3) = 0 → Q (some (sh_i (-1))) m4) ∧ (¬ (i3 r3) = 0 → ((0 ≤ (1 + day) ∧ (1 + day) < 45) ∧ ((¬ (i3 (m4 129 ((1 + day)).toNat)) = 0 → (sh_Cal g d m_Mod_keepsIt [(sh_r 96)] m4 fun rv m5 => rv = none ∧ (sh_Cal g d m_Mod_steals [(sh_r 96), (sh_i thief), (sh_i day)] m5 fun rv m6 => ∃ r4 : Int, rv = some (sh_i r4) ∧ Q (some (sh_i r4)) m6))) ∧ ((i3 (m4 129 ((1 + day)).toNat)) = 0 → Q (some (sh_i (-1))) m4)))))))))))))) : sh_Cal g (d + 1) m_Mod_steal [(sh_r 96), (sh_i thief), (sh_i day)] mem Q := by
  refine sh_met (by decide +kernel) (Nat.le_of_ble_eq_true rfl) (lo := [(0, (sh_r 96)), (1, (sh_i thief)), (2, (sh_i day))]) rfl ?_
  refine xr_aload_n (n := 0) (i := 0) rfl (List.mem_of_getElem? (i := 0) rfl) (by decide +kernel) ?_
  refine xr_iconst (n := 0) (by decide +kernel) ?_
  refine xr_putI rfl pl_Mod_141 rfl (by decide +kernel) ?_
  have k := k _ rfl
  generalize hg_m1 : ms mem 96 (ru (mem 96) 0 0) = m1 at k ⊢
  refine xr_aload_n (n := 0) (i := 0) rfl (List.mem_of_getElem? (i := 0) rfl) (by decide +kernel) ?_
  refine xr_iload_n (n := 1) (i := 1) rfl (List.mem_of_getElem? (i := 1) rfl) (by decide +kernel) ?_
  refine xr_callV (av := [(sh_i thief)]) rfl rfl rfl mo_Mod_isThief ml_Mod_386 im_Mod_isThief se_Mod_isThief rfl (Nat.le_of_ble_eq_true rfl) (by decide +kernel) (sh_mono k ?_)
  rintro rv m2 ⟨r1, rfl, k⟩
  show sh_X g (d + 1) m_Mod_steal _ _ [(sh_i r1)] _ _
  refine xr_if_eq (a' := (i3 r1)) rfl (off := 30) (tgt := 40) (by decide) (by decide +kernel) ⟨fun c1 => ?_, fun c1 => ?_⟩
  · have k := k.1 c1
    refine xr_iconst (n := (-1)) (by decide +kernel) ?_
    exact xr_iret rfl (by decide +kernel) k
  · have k := k.2 c1
    refine xr_aload_n (n := 0) (i := 0) rfl (List.mem_of_getElem? (i := 0) rfl) (by decide +kernel) ?_
    refine xr_iload_n (n := 2) (i := 2) rfl (List.mem_of_getElem? (i := 2) rfl) (by decide +kernel) ?_
    refine xr_callV (av := [(sh_i day)]) rfl rfl rfl mo_Mod_isDay ml_Mod_383 im_Mod_isDay se_Mod_isDay rfl (Nat.le_of_ble_eq_true rfl) (by decide +kernel) (sh_mono k ?_)
    rintro rv m3 ⟨r2, rfl, k⟩
    show sh_X g (d + 1) m_Mod_steal _ _ [(sh_i r2)] _ _
    refine xr_if_eq (a' := (i3 r2)) rfl (off := 22) (tgt := 40) (by decide) (by decide +kernel) ⟨fun c2 => ?_, fun c2 => ?_⟩
    · have k := k.1 c2
      refine xr_iconst (n := (-1)) (by decide +kernel) ?_
      exact xr_iret rfl (by decide +kernel) k
    · have k := k.2 c2
      refine xr_aload_n (n := 0) (i := 0) rfl (List.mem_of_getElem? (i := 0) rfl) (by decide +kernel) ?_
      refine xr_iload_n (n := 1) (i := 1) rfl (List.mem_of_getElem? (i := 1) rfl) (by decide +kernel) ?_
      refine xr_callV (av := [(sh_i thief)]) rfl rfl rfl mo_Mod_couldSteal ml_Mod_393 im_Mod_couldSteal se_Mod_couldSteal rfl (Nat.le_of_ble_eq_true rfl) (by decide +kernel) (sh_mono k ?_)
      rintro rv m4 ⟨r3, rfl, k⟩
      show sh_X g (d + 1) m_Mod_steal _ _ [(sh_i r3)] _ _
      refine xr_if_eq (a' := (i3 r3)) rfl (off := 14) (tgt := 40) (by decide) (by decide +kernel) ⟨fun c3 => ?_, fun c3 => ?_⟩
      · have k := k.1 c3
        refine xr_iconst (n := (-1)) (by decide +kernel) ?_
        exact xr_iret rfl (by decide +kernel) k
      · have k := k.2 c3
        refine xr_aload_n (n := 0) (i := 0) rfl (List.mem_of_getElem? (i := 0) rfl) (by decide +kernel) ?_
        refine xr_getR (o := 33) rfl fl_Mod_108 rfl (by decide +kernel) ?_
        show sh_X g (d + 1) m_Mod_steal _ _ ((sh_r 129) :: _) _ _
        refine xr_iconst (n := 1) (by decide +kernel) ?_
        refine xr_iload_n (n := 2) (i := 2) rfl (List.mem_of_getElem? (i := 2) rfl) (by decide +kernel) ?_
        refine xr_iadd (by decide +kernel) ?_
        show sh_X g (d + 1) m_Mod_steal _ _ ((sh_i (1 + day)) :: _) _ _
        obtain ⟨o, k⟩ := k
        refine xr_iald rfl o.1 o.2 (by decide +kernel) ?_
        refine xr_if_ne (a' := (i3 (m4 129 ((1 + day)).toNat))) rfl (off := 5) (tgt := 42) (by decide) (by decide +kernel) ⟨fun c4 => ?_, fun c4 => ?_⟩
        · have k := k.1 c4
          refine xr_aload_n (n := 0) (i := 0) rfl (List.mem_of_getElem? (i := 0) rfl) (by decide +kernel) ?_
          refine xr_callV (av := []) rfl rfl rfl mo_Mod_keepsIt ml_Mod_396 im_Mod_keepsIt se_Mod_keepsIt rfl (Nat.le_of_ble_eq_true rfl) (by decide +kernel) (sh_mono k ?_)
          rintro rv m5 ⟨rfl, k⟩
          show sh_X g (d + 1) m_Mod_steal _ _ [] _ _
          refine xr_aload_n (n := 0) (i := 0) rfl (List.mem_of_getElem? (i := 0) rfl) (by decide +kernel) ?_
          refine xr_iload_n (n := 1) (i := 1) rfl (List.mem_of_getElem? (i := 1) rfl) (by decide +kernel) ?_
          refine xr_iload_n (n := 2) (i := 2) rfl (List.mem_of_getElem? (i := 2) rfl) (by decide +kernel) ?_
          refine xr_callV (av := [(sh_i thief), (sh_i day)]) rfl rfl rfl mo_Mod_steals ml_Mod_399 im_Mod_steals se_Mod_steals rfl (Nat.le_of_ble_eq_true rfl) (by decide +kernel) (sh_mono k ?_)
          rintro rv m6 ⟨r4, rfl, k⟩
          show sh_X g (d + 1) m_Mod_steal _ _ [(sh_i r4)] _ _
          exact xr_iret rfl (by decide +kernel) k
        · have k := k.2 c4
          refine xr_iconst (n := (-1)) (by decide +kernel) ?_
          exact xr_iret rfl (by decide +kernel) k

theorem v_Mod_sell {g : sh_G} {d : Nat} {thief : Int}  {mem : sh_Mem} {Q : Option sh_V → sh_Mem → Prop}  (k : (∀ m1 : sh_Mem, m1 = ms mem 96 (ru (mem 96) 0 0) → (sh_Cal g d m_Mod_isThief [(sh_r 96), (sh_i thief)] m1 fun rv m2 => ∃ r1 : Int, rv = some (sh_i r1) ∧ (((i3 r1) = 0 → Q (some (sh_i (-1))) m2) ∧ (¬ (i3 r1) = 0 → (sh_Cal g d m_Mod_canDeal [(sh_r 96), (sh_i thief)] m2 fun rv m3 => ∃ r2 : Int, rv = some (sh_i r2) ∧ ((¬ (i3 r2) = 0 → (sh_Cal g d m_Mod_keepsIt [(sh_r 96)] m3 fun rv m4 => rv = none ∧ (sh_Cal g d m_Mod_sellsIt [(sh_r 96), (sh_i thief)] m4 fun rv m5 => ∃ r3 : Int, rv = some (sh_i r3) ∧ Q (some (sh_i r3)) m5))) ∧ ((i3 r2) = 0 → Q (some (sh_i (-1))) m3)))))))) : sh_Cal g (d + 1) m_Mod_sell [(sh_r 96), (sh_i thief)] mem Q := by
  refine sh_met (by decide +kernel) (Nat.le_of_ble_eq_true rfl) (lo := [(0, (sh_r 96)), (1, (sh_i thief))]) rfl ?_
  refine xr_aload_n (n := 0) (i := 0) rfl (List.mem_of_getElem? (i := 0) rfl) (by decide +kernel) ?_
  refine xr_iconst (n := 0) (by decide +kernel) ?_
  refine xr_putI rfl pl_Mod_141 rfl (by decide +kernel) ?_
  have k := k _ rfl
  generalize hg_m1 : ms mem 96 (ru (mem 96) 0 0) = m1 at k ⊢
  refine xr_aload_n (n := 0) (i := 0) rfl (List.mem_of_getElem? (i := 0) rfl) (by decide +kernel) ?_
  refine xr_iload_n (n := 1) (i := 1) rfl (List.mem_of_getElem? (i := 1) rfl) (by decide +kernel) ?_
  refine xr_callV (av := [(sh_i thief)]) rfl rfl rfl mo_Mod_isThief ml_Mod_386 im_Mod_isThief se_Mod_isThief rfl (Nat.le_of_ble_eq_true rfl) (by decide +kernel) (sh_mono k ?_)
  rintro rv m2 ⟨r1, rfl, k⟩
  show sh_X g (d + 1) m_Mod_sell _ _ [(sh_i r1)] _ _
  refine xr_if_eq (a' := (i3 r1)) rfl (off := 11) (tgt := 21) (by decide) (by decide +kernel) ⟨fun c1 => ?_, fun c1 => ?_⟩
  · have k := k.1 c1
    refine xr_iconst (n := (-1)) (by decide +kernel) ?_
    exact xr_iret rfl (by decide +kernel) k
  · have k := k.2 c1
    refine xr_aload_n (n := 0) (i := 0) rfl (List.mem_of_getElem? (i := 0) rfl) (by decide +kernel) ?_
    refine xr_iload_n (n := 1) (i := 1) rfl (List.mem_of_getElem? (i := 1) rfl) (by decide +kernel) ?_
    refine xr_callV (av := [(sh_i thief)]) rfl rfl rfl mo_Mod_canDeal ml_Mod_402 im_Mod_canDeal se_Mod_canDeal rfl (Nat.le_of_ble_eq_true rfl) (by decide +kernel) (sh_mono k ?_)
    rintro rv m3 ⟨r2, rfl, k⟩
    show sh_X g (d + 1) m_Mod_sell _ _ [(sh_i r2)] _ _
    refine xr_if_ne (a' := (i3 r2)) rfl (off := 5) (tgt := 23) (by decide) (by decide +kernel) ⟨fun c2 => ?_, fun c2 => ?_⟩
    · have k := k.1 c2
      refine xr_aload_n (n := 0) (i := 0) rfl (List.mem_of_getElem? (i := 0) rfl) (by decide +kernel) ?_
      refine xr_callV (av := []) rfl rfl rfl mo_Mod_keepsIt ml_Mod_396 im_Mod_keepsIt se_Mod_keepsIt rfl (Nat.le_of_ble_eq_true rfl) (by decide +kernel) (sh_mono k ?_)
      rintro rv m4 ⟨rfl, k⟩
      show sh_X g (d + 1) m_Mod_sell _ _ [] _ _
      refine xr_aload_n (n := 0) (i := 0) rfl (List.mem_of_getElem? (i := 0) rfl) (by decide +kernel) ?_
      refine xr_iload_n (n := 1) (i := 1) rfl (List.mem_of_getElem? (i := 1) rfl) (by decide +kernel) ?_
      refine xr_callV (av := [(sh_i thief)]) rfl rfl rfl mo_Mod_sellsIt ml_Mod_405 im_Mod_sellsIt se_Mod_sellsIt rfl (Nat.le_of_ble_eq_true rfl) (by decide +kernel) (sh_mono k ?_)
      rintro rv m5 ⟨r3, rfl, k⟩
      show sh_X g (d + 1) m_Mod_sell _ _ [(sh_i r3)] _ _
      exact xr_iret rfl (by decide +kernel) k
    · have k := k.2 c2
      refine xr_iconst (n := (-1)) (by decide +kernel) ?_
      exact xr_iret rfl (by decide +kernel) k

theorem v_Mod_spend {g : sh_G} {d : Nat} {thief : Int}  {mem : sh_Mem} {Q : Option sh_V → sh_Mem → Prop}  (k : (∀ m1 : sh_Mem, m1 = ms mem 96 (ru (mem 96) 0 0) → (sh_Cal g d m_Mod_isThief [(sh_r 96), (sh_i thief)] m1 fun rv m2 => ∃ r1 : Int, rv = some (sh_i r1) ∧ (((i3 r1) = 0 → Q (some (sh_i (-1))) m2) ∧ (¬ (i3 r1) = 0 → (sh_Cal g d m_Mod_canDeal [(sh_r 96), (sh_i thief)] m2 fun rv m3 => ∃ r2 : Int, rv = some (sh_i r2) ∧ ((¬ (i3 r2) = 0 → (sh_Cal g d m_Mod_keepsIt [(sh_r 96)] m3 fun rv m4 => rv = none ∧ (sh_Cal g d m_Mod_spendsIt [(sh_r 96), (sh_i thief)] m4 fun rv m5 => ∃ r3 : Int, rv = some (sh_i r3) ∧ Q (some (sh_i r3)) m5))) ∧ ((i3 r2) = 0 → Q (some (sh_i (-1))) m3)))))))) : sh_Cal g (d + 1) m_Mod_spend [(sh_r 96), (sh_i thief)] mem Q := by
  refine sh_met (by decide +kernel) (Nat.le_of_ble_eq_true rfl) (lo := [(0, (sh_r 96)), (1, (sh_i thief))]) rfl ?_
  refine xr_aload_n (n := 0) (i := 0) rfl (List.mem_of_getElem? (i := 0) rfl) (by decide +kernel) ?_
  refine xr_iconst (n := 0) (by decide +kernel) ?_
  refine xr_putI rfl pl_Mod_141 rfl (by decide +kernel) ?_
  have k := k _ rfl
  generalize hg_m1 : ms mem 96 (ru (mem 96) 0 0) = m1 at k ⊢
  refine xr_aload_n (n := 0) (i := 0) rfl (List.mem_of_getElem? (i := 0) rfl) (by decide +kernel) ?_
  refine xr_iload_n (n := 1) (i := 1) rfl (List.mem_of_getElem? (i := 1) rfl) (by decide +kernel) ?_
  refine xr_callV (av := [(sh_i thief)]) rfl rfl rfl mo_Mod_isThief ml_Mod_386 im_Mod_isThief se_Mod_isThief rfl (Nat.le_of_ble_eq_true rfl) (by decide +kernel) (sh_mono k ?_)
  rintro rv m2 ⟨r1, rfl, k⟩
  show sh_X g (d + 1) m_Mod_spend _ _ [(sh_i r1)] _ _
  refine xr_if_eq (a' := (i3 r1)) rfl (off := 11) (tgt := 21) (by decide) (by decide +kernel) ⟨fun c1 => ?_, fun c1 => ?_⟩
  · have k := k.1 c1
    refine xr_iconst (n := (-1)) (by decide +kernel) ?_
    exact xr_iret rfl (by decide +kernel) k
  · have k := k.2 c1
    refine xr_aload_n (n := 0) (i := 0) rfl (List.mem_of_getElem? (i := 0) rfl) (by decide +kernel) ?_
    refine xr_iload_n (n := 1) (i := 1) rfl (List.mem_of_getElem? (i := 1) rfl) (by decide +kernel) ?_
    refine xr_callV (av := [(sh_i thief)]) rfl rfl rfl mo_Mod_canDeal ml_Mod_402 im_Mod_canDeal se_Mod_canDeal rfl (Nat.le_of_ble_eq_true rfl) (by decide +kernel) (sh_mono k ?_)
    rintro rv m3 ⟨r2, rfl, k⟩
    show sh_X g (d + 1) m_Mod_spend _ _ [(sh_i r2)] _ _
    refine xr_if_ne (a' := (i3 r2)) rfl (off := 5) (tgt := 23) (by decide) (by decide +kernel) ⟨fun c2 => ?_, fun c2 => ?_⟩
    · have k := k.1 c2
      refine xr_aload_n (n := 0) (i := 0) rfl (List.mem_of_getElem? (i := 0) rfl) (by decide +kernel) ?_
      refine xr_callV (av := []) rfl rfl rfl mo_Mod_keepsIt ml_Mod_396 im_Mod_keepsIt se_Mod_keepsIt rfl (Nat.le_of_ble_eq_true rfl) (by decide +kernel) (sh_mono k ?_)
      rintro rv m4 ⟨rfl, k⟩
      show sh_X g (d + 1) m_Mod_spend _ _ [] _ _
      refine xr_aload_n (n := 0) (i := 0) rfl (List.mem_of_getElem? (i := 0) rfl) (by decide +kernel) ?_
      refine xr_iload_n (n := 1) (i := 1) rfl (List.mem_of_getElem? (i := 1) rfl) (by decide +kernel) ?_
      refine xr_callV (av := [(sh_i thief)]) rfl rfl rfl mo_Mod_spendsIt ml_Mod_408 im_Mod_spendsIt se_Mod_spendsIt rfl (Nat.le_of_ble_eq_true rfl) (by decide +kernel) (sh_mono k ?_)
      rintro rv m5 ⟨r3, rfl, k⟩
      show sh_X g (d + 1) m_Mod_spend _ _ [(sh_i r3)] _ _
      exact xr_iret rfl (by decide +kernel) k
    · have k := k.2 c2
      refine xr_iconst (n := (-1)) (by decide +kernel) ?_
      exact xr_iret rfl (by decide +kernel) k

theorem v_Mod_swap {g : sh_G} {d : Nat} {thief : Int} {other : Int}  {mem : sh_Mem} {Q : Option sh_V → sh_Mem → Prop}  (k : (∀ m1 : sh_Mem, m1 = ms mem 96 (ru (mem 96) 0 0) → (sh_Cal g d m_Mod_isThief [(sh_r 96), (sh_i thief)] m1 fun rv m2 => ∃ r1 : Int, rv = some (sh_i r1) ∧ (((i3 r1) = 0 → Q (some (sh_i 0)) m2) ∧ (¬ (i3 r1) = 0 → (sh_Cal g d m_Mod_isThief [(sh_r 96), (sh_i other)] m2 fun rv m3 => ∃ r2 : Int, rv = some (sh_i r2) ∧ (((i3 r2) = 0 → Q (some (sh_i 0)) m3) ∧ (¬ (i3 r2) = 0 → (((i3 thief) = (i3 other) → Q (some (sh_i 0)) m3) ∧ (¬ (i3 thief) = (i3 other) → (sh_Cal g d m_Mod_canDeal [(sh_r 96), (sh_i thief)] m3 fun rv m4 => ∃ r3 : Int, rv = some (sh_i r3) ∧ (((i3 r3) = 0 → Q (some (sh_i 0)) m4) ∧ (¬ (i3 r3) = 0 → (sh_Cal g d m_Mod_canDeal [(sh_r 96), (sh_i other)] m4 fun rv m5 => ∃ r4 : Int, rv = some (sh_i r4) ∧ ((¬ (i3 r4) = 0 → (sh_Cal g d m_Mod_keepsIt [(sh_r 96)] m5 fun rv m6 => rv = none ∧ (sh_Cal g d m_Mod_swapsIt [(sh_r 96), (sh_i thief), (sh_i other)] m6 fun rv m7 => rv = none ∧ Q (some (sh_i 1)) m7))) ∧ ((i3 r4) = 0 → Q (some (sh_i 0)) m5)))))))))))))))) : sh_Cal g (d + 1) m_Mod_swap [(sh_r 96), (sh_i thief), (sh_i other)] mem Q := by
  refine sh_met (by decide +kernel) (Nat.le_of_ble_eq_true rfl) (lo := [(0, (sh_r 96)), (1, (sh_i thief)), (2, (sh_i other))]) rfl ?_
  refine xr_aload_n (n := 0) (i := 0) rfl (List.mem_of_getElem? (i := 0) rfl) (by decide +kernel) ?_
  refine xr_iconst (n := 0) (by decide +kernel) ?_
  refine xr_putI rfl pl_Mod_141 rfl (by decide +kernel) ?_
  have k := k _ rfl
  generalize hg_m1 : ms mem 96 (ru (mem 96) 0 0) = m1 at k ⊢
  refine xr_aload_n (n := 0) (i := 0) rfl (List.mem_of_getElem? (i := 0) rfl) (by decide +kernel) ?_
  refine xr_iload_n (n := 1) (i := 1) rfl (List.mem_of_getElem? (i := 1) rfl) (by decide +kernel) ?_
  refine xr_callV (av := [(sh_i thief)]) rfl rfl rfl mo_Mod_isThief ml_Mod_386 im_Mod_isThief se_Mod_isThief rfl (Nat.le_of_ble_eq_true rfl) (by decide +kernel) (sh_mono k ?_)
  rintro rv m2 ⟨r1, rfl, k⟩
  show sh_X g (d + 1) m_Mod_swap _ _ [(sh_i r1)] _ _
  refine xr_if_eq (a' := (i3 r1)) rfl (off := 32) (tgt := 42) (by decide) (by decide +kernel) ⟨fun c1 => ?_, fun c1 => ?_⟩
  · have k := k.1 c1
    refine xr_iconst (n := 0) (by decide +kernel) ?_
    exact xr_zret rfl (by decide +kernel) (by decide) k
  · have k := k.2 c1
    refine xr_aload_n (n := 0) (i := 0) rfl (List.mem_of_getElem? (i := 0) rfl) (by decide +kernel) ?_
    refine xr_iload_n (n := 2) (i := 2) rfl (List.mem_of_getElem? (i := 2) rfl) (by decide +kernel) ?_
    refine xr_callV (av := [(sh_i other)]) rfl rfl rfl mo_Mod_isThief ml_Mod_386 im_Mod_isThief se_Mod_isThief rfl (Nat.le_of_ble_eq_true rfl) (by decide +kernel) (sh_mono k ?_)
    rintro rv m3 ⟨r2, rfl, k⟩
    show sh_X g (d + 1) m_Mod_swap _ _ [(sh_i r2)] _ _
    refine xr_if_eq (a' := (i3 r2)) rfl (off := 24) (tgt := 42) (by decide) (by decide +kernel) ⟨fun c2 => ?_, fun c2 => ?_⟩
    · have k := k.1 c2
      refine xr_iconst (n := 0) (by decide +kernel) ?_
      exact xr_zret rfl (by decide +kernel) (by decide) k
    · have k := k.2 c2
      refine xr_iload_n (n := 1) (i := 1) rfl (List.mem_of_getElem? (i := 1) rfl) (by decide +kernel) ?_
      refine xr_iload_n (n := 2) (i := 2) rfl (List.mem_of_getElem? (i := 2) rfl) (by decide +kernel) ?_
      refine xr_icmp_eq (a' := (i3 thief)) (b' := (i3 other)) rfl rfl (off := 19) (tgt := 42) (by decide) (by decide +kernel) ⟨fun c3 => ?_, fun c3 => ?_⟩
      · have k := k.1 c3
        refine xr_iconst (n := 0) (by decide +kernel) ?_
        exact xr_zret rfl (by decide +kernel) (by decide) k
      · have k := k.2 c3
        refine xr_aload_n (n := 0) (i := 0) rfl (List.mem_of_getElem? (i := 0) rfl) (by decide +kernel) ?_
        refine xr_iload_n (n := 1) (i := 1) rfl (List.mem_of_getElem? (i := 1) rfl) (by decide +kernel) ?_
        refine xr_callV (av := [(sh_i thief)]) rfl rfl rfl mo_Mod_canDeal ml_Mod_402 im_Mod_canDeal se_Mod_canDeal rfl (Nat.le_of_ble_eq_true rfl) (by decide +kernel) (sh_mono k ?_)
        rintro rv m4 ⟨r3, rfl, k⟩
        show sh_X g (d + 1) m_Mod_swap _ _ [(sh_i r3)] _ _
        refine xr_if_eq (a' := (i3 r3)) rfl (off := 11) (tgt := 42) (by decide) (by decide +kernel) ⟨fun c4 => ?_, fun c4 => ?_⟩
        · have k := k.1 c4
          refine xr_iconst (n := 0) (by decide +kernel) ?_
          exact xr_zret rfl (by decide +kernel) (by decide) k
        · have k := k.2 c4
          refine xr_aload_n (n := 0) (i := 0) rfl (List.mem_of_getElem? (i := 0) rfl) (by decide +kernel) ?_
          refine xr_iload_n (n := 2) (i := 2) rfl (List.mem_of_getElem? (i := 2) rfl) (by decide +kernel) ?_
          refine xr_callV (av := [(sh_i other)]) rfl rfl rfl mo_Mod_canDeal ml_Mod_402 im_Mod_canDeal se_Mod_canDeal rfl (Nat.le_of_ble_eq_true rfl) (by decide +kernel) (sh_mono k ?_)
          rintro rv m5 ⟨r4, rfl, k⟩
          show sh_X g (d + 1) m_Mod_swap _ _ [(sh_i r4)] _ _
          refine xr_if_ne (a' := (i3 r4)) rfl (off := 5) (tgt := 44) (by decide) (by decide +kernel) ⟨fun c5 => ?_, fun c5 => ?_⟩
          · have k := k.1 c5
            refine xr_aload_n (n := 0) (i := 0) rfl (List.mem_of_getElem? (i := 0) rfl) (by decide +kernel) ?_
            refine xr_callV (av := []) rfl rfl rfl mo_Mod_keepsIt ml_Mod_396 im_Mod_keepsIt se_Mod_keepsIt rfl (Nat.le_of_ble_eq_true rfl) (by decide +kernel) (sh_mono k ?_)
            rintro rv m6 ⟨rfl, k⟩
            show sh_X g (d + 1) m_Mod_swap _ _ [] _ _
            refine xr_aload_n (n := 0) (i := 0) rfl (List.mem_of_getElem? (i := 0) rfl) (by decide +kernel) ?_
            refine xr_iload_n (n := 1) (i := 1) rfl (List.mem_of_getElem? (i := 1) rfl) (by decide +kernel) ?_
            refine xr_iload_n (n := 2) (i := 2) rfl (List.mem_of_getElem? (i := 2) rfl) (by decide +kernel) ?_
            refine xr_callV (av := [(sh_i thief), (sh_i other)]) rfl rfl rfl mo_Mod_swapsIt ml_Mod_411 im_Mod_swapsIt se_Mod_swapsIt rfl (Nat.le_of_ble_eq_true rfl) (by decide +kernel) (sh_mono k ?_)
            rintro rv m7 ⟨rfl, k⟩
            show sh_X g (d + 1) m_Mod_swap _ _ [] _ _
            refine xr_iconst (n := 1) (by decide +kernel) ?_
            exact xr_zret rfl (by decide +kernel) (by decide) k
          · have k := k.2 c5
            refine xr_iconst (n := 0) (by decide +kernel) ?_
            exact xr_zret rfl (by decide +kernel) (by decide) k

theorem v_Mod_night {g : sh_G} {d : Nat}   {mem : sh_Mem} {Q : Option sh_V → sh_Mem → Prop}  (k : (∀ m1 : sh_Mem, m1 = ms mem 96 (ru (mem 96) 0 0) → (sh_Cal g d m_Mod_keepsIt [(sh_r 96)] m1 fun rv m2 => rv = none ∧ (sh_Cal g d m_Mod_passes [(sh_r 96)] m2 fun rv m3 => rv = none ∧ (sh_Cal g d m_Mod_having [(sh_r 96)] m3 fun rv m4 => ∃ r1 : Int, rv = some (sh_i r1) ∧ Q (some (sh_i r1)) m4))))) : sh_Cal g (d + 1) m_Mod_night [(sh_r 96)] mem Q := by
  refine sh_met (by decide +kernel) (Nat.le_of_ble_eq_true rfl) (lo := [(0, (sh_r 96))]) rfl ?_
  refine xr_aload_n (n := 0) (i := 0) rfl (List.mem_of_getElem? (i := 0) rfl) (by decide +kernel) ?_
  refine xr_iconst (n := 0) (by decide +kernel) ?_
  refine xr_putI rfl pl_Mod_141 rfl (by decide +kernel) ?_
  have k := k _ rfl
  generalize hg_m1 : ms mem 96 (ru (mem 96) 0 0) = m1 at k ⊢
  refine xr_aload_n (n := 0) (i := 0) rfl (List.mem_of_getElem? (i := 0) rfl) (by decide +kernel) ?_
  refine xr_callV (av := []) rfl rfl rfl mo_Mod_keepsIt ml_Mod_396 im_Mod_keepsIt se_Mod_keepsIt rfl (Nat.le_of_ble_eq_true rfl) (by decide +kernel) (sh_mono k ?_)
  rintro rv m2 ⟨rfl, k⟩
  show sh_X g (d + 1) m_Mod_night _ _ [] _ _
  refine xr_aload_n (n := 0) (i := 0) rfl (List.mem_of_getElem? (i := 0) rfl) (by decide +kernel) ?_
  refine xr_callV (av := []) rfl rfl rfl mo_Mod_passes ml_Mod_414 im_Mod_passes se_Mod_passes rfl (Nat.le_of_ble_eq_true rfl) (by decide +kernel) (sh_mono k ?_)
  rintro rv m3 ⟨rfl, k⟩
  show sh_X g (d + 1) m_Mod_night _ _ [] _ _
  refine xr_aload_n (n := 0) (i := 0) rfl (List.mem_of_getElem? (i := 0) rfl) (by decide +kernel) ?_
  refine xr_callV (av := []) rfl rfl rfl mo_Mod_having ml_Mod_417 im_Mod_having se_Mod_having rfl (Nat.le_of_ble_eq_true rfl) (by decide +kernel) (sh_mono k ?_)
  rintro rv m4 ⟨r1, rfl, k⟩
  show sh_X g (d + 1) m_Mod_night _ _ [(sh_i r1)] _ _
  exact xr_iret rfl (by decide +kernel) k

theorem v_Mod_undo {g : sh_G} {d : Nat}   {mem : sh_Mem} {Q : Option sh_V → sh_Mem → Prop}  (k : (∀ m1 : sh_Mem, m1 = ms mem 96 (ru (mem 96) 0 0) → ((¬ (i3 (m1 96 51)) = 0 → (∀ m2 : sh_Mem, m2 = ms m1 96 (ru (m1 96) 51 ((m1 96 51) - 1)) → (sh_Cal g d m_Mod_copies [(sh_r 134), (sh_i (45 * (m2 96 51))), (sh_r 129), (sh_i 0)] m2 fun rv m3 => rv = none ∧ Q (some (sh_i 1)) m3))) ∧ ((i3 (m1 96 51)) = 0 → Q (some (sh_i 0)) m1)))) : sh_Cal g (d + 1) m_Mod_undo [(sh_r 96)] mem Q := by
  refine sh_met (by decide +kernel) (Nat.le_of_ble_eq_true rfl) (lo := [(0, (sh_r 96))]) rfl ?_
  refine xr_aload_n (n := 0) (i := 0) rfl (List.mem_of_getElem? (i := 0) rfl) (by decide +kernel) ?_
  refine xr_iconst (n := 0) (by decide +kernel) ?_
  refine xr_putI rfl pl_Mod_141 rfl (by decide +kernel) ?_
  have k := k _ rfl
  generalize hg_m1 : ms mem 96 (ru (mem 96) 0 0) = m1 at k ⊢
  refine xr_aload_n (n := 0) (i := 0) rfl (List.mem_of_getElem? (i := 0) rfl) (by decide +kernel) ?_
  refine xr_getI rfl fl_Mod_333 (by decide) (by decide +kernel) ?_
  refine xr_if_ne (a' := (i3 (m1 96 51))) rfl (off := 5) (tgt := 14) (by decide) (by decide +kernel) ⟨fun c1 => ?_, fun c1 => ?_⟩
  · have k := k.1 c1
    refine xr_aload_n (n := 0) (i := 0) rfl (List.mem_of_getElem? (i := 0) rfl) (by decide +kernel) ?_
    refine xr_dupR (by decide +kernel) ?_
    refine xr_getI rfl fl_Mod_333 (by decide) (by decide +kernel) ?_
    refine xr_iconst (n := 1) (by decide +kernel) ?_
    refine xr_isub (by decide +kernel) ?_
    show sh_X g (d + 1) m_Mod_undo _ _ ((sh_i ((m1 96 51) - 1)) :: _) _ _
    refine xr_putI rfl pl_Mod_333 rfl (by decide +kernel) ?_
    have k := k _ rfl
    generalize hg_m2 : ms m1 96 (ru (m1 96) 51 ((m1 96 51) - 1)) = m2 at k ⊢
    refine xr_aload_n (n := 0) (i := 0) rfl (List.mem_of_getElem? (i := 0) rfl) (by decide +kernel) ?_
    refine xr_getR (o := 38) rfl fl_Mod_123 rfl (by decide +kernel) ?_
    show sh_X g (d + 1) m_Mod_undo _ _ ((sh_r 134) :: _) _ _
    refine xr_bipush (n := 45) (v := 45) (by decide) (by decide +kernel) ?_
    refine xr_aload_n (n := 0) (i := 0) rfl (List.mem_of_getElem? (i := 0) rfl) (by decide +kernel) ?_
    refine xr_getI rfl fl_Mod_333 (by decide) (by decide +kernel) ?_
    refine xr_imul (by decide +kernel) ?_
    show sh_X g (d + 1) m_Mod_undo _ _ ((sh_i (45 * (m2 96 51))) :: _) _ _
    refine xr_aload_n (n := 0) (i := 0) rfl (List.mem_of_getElem? (i := 0) rfl) (by decide +kernel) ?_
    refine xr_getR (o := 33) rfl fl_Mod_108 rfl (by decide +kernel) ?_
    show sh_X g (d + 1) m_Mod_undo _ _ ((sh_r 129) :: _) _ _
    refine xr_iconst (n := 0) (by decide +kernel) ?_
    refine xr_callS (av := [(sh_r 134), (sh_i (45 * (m2 96 51))), (sh_r 129), (sh_i 0)]) mo_Mod_copies ml_Mod_389 sa_Mod_copies rfl (Nat.le_of_ble_eq_true rfl) (by decide +kernel) (sh_mono k ?_)
    rintro rv m3 ⟨rfl, k⟩
    show sh_X g (d + 1) m_Mod_undo _ _ [] _ _
    refine xr_iconst (n := 1) (by decide +kernel) ?_
    exact xr_zret rfl (by decide +kernel) (by decide) k
  · have k := k.2 c1
    refine xr_iconst (n := 0) (by decide +kernel) ?_
    exact xr_zret rfl (by decide +kernel) (by decide) k

theorem v_Mod_isDone {g : sh_G} {d : Nat} {kk : Nat}  {mem : sh_Mem} {Q : Option sh_V → sh_Mem → Prop}  (k : (kk < 240 ∧ (kk < 240 ∧ (kk < 240 ∧ ((¬ (i3 (mem 122 kk)) = 0 → ((¬ (i3 (mem 122 kk)) = 1 → (sh_Cal g d m_Mod_canDeal [(sh_r 96), (sh_i (mem 123 kk))] mem fun rv m1 => ∃ r1 : Int, rv = some (sh_i r1) ∧ (((i3 r1) = 0 → Q (some (sh_i 0)) m1) ∧ (¬ (i3 r1) = 0 → ((¬ (i3 (mem 122 kk)) = 4 → sh_X g (d + 1) m_Mod_isDone 95 [(0, (sh_r 96)), (1, (sh_i (kk : Int))), (2, (sh_i (mem 122 kk))), (3, (sh_i (mem 123 kk))), (4, (sh_i (mem 124 kk)))] [] m1 (sh_K m_Mod_isDone Q)) ∧ ((i3 (mem 122 kk)) = 4 → (sh_Cal g d m_Mod_canDeal [(sh_r 96), (sh_i (mem 124 kk))] m1 fun rv m2 => ∃ r2 : Int, rv = some (sh_i r2) ∧ ((¬ (i3 r2) = 0 → sh_X g (d + 1) m_Mod_isDone 95 [(0, (sh_r 96)), (1, (sh_i (kk : Int))), (2, (sh_i (mem 122 kk))), (3, (sh_i (mem 123 kk))), (4, (sh_i (mem 124 kk)))] [] m2 (sh_K m_Mod_isDone Q)) ∧ ((i3 r2) = 0 → Q (some (sh_i 0)) m2))))))))) ∧ ((i3 (mem 122 kk)) = 1 → (sh_Cal g d m_Mod_couldSteal [(sh_r 96), (sh_i (mem 123 kk))] mem fun rv m3 => ∃ r3 : Int, rv = some (sh_i r3) ∧ (((i3 r3) = 0 → Q (some (sh_i 0)) m3) ∧ (¬ (i3 r3) = 0 → ((0 ≤ (1 + (mem 124 kk)) ∧ (1 + (mem 124 kk)) < 45) ∧ ((¬ (i3 (m3 129 ((1 + (mem 124 kk))).toNat)) = 0 → (sh_Cal g d m_Mod_steals [(sh_r 96), (sh_i (mem 123 kk)), (sh_i (mem 124 kk))] m3 fun rv m4 => ∃ r4 : Int, rv = some (sh_i r4) ∧ Q (some (sh_i 1)) m4)) ∧ ((i3 (m3 129 ((1 + (mem 124 kk))).toNat)) = 0 → Q (some (sh_i 0)) m3))))))))) ∧ ((i3 (mem 122 kk)) = 0 → (sh_Cal g d m_Mod_passes [(sh_r 96)] mem fun rv m5 => rv = none ∧ Q (some (sh_i 1)) m5))))))) : sh_Cal g (d + 1) m_Mod_isDone [(sh_r 96), (sh_i (kk : Int))] mem Q := by
  refine sh_met (by decide +kernel) (Nat.le_of_ble_eq_true rfl) (lo := [(0, (sh_r 96)), (1, (sh_i (kk : Int)))]) rfl ?_
  refine xr_aload_n (n := 0) (i := 0) rfl (List.mem_of_getElem? (i := 0) rfl) (by decide +kernel) ?_
  refine xr_getR (o := 26) rfl fl_Mod_87 rfl (by decide +kernel) ?_
  show sh_X g (d + 1) m_Mod_isDone _ _ ((sh_r 122) :: _) _ _
  refine xr_iload_n (n := 1) (i := 1) rfl (List.mem_of_getElem? (i := 1) rfl) (by decide +kernel) ?_
  obtain ⟨o, k⟩ := k
  refine xr_ialdN (j := kk) rfl rfl o (by decide +kernel) ?_
  refine xr_istore_n (n := 2) (i := 2) rfl (by decide) rfl (by decide +kernel) ?_
  refine xr_aload_n (n := 0) (i := 0) rfl (List.mem_of_getElem? (i := 1) rfl) (by decide +kernel) ?_
  refine xr_getR (o := 27) rfl fl_Mod_90 rfl (by decide +kernel) ?_
  show sh_X g (d + 1) m_Mod_isDone _ _ ((sh_r 123) :: _) _ _
  refine xr_iload_n (n := 1) (i := 1) rfl (List.mem_of_getElem? (i := 2) rfl) (by decide +kernel) ?_
  obtain ⟨o, k⟩ := k
  refine xr_ialdN (j := kk) rfl rfl o (by decide +kernel) ?_
  refine xr_istore_n (n := 3) (i := 3) rfl (by decide) rfl (by decide +kernel) ?_
  refine xr_aload_n (n := 0) (i := 0) rfl (List.mem_of_getElem? (i := 2) rfl) (by decide +kernel) ?_
  refine xr_getR (o := 28) rfl fl_Mod_93 rfl (by decide +kernel) ?_
  show sh_X g (d + 1) m_Mod_isDone _ _ ((sh_r 124) :: _) _ _
  refine xr_iload_n (n := 1) (i := 1) rfl (List.mem_of_getElem? (i := 3) rfl) (by decide +kernel) ?_
  obtain ⟨o, k⟩ := k
  refine xr_ialdN (j := kk) rfl rfl o (by decide +kernel) ?_
  refine xr_istore (i := 4) (by decide) rfl (by decide +kernel) ?_
  refine xr_iload_n (n := 2) (i := 2) rfl (List.mem_of_getElem? (i := 2) rfl) (by decide +kernel) ?_
  refine xr_if_ne (a' := (i3 (mem 122 kk))) rfl (off := 10) (tgt := 33) (by decide) (by decide +kernel) ⟨fun c1 => ?_, fun c1 => ?_⟩
  · have k := k.1 c1
    refine xr_iload_n (n := 2) (i := 2) rfl (List.mem_of_getElem? (i := 2) rfl) (by decide +kernel) ?_
    refine xr_iconst (n := 1) (by decide +kernel) ?_
    refine xr_icmp_ne (a' := (i3 (mem 122 kk))) (b' := 1) rfl (by decide) (off := 36) (tgt := 71) (by decide) (by decide +kernel) ⟨fun c2 => ?_, fun c2 => ?_⟩
    · have k := k.1 c2
      refine xr_aload_n (n := 0) (i := 0) rfl (List.mem_of_getElem? (i := 3) rfl) (by decide +kernel) ?_
      refine xr_iload_n (n := 3) (i := 3) rfl (List.mem_of_getElem? (i := 1) rfl) (by decide +kernel) ?_
      refine xr_callV (av := [(sh_i (mem 123 kk))]) rfl rfl rfl mo_Mod_canDeal ml_Mod_402 im_Mod_canDeal se_Mod_canDeal rfl (Nat.le_of_ble_eq_true rfl) (by decide +kernel) (sh_mono k ?_)
      rintro rv m1 ⟨r1, rfl, k⟩
      show sh_X g (d + 1) m_Mod_isDone _ _ [(sh_i r1)] _ _
      refine xr_if_eq (a' := (i3 r1)) rfl (off := 17) (tgt := 93) (by decide) (by decide +kernel) ⟨fun c3 => ?_, fun c3 => ?_⟩
      · have k := k.1 c3
        refine xr_iconst (n := 0) (by decide +kernel) ?_
        exact xr_zret rfl (by decide +kernel) (by decide) k
      · have k := k.2 c3
        refine xr_iload_n (n := 2) (i := 2) rfl (List.mem_of_getElem? (i := 2) rfl) (by decide +kernel) ?_
        refine xr_iconst (n := 4) (by decide +kernel) ?_
        refine xr_icmp_ne (a' := (i3 (mem 122 kk))) (b' := 4) rfl (by decide) (off := 14) (tgt := 95) (by decide) (by decide +kernel) ⟨fun c4 => ?_, fun c4 => ?_⟩
        · have k := k.1 c4
          refine xr_sub (lo' := [(0, (sh_r 96)), (1, (sh_i (kk : Int))), (2, (sh_i (mem 122 kk))), (3, (sh_i (mem 123 kk))), (4, (sh_i (mem 124 kk)))]) [3, 4, 2, 1, 0] rfl ?_
          exact k
        · have k := k.2 c4
          refine xr_aload_n (n := 0) (i := 0) rfl (List.mem_of_getElem? (i := 3) rfl) (by decide +kernel) ?_
          refine xr_iload (i := 4) (List.mem_of_getElem? (i := 0) rfl) (by decide +kernel) ?_
          refine xr_callV (av := [(sh_i (mem 124 kk))]) rfl rfl rfl mo_Mod_canDeal ml_Mod_402 im_Mod_canDeal se_Mod_canDeal rfl (Nat.le_of_ble_eq_true rfl) (by decide +kernel) (sh_mono k ?_)
          rintro rv m2 ⟨r2, rfl, k⟩
          show sh_X g (d + 1) m_Mod_isDone _ _ [(sh_i r2)] _ _
          refine xr_if_ne (a' := (i3 r2)) rfl (off := 5) (tgt := 95) (by decide) (by decide +kernel) ⟨fun c5 => ?_, fun c5 => ?_⟩
          · have k := k.1 c5
            refine xr_sub (lo' := [(0, (sh_r 96)), (1, (sh_i (kk : Int))), (2, (sh_i (mem 122 kk))), (3, (sh_i (mem 123 kk))), (4, (sh_i (mem 124 kk)))]) [3, 4, 2, 1, 0] rfl ?_
            exact k
          · have k := k.2 c5
            refine xr_iconst (n := 0) (by decide +kernel) ?_
            exact xr_zret rfl (by decide +kernel) (by decide) k
    · have k := k.2 c2
      refine xr_aload_n (n := 0) (i := 0) rfl (List.mem_of_getElem? (i := 3) rfl) (by decide +kernel) ?_
      refine xr_iload_n (n := 3) (i := 3) rfl (List.mem_of_getElem? (i := 1) rfl) (by decide +kernel) ?_
      refine xr_callV (av := [(sh_i (mem 123 kk))]) rfl rfl rfl mo_Mod_couldSteal ml_Mod_393 im_Mod_couldSteal se_Mod_couldSteal rfl (Nat.le_of_ble_eq_true rfl) (by decide +kernel) (sh_mono k ?_)
      rintro rv m3 ⟨r3, rfl, k⟩
      show sh_X g (d + 1) m_Mod_isDone _ _ [(sh_i r3)] _ _
      refine xr_if_eq (a' := (i3 r3)) rfl (off := 15) (tgt := 58) (by decide) (by decide +kernel) ⟨fun c6 => ?_, fun c6 => ?_⟩
      · have k := k.1 c6
        refine xr_iconst (n := 0) (by decide +kernel) ?_
        exact xr_zret rfl (by decide +kernel) (by decide) k
      · have k := k.2 c6
        refine xr_aload_n (n := 0) (i := 0) rfl (List.mem_of_getElem? (i := 3) rfl) (by decide +kernel) ?_
        refine xr_getR (o := 33) rfl fl_Mod_108 rfl (by decide +kernel) ?_
        show sh_X g (d + 1) m_Mod_isDone _ _ ((sh_r 129) :: _) _ _
        refine xr_iconst (n := 1) (by decide +kernel) ?_
        refine xr_iload (i := 4) (List.mem_of_getElem? (i := 0) rfl) (by decide +kernel) ?_
        refine xr_iadd (by decide +kernel) ?_
        show sh_X g (d + 1) m_Mod_isDone _ _ ((sh_i (1 + (mem 124 kk))) :: _) _ _
        obtain ⟨o, k⟩ := k
        refine xr_iald rfl o.1 o.2 (by decide +kernel) ?_
        refine xr_if_ne (a' := (i3 (m3 129 ((1 + (mem 124 kk))).toNat))) rfl (off := 5) (tgt := 60) (by decide) (by decide +kernel) ⟨fun c7 => ?_, fun c7 => ?_⟩
        · have k := k.1 c7
          refine xr_aload_n (n := 0) (i := 0) rfl (List.mem_of_getElem? (i := 3) rfl) (by decide +kernel) ?_
          refine xr_iload_n (n := 3) (i := 3) rfl (List.mem_of_getElem? (i := 1) rfl) (by decide +kernel) ?_
          refine xr_iload (i := 4) (List.mem_of_getElem? (i := 0) rfl) (by decide +kernel) ?_
          refine xr_callV (av := [(sh_i (mem 123 kk)), (sh_i (mem 124 kk))]) rfl rfl rfl mo_Mod_steals ml_Mod_399 im_Mod_steals se_Mod_steals rfl (Nat.le_of_ble_eq_true rfl) (by decide +kernel) (sh_mono k ?_)
          rintro rv m4 ⟨r4, rfl, k⟩
          show sh_X g (d + 1) m_Mod_isDone _ _ [(sh_i r4)] _ _
          refine xr_popI (by decide +kernel) ?_
          refine xr_goto (off := 62) (tgt := 130) (by decide) (by decide +kernel) ?_
          refine xr_iconst (n := 1) (by decide +kernel) ?_
          exact xr_zret rfl (by decide +kernel) (by decide) k
        · have k := k.2 c7
          refine xr_iconst (n := 0) (by decide +kernel) ?_
          exact xr_zret rfl (by decide +kernel) (by decide) k
  · have k := k.2 c1
    refine xr_aload_n (n := 0) (i := 0) rfl (List.mem_of_getElem? (i := 3) rfl) (by decide +kernel) ?_
    refine xr_callV (av := []) rfl rfl rfl mo_Mod_passes ml_Mod_414 im_Mod_passes se_Mod_passes rfl (Nat.le_of_ble_eq_true rfl) (by decide +kernel) (sh_mono k ?_)
    rintro rv m5 ⟨rfl, k⟩
    show sh_X g (d + 1) m_Mod_isDone _ _ [] _ _
    refine xr_goto (off := 100) (tgt := 130) (by decide) (by decide +kernel) ?_
    refine xr_iconst (n := 1) (by decide +kernel) ?_
    exact xr_zret rfl (by decide +kernel) (by decide) k
theorem v_Mod_isDone_95 {g : sh_G} {d : Nat} {kk : Nat}  {mem : sh_Mem} {Q : Option sh_V → sh_Mem → Prop}  {x2 : Int} {x3 : Int} {x4 : Int} (k : ((¬ (i3 x2) = 2 → ((¬ (i3 x2) = 3 → (sh_Cal g d m_Mod_swapsIt [(sh_r 96), (sh_i x3), (sh_i x4)] mem fun rv m1 => rv = none ∧ Q (some (sh_i 1)) m1)) ∧ ((i3 x2) = 3 → (sh_Cal g d m_Mod_spendsIt [(sh_r 96), (sh_i x3)] mem fun rv m2 => ∃ r1 : Int, rv = some (sh_i r1) ∧ Q (some (sh_i 1)) m2)))) ∧ ((i3 x2) = 2 → (sh_Cal g d m_Mod_sellsIt [(sh_r 96), (sh_i x3)] mem fun rv m3 => ∃ r2 : Int, rv = some (sh_i r2) ∧ Q (some (sh_i 1)) m3)))) : sh_X g (d + 1) m_Mod_isDone 95 [(0, (sh_r 96)), (1, (sh_i (kk : Int))), (2, (sh_i x2)), (3, (sh_i x3)), (4, (sh_i x4))] [] mem (sh_K m_Mod_isDone Q) := by
  refine xr_iload_n (n := 2) (i := 2) rfl (List.mem_of_getElem? (i := 2) rfl) (by decide +kernel) ?_
  refine xr_iconst (n := 2) (by decide +kernel) ?_
  refine xr_icmp_ne (a' := (i3 x2)) (b' := 2) rfl (by decide) (off := 12) (tgt := 109) (by decide) (by decide +kernel) ⟨fun c1 => ?_, fun c1 => ?_⟩
  · have k := k.1 c1
    refine xr_iload_n (n := 2) (i := 2) rfl (List.mem_of_getElem? (i := 2) rfl) (by decide +kernel) ?_
    refine xr_iconst (n := 3) (by decide +kernel) ?_
    refine xr_icmp_ne (a' := (i3 x2)) (b' := 3) rfl (by decide) (off := 12) (tgt := 123) (by decide) (by decide +kernel) ⟨fun c2 => ?_, fun c2 => ?_⟩
    · have k := k.1 c2
      refine xr_aload_n (n := 0) (i := 0) rfl (List.mem_of_getElem? (i := 0) rfl) (by decide +kernel) ?_
      refine xr_iload_n (n := 3) (i := 3) rfl (List.mem_of_getElem? (i := 3) rfl) (by decide +kernel) ?_
      refine xr_iload (i := 4) (List.mem_of_getElem? (i := 4) rfl) (by decide +kernel) ?_
      refine xr_callV (av := [(sh_i x3), (sh_i x4)]) rfl rfl rfl mo_Mod_swapsIt ml_Mod_411 im_Mod_swapsIt se_Mod_swapsIt rfl (Nat.le_of_ble_eq_true rfl) (by decide +kernel) (sh_mono k ?_)
      rintro rv m1 ⟨rfl, k⟩
      show sh_X g (d + 1) m_Mod_isDone _ _ [] _ _
      refine xr_iconst (n := 1) (by decide +kernel) ?_
      exact xr_zret rfl (by decide +kernel) (by decide) k
    · have k := k.2 c2
      refine xr_aload_n (n := 0) (i := 0) rfl (List.mem_of_getElem? (i := 0) rfl) (by decide +kernel) ?_
      refine xr_iload_n (n := 3) (i := 3) rfl (List.mem_of_getElem? (i := 3) rfl) (by decide +kernel) ?_
      refine xr_callV (av := [(sh_i x3)]) rfl rfl rfl mo_Mod_spendsIt ml_Mod_408 im_Mod_spendsIt se_Mod_spendsIt rfl (Nat.le_of_ble_eq_true rfl) (by decide +kernel) (sh_mono k ?_)
      rintro rv m2 ⟨r1, rfl, k⟩
      show sh_X g (d + 1) m_Mod_isDone _ _ [(sh_i r1)] _ _
      refine xr_popI (by decide +kernel) ?_
      refine xr_goto (off := 10) (tgt := 130) (by decide) (by decide +kernel) ?_
      refine xr_iconst (n := 1) (by decide +kernel) ?_
      exact xr_zret rfl (by decide +kernel) (by decide) k
  · have k := k.2 c1
    refine xr_aload_n (n := 0) (i := 0) rfl (List.mem_of_getElem? (i := 0) rfl) (by decide +kernel) ?_
    refine xr_iload_n (n := 3) (i := 3) rfl (List.mem_of_getElem? (i := 3) rfl) (by decide +kernel) ?_
    refine xr_callV (av := [(sh_i x3)]) rfl rfl rfl mo_Mod_sellsIt ml_Mod_405 im_Mod_sellsIt se_Mod_sellsIt rfl (Nat.le_of_ble_eq_true rfl) (by decide +kernel) (sh_mono k ?_)
    rintro rv m3 ⟨r2, rfl, k⟩
    show sh_X g (d + 1) m_Mod_isDone _ _ [(sh_i r2)] _ _
    refine xr_popI (by decide +kernel) ?_
    refine xr_goto (off := 24) (tgt := 130) (by decide) (by decide +kernel) ?_
    refine xr_iconst (n := 1) (by decide +kernel) ?_
    exact xr_zret rfl (by decide +kernel) (by decide) k

theorem v_Mod_judged {g : sh_G} {d : Nat} {what : Int}  {mem : sh_Mem} {Q : Option sh_V → sh_Mem → Prop}  (k : (∀ m1 : sh_Mem, m1 = ms mem 96 (ru (mem 96) 0 0) → (sh_Cal g d m_Mod_within [(sh_i what), (sh_i 0), (sh_i 2)] m1 fun rv m2 => ∃ r1 : Int, rv = some (sh_i r1) ∧ ((¬ (i3 r1) = 0 → (sh_Cal g d m_Mod_copies [(sh_r 129), (sh_i 0), (sh_r 130), (sh_i 0)] m2 fun rv m3 => rv = none ∧ (sh_Cal g d m_Mod_fresh0 [(sh_r 96)] m3 fun rv m4 => rv = none ∧ sh_X g (d + 1) m_Mod_judged 41 [(0, (sh_r 96)), (1, (sh_i what)), (2, (sh_i (-1))), (3, (sh_i (-1))), (4, (sh_i 0))] [] m4 (sh_K m_Mod_judged Q)))) ∧ ((i3 r1) = 0 → Q (some (sh_i (-2))) m2))))) : sh_Cal g (d + 1) m_Mod_judged [(sh_r 96), (sh_i what)] mem Q := by
  refine sh_met (by decide +kernel) (Nat.le_of_ble_eq_true rfl) (lo := [(0, (sh_r 96)), (1, (sh_i what))]) rfl ?_
  refine xr_aload_n (n := 0) (i := 0) rfl (List.mem_of_getElem? (i := 0) rfl) (by decide +kernel) ?_
  refine xr_iconst (n := 0) (by decide +kernel) ?_
  refine xr_putI rfl pl_Mod_141 rfl (by decide +kernel) ?_
  have k := k _ rfl
  generalize hg_m1 : ms mem 96 (ru (mem 96) 0 0) = m1 at k ⊢
  refine xr_iload_n (n := 1) (i := 1) rfl (List.mem_of_getElem? (i := 1) rfl) (by decide +kernel) ?_
  refine xr_iconst (n := 0) (by decide +kernel) ?_
  refine xr_iconst (n := 2) (by decide +kernel) ?_
  refine xr_callS (av := [(sh_i what), (sh_i 0), (sh_i 2)]) mo_Mod_within ml_Mod_264 sa_Mod_within rfl (Nat.le_of_ble_eq_true rfl) (by decide +kernel) (sh_mono k ?_)
  rintro rv m2 ⟨r1, rfl, k⟩
  show sh_X g (d + 1) m_Mod_judged _ _ [(sh_i r1)] _ _
  refine xr_if_ne (a' := (i3 r1)) rfl (off := 6) (tgt := 17) (by decide) (by decide +kernel) ⟨fun c1 => ?_, fun c1 => ?_⟩
  · have k := k.1 c1
    refine xr_aload_n (n := 0) (i := 0) rfl (List.mem_of_getElem? (i := 0) rfl) (by decide +kernel) ?_
    refine xr_getR (o := 33) rfl fl_Mod_108 rfl (by decide +kernel) ?_
    show sh_X g (d + 1) m_Mod_judged _ _ ((sh_r 129) :: _) _ _
    refine xr_iconst (n := 0) (by decide +kernel) ?_
    refine xr_aload_n (n := 0) (i := 0) rfl (List.mem_of_getElem? (i := 0) rfl) (by decide +kernel) ?_
    refine xr_getR (o := 34) rfl fl_Mod_111 rfl (by decide +kernel) ?_
    show sh_X g (d + 1) m_Mod_judged _ _ ((sh_r 130) :: _) _ _
    refine xr_iconst (n := 0) (by decide +kernel) ?_
    refine xr_callS (av := [(sh_r 129), (sh_i 0), (sh_r 130), (sh_i 0)]) mo_Mod_copies ml_Mod_389 sa_Mod_copies rfl (Nat.le_of_ble_eq_true rfl) (by decide +kernel) (sh_mono k ?_)
    rintro rv m3 ⟨rfl, k⟩
    show sh_X g (d + 1) m_Mod_judged _ _ [] _ _
    refine xr_aload_n (n := 0) (i := 0) rfl (List.mem_of_getElem? (i := 0) rfl) (by decide +kernel) ?_
    refine xr_callV (av := []) rfl rfl rfl mo_Mod_fresh0 ml_Mod_138 im_Mod_fresh0 se_Mod_fresh0 rfl (Nat.le_of_ble_eq_true rfl) (by decide +kernel) (sh_mono k ?_)
    rintro rv m4 ⟨rfl, k⟩
    show sh_X g (d + 1) m_Mod_judged _ _ [] _ _
    refine xr_iconst (n := (-1)) (by decide +kernel) ?_
    refine xr_istore_n (n := 2) (i := 2) rfl (by decide) rfl (by decide +kernel) ?_
    refine xr_iconst (n := (-1)) (by decide +kernel) ?_
    refine xr_istore_n (n := 3) (i := 3) rfl (by decide) rfl (by decide +kernel) ?_
    refine xr_iconst (n := 0) (by decide +kernel) ?_
    refine xr_istore (i := 4) (by decide) rfl (by decide +kernel) ?_
    refine xr_sub (lo' := [(0, (sh_r 96)), (1, (sh_i what)), (2, (sh_i (-1))), (3, (sh_i (-1))), (4, (sh_i 0))]) [3, 4, 2, 1, 0] rfl ?_
    exact k
  · have k := k.2 c1
    refine xr_bipush (n := (-2)) (v := (-2)) (by decide) (by decide +kernel) ?_
    exact xr_iret rfl (by decide +kernel) k
theorem v_Mod_judged_41 {g : sh_G} {d : Nat} {what : Int}  {mem : sh_Mem} {Q : Option sh_V → sh_Mem → Prop}  {x2 : Int} {x3 : Int} {x4 : Int} (k : (((i3 (mem 121 0)) ≤ (i3 x4) → (sh_Cal g d m_Mod_sumOf [(sh_r 96), (sh_i 41), (sh_i 4)] mem fun rv m1 => ∃ r1 : Int, rv = some (sh_i r1) ∧ (sh_Cal g d m_Mod_copies [(sh_r 130), (sh_i 0), (sh_r 129), (sh_i 0)] m1 fun rv m2 => rv = none ∧ ((¬ (i3 what) = 0 → ((¬ (i3 what) = 1 → Q (some (sh_i r1)) m2) ∧ ((i3 what) = 1 → Q (some (sh_i x3)) m2))) ∧ ((i3 what) = 0 → Q (some (sh_i x2)) m2))))) ∧ (¬ (i3 (mem 121 0)) ≤ (i3 x4) → (sh_Cal g d m_Mod_isDone [(sh_r 96), (sh_i x4)] mem fun rv m3 => ∃ r2 : Int, rv = some (sh_i r2) ∧ ((¬ (i3 r2) = 0 → sh_X g (d + 1) m_Mod_judged 68 [(0, (sh_r 96)), (1, (sh_i what)), (2, (sh_i x2)), (3, (sh_i x3)), (4, (sh_i x4))] [] m3 (sh_K m_Mod_judged Q)) ∧ ((i3 r2) = 0 → ((0 ≤ (i3 x2) → sh_X g (d + 1) m_Mod_judged 68 [(0, (sh_r 96)), (1, (sh_i what)), (2, (sh_i x2)), (3, (sh_i x3)), (4, (sh_i x4))] [] m3 (sh_K m_Mod_judged Q)) ∧ (¬ 0 ≤ (i3 x2) → sh_X g (d + 1) m_Mod_judged 68 [(0, (sh_r 96)), (1, (sh_i what)), (2, (sh_i x4)), (3, (sh_i x3)), (4, (sh_i x4))] [] m3 (sh_K m_Mod_judged Q))))))))) : sh_X g (d + 1) m_Mod_judged 41 [(0, (sh_r 96)), (1, (sh_i what)), (2, (sh_i x2)), (3, (sh_i x3)), (4, (sh_i x4))] [] mem (sh_K m_Mod_judged Q) := by
  refine xr_iload (i := 4) (List.mem_of_getElem? (i := 4) rfl) (by decide +kernel) ?_
  refine xr_aload_n (n := 0) (i := 0) rfl (List.mem_of_getElem? (i := 0) rfl) (by decide +kernel) ?_
  refine xr_getR (o := 25) rfl fl_Mod_84 rfl (by decide +kernel) ?_
  show sh_X g (d + 1) m_Mod_judged _ _ ((sh_r 121) :: _) _ _
  refine xr_iconst (n := 0) (by decide +kernel) ?_
  refine xr_ialdN (j := 0) rfl rfl (by decide) (by decide +kernel) ?_
  refine xr_icmp_ge (a' := (i3 x4)) (b' := (i3 (mem 121 0))) rfl rfl (off := 39) (tgt := 88) (by decide) (by decide +kernel) ⟨fun c1 => ?_, fun c1 => ?_⟩
  · have k := k.1 c1
    refine xr_aload_n (n := 0) (i := 0) rfl (List.mem_of_getElem? (i := 0) rfl) (by decide +kernel) ?_
    refine xr_bipush (n := 41) (v := 41) (by decide) (by decide +kernel) ?_
    refine xr_iconst (n := 4) (by decide +kernel) ?_
    refine xr_callV (av := [(sh_i 41), (sh_i 4)]) rfl rfl rfl mo_Mod_sumOf ml_Mod_426 im_Mod_sumOf se_Mod_sumOf rfl (Nat.le_of_ble_eq_true rfl) (by decide +kernel) (sh_mono k ?_)
    rintro rv m1 ⟨r1, rfl, k⟩
    show sh_X g (d + 1) m_Mod_judged _ _ [(sh_i r1)] _ _
    refine xr_istore (i := 4) (by decide) rfl (by decide +kernel) ?_
    refine xr_aload_n (n := 0) (i := 0) rfl (List.mem_of_getElem? (i := 1) rfl) (by decide +kernel) ?_
    refine xr_getR (o := 34) rfl fl_Mod_111 rfl (by decide +kernel) ?_
    show sh_X g (d + 1) m_Mod_judged _ _ ((sh_r 130) :: _) _ _
    refine xr_iconst (n := 0) (by decide +kernel) ?_
    refine xr_aload_n (n := 0) (i := 0) rfl (List.mem_of_getElem? (i := 1) rfl) (by decide +kernel) ?_
    refine xr_getR (o := 33) rfl fl_Mod_108 rfl (by decide +kernel) ?_
    show sh_X g (d + 1) m_Mod_judged _ _ ((sh_r 129) :: _) _ _
    refine xr_iconst (n := 0) (by decide +kernel) ?_
    refine xr_callS (av := [(sh_r 130), (sh_i 0), (sh_r 129), (sh_i 0)]) mo_Mod_copies ml_Mod_389 sa_Mod_copies rfl (Nat.le_of_ble_eq_true rfl) (by decide +kernel) (sh_mono k ?_)
    rintro rv m2 ⟨rfl, k⟩
    show sh_X g (d + 1) m_Mod_judged _ _ [] _ _
    refine xr_iload_n (n := 1) (i := 1) rfl (List.mem_of_getElem? (i := 2) rfl) (by decide +kernel) ?_
    refine xr_if_ne (a' := (i3 what)) rfl (off := 7) (tgt := 118) (by decide) (by decide +kernel) ⟨fun c2 => ?_, fun c2 => ?_⟩
    · have k := k.1 c2
      refine xr_iload_n (n := 1) (i := 1) rfl (List.mem_of_getElem? (i := 2) rfl) (by decide +kernel) ?_
      refine xr_iconst (n := 1) (by decide +kernel) ?_
      refine xr_icmp_ne (a' := (i3 what)) (b' := 1) rfl (by decide) (off := 7) (tgt := 127) (by decide) (by decide +kernel) ⟨fun c3 => ?_, fun c3 => ?_⟩
      · have k := k.1 c3
        refine xr_iload (i := 4) (List.mem_of_getElem? (i := 0) rfl) (by decide +kernel) ?_
        exact xr_iret rfl (by decide +kernel) k
      · have k := k.2 c3
        refine xr_iload_n (n := 3) (i := 3) rfl (List.mem_of_getElem? (i := 4) rfl) (by decide +kernel) ?_
        refine xr_goto (off := 5) (tgt := 129) (by decide) (by decide +kernel) ?_
        exact xr_iret rfl (by decide +kernel) k
    · have k := k.2 c2
      refine xr_iload_n (n := 2) (i := 2) rfl (List.mem_of_getElem? (i := 3) rfl) (by decide +kernel) ?_
      refine xr_goto (off := 14) (tgt := 129) (by decide) (by decide +kernel) ?_
      exact xr_iret rfl (by decide +kernel) k
  · have k := k.2 c1
    refine xr_aload_n (n := 0) (i := 0) rfl (List.mem_of_getElem? (i := 0) rfl) (by decide +kernel) ?_
    refine xr_iload (i := 4) (List.mem_of_getElem? (i := 4) rfl) (by decide +kernel) ?_
    refine xr_callV (av := [(sh_i x4)]) rfl rfl rfl mo_Mod_isDone ml_Mod_420 im_Mod_isDone se_Mod_isDone rfl (Nat.le_of_ble_eq_true rfl) (by decide +kernel) (sh_mono k ?_)
    rintro rv m3 ⟨r2, rfl, k⟩
    show sh_X g (d + 1) m_Mod_judged _ _ [(sh_i r2)] _ _
    refine xr_if_ne (a' := (i3 r2)) rfl (off := 10) (tgt := 68) (by decide) (by decide +kernel) ⟨fun c4 => ?_, fun c4 => ?_⟩
    · have k := k.1 c4
      refine xr_sub (lo' := [(0, (sh_r 96)), (1, (sh_i what)), (2, (sh_i x2)), (3, (sh_i x3)), (4, (sh_i x4))]) [0, 1, 2, 3, 4] rfl ?_
      exact k
    · have k := k.2 c4
      refine xr_iload_n (n := 2) (i := 2) rfl (List.mem_of_getElem? (i := 2) rfl) (by decide +kernel) ?_
      refine xr_if_ge (a' := (i3 x2)) rfl (off := 6) (tgt := 68) (by decide) (by decide +kernel) ⟨fun c5 => ?_, fun c5 => ?_⟩
      · have k := k.1 c5
        refine xr_sub (lo' := [(0, (sh_r 96)), (1, (sh_i what)), (2, (sh_i x2)), (3, (sh_i x3)), (4, (sh_i x4))]) [0, 1, 2, 3, 4] rfl ?_
        exact k
      · have k := k.2 c5
        refine xr_iload (i := 4) (List.mem_of_getElem? (i := 4) rfl) (by decide +kernel) ?_
        refine xr_istore_n (n := 2) (i := 2) rfl (by decide) rfl (by decide +kernel) ?_
        refine xr_sub (lo' := [(0, (sh_r 96)), (1, (sh_i what)), (2, (sh_i x4)), (3, (sh_i x3)), (4, (sh_i x4))]) [1, 2, 0, 3, 4] rfl ?_
        exact k
theorem v_Mod_judged_68 {g : sh_G} {d : Nat} {what : Int}  {mem : sh_Mem} {Q : Option sh_V → sh_Mem → Prop}  {x2 : Int} {x3 : Int} {x4 : Int} (k : (sh_Cal g d m_Mod_caughtOnes [(sh_r 96)] mem fun rv m1 => ∃ r1 : Int, rv = some (sh_i r1) ∧ (((i3 r1) = 0 → sh_X g (d + 1) m_Mod_judged 41 [(0, (sh_r 96)), (1, (sh_i what)), (2, (sh_i x2)), (3, (sh_i x3)), (4, (sh_i (x4 + 1)))] [] m1 (sh_K m_Mod_judged Q)) ∧ (¬ (i3 r1) = 0 → ((0 ≤ (i3 x3) → sh_X g (d + 1) m_Mod_judged 41 [(0, (sh_r 96)), (1, (sh_i what)), (2, (sh_i x2)), (3, (sh_i x3)), (4, (sh_i (x4 + 1)))] [] m1 (sh_K m_Mod_judged Q)) ∧ (¬ 0 ≤ (i3 x3) → sh_X g (d + 1) m_Mod_judged 41 [(0, (sh_r 96)), (1, (sh_i what)), (2, (sh_i x2)), (3, (sh_i x4)), (4, (sh_i (x4 + 1)))] [] m1 (sh_K m_Mod_judged Q))))))) : sh_X g (d + 1) m_Mod_judged 68 [(0, (sh_r 96)), (1, (sh_i what)), (2, (sh_i x2)), (3, (sh_i x3)), (4, (sh_i x4))] [] mem (sh_K m_Mod_judged Q) := by
  refine xr_aload_n (n := 0) (i := 0) rfl (List.mem_of_getElem? (i := 0) rfl) (by decide +kernel) ?_
  refine xr_callV (av := []) rfl rfl rfl mo_Mod_caughtOnes ml_Mod_423 im_Mod_caughtOnes se_Mod_caughtOnes rfl (Nat.le_of_ble_eq_true rfl) (by decide +kernel) (sh_mono k ?_)
  rintro rv m1 ⟨r1, rfl, k⟩
  show sh_X g (d + 1) m_Mod_judged _ _ [(sh_i r1)] _ _
  refine xr_if_eq (a' := (i3 r1)) rfl (off := 10) (tgt := 82) (by decide) (by decide +kernel) ⟨fun c1 => ?_, fun c1 => ?_⟩
  · have k := k.1 c1
    refine xr_iinc (n := 1) (lo' := [(4, (sh_i (x4 + 1))), (0, (sh_r 96)), (1, (sh_i what)), (2, (sh_i x2)), (3, (sh_i x3))]) (List.mem_of_getElem? (i := 4) rfl) (by decide) rfl (by decide +kernel) ?_
    refine xr_goto (off := (-44)) (tgt := 41) (by decide) (by decide +kernel) ?_
    refine xr_sub (lo' := [(0, (sh_r 96)), (1, (sh_i what)), (2, (sh_i x2)), (3, (sh_i x3)), (4, (sh_i (x4 + 1)))]) [1, 2, 3, 4, 0] rfl ?_
    exact k
  · have k := k.2 c1
    refine xr_iload_n (n := 3) (i := 3) rfl (List.mem_of_getElem? (i := 3) rfl) (by decide +kernel) ?_
    refine xr_if_ge (a' := (i3 x3)) rfl (off := 6) (tgt := 82) (by decide) (by decide +kernel) ⟨fun c2 => ?_, fun c2 => ?_⟩
    · have k := k.1 c2
      refine xr_iinc (n := 1) (lo' := [(4, (sh_i (x4 + 1))), (0, (sh_r 96)), (1, (sh_i what)), (2, (sh_i x2)), (3, (sh_i x3))]) (List.mem_of_getElem? (i := 4) rfl) (by decide) rfl (by decide +kernel) ?_
      refine xr_goto (off := (-44)) (tgt := 41) (by decide) (by decide +kernel) ?_
      refine xr_sub (lo' := [(0, (sh_r 96)), (1, (sh_i what)), (2, (sh_i x2)), (3, (sh_i x3)), (4, (sh_i (x4 + 1)))]) [1, 2, 3, 4, 0] rfl ?_
      exact k
    · have k := k.2 c2
      refine xr_iload (i := 4) (List.mem_of_getElem? (i := 4) rfl) (by decide +kernel) ?_
      refine xr_istore_n (n := 3) (i := 3) rfl (by decide) rfl (by decide +kernel) ?_
      refine xr_iinc (n := 1) (lo' := [(4, (sh_i (x4 + 1))), (3, (sh_i x4)), (0, (sh_r 96)), (1, (sh_i what)), (2, (sh_i x2))]) (List.mem_of_getElem? (i := 4) rfl) (by decide) rfl (by decide +kernel) ?_
      refine xr_goto (off := (-44)) (tgt := 41) (by decide) (by decide +kernel) ?_
      refine xr_sub (lo' := [(0, (sh_r 96)), (1, (sh_i what)), (2, (sh_i x2)), (3, (sh_i x4)), (4, (sh_i (x4 + 1)))]) [2, 3, 4, 1, 0] rfl ?_
      exact k

theorem v_Mod_canOf {g : sh_G} {d : Nat} {t : Nat}  {mem : sh_Mem} {Q : Option sh_V → sh_Mem → Prop}  (k : sh_X g (d + 1) m_Mod_canOf 4 [(0, (sh_r 96)), (1, (sh_i (t : Int))), (2, (sh_i 0)), (3, (sh_i 0))] [] mem (sh_K m_Mod_canOf Q)) : sh_Cal g (d + 1) m_Mod_canOf [(sh_r 96), (sh_i (t : Int))] mem Q := by
  refine sh_met (by decide +kernel) (Nat.le_of_ble_eq_true rfl) (lo := [(0, (sh_r 96)), (1, (sh_i (t : Int)))]) rfl ?_
  refine xr_iconst (n := 0) (by decide +kernel) ?_
  refine xr_istore_n (n := 2) (i := 2) rfl (by decide) rfl (by decide +kernel) ?_
  refine xr_iconst (n := 0) (by decide +kernel) ?_
  refine xr_istore_n (n := 3) (i := 3) rfl (by decide) rfl (by decide +kernel) ?_
  refine xr_sub (lo' := [(0, (sh_r 96)), (1, (sh_i (t : Int))), (2, (sh_i 0)), (3, (sh_i 0))]) [2, 3, 1, 0] rfl ?_
  exact k
theorem v_Mod_canOf_4 {g : sh_G} {d : Nat} {t : Nat}  {mem : sh_Mem} {Q : Option sh_V → sh_Mem → Prop}  {x2 : Int} {x3 : Nat} (k : (((i3 (mem 98 0)) ≤ (i3 (x3 : Int)) → Q (some (sh_i x2)) mem) ∧ (¬ (i3 (mem 98 0)) ≤ (i3 (x3 : Int)) → (sh_Cal g d m_Mod_couldSteal [(sh_r 96), (sh_i (t : Int))] mem fun rv m1 => ∃ r1 : Int, rv = some (sh_i r1) ∧ (((i3 r1) = 0 → sh_X g (d + 1) m_Mod_canOf 4 [(0, (sh_r 96)), (1, (sh_i (t : Int))), (2, (sh_i (i_or x2 0))), (3, (sh_i (((x3 + 1) : Nat) : Int)))] [] m1 (sh_K m_Mod_canOf Q)) ∧ (¬ (i3 r1) = 0 → (sh_Cal g d m_Mod_isOpen [(sh_r 96), (sh_i (t : Int)), (sh_i (x3 : Int))] m1 fun rv m2 => ∃ r2 : Int, rv = some (sh_i r2) ∧ (((i3 r2) = 0 → sh_X g (d + 1) m_Mod_canOf 4 [(0, (sh_r 96)), (1, (sh_i (t : Int))), (2, (sh_i (i_or x2 0))), (3, (sh_i (((x3 + 1) : Nat) : Int)))] [] m2 (sh_K m_Mod_canOf Q)) ∧ (¬ (i3 r2) = 0 → sh_X g (d + 1) m_Mod_canOf 4 [(0, (sh_r 96)), (1, (sh_i (t : Int))), (2, (sh_i (i_or x2 (i_shl 1 (x3 : Int))))), (3, (sh_i (((x3 + 1) : Nat) : Int)))] [] m2 (sh_K m_Mod_canOf Q)))))))))) : sh_X g (d + 1) m_Mod_canOf 4 [(0, (sh_r 96)), (1, (sh_i (t : Int))), (2, (sh_i x2)), (3, (sh_i (x3 : Int)))] [] mem (sh_K m_Mod_canOf Q) := by
  refine xr_iload_n (n := 3) (i := 3) rfl (List.mem_of_getElem? (i := 3) rfl) (by decide +kernel) ?_
  refine xr_aload_n (n := 0) (i := 0) rfl (List.mem_of_getElem? (i := 0) rfl) (by decide +kernel) ?_
  refine xr_getR (o := 2) rfl fl_Mod_13 rfl (by decide +kernel) ?_
  show sh_X g (d + 1) m_Mod_canOf _ _ ((sh_r 98) :: _) _ _
  refine xr_iconst (n := 0) (by decide +kernel) ?_
  refine xr_ialdN (j := 0) rfl rfl (by decide) (by decide +kernel) ?_
  refine xr_icmp_ge (a' := (i3 (x3 : Int))) (b' := (i3 (mem 98 0))) rfl rfl (off := 36) (tgt := 47) (by decide) (by decide +kernel) ⟨fun c1 => ?_, fun c1 => ?_⟩
  · have k := k.1 c1
    refine xr_iload_n (n := 2) (i := 2) rfl (List.mem_of_getElem? (i := 2) rfl) (by decide +kernel) ?_
    exact xr_iret rfl (by decide +kernel) k
  · have k := k.2 c1
    refine xr_iload_n (n := 2) (i := 2) rfl (List.mem_of_getElem? (i := 2) rfl) (by decide +kernel) ?_
    refine xr_aload_n (n := 0) (i := 0) rfl (List.mem_of_getElem? (i := 0) rfl) (by decide +kernel) ?_
    refine xr_iload_n (n := 1) (i := 1) rfl (List.mem_of_getElem? (i := 1) rfl) (by decide +kernel) ?_
    refine xr_callV (av := [(sh_i (t : Int))]) rfl rfl rfl mo_Mod_couldSteal ml_Mod_393 im_Mod_couldSteal se_Mod_couldSteal rfl (Nat.le_of_ble_eq_true rfl) (by decide +kernel) (sh_mono k ?_)
    rintro rv m1 ⟨r1, rfl, k⟩
    show sh_X g (d + 1) m_Mod_canOf _ _ [(sh_i r1), (sh_i x2)] _ _
    refine xr_if_eq (a' := (i3 r1)) rfl (off := 18) (tgt := 38) (by decide) (by decide +kernel) ⟨fun c2 => ?_, fun c2 => ?_⟩
    · have k := k.1 c2
      refine xr_iconst (n := 0) (by decide +kernel) ?_
      refine xr_ior (by decide +kernel) ?_
      refine xr_istore_n (n := 2) (i := 2) rfl (by decide) rfl (by decide +kernel) ?_
      refine xr_iinc (n := 1) (lo' := [(3, (sh_i (((x3 + 1) : Nat) : Int))), (2, (sh_i (i_or x2 0))), (0, (sh_r 96)), (1, (sh_i (t : Int)))]) (List.mem_of_getElem? (i := 3) rfl) (by decide) rfl (by decide +kernel) ?_
      refine xr_goto (off := (-40)) (tgt := 4) (by decide) (by decide +kernel) ?_
      refine xr_sub (lo' := [(0, (sh_r 96)), (1, (sh_i (t : Int))), (2, (sh_i (i_or x2 0))), (3, (sh_i (((x3 + 1) : Nat) : Int)))]) [2, 3, 1, 0] rfl ?_
      exact k
    · have k := k.2 c2
      refine xr_aload_n (n := 0) (i := 0) rfl (List.mem_of_getElem? (i := 0) rfl) (by decide +kernel) ?_
      refine xr_iload_n (n := 1) (i := 1) rfl (List.mem_of_getElem? (i := 1) rfl) (by decide +kernel) ?_
      refine xr_iload_n (n := 3) (i := 3) rfl (List.mem_of_getElem? (i := 3) rfl) (by decide +kernel) ?_
      refine xr_callV (av := [(sh_i (t : Int)), (sh_i (x3 : Int))]) rfl rfl rfl mo_Mod_isOpen ml_Mod_349 im_Mod_isOpen se_Mod_isOpen rfl (Nat.le_of_ble_eq_true rfl) (by decide +kernel) (sh_mono k ?_)
      rintro rv m2 ⟨r2, rfl, k⟩
      show sh_X g (d + 1) m_Mod_canOf _ _ [(sh_i r2), (sh_i x2)] _ _
      refine xr_if_eq (a' := (i3 r2)) rfl (off := 9) (tgt := 38) (by decide) (by decide +kernel) ⟨fun c3 => ?_, fun c3 => ?_⟩
      · have k := k.1 c3
        refine xr_iconst (n := 0) (by decide +kernel) ?_
        refine xr_ior (by decide +kernel) ?_
        refine xr_istore_n (n := 2) (i := 2) rfl (by decide) rfl (by decide +kernel) ?_
        refine xr_iinc (n := 1) (lo' := [(3, (sh_i (((x3 + 1) : Nat) : Int))), (2, (sh_i (i_or x2 0))), (0, (sh_r 96)), (1, (sh_i (t : Int)))]) (List.mem_of_getElem? (i := 3) rfl) (by decide) rfl (by decide +kernel) ?_
        refine xr_goto (off := (-40)) (tgt := 4) (by decide) (by decide +kernel) ?_
        refine xr_sub (lo' := [(0, (sh_r 96)), (1, (sh_i (t : Int))), (2, (sh_i (i_or x2 0))), (3, (sh_i (((x3 + 1) : Nat) : Int)))]) [2, 3, 1, 0] rfl ?_
        exact k
      · have k := k.2 c3
        refine xr_iconst (n := 1) (by decide +kernel) ?_
        refine xr_iload_n (n := 3) (i := 3) rfl (List.mem_of_getElem? (i := 3) rfl) (by decide +kernel) ?_
        refine xr_ishl (by decide +kernel) ?_
        refine xr_goto (off := 4) (tgt := 39) (by decide) (by decide +kernel) ?_
        refine xr_ior (by decide +kernel) ?_
        refine xr_istore_n (n := 2) (i := 2) rfl (by decide) rfl (by decide +kernel) ?_
        refine xr_iinc (n := 1) (lo' := [(3, (sh_i (((x3 + 1) : Nat) : Int))), (2, (sh_i (i_or x2 (i_shl 1 (x3 : Int))))), (0, (sh_r 96)), (1, (sh_i (t : Int)))]) (List.mem_of_getElem? (i := 3) rfl) (by decide) rfl (by decide +kernel) ?_
        refine xr_goto (off := (-40)) (tgt := 4) (by decide) (by decide +kernel) ?_
        refine xr_sub (lo' := [(0, (sh_r 96)), (1, (sh_i (t : Int))), (2, (sh_i (i_or x2 (i_shl 1 (x3 : Int))))), (3, (sh_i (((x3 + 1) : Nat) : Int)))]) [2, 3, 1, 0] rfl ?_
        exact k

theorem v_Mod_can {g : sh_G} {d : Nat} {thief : Int}  {mem : sh_Mem} {Q : Option sh_V → sh_Mem → Prop}  (k : (∀ m1 : sh_Mem, m1 = ms mem 96 (ru (mem 96) 0 0) → (sh_Cal g d m_Mod_isThief [(sh_r 96), (sh_i thief)] m1 fun rv m2 => ∃ r1 : Int, rv = some (sh_i r1) ∧ (((i3 r1) = 0 → Q (some (sh_i (-1))) m2) ∧ (¬ (i3 r1) = 0 → (sh_Cal g d m_Mod_canOf [(sh_r 96), (sh_i thief)] m2 fun rv m3 => ∃ r2 : Int, rv = some (sh_i r2) ∧ Q (some (sh_i r2)) m3)))))) : sh_Cal g (d + 1) m_Mod_can [(sh_r 96), (sh_i thief)] mem Q := by
  refine sh_met (by decide +kernel) (Nat.le_of_ble_eq_true rfl) (lo := [(0, (sh_r 96)), (1, (sh_i thief))]) rfl ?_
  refine xr_aload_n (n := 0) (i := 0) rfl (List.mem_of_getElem? (i := 0) rfl) (by decide +kernel) ?_
  refine xr_iconst (n := 0) (by decide +kernel) ?_
  refine xr_putI rfl pl_Mod_141 rfl (by decide +kernel) ?_
  have k := k _ rfl
  generalize hg_m1 : ms mem 96 (ru (mem 96) 0 0) = m1 at k ⊢
  refine xr_aload_n (n := 0) (i := 0) rfl (List.mem_of_getElem? (i := 0) rfl) (by decide +kernel) ?_
  refine xr_iload_n (n := 1) (i := 1) rfl (List.mem_of_getElem? (i := 1) rfl) (by decide +kernel) ?_
  refine xr_callV (av := [(sh_i thief)]) rfl rfl rfl mo_Mod_isThief ml_Mod_386 im_Mod_isThief se_Mod_isThief rfl (Nat.le_of_ble_eq_true rfl) (by decide +kernel) (sh_mono k ?_)
  rintro rv m2 ⟨r1, rfl, k⟩
  show sh_X g (d + 1) m_Mod_can _ _ [(sh_i r1)] _ _
  refine xr_if_eq (a' := (i3 r1)) rfl (off := 11) (tgt := 21) (by decide) (by decide +kernel) ⟨fun c1 => ?_, fun c1 => ?_⟩
  · have k := k.1 c1
    refine xr_iconst (n := (-1)) (by decide +kernel) ?_
    exact xr_iret rfl (by decide +kernel) k
  · have k := k.2 c1
    refine xr_aload_n (n := 0) (i := 0) rfl (List.mem_of_getElem? (i := 0) rfl) (by decide +kernel) ?_
    refine xr_iload_n (n := 1) (i := 1) rfl (List.mem_of_getElem? (i := 1) rfl) (by decide +kernel) ?_
    refine xr_callV (av := [(sh_i thief)]) rfl rfl rfl mo_Mod_canOf ml_Mod_429 im_Mod_canOf se_Mod_canOf rfl (Nat.le_of_ble_eq_true rfl) (by decide +kernel) (sh_mono k ?_)
    rintro rv m3 ⟨r2, rfl, k⟩
    show sh_X g (d + 1) m_Mod_can _ _ [(sh_i r2)] _ _
    refine xr_goto (off := 4) (tgt := 22) (by decide) (by decide +kernel) ?_
    exact xr_iret rfl (by decide +kernel) k

theorem v_Mod_haul {g : sh_G} {d : Nat} {thief : Int} {day : Int}  {mem : sh_Mem} {Q : Option sh_V → sh_Mem → Prop}  (k : (∀ m1 : sh_Mem, m1 = ms mem 96 (ru (mem 96) 0 0) → (sh_Cal g d m_Mod_isThief [(sh_r 96), (sh_i thief)] m1 fun rv m2 => ∃ r1 : Int, rv = some (sh_i r1) ∧ (((i3 r1) = 0 → Q (some (sh_i (-1))) m2) ∧ (¬ (i3 r1) = 0 → (sh_Cal g d m_Mod_isDay [(sh_r 96), (sh_i day)] m2 fun rv m3 => ∃ r2 : Int, rv = some (sh_i r2) ∧ (((i3 r2) = 0 → Q (some (sh_i (-1))) m3) ∧ (¬ (i3 r2) = 0 → (sh_Cal g d m_Mod_couldSteal [(sh_r 96), (sh_i thief)] m3 fun rv m4 => ∃ r3 : Int, rv = some (sh_i r3) ∧ (((i3 r3) = 0 → Q (some (sh_i (-1))) m4) ∧ (¬ (i3 r3) = 0 → ((0 ≤ (1 + day) ∧ (1 + day) < 45) ∧ (((i3 (m4 129 ((1 + day)).toNat)) ≤ 0 → Q (some (sh_i (-1))) m4) ∧ (¬ (i3 (m4 129 ((1 + day)).toNat)) ≤ 0 → (sh_Cal g d m_Mod_haulOf [(sh_r 96), (sh_i thief), (sh_i day)] m4 fun rv m5 => ∃ r4 : Int, rv = some (sh_i r4) ∧ Q (some (sh_i r4)) m5))))))))))))))) : sh_Cal g (d + 1) m_Mod_haul [(sh_r 96), (sh_i thief), (sh_i day)] mem Q := by
  refine sh_met (by decide +kernel) (Nat.le_of_ble_eq_true rfl) (lo := [(0, (sh_r 96)), (1, (sh_i thief)), (2, (sh_i day))]) rfl ?_
  refine xr_aload_n (n := 0) (i := 0) rfl (List.mem_of_getElem? (i := 0) rfl) (by decide +kernel) ?_
  refine xr_iconst (n := 0) (by decide +kernel) ?_
  refine xr_putI rfl pl_Mod_141 rfl (by decide +kernel) ?_
  have k := k _ rfl
  generalize hg_m1 : ms mem 96 (ru (mem 96) 0 0) = m1 at k ⊢
  refine xr_aload_n (n := 0) (i := 0) rfl (List.mem_of_getElem? (i := 0) rfl) (by decide +kernel) ?_
  refine xr_iload_n (n := 1) (i := 1) rfl (List.mem_of_getElem? (i := 1) rfl) (by decide +kernel) ?_
  refine xr_callV (av := [(sh_i thief)]) rfl rfl rfl mo_Mod_isThief ml_Mod_386 im_Mod_isThief se_Mod_isThief rfl (Nat.le_of_ble_eq_true rfl) (by decide +kernel) (sh_mono k ?_)
  rintro rv m2 ⟨r1, rfl, k⟩
  show sh_X g (d + 1) m_Mod_haul _ _ [(sh_i r1)] _ _
  refine xr_if_eq (a' := (i3 r1)) rfl (off := 39) (tgt := 49) (by decide) (by decide +kernel) ⟨fun c1 => ?_, fun c1 => ?_⟩
  · have k := k.1 c1
    refine xr_iconst (n := (-1)) (by decide +kernel) ?_
    exact xr_iret rfl (by decide +kernel) k
  · have k := k.2 c1
    refine xr_aload_n (n := 0) (i := 0) rfl (List.mem_of_getElem? (i := 0) rfl) (by decide +kernel) ?_
    refine xr_iload_n (n := 2) (i := 2) rfl (List.mem_of_getElem? (i := 2) rfl) (by decide +kernel) ?_
    refine xr_callV (av := [(sh_i day)]) rfl rfl rfl mo_Mod_isDay ml_Mod_383 im_Mod_isDay se_Mod_isDay rfl (Nat.le_of_ble_eq_true rfl) (by decide +kernel) (sh_mono k ?_)
    rintro rv m3 ⟨r2, rfl, k⟩
    show sh_X g (d + 1) m_Mod_haul _ _ [(sh_i r2)] _ _
    refine xr_if_eq (a' := (i3 r2)) rfl (off := 31) (tgt := 49) (by decide) (by decide +kernel) ⟨fun c2 => ?_, fun c2 => ?_⟩
    · have k := k.1 c2
      refine xr_iconst (n := (-1)) (by decide +kernel) ?_
      exact xr_iret rfl (by decide +kernel) k
    · have k := k.2 c2
      refine xr_aload_n (n := 0) (i := 0) rfl (List.mem_of_getElem? (i := 0) rfl) (by decide +kernel) ?_
      refine xr_iload_n (n := 1) (i := 1) rfl (List.mem_of_getElem? (i := 1) rfl) (by decide +kernel) ?_
      refine xr_callV (av := [(sh_i thief)]) rfl rfl rfl mo_Mod_couldSteal ml_Mod_393 im_Mod_couldSteal se_Mod_couldSteal rfl (Nat.le_of_ble_eq_true rfl) (by decide +kernel) (sh_mono k ?_)
      rintro rv m4 ⟨r3, rfl, k⟩
      show sh_X g (d + 1) m_Mod_haul _ _ [(sh_i r3)] _ _
      refine xr_if_eq (a' := (i3 r3)) rfl (off := 23) (tgt := 49) (by decide) (by decide +kernel) ⟨fun c3 => ?_, fun c3 => ?_⟩
      · have k := k.1 c3
        refine xr_iconst (n := (-1)) (by decide +kernel) ?_
        exact xr_iret rfl (by decide +kernel) k
      · have k := k.2 c3
        refine xr_aload_n (n := 0) (i := 0) rfl (List.mem_of_getElem? (i := 0) rfl) (by decide +kernel) ?_
        refine xr_getR (o := 33) rfl fl_Mod_108 rfl (by decide +kernel) ?_
        show sh_X g (d + 1) m_Mod_haul _ _ ((sh_r 129) :: _) _ _
        refine xr_iconst (n := 1) (by decide +kernel) ?_
        refine xr_iload_n (n := 2) (i := 2) rfl (List.mem_of_getElem? (i := 2) rfl) (by decide +kernel) ?_
        refine xr_iadd (by decide +kernel) ?_
        show sh_X g (d + 1) m_Mod_haul _ _ ((sh_i (1 + day)) :: _) _ _
        obtain ⟨o, k⟩ := k
        refine xr_iald rfl o.1 o.2 (by decide +kernel) ?_
        refine xr_if_le (a' := (i3 (m4 129 ((1 + day)).toNat))) rfl (off := 12) (tgt := 49) (by decide) (by decide +kernel) ⟨fun c4 => ?_, fun c4 => ?_⟩
        · have k := k.1 c4
          refine xr_iconst (n := (-1)) (by decide +kernel) ?_
          exact xr_iret rfl (by decide +kernel) k
        · have k := k.2 c4
          refine xr_aload_n (n := 0) (i := 0) rfl (List.mem_of_getElem? (i := 0) rfl) (by decide +kernel) ?_
          refine xr_iload_n (n := 1) (i := 1) rfl (List.mem_of_getElem? (i := 1) rfl) (by decide +kernel) ?_
          refine xr_iload_n (n := 2) (i := 2) rfl (List.mem_of_getElem? (i := 2) rfl) (by decide +kernel) ?_
          refine xr_callV (av := [(sh_i thief), (sh_i day)]) rfl rfl rfl mo_Mod_haulOf ml_Mod_358 im_Mod_haulOf se_Mod_haulOf rfl (Nat.le_of_ble_eq_true rfl) (by decide +kernel) (sh_mono k ?_)
          rintro rv m5 ⟨r4, rfl, k⟩
          show sh_X g (d + 1) m_Mod_haul _ _ [(sh_i r4)] _ _
          refine xr_goto (off := 4) (tgt := 50) (by decide) (by decide +kernel) ?_
          exact xr_iret rfl (by decide +kernel) k

theorem v_Mod_price {g : sh_G} {d : Nat} {thief : Int}  {mem : sh_Mem} {Q : Option sh_V → sh_Mem → Prop}  (k : (∀ m1 : sh_Mem, m1 = ms mem 96 (ru (mem 96) 0 0) → (sh_Cal g d m_Mod_isThief [(sh_r 96), (sh_i thief)] m1 fun rv m2 => ∃ r1 : Int, rv = some (sh_i r1) ∧ (((i3 r1) = 0 → Q (some (sh_i (-1))) m2) ∧ (¬ (i3 r1) = 0 → (sh_Cal g d m_Mod_hasPiece [(sh_r 96), (sh_i thief)] m2 fun rv m3 => ∃ r2 : Int, rv = some (sh_i r2) ∧ (((i3 r2) = 0 → Q (some (sh_i (-1))) m3) ∧ (¬ (i3 r2) = 0 → (sh_Cal g d m_Mod_priceOf [(sh_r 96), (sh_i thief)] m3 fun rv m4 => ∃ r3 : Int, rv = some (sh_i r3) ∧ Q (some (sh_i r3)) m4))))))))) : sh_Cal g (d + 1) m_Mod_price [(sh_r 96), (sh_i thief)] mem Q := by
  refine sh_met (by decide +kernel) (Nat.le_of_ble_eq_true rfl) (lo := [(0, (sh_r 96)), (1, (sh_i thief))]) rfl ?_
  refine xr_aload_n (n := 0) (i := 0) rfl (List.mem_of_getElem? (i := 0) rfl) (by decide +kernel) ?_
  refine xr_iconst (n := 0) (by decide +kernel) ?_
  refine xr_putI rfl pl_Mod_141 rfl (by decide +kernel) ?_
  have k := k _ rfl
  generalize hg_m1 : ms mem 96 (ru (mem 96) 0 0) = m1 at k ⊢
  refine xr_aload_n (n := 0) (i := 0) rfl (List.mem_of_getElem? (i := 0) rfl) (by decide +kernel) ?_
  refine xr_iload_n (n := 1) (i := 1) rfl (List.mem_of_getElem? (i := 1) rfl) (by decide +kernel) ?_
  refine xr_callV (av := [(sh_i thief)]) rfl rfl rfl mo_Mod_isThief ml_Mod_386 im_Mod_isThief se_Mod_isThief rfl (Nat.le_of_ble_eq_true rfl) (by decide +kernel) (sh_mono k ?_)
  rintro rv m2 ⟨r1, rfl, k⟩
  show sh_X g (d + 1) m_Mod_price _ _ [(sh_i r1)] _ _
  refine xr_if_eq (a' := (i3 r1)) rfl (off := 19) (tgt := 29) (by decide) (by decide +kernel) ⟨fun c1 => ?_, fun c1 => ?_⟩
  · have k := k.1 c1
    refine xr_iconst (n := (-1)) (by decide +kernel) ?_
    exact xr_iret rfl (by decide +kernel) k
  · have k := k.2 c1
    refine xr_aload_n (n := 0) (i := 0) rfl (List.mem_of_getElem? (i := 0) rfl) (by decide +kernel) ?_
    refine xr_iload_n (n := 1) (i := 1) rfl (List.mem_of_getElem? (i := 1) rfl) (by decide +kernel) ?_
    refine xr_callV (av := [(sh_i thief)]) rfl rfl rfl mo_Mod_hasPiece ml_Mod_346 im_Mod_hasPiece se_Mod_hasPiece rfl (Nat.le_of_ble_eq_true rfl) (by decide +kernel) (sh_mono k ?_)
    rintro rv m3 ⟨r2, rfl, k⟩
    show sh_X g (d + 1) m_Mod_price _ _ [(sh_i r2)] _ _
    refine xr_if_eq (a' := (i3 r2)) rfl (off := 11) (tgt := 29) (by decide) (by decide +kernel) ⟨fun c2 => ?_, fun c2 => ?_⟩
    · have k := k.1 c2
      refine xr_iconst (n := (-1)) (by decide +kernel) ?_
      exact xr_iret rfl (by decide +kernel) k
    · have k := k.2 c2
      refine xr_aload_n (n := 0) (i := 0) rfl (List.mem_of_getElem? (i := 0) rfl) (by decide +kernel) ?_
      refine xr_iload_n (n := 1) (i := 1) rfl (List.mem_of_getElem? (i := 1) rfl) (by decide +kernel) ?_
      refine xr_callV (av := [(sh_i thief)]) rfl rfl rfl mo_Mod_priceOf ml_Mod_371 im_Mod_priceOf se_Mod_priceOf rfl (Nat.le_of_ble_eq_true rfl) (by decide +kernel) (sh_mono k ?_)
      rintro rv m4 ⟨r3, rfl, k⟩
      show sh_X g (d + 1) m_Mod_price _ _ [(sh_i r3)] _ _
      refine xr_goto (off := 4) (tgt := 30) (by decide) (by decide +kernel) ?_
      exact xr_iret rfl (by decide +kernel) k

theorem v_Mod_all {g : sh_G} {d : Nat}   {mem : sh_Mem} {Q : Option sh_V → sh_Mem → Prop}  (k : (∀ m1 : sh_Mem, m1 = ms mem 96 (ru (mem 96) 0 0) → (sh_Cal g d m_Mod_sumOf [(sh_r 96), (sh_i 17), (sh_i 4)] m1 fun rv m2 => ∃ r1 : Int, rv = some (sh_i r1) ∧ Q (some (sh_i r1)) m2))) : sh_Cal g (d + 1) m_Mod_all [(sh_r 96)] mem Q := by
  refine sh_met (by decide +kernel) (Nat.le_of_ble_eq_true rfl) (lo := [(0, (sh_r 96))]) rfl ?_
  refine xr_aload_n (n := 0) (i := 0) rfl (List.mem_of_getElem? (i := 0) rfl) (by decide +kernel) ?_
  refine xr_iconst (n := 0) (by decide +kernel) ?_
  refine xr_putI rfl pl_Mod_141 rfl (by decide +kernel) ?_
  have k := k _ rfl
  generalize hg_m1 : ms mem 96 (ru (mem 96) 0 0) = m1 at k ⊢
  refine xr_aload_n (n := 0) (i := 0) rfl (List.mem_of_getElem? (i := 0) rfl) (by decide +kernel) ?_
  refine xr_bipush (n := 17) (v := 17) (by decide) (by decide +kernel) ?_
  refine xr_iconst (n := 4) (by decide +kernel) ?_
  refine xr_callV (av := [(sh_i 17), (sh_i 4)]) rfl rfl rfl mo_Mod_sumOf ml_Mod_426 im_Mod_sumOf se_Mod_sumOf rfl (Nat.le_of_ble_eq_true rfl) (by decide +kernel) (sh_mono k ?_)
  rintro rv m2 ⟨r1, rfl, k⟩
  show sh_X g (d + 1) m_Mod_all _ _ [(sh_i r1)] _ _
  exact xr_iret rfl (by decide +kernel) k

theorem v_Mod_mostAt {g : sh_G} {d : Nat} {fr : Nat}  {mem : sh_Mem} {Q : Option sh_V → sh_Mem → Prop}  (k : sh_X g d m_Mod_mostAt 4 [(0, (sh_r 96)), (1, (sh_i (fr : Int))), (2, (sh_i (-1))), (3, (sh_i 0))] [] mem (sh_K m_Mod_mostAt Q)) : sh_Cal g d m_Mod_mostAt [(sh_r 96), (sh_i (fr : Int))] mem Q := by
  refine sh_met (by decide +kernel) (Nat.le_of_ble_eq_true rfl) (lo := [(0, (sh_r 96)), (1, (sh_i (fr : Int)))]) rfl ?_
  refine xr_iconst (n := (-1)) (by decide +kernel) ?_
  refine xr_istore_n (n := 2) (i := 2) rfl (by decide) rfl (by decide +kernel) ?_
  refine xr_iconst (n := 0) (by decide +kernel) ?_
  refine xr_istore_n (n := 3) (i := 3) rfl (by decide) rfl (by decide +kernel) ?_
  refine xr_sub (lo' := [(0, (sh_r 96)), (1, (sh_i (fr : Int))), (2, (sh_i (-1))), (3, (sh_i 0))]) [2, 3, 1, 0] rfl ?_
  exact k
theorem v_Mod_mostAt_4 {g : sh_G} {d : Nat} {fr : Nat}  {mem : sh_Mem} {Q : Option sh_V → sh_Mem → Prop}  {x2 : Int} {x3 : Nat} (k : (((i3 (mem 98 1)) ≤ (i3 (x3 : Int)) → Q (some (sh_i x2)) mem) ∧ (¬ (i3 (mem 98 1)) ≤ (i3 (x3 : Int)) → (((i3 x2) < 0 → sh_X g d m_Mod_mostAt 4 [(0, (sh_r 96)), (1, (sh_i (fr : Int))), (2, (sh_i (x3 : Int))), (3, (sh_i (((x3 + 1) : Nat) : Int)))] [] mem (sh_K m_Mod_mostAt Q)) ∧ (¬ (i3 x2) < 0 → ((fr + x3) < 45 ∧ ((0 ≤ ((fr : Int) + x2) ∧ ((fr : Int) + x2) < 45) ∧ (((i3 (mem 129 (fr + x3))) ≤ (i3 (mem 129 (((fr : Int) + x2)).toNat)) → sh_X g d m_Mod_mostAt 4 [(0, (sh_r 96)), (1, (sh_i (fr : Int))), (2, (sh_i x2)), (3, (sh_i (((x3 + 1) : Nat) : Int)))] [] mem (sh_K m_Mod_mostAt Q)) ∧ (¬ (i3 (mem 129 (fr + x3))) ≤ (i3 (mem 129 (((fr : Int) + x2)).toNat)) → sh_X g d m_Mod_mostAt 4 [(0, (sh_r 96)), (1, (sh_i (fr : Int))), (2, (sh_i (x3 : Int))), (3, (sh_i (((x3 + 1) : Nat) : Int)))] [] mem (sh_K m_Mod_mostAt Q)))))))))) : sh_X g d m_Mod_mostAt 4 [(0, (sh_r 96)), (1, (sh_i (fr : Int))), (2, (sh_i x2)), (3, (sh_i (x3 : Int)))] [] mem (sh_K m_Mod_mostAt Q) := by
  refine xr_iload_n (n := 3) (i := 3) rfl (List.mem_of_getElem? (i := 3) rfl) (by decide +kernel) ?_
  refine xr_aload_n (n := 0) (i := 0) rfl (List.mem_of_getElem? (i := 0) rfl) (by decide +kernel) ?_
  refine xr_getR (o := 2) rfl fl_Mod_13 rfl (by decide +kernel) ?_
  show sh_X g d m_Mod_mostAt _ _ ((sh_r 98) :: _) _ _
  refine xr_iconst (n := 1) (by decide +kernel) ?_
  refine xr_ialdN (j := 1) rfl rfl (by decide) (by decide +kernel) ?_
  refine xr_icmp_ge (a' := (i3 (x3 : Int))) (b' := (i3 (mem 98 1))) rfl rfl (off := 34) (tgt := 45) (by decide) (by decide +kernel) ⟨fun c1 => ?_, fun c1 => ?_⟩
  · have k := k.1 c1
    refine xr_iload_n (n := 2) (i := 2) rfl (List.mem_of_getElem? (i := 2) rfl) (by decide +kernel) ?_
    exact xr_iret rfl (by decide +kernel) k
  · have k := k.2 c1
    refine xr_iload_n (n := 2) (i := 2) rfl (List.mem_of_getElem? (i := 2) rfl) (by decide +kernel) ?_
    refine xr_if_lt (a' := (i3 x2)) rfl (off := 22) (tgt := 37) (by decide) (by decide +kernel) ⟨fun c2 => ?_, fun c2 => ?_⟩
    · have k := k.1 c2
      refine xr_iload_n (n := 3) (i := 3) rfl (List.mem_of_getElem? (i := 3) rfl) (by decide +kernel) ?_
      refine xr_istore_n (n := 2) (i := 2) rfl (by decide) rfl (by decide +kernel) ?_
      refine xr_iinc (n := 1) (lo' := [(3, (sh_i (((x3 + 1) : Nat) : Int))), (2, (sh_i (x3 : Int))), (0, (sh_r 96)), (1, (sh_i (fr : Int)))]) (List.mem_of_getElem? (i := 3) rfl) (by decide) rfl (by decide +kernel) ?_
      refine xr_goto (off := (-38)) (tgt := 4) (by decide) (by decide +kernel) ?_
      refine xr_sub (lo' := [(0, (sh_r 96)), (1, (sh_i (fr : Int))), (2, (sh_i (x3 : Int))), (3, (sh_i (((x3 + 1) : Nat) : Int)))]) [2, 3, 1, 0] rfl ?_
      exact k
    · have k := k.2 c2
      refine xr_aload_n (n := 0) (i := 0) rfl (List.mem_of_getElem? (i := 0) rfl) (by decide +kernel) ?_
      refine xr_getR (o := 33) rfl fl_Mod_108 rfl (by decide +kernel) ?_
      show sh_X g d m_Mod_mostAt _ _ ((sh_r 129) :: _) _ _
      refine xr_iload_n (n := 1) (i := 1) rfl (List.mem_of_getElem? (i := 1) rfl) (by decide +kernel) ?_
      refine xr_iload_n (n := 3) (i := 3) rfl (List.mem_of_getElem? (i := 3) rfl) (by decide +kernel) ?_
      refine xr_iadd (by decide +kernel) ?_
      show sh_X g d m_Mod_mostAt _ _ ((sh_i (((fr + x3) : Nat) : Int)) :: _) _ _
      obtain ⟨o, k⟩ := k
      refine xr_ialdN (j := (fr + x3)) rfl rfl o (by decide +kernel) ?_
      refine xr_aload_n (n := 0) (i := 0) rfl (List.mem_of_getElem? (i := 0) rfl) (by decide +kernel) ?_
      refine xr_getR (o := 33) rfl fl_Mod_108 rfl (by decide +kernel) ?_
      show sh_X g d m_Mod_mostAt _ _ ((sh_r 129) :: _) _ _
      refine xr_iload_n (n := 1) (i := 1) rfl (List.mem_of_getElem? (i := 1) rfl) (by decide +kernel) ?_
      refine xr_iload_n (n := 2) (i := 2) rfl (List.mem_of_getElem? (i := 2) rfl) (by decide +kernel) ?_
      refine xr_iadd (by decide +kernel) ?_
      show sh_X g d m_Mod_mostAt _ _ ((sh_i ((fr : Int) + x2)) :: _) _ _
      obtain ⟨o, k⟩ := k
      refine xr_iald rfl o.1 o.2 (by decide +kernel) ?_
      refine xr_icmp_le (a' := (i3 (mem 129 (fr + x3)))) (b' := (i3 (mem 129 (((fr : Int) + x2)).toNat))) rfl rfl (off := 5) (tgt := 39) (by decide) (by decide +kernel) ⟨fun c3 => ?_, fun c3 => ?_⟩
      · have k := k.1 c3
        refine xr_iinc (n := 1) (lo' := [(3, (sh_i (((x3 + 1) : Nat) : Int))), (0, (sh_r 96)), (1, (sh_i (fr : Int))), (2, (sh_i x2))]) (List.mem_of_getElem? (i := 3) rfl) (by decide) rfl (by decide +kernel) ?_
        refine xr_goto (off := (-38)) (tgt := 4) (by decide) (by decide +kernel) ?_
        refine xr_sub (lo' := [(0, (sh_r 96)), (1, (sh_i (fr : Int))), (2, (sh_i x2)), (3, (sh_i (((x3 + 1) : Nat) : Int)))]) [1, 2, 3, 0] rfl ?_
        exact k
      · have k := k.2 c3
        refine xr_iload_n (n := 3) (i := 3) rfl (List.mem_of_getElem? (i := 3) rfl) (by decide +kernel) ?_
        refine xr_istore_n (n := 2) (i := 2) rfl (by decide) rfl (by decide +kernel) ?_
        refine xr_iinc (n := 1) (lo' := [(3, (sh_i (((x3 + 1) : Nat) : Int))), (2, (sh_i (x3 : Int))), (0, (sh_r 96)), (1, (sh_i (fr : Int)))]) (List.mem_of_getElem? (i := 3) rfl) (by decide) rfl (by decide +kernel) ?_
        refine xr_goto (off := (-38)) (tgt := 4) (by decide) (by decide +kernel) ?_
        refine xr_sub (lo' := [(0, (sh_r 96)), (1, (sh_i (fr : Int))), (2, (sh_i (x3 : Int))), (3, (sh_i (((x3 + 1) : Nat) : Int)))]) [2, 3, 1, 0] rfl ?_
        exact k

theorem v_Mod_rich {g : sh_G} {d : Nat}   {mem : sh_Mem} {Q : Option sh_V → sh_Mem → Prop}  (k : (∀ m1 : sh_Mem, m1 = ms mem 96 (ru (mem 96) 0 0) → (sh_Cal g d m_Mod_mostAt [(sh_r 96), (sh_i 37)] m1 fun rv m2 => ∃ r1 : Int, rv = some (sh_i r1) ∧ Q (some (sh_i r1)) m2))) : sh_Cal g (d + 1) m_Mod_rich [(sh_r 96)] mem Q := by
  refine sh_met (by decide +kernel) (Nat.le_of_ble_eq_true rfl) (lo := [(0, (sh_r 96))]) rfl ?_
  refine xr_aload_n (n := 0) (i := 0) rfl (List.mem_of_getElem? (i := 0) rfl) (by decide +kernel) ?_
  refine xr_iconst (n := 0) (by decide +kernel) ?_
  refine xr_putI rfl pl_Mod_141 rfl (by decide +kernel) ?_
  have k := k _ rfl
  generalize hg_m1 : ms mem 96 (ru (mem 96) 0 0) = m1 at k ⊢
  refine xr_aload_n (n := 0) (i := 0) rfl (List.mem_of_getElem? (i := 0) rfl) (by decide +kernel) ?_
  refine xr_bipush (n := 37) (v := 37) (by decide) (by decide +kernel) ?_
  refine xr_callV (av := [(sh_i 37)]) rfl rfl rfl mo_Mod_mostAt ml_Mod_432 im_Mod_mostAt se_Mod_mostAt rfl (Nat.le_of_ble_eq_true rfl) (by decide +kernel) (sh_mono k ?_)
  rintro rv m2 ⟨r1, rfl, k⟩
  show sh_X g (d + 1) m_Mod_rich _ _ [(sh_i r1)] _ _
  exact xr_iret rfl (by decide +kernel) k

theorem v_Mod_guilty {g : sh_G} {d : Nat}   {mem : sh_Mem} {Q : Option sh_V → sh_Mem → Prop}  (k : (∀ m1 : sh_Mem, m1 = ms mem 96 (ru (mem 96) 0 0) → (sh_Cal g d m_Mod_mostAt [(sh_r 96), (sh_i 33)] m1 fun rv m2 => ∃ r1 : Int, rv = some (sh_i r1) ∧ Q (some (sh_i r1)) m2))) : sh_Cal g (d + 1) m_Mod_guilty [(sh_r 96)] mem Q := by
  refine sh_met (by decide +kernel) (Nat.le_of_ble_eq_true rfl) (lo := [(0, (sh_r 96))]) rfl ?_
  refine xr_aload_n (n := 0) (i := 0) rfl (List.mem_of_getElem? (i := 0) rfl) (by decide +kernel) ?_
  refine xr_iconst (n := 0) (by decide +kernel) ?_
  refine xr_putI rfl pl_Mod_141 rfl (by decide +kernel) ?_
  have k := k _ rfl
  generalize hg_m1 : ms mem 96 (ru (mem 96) 0 0) = m1 at k ⊢
  refine xr_aload_n (n := 0) (i := 0) rfl (List.mem_of_getElem? (i := 0) rfl) (by decide +kernel) ?_
  refine xr_bipush (n := 33) (v := 33) (by decide) (by decide +kernel) ?_
  refine xr_callV (av := [(sh_i 33)]) rfl rfl rfl mo_Mod_mostAt ml_Mod_432 im_Mod_mostAt se_Mod_mostAt rfl (Nat.le_of_ble_eq_true rfl) (by decide +kernel) (sh_mono k ?_)
  rintro rv m2 ⟨r1, rfl, k⟩
  show sh_X g (d + 1) m_Mod_guilty _ _ [(sh_i r1)] _ _
  exact xr_iret rfl (by decide +kernel) k

theorem v_Mod_laterAt {g : sh_G} {d : Nat} {at0 : Nat} {nights : Int}  {mem : sh_Mem} {Q : Option sh_V → sh_Mem → Prop}  (k : (sh_Cal g d m_Mod_copies [(sh_r 129), (sh_i 0), (sh_r 131), (sh_i 0)] mem fun rv m1 => rv = none ∧ sh_X g (d + 1) m_Mod_laterAt 15 [(0, (sh_r 96)), (1, (sh_i (at0 : Int))), (2, (sh_i nights)), (3, (sh_i 0))] [] m1 (sh_K m_Mod_laterAt Q))) : sh_Cal g (d + 1) m_Mod_laterAt [(sh_r 96), (sh_i (at0 : Int)), (sh_i nights)] mem Q := by
  refine sh_met (by decide +kernel) (Nat.le_of_ble_eq_true rfl) (lo := [(0, (sh_r 96)), (1, (sh_i (at0 : Int))), (2, (sh_i nights))]) rfl ?_
  refine xr_aload_n (n := 0) (i := 0) rfl (List.mem_of_getElem? (i := 0) rfl) (by decide +kernel) ?_
  refine xr_getR (o := 33) rfl fl_Mod_108 rfl (by decide +kernel) ?_
  show sh_X g (d + 1) m_Mod_laterAt _ _ ((sh_r 129) :: _) _ _
  refine xr_iconst (n := 0) (by decide +kernel) ?_
  refine xr_aload_n (n := 0) (i := 0) rfl (List.mem_of_getElem? (i := 0) rfl) (by decide +kernel) ?_
  refine xr_getR (o := 35) rfl fl_Mod_114 rfl (by decide +kernel) ?_
  show sh_X g (d + 1) m_Mod_laterAt _ _ ((sh_r 131) :: _) _ _
  refine xr_iconst (n := 0) (by decide +kernel) ?_
  refine xr_callS (av := [(sh_r 129), (sh_i 0), (sh_r 131), (sh_i 0)]) mo_Mod_copies ml_Mod_389 sa_Mod_copies rfl (Nat.le_of_ble_eq_true rfl) (by decide +kernel) (sh_mono k ?_)
  rintro rv m1 ⟨rfl, k⟩
  show sh_X g (d + 1) m_Mod_laterAt _ _ [] _ _
  refine xr_iconst (n := 0) (by decide +kernel) ?_
  refine xr_istore_n (n := 3) (i := 3) rfl (by decide) rfl (by decide +kernel) ?_
  refine xr_sub (lo' := [(0, (sh_r 96)), (1, (sh_i (at0 : Int))), (2, (sh_i nights)), (3, (sh_i 0))]) [1, 2, 3, 0] rfl ?_
  exact k
theorem v_Mod_laterAt_15 {g : sh_G} {d : Nat} {at0 : Nat} {nights : Int}  {mem : sh_Mem} {Q : Option sh_V → sh_Mem → Prop}  {x3 : Int} (k : (((i3 nights) ≤ (i3 x3) → (at0 < 45 ∧ (sh_Cal g d m_Mod_copies [(sh_r 131), (sh_i 0), (sh_r 129), (sh_i 0)] mem fun rv m1 => rv = none ∧ Q (some (sh_i (mem 129 at0))) m1))) ∧ (¬ (i3 nights) ≤ (i3 x3) → (sh_Cal g d m_Mod_passes [(sh_r 96)] mem fun rv m2 => rv = none ∧ sh_X g (d + 1) m_Mod_laterAt 15 [(0, (sh_r 96)), (1, (sh_i (at0 : Int))), (2, (sh_i nights)), (3, (sh_i (x3 + 1)))] [] m2 (sh_K m_Mod_laterAt Q))))) : sh_X g (d + 1) m_Mod_laterAt 15 [(0, (sh_r 96)), (1, (sh_i (at0 : Int))), (2, (sh_i nights)), (3, (sh_i x3))] [] mem (sh_K m_Mod_laterAt Q) := by
  refine xr_iload_n (n := 3) (i := 3) rfl (List.mem_of_getElem? (i := 3) rfl) (by decide +kernel) ?_
  refine xr_iload_n (n := 2) (i := 2) rfl (List.mem_of_getElem? (i := 2) rfl) (by decide +kernel) ?_
  refine xr_icmp_ge (a' := (i3 x3)) (b' := (i3 nights)) rfl rfl (off := 13) (tgt := 30) (by decide) (by decide +kernel) ⟨fun c1 => ?_, fun c1 => ?_⟩
  · have k := k.1 c1
    refine xr_aload_n (n := 0) (i := 0) rfl (List.mem_of_getElem? (i := 0) rfl) (by decide +kernel) ?_
    refine xr_getR (o := 33) rfl fl_Mod_108 rfl (by decide +kernel) ?_
    show sh_X g (d + 1) m_Mod_laterAt _ _ ((sh_r 129) :: _) _ _
    refine xr_iload_n (n := 1) (i := 1) rfl (List.mem_of_getElem? (i := 1) rfl) (by decide +kernel) ?_
    obtain ⟨o, k⟩ := k
    refine xr_ialdN (j := at0) rfl rfl o (by decide +kernel) ?_
    refine xr_istore_n (n := 3) (i := 3) rfl (by decide) rfl (by decide +kernel) ?_
    refine xr_aload_n (n := 0) (i := 0) rfl (List.mem_of_getElem? (i := 1) rfl) (by decide +kernel) ?_
    refine xr_getR (o := 35) rfl fl_Mod_114 rfl (by decide +kernel) ?_
    show sh_X g (d + 1) m_Mod_laterAt _ _ ((sh_r 131) :: _) _ _
    refine xr_iconst (n := 0) (by decide +kernel) ?_
    refine xr_aload_n (n := 0) (i := 0) rfl (List.mem_of_getElem? (i := 1) rfl) (by decide +kernel) ?_
    refine xr_getR (o := 33) rfl fl_Mod_108 rfl (by decide +kernel) ?_
    show sh_X g (d + 1) m_Mod_laterAt _ _ ((sh_r 129) :: _) _ _
    refine xr_iconst (n := 0) (by decide +kernel) ?_
    refine xr_callS (av := [(sh_r 131), (sh_i 0), (sh_r 129), (sh_i 0)]) mo_Mod_copies ml_Mod_389 sa_Mod_copies rfl (Nat.le_of_ble_eq_true rfl) (by decide +kernel) (sh_mono k ?_)
    rintro rv m1 ⟨rfl, k⟩
    show sh_X g (d + 1) m_Mod_laterAt _ _ [] _ _
    refine xr_iload_n (n := 3) (i := 3) rfl (List.mem_of_getElem? (i := 0) rfl) (by decide +kernel) ?_
    exact xr_iret rfl (by decide +kernel) k
  · have k := k.2 c1
    refine xr_aload_n (n := 0) (i := 0) rfl (List.mem_of_getElem? (i := 0) rfl) (by decide +kernel) ?_
    refine xr_callV (av := []) rfl rfl rfl mo_Mod_passes ml_Mod_414 im_Mod_passes se_Mod_passes rfl (Nat.le_of_ble_eq_true rfl) (by decide +kernel) (sh_mono k ?_)
    rintro rv m2 ⟨rfl, k⟩
    show sh_X g (d + 1) m_Mod_laterAt _ _ [] _ _
    refine xr_iinc (n := 1) (lo' := [(3, (sh_i (x3 + 1))), (0, (sh_r 96)), (1, (sh_i (at0 : Int))), (2, (sh_i nights))]) (List.mem_of_getElem? (i := 3) rfl) (by decide) rfl (by decide +kernel) ?_
    refine xr_goto (off := (-12)) (tgt := 15) (by decide) (by decide +kernel) ?_
    refine xr_sub (lo' := [(0, (sh_r 96)), (1, (sh_i (at0 : Int))), (2, (sh_i nights)), (3, (sh_i (x3 + 1)))]) [1, 2, 3, 0] rfl ?_
    exact k

theorem v_Mod_later {g : sh_G} {d : Nat} {day : Int} {nights : Int}  {mem : sh_Mem} {Q : Option sh_V → sh_Mem → Prop}  (k : (∀ m1 : sh_Mem, m1 = ms mem 96 (ru (mem 96) 0 0) → (sh_Cal g d m_Mod_isDay [(sh_r 96), (sh_i day)] m1 fun rv m2 => ∃ r1 : Int, rv = some (sh_i r1) ∧ (((i3 r1) = 0 → Q (some (sh_i (-1))) m2) ∧ (¬ (i3 r1) = 0 → (sh_Cal g d m_Mod_within [(sh_i nights), (sh_i 0), (sh_i 60)] m2 fun rv m3 => ∃ r2 : Int, rv = some (sh_i r2) ∧ (((i3 r2) = 0 → Q (some (sh_i (-1))) m3) ∧ (¬ (i3 r2) = 0 → (sh_Cal g d m_Mod_laterAt [(sh_r 96), (sh_i (1 + day)), (sh_i nights)] m3 fun rv m4 => ∃ r3 : Int, rv = some (sh_i r3) ∧ Q (some (sh_i r3)) m4))))))))) : sh_Cal g (d + 1) m_Mod_later [(sh_r 96), (sh_i day), (sh_i nights)] mem Q := by
  refine sh_met (by decide +kernel) (Nat.le_of_ble_eq_true rfl) (lo := [(0, (sh_r 96)), (1, (sh_i day)), (2, (sh_i nights))]) rfl ?_
  refine xr_aload_n (n := 0) (i := 0) rfl (List.mem_of_getElem? (i := 0) rfl) (by decide +kernel) ?_
  refine xr_iconst (n := 0) (by decide +kernel) ?_
  refine xr_putI rfl pl_Mod_141 rfl (by decide +kernel) ?_
  have k := k _ rfl
  generalize hg_m1 : ms mem 96 (ru (mem 96) 0 0) = m1 at k ⊢
  refine xr_aload_n (n := 0) (i := 0) rfl (List.mem_of_getElem? (i := 0) rfl) (by decide +kernel) ?_
  refine xr_iload_n (n := 1) (i := 1) rfl (List.mem_of_getElem? (i := 1) rfl) (by decide +kernel) ?_
  refine xr_callV (av := [(sh_i day)]) rfl rfl rfl mo_Mod_isDay ml_Mod_383 im_Mod_isDay se_Mod_isDay rfl (Nat.le_of_ble_eq_true rfl) (by decide +kernel) (sh_mono k ?_)
  rintro rv m2 ⟨r1, rfl, k⟩
  show sh_X g (d + 1) m_Mod_later _ _ [(sh_i r1)] _ _
  refine xr_if_eq (a' := (i3 r1)) rfl (off := 24) (tgt := 34) (by decide) (by decide +kernel) ⟨fun c1 => ?_, fun c1 => ?_⟩
  · have k := k.1 c1
    refine xr_iconst (n := (-1)) (by decide +kernel) ?_
    exact xr_iret rfl (by decide +kernel) k
  · have k := k.2 c1
    refine xr_iload_n (n := 2) (i := 2) rfl (List.mem_of_getElem? (i := 2) rfl) (by decide +kernel) ?_
    refine xr_iconst (n := 0) (by decide +kernel) ?_
    refine xr_bipush (n := 60) (v := 60) (by decide) (by decide +kernel) ?_
    refine xr_callS (av := [(sh_i nights), (sh_i 0), (sh_i 60)]) mo_Mod_within ml_Mod_264 sa_Mod_within rfl (Nat.le_of_ble_eq_true rfl) (by decide +kernel) (sh_mono k ?_)
    rintro rv m3 ⟨r2, rfl, k⟩
    show sh_X g (d + 1) m_Mod_later _ _ [(sh_i r2)] _ _
    refine xr_if_eq (a' := (i3 r2)) rfl (off := 14) (tgt := 34) (by decide) (by decide +kernel) ⟨fun c2 => ?_, fun c2 => ?_⟩
    · have k := k.1 c2
      refine xr_iconst (n := (-1)) (by decide +kernel) ?_
      exact xr_iret rfl (by decide +kernel) k
    · have k := k.2 c2
      refine xr_aload_n (n := 0) (i := 0) rfl (List.mem_of_getElem? (i := 0) rfl) (by decide +kernel) ?_
      refine xr_iconst (n := 1) (by decide +kernel) ?_
      refine xr_iload_n (n := 1) (i := 1) rfl (List.mem_of_getElem? (i := 1) rfl) (by decide +kernel) ?_
      refine xr_iadd (by decide +kernel) ?_
      show sh_X g (d + 1) m_Mod_later _ _ ((sh_i (1 + day)) :: _) _ _
      refine xr_iload_n (n := 2) (i := 2) rfl (List.mem_of_getElem? (i := 2) rfl) (by decide +kernel) ?_
      refine xr_callV (av := [(sh_i (1 + day)), (sh_i nights)]) rfl rfl rfl mo_Mod_laterAt ml_Mod_435 im_Mod_laterAt se_Mod_laterAt rfl (Nat.le_of_ble_eq_true rfl) (by decide +kernel) (sh_mono k ?_)
      rintro rv m4 ⟨r3, rfl, k⟩
      show sh_X g (d + 1) m_Mod_later _ _ [(sh_i r3)] _ _
      refine xr_goto (off := 4) (tgt := 35) (by decide) (by decide +kernel) ?_
      exact xr_iret rfl (by decide +kernel) k

theorem v_Mod_guards {g : sh_G} {d : Nat} {day : Int} {nights : Int}  {mem : sh_Mem} {Q : Option sh_V → sh_Mem → Prop}  (k : (∀ m1 : sh_Mem, m1 = ms mem 96 (ru (mem 96) 0 0) → (sh_Cal g d m_Mod_isDay [(sh_r 96), (sh_i day)] m1 fun rv m2 => ∃ r1 : Int, rv = some (sh_i r1) ∧ (((i3 r1) = 0 → Q (some (sh_i (-1))) m2) ∧ (¬ (i3 r1) = 0 → (sh_Cal g d m_Mod_within [(sh_i nights), (sh_i 0), (sh_i 60)] m2 fun rv m3 => ∃ r2 : Int, rv = some (sh_i r2) ∧ (((i3 r2) = 0 → Q (some (sh_i (-1))) m3) ∧ (¬ (i3 r2) = 0 → (sh_Cal g d m_Mod_laterAt [(sh_r 96), (sh_i (9 + day)), (sh_i nights)] m3 fun rv m4 => ∃ r3 : Int, rv = some (sh_i r3) ∧ Q (some (sh_i r3)) m4))))))))) : sh_Cal g (d + 1) m_Mod_guards [(sh_r 96), (sh_i day), (sh_i nights)] mem Q := by
  refine sh_met (by decide +kernel) (Nat.le_of_ble_eq_true rfl) (lo := [(0, (sh_r 96)), (1, (sh_i day)), (2, (sh_i nights))]) rfl ?_
  refine xr_aload_n (n := 0) (i := 0) rfl (List.mem_of_getElem? (i := 0) rfl) (by decide +kernel) ?_
  refine xr_iconst (n := 0) (by decide +kernel) ?_
  refine xr_putI rfl pl_Mod_141 rfl (by decide +kernel) ?_
  have k := k _ rfl
  generalize hg_m1 : ms mem 96 (ru (mem 96) 0 0) = m1 at k ⊢
  refine xr_aload_n (n := 0) (i := 0) rfl (List.mem_of_getElem? (i := 0) rfl) (by decide +kernel) ?_
  refine xr_iload_n (n := 1) (i := 1) rfl (List.mem_of_getElem? (i := 1) rfl) (by decide +kernel) ?_
  refine xr_callV (av := [(sh_i day)]) rfl rfl rfl mo_Mod_isDay ml_Mod_383 im_Mod_isDay se_Mod_isDay rfl (Nat.le_of_ble_eq_true rfl) (by decide +kernel) (sh_mono k ?_)
  rintro rv m2 ⟨r1, rfl, k⟩
  show sh_X g (d + 1) m_Mod_guards _ _ [(sh_i r1)] _ _
  refine xr_if_eq (a' := (i3 r1)) rfl (off := 25) (tgt := 35) (by decide) (by decide +kernel) ⟨fun c1 => ?_, fun c1 => ?_⟩
  · have k := k.1 c1
    refine xr_iconst (n := (-1)) (by decide +kernel) ?_
    exact xr_iret rfl (by decide +kernel) k
  · have k := k.2 c1
    refine xr_iload_n (n := 2) (i := 2) rfl (List.mem_of_getElem? (i := 2) rfl) (by decide +kernel) ?_
    refine xr_iconst (n := 0) (by decide +kernel) ?_
    refine xr_bipush (n := 60) (v := 60) (by decide) (by decide +kernel) ?_
    refine xr_callS (av := [(sh_i nights), (sh_i 0), (sh_i 60)]) mo_Mod_within ml_Mod_264 sa_Mod_within rfl (Nat.le_of_ble_eq_true rfl) (by decide +kernel) (sh_mono k ?_)
    rintro rv m3 ⟨r2, rfl, k⟩
    show sh_X g (d + 1) m_Mod_guards _ _ [(sh_i r2)] _ _
    refine xr_if_eq (a' := (i3 r2)) rfl (off := 15) (tgt := 35) (by decide) (by decide +kernel) ⟨fun c2 => ?_, fun c2 => ?_⟩
    · have k := k.1 c2
      refine xr_iconst (n := (-1)) (by decide +kernel) ?_
      exact xr_iret rfl (by decide +kernel) k
    · have k := k.2 c2
      refine xr_aload_n (n := 0) (i := 0) rfl (List.mem_of_getElem? (i := 0) rfl) (by decide +kernel) ?_
      refine xr_bipush (n := 9) (v := 9) (by decide) (by decide +kernel) ?_
      refine xr_iload_n (n := 1) (i := 1) rfl (List.mem_of_getElem? (i := 1) rfl) (by decide +kernel) ?_
      refine xr_iadd (by decide +kernel) ?_
      show sh_X g (d + 1) m_Mod_guards _ _ ((sh_i (9 + day)) :: _) _ _
      refine xr_iload_n (n := 2) (i := 2) rfl (List.mem_of_getElem? (i := 2) rfl) (by decide +kernel) ?_
      refine xr_callV (av := [(sh_i (9 + day)), (sh_i nights)]) rfl rfl rfl mo_Mod_laterAt ml_Mod_435 im_Mod_laterAt se_Mod_laterAt rfl (Nat.le_of_ble_eq_true rfl) (by decide +kernel) (sh_mono k ?_)
      rintro rv m4 ⟨r3, rfl, k⟩
      show sh_X g (d + 1) m_Mod_guards _ _ [(sh_i r3)] _ _
      refine xr_goto (off := 4) (tgt := 36) (by decide) (by decide +kernel) ?_
      exact xr_iret rfl (by decide +kernel) k

theorem v_Mod_keeps {g : sh_G} {d : Nat} {thief : Int} {nights : Int}  {mem : sh_Mem} {Q : Option sh_V → sh_Mem → Prop}  (k : (∀ m1 : sh_Mem, m1 = ms mem 96 (ru (mem 96) 0 0) → (sh_Cal g d m_Mod_isThief [(sh_r 96), (sh_i thief)] m1 fun rv m2 => ∃ r1 : Int, rv = some (sh_i r1) ∧ (((i3 r1) = 0 → Q (some (sh_i (-1))) m2) ∧ (¬ (i3 r1) = 0 → (sh_Cal g d m_Mod_within [(sh_i nights), (sh_i 0), (sh_i 60)] m2 fun rv m3 => ∃ r2 : Int, rv = some (sh_i r2) ∧ (((i3 r2) = 0 → Q (some (sh_i (-1))) m3) ∧ (¬ (i3 r2) = 0 → (sh_Cal g d m_Mod_laterAt [(sh_r 96), (sh_i (17 + thief)), (sh_i nights)] m3 fun rv m4 => ∃ r3 : Int, rv = some (sh_i r3) ∧ Q (some (sh_i r3)) m4))))))))) : sh_Cal g (d + 1) m_Mod_keeps [(sh_r 96), (sh_i thief), (sh_i nights)] mem Q := by
  refine sh_met (by decide +kernel) (Nat.le_of_ble_eq_true rfl) (lo := [(0, (sh_r 96)), (1, (sh_i thief)), (2, (sh_i nights))]) rfl ?_
  refine xr_aload_n (n := 0) (i := 0) rfl (List.mem_of_getElem? (i := 0) rfl) (by decide +kernel) ?_
  refine xr_iconst (n := 0) (by decide +kernel) ?_
  refine xr_putI rfl pl_Mod_141 rfl (by decide +kernel) ?_
  have k := k _ rfl
  generalize hg_m1 : ms mem 96 (ru (mem 96) 0 0) = m1 at k ⊢
  refine xr_aload_n (n := 0) (i := 0) rfl (List.mem_of_getElem? (i := 0) rfl) (by decide +kernel) ?_
  refine xr_iload_n (n := 1) (i := 1) rfl (List.mem_of_getElem? (i := 1) rfl) (by decide +kernel) ?_
  refine xr_callV (av := [(sh_i thief)]) rfl rfl rfl mo_Mod_isThief ml_Mod_386 im_Mod_isThief se_Mod_isThief rfl (Nat.le_of_ble_eq_true rfl) (by decide +kernel) (sh_mono k ?_)
  rintro rv m2 ⟨r1, rfl, k⟩
  show sh_X g (d + 1) m_Mod_keeps _ _ [(sh_i r1)] _ _
  refine xr_if_eq (a' := (i3 r1)) rfl (off := 25) (tgt := 35) (by decide) (by decide +kernel) ⟨fun c1 => ?_, fun c1 => ?_⟩
  · have k := k.1 c1
    refine xr_iconst (n := (-1)) (by decide +kernel) ?_
    exact xr_iret rfl (by decide +kernel) k
  · have k := k.2 c1
    refine xr_iload_n (n := 2) (i := 2) rfl (List.mem_of_getElem? (i := 2) rfl) (by decide +kernel) ?_
    refine xr_iconst (n := 0) (by decide +kernel) ?_
    refine xr_bipush (n := 60) (v := 60) (by decide) (by decide +kernel) ?_
    refine xr_callS (av := [(sh_i nights), (sh_i 0), (sh_i 60)]) mo_Mod_within ml_Mod_264 sa_Mod_within rfl (Nat.le_of_ble_eq_true rfl) (by decide +kernel) (sh_mono k ?_)
    rintro rv m3 ⟨r2, rfl, k⟩
    show sh_X g (d + 1) m_Mod_keeps _ _ [(sh_i r2)] _ _
    refine xr_if_eq (a' := (i3 r2)) rfl (off := 15) (tgt := 35) (by decide) (by decide +kernel) ⟨fun c2 => ?_, fun c2 => ?_⟩
    · have k := k.1 c2
      refine xr_iconst (n := (-1)) (by decide +kernel) ?_
      exact xr_iret rfl (by decide +kernel) k
    · have k := k.2 c2
      refine xr_aload_n (n := 0) (i := 0) rfl (List.mem_of_getElem? (i := 0) rfl) (by decide +kernel) ?_
      refine xr_bipush (n := 17) (v := 17) (by decide) (by decide +kernel) ?_
      refine xr_iload_n (n := 1) (i := 1) rfl (List.mem_of_getElem? (i := 1) rfl) (by decide +kernel) ?_
      refine xr_iadd (by decide +kernel) ?_
      show sh_X g (d + 1) m_Mod_keeps _ _ ((sh_i (17 + thief)) :: _) _ _
      refine xr_iload_n (n := 2) (i := 2) rfl (List.mem_of_getElem? (i := 2) rfl) (by decide +kernel) ?_
      refine xr_callV (av := [(sh_i (17 + thief)), (sh_i nights)]) rfl rfl rfl mo_Mod_laterAt ml_Mod_435 im_Mod_laterAt se_Mod_laterAt rfl (Nat.le_of_ble_eq_true rfl) (by decide +kernel) (sh_mono k ?_)
      rintro rv m4 ⟨r3, rfl, k⟩
      show sh_X g (d + 1) m_Mod_keeps _ _ [(sh_i r3)] _ _
      refine xr_goto (off := 4) (tgt := 36) (by decide) (by decide +kernel) ?_
      exact xr_iret rfl (by decide +kernel) k

theorem v_Mod_freed {g : sh_G} {d : Nat} {thief : Int}  {mem : sh_Mem} {Q : Option sh_V → sh_Mem → Prop}  (k : (∀ m1 : sh_Mem, m1 = ms mem 96 (ru (mem 96) 0 0) → (sh_Cal g d m_Mod_isThief [(sh_r 96), (sh_i thief)] m1 fun rv m2 => ∃ r1 : Int, rv = some (sh_i r1) ∧ (((i3 r1) = 0 → Q (some (sh_i (-1))) m2) ∧ (¬ (i3 r1) = 0 → ((0 ≤ (29 + thief) ∧ (29 + thief) < 45) ∧ Q (some (sh_i (m2 129 ((29 + thief)).toNat))) m2)))))) : sh_Cal g (d + 1) m_Mod_freed [(sh_r 96), (sh_i thief)] mem Q := by
  refine sh_met (by decide +kernel) (Nat.le_of_ble_eq_true rfl) (lo := [(0, (sh_r 96)), (1, (sh_i thief))]) rfl ?_
  refine xr_aload_n (n := 0) (i := 0) rfl (List.mem_of_getElem? (i := 0) rfl) (by decide +kernel) ?_
  refine xr_iconst (n := 0) (by decide +kernel) ?_
  refine xr_putI rfl pl_Mod_141 rfl (by decide +kernel) ?_
  have k := k _ rfl
  generalize hg_m1 : ms mem 96 (ru (mem 96) 0 0) = m1 at k ⊢
  refine xr_aload_n (n := 0) (i := 0) rfl (List.mem_of_getElem? (i := 0) rfl) (by decide +kernel) ?_
  refine xr_iload_n (n := 1) (i := 1) rfl (List.mem_of_getElem? (i := 1) rfl) (by decide +kernel) ?_
  refine xr_callV (av := [(sh_i thief)]) rfl rfl rfl mo_Mod_isThief ml_Mod_386 im_Mod_isThief se_Mod_isThief rfl (Nat.le_of_ble_eq_true rfl) (by decide +kernel) (sh_mono k ?_)
  rintro rv m2 ⟨r1, rfl, k⟩
  show sh_X g (d + 1) m_Mod_freed _ _ [(sh_i r1)] _ _
  refine xr_if_eq (a' := (i3 r1)) rfl (off := 15) (tgt := 25) (by decide) (by decide +kernel) ⟨fun c1 => ?_, fun c1 => ?_⟩
  · have k := k.1 c1
    refine xr_iconst (n := (-1)) (by decide +kernel) ?_
    exact xr_iret rfl (by decide +kernel) k
  · have k := k.2 c1
    refine xr_aload_n (n := 0) (i := 0) rfl (List.mem_of_getElem? (i := 0) rfl) (by decide +kernel) ?_
    refine xr_getR (o := 33) rfl fl_Mod_108 rfl (by decide +kernel) ?_
    show sh_X g (d + 1) m_Mod_freed _ _ ((sh_r 129) :: _) _ _
    refine xr_bipush (n := 29) (v := 29) (by decide) (by decide +kernel) ?_
    refine xr_iload_n (n := 1) (i := 1) rfl (List.mem_of_getElem? (i := 1) rfl) (by decide +kernel) ?_
    refine xr_iadd (by decide +kernel) ?_
    show sh_X g (d + 1) m_Mod_freed _ _ ((sh_i (29 + thief)) :: _) _ _
    obtain ⟨o, k⟩ := k
    refine xr_iald rfl o.1 o.2 (by decide +kernel) ?_
    refine xr_goto (off := 4) (tgt := 26) (by decide) (by decide +kernel) ?_
    exact xr_iret rfl (by decide +kernel) k

theorem v_Mod_opens {g : sh_G} {d : Nat} {thief : Int} {day : Int}  {mem : sh_Mem} {Q : Option sh_V → sh_Mem → Prop}  (k : (∀ m1 : sh_Mem, m1 = ms mem 96 (ru (mem 96) 0 0) → (sh_Cal g d m_Mod_isThief [(sh_r 96), (sh_i thief)] m1 fun rv m2 => ∃ r1 : Int, rv = some (sh_i r1) ∧ (((i3 r1) = 0 → Q (some (sh_i (-1))) m2) ∧ (¬ (i3 r1) = 0 → (sh_Cal g d m_Mod_isDay [(sh_r 96), (sh_i day)] m2 fun rv m3 => ∃ r2 : Int, rv = some (sh_i r2) ∧ ((¬ (i3 r2) = 0 → (sh_Cal g d m_Mod_copies [(sh_r 129), (sh_i 0), (sh_r 131), (sh_i 0)] m3 fun rv m4 => rv = none ∧ sh_X g (d + 1) m_Mod_opens 38 [(0, (sh_r 96)), (1, (sh_i thief)), (2, (sh_i day)), (3, (sh_i 0))] [] m4 (sh_K m_Mod_opens Q))) ∧ ((i3 r2) = 0 → Q (some (sh_i (-1))) m3)))))))) : sh_Cal g (d + 1) m_Mod_opens [(sh_r 96), (sh_i thief), (sh_i day)] mem Q := by
  refine sh_met (by decide +kernel) (Nat.le_of_ble_eq_true rfl) (lo := [(0, (sh_r 96)), (1, (sh_i thief)), (2, (sh_i day))]) rfl ?_
  refine xr_aload_n (n := 0) (i := 0) rfl (List.mem_of_getElem? (i := 0) rfl) (by decide +kernel) ?_
  refine xr_iconst (n := 0) (by decide +kernel) ?_
  refine xr_putI rfl pl_Mod_141 rfl (by decide +kernel) ?_
  have k := k _ rfl
  generalize hg_m1 : ms mem 96 (ru (mem 96) 0 0) = m1 at k ⊢
  refine xr_aload_n (n := 0) (i := 0) rfl (List.mem_of_getElem? (i := 0) rfl) (by decide +kernel) ?_
  refine xr_iload_n (n := 1) (i := 1) rfl (List.mem_of_getElem? (i := 1) rfl) (by decide +kernel) ?_
  refine xr_callV (av := [(sh_i thief)]) rfl rfl rfl mo_Mod_isThief ml_Mod_386 im_Mod_isThief se_Mod_isThief rfl (Nat.le_of_ble_eq_true rfl) (by decide +kernel) (sh_mono k ?_)
  rintro rv m2 ⟨r1, rfl, k⟩
  show sh_X g (d + 1) m_Mod_opens _ _ [(sh_i r1)] _ _
  refine xr_if_eq (a' := (i3 r1)) rfl (off := 11) (tgt := 21) (by decide) (by decide +kernel) ⟨fun c1 => ?_, fun c1 => ?_⟩
  · have k := k.1 c1
    refine xr_iconst (n := (-1)) (by decide +kernel) ?_
    exact xr_iret rfl (by decide +kernel) k
  · have k := k.2 c1
    refine xr_aload_n (n := 0) (i := 0) rfl (List.mem_of_getElem? (i := 0) rfl) (by decide +kernel) ?_
    refine xr_iload_n (n := 2) (i := 2) rfl (List.mem_of_getElem? (i := 2) rfl) (by decide +kernel) ?_
    refine xr_callV (av := [(sh_i day)]) rfl rfl rfl mo_Mod_isDay ml_Mod_383 im_Mod_isDay se_Mod_isDay rfl (Nat.le_of_ble_eq_true rfl) (by decide +kernel) (sh_mono k ?_)
    rintro rv m3 ⟨r2, rfl, k⟩
    show sh_X g (d + 1) m_Mod_opens _ _ [(sh_i r2)] _ _
    refine xr_if_ne (a' := (i3 r2)) rfl (off := 5) (tgt := 23) (by decide) (by decide +kernel) ⟨fun c2 => ?_, fun c2 => ?_⟩
    · have k := k.1 c2
      refine xr_aload_n (n := 0) (i := 0) rfl (List.mem_of_getElem? (i := 0) rfl) (by decide +kernel) ?_
      refine xr_getR (o := 33) rfl fl_Mod_108 rfl (by decide +kernel) ?_
      show sh_X g (d + 1) m_Mod_opens _ _ ((sh_r 129) :: _) _ _
      refine xr_iconst (n := 0) (by decide +kernel) ?_
      refine xr_aload_n (n := 0) (i := 0) rfl (List.mem_of_getElem? (i := 0) rfl) (by decide +kernel) ?_
      refine xr_getR (o := 35) rfl fl_Mod_114 rfl (by decide +kernel) ?_
      show sh_X g (d + 1) m_Mod_opens _ _ ((sh_r 131) :: _) _ _
      refine xr_iconst (n := 0) (by decide +kernel) ?_
      refine xr_callS (av := [(sh_r 129), (sh_i 0), (sh_r 131), (sh_i 0)]) mo_Mod_copies ml_Mod_389 sa_Mod_copies rfl (Nat.le_of_ble_eq_true rfl) (by decide +kernel) (sh_mono k ?_)
      rintro rv m4 ⟨rfl, k⟩
      show sh_X g (d + 1) m_Mod_opens _ _ [] _ _
      refine xr_iconst (n := 0) (by decide +kernel) ?_
      refine xr_istore_n (n := 3) (i := 3) rfl (by decide) rfl (by decide +kernel) ?_
      refine xr_sub (lo' := [(0, (sh_r 96)), (1, (sh_i thief)), (2, (sh_i day)), (3, (sh_i 0))]) [1, 2, 3, 0] rfl ?_
      exact k
    · have k := k.2 c2
      refine xr_iconst (n := (-1)) (by decide +kernel) ?_
      exact xr_iret rfl (by decide +kernel) k
theorem v_Mod_opens_38 {g : sh_G} {d : Nat} {thief : Int} {day : Int}  {mem : sh_Mem} {Q : Option sh_V → sh_Mem → Prop}  {x3 : Nat} (k : ((60 < (i3 (x3 : Int)) → (sh_Cal g d m_Mod_copies [(sh_r 131), (sh_i 0), (sh_r 129), (sh_i 0)] mem fun rv m1 => rv = none ∧ (((i3 (x3 : Int)) ≤ 60 → Q (some (sh_i (x3 : Int))) m1) ∧ (¬ (i3 (x3 : Int)) ≤ 60 → Q (some (sh_i (-1))) m1)))) ∧ (¬ 60 < (i3 (x3 : Int)) → (sh_Cal g d m_Mod_isFree [(sh_r 96), (sh_i thief)] mem fun rv m2 => ∃ r1 : Int, rv = some (sh_i r1) ∧ (((i3 r1) = 0 → (sh_Cal g d m_Mod_passes [(sh_r 96)] m2 fun rv m3 => rv = none ∧ sh_X g (d + 1) m_Mod_opens 38 [(0, (sh_r 96)), (1, (sh_i thief)), (2, (sh_i day)), (3, (sh_i (((x3 + 1) : Nat) : Int)))] [] m3 (sh_K m_Mod_opens Q))) ∧ (¬ (i3 r1) = 0 → (sh_Cal g d m_Mod_isOpen [(sh_r 96), (sh_i thief), (sh_i day)] m2 fun rv m4 => ∃ r2 : Int, rv = some (sh_i r2) ∧ ((¬ (i3 r2) = 0 → (sh_Cal g d m_Mod_copies [(sh_r 131), (sh_i 0), (sh_r 129), (sh_i 0)] m4 fun rv m5 => rv = none ∧ (((i3 (x3 : Int)) ≤ 60 → Q (some (sh_i (x3 : Int))) m5) ∧ (¬ (i3 (x3 : Int)) ≤ 60 → Q (some (sh_i (-1))) m5)))) ∧ ((i3 r2) = 0 → (sh_Cal g d m_Mod_passes [(sh_r 96)] m4 fun rv m6 => rv = none ∧ sh_X g (d + 1) m_Mod_opens 38 [(0, (sh_r 96)), (1, (sh_i thief)), (2, (sh_i day)), (3, (sh_i (((x3 + 1) : Nat) : Int)))] [] m6 (sh_K m_Mod_opens Q))))))))))) : sh_X g (d + 1) m_Mod_opens 38 [(0, (sh_r 96)), (1, (sh_i thief)), (2, (sh_i day)), (3, (sh_i (x3 : Int)))] [] mem (sh_K m_Mod_opens Q) := by
  refine xr_iload_n (n := 3) (i := 3) rfl (List.mem_of_getElem? (i := 3) rfl) (by decide +kernel) ?_
  refine xr_bipush (n := 60) (v := 60) (by decide) (by decide +kernel) ?_
  refine xr_icmp_gt (a' := (i3 (x3 : Int))) (b' := 60) rfl (by decide) (off := 30) (tgt := 71) (by decide) (by decide +kernel) ⟨fun c1 => ?_, fun c1 => ?_⟩
  · have k := k.1 c1
    refine xr_aload_n (n := 0) (i := 0) rfl (List.mem_of_getElem? (i := 0) rfl) (by decide +kernel) ?_
    refine xr_getR (o := 35) rfl fl_Mod_114 rfl (by decide +kernel) ?_
    show sh_X g (d + 1) m_Mod_opens _ _ ((sh_r 131) :: _) _ _
    refine xr_iconst (n := 0) (by decide +kernel) ?_
    refine xr_aload_n (n := 0) (i := 0) rfl (List.mem_of_getElem? (i := 0) rfl) (by decide +kernel) ?_
    refine xr_getR (o := 33) rfl fl_Mod_108 rfl (by decide +kernel) ?_
    show sh_X g (d + 1) m_Mod_opens _ _ ((sh_r 129) :: _) _ _
    refine xr_iconst (n := 0) (by decide +kernel) ?_
    refine xr_callS (av := [(sh_r 131), (sh_i 0), (sh_r 129), (sh_i 0)]) mo_Mod_copies ml_Mod_389 sa_Mod_copies rfl (Nat.le_of_ble_eq_true rfl) (by decide +kernel) (sh_mono k ?_)
    rintro rv m1 ⟨rfl, k⟩
    show sh_X g (d + 1) m_Mod_opens _ _ [] _ _
    refine xr_iload_n (n := 3) (i := 3) rfl (List.mem_of_getElem? (i := 3) rfl) (by decide +kernel) ?_
    refine xr_bipush (n := 60) (v := 60) (by decide) (by decide +kernel) ?_
    refine xr_icmp_le (a' := (i3 (x3 : Int))) (b' := 60) rfl (by decide) (off := 7) (tgt := 94) (by decide) (by decide +kernel) ⟨fun c2 => ?_, fun c2 => ?_⟩
    · have k := k.1 c2
      refine xr_iload_n (n := 3) (i := 3) rfl (List.mem_of_getElem? (i := 3) rfl) (by decide +kernel) ?_
      exact xr_iret rfl (by decide +kernel) k
    · have k := k.2 c2
      refine xr_iconst (n := (-1)) (by decide +kernel) ?_
      refine xr_goto (off := 4) (tgt := 95) (by decide) (by decide +kernel) ?_
      exact xr_iret rfl (by decide +kernel) k
  · have k := k.2 c1
    refine xr_aload_n (n := 0) (i := 0) rfl (List.mem_of_getElem? (i := 0) rfl) (by decide +kernel) ?_
    refine xr_iload_n (n := 1) (i := 1) rfl (List.mem_of_getElem? (i := 1) rfl) (by decide +kernel) ?_
    refine xr_callV (av := [(sh_i thief)]) rfl rfl rfl mo_Mod_isFree ml_Mod_343 im_Mod_isFree se_Mod_isFree rfl (Nat.le_of_ble_eq_true rfl) (by decide +kernel) (sh_mono k ?_)
    rintro rv m2 ⟨r1, rfl, k⟩
    show sh_X g (d + 1) m_Mod_opens _ _ [(sh_i r1)] _ _
    refine xr_if_eq (a' := (i3 r1)) rfl (off := 12) (tgt := 61) (by decide) (by decide +kernel) ⟨fun c3 => ?_, fun c3 => ?_⟩
    · have k := k.1 c3
      refine xr_aload_n (n := 0) (i := 0) rfl (List.mem_of_getElem? (i := 0) rfl) (by decide +kernel) ?_
      refine xr_callV (av := []) rfl rfl rfl mo_Mod_passes ml_Mod_414 im_Mod_passes se_Mod_passes rfl (Nat.le_of_ble_eq_true rfl) (by decide +kernel) (sh_mono k ?_)
      rintro rv m3 ⟨rfl, k⟩
      show sh_X g (d + 1) m_Mod_opens _ _ [] _ _
      refine xr_iinc (n := 1) (lo' := [(3, (sh_i (((x3 + 1) : Nat) : Int))), (0, (sh_r 96)), (1, (sh_i thief)), (2, (sh_i day))]) (List.mem_of_getElem? (i := 3) rfl) (by decide) rfl (by decide +kernel) ?_
      refine xr_goto (off := (-30)) (tgt := 38) (by decide) (by decide +kernel) ?_
      refine xr_sub (lo' := [(0, (sh_r 96)), (1, (sh_i thief)), (2, (sh_i day)), (3, (sh_i (((x3 + 1) : Nat) : Int)))]) [1, 2, 3, 0] rfl ?_
      exact k
    · have k := k.2 c3
      refine xr_aload_n (n := 0) (i := 0) rfl (List.mem_of_getElem? (i := 0) rfl) (by decide +kernel) ?_
      refine xr_iload_n (n := 1) (i := 1) rfl (List.mem_of_getElem? (i := 1) rfl) (by decide +kernel) ?_
      refine xr_iload_n (n := 2) (i := 2) rfl (List.mem_of_getElem? (i := 2) rfl) (by decide +kernel) ?_
      refine xr_callV (av := [(sh_i thief), (sh_i day)]) rfl rfl rfl mo_Mod_isOpen ml_Mod_349 im_Mod_isOpen se_Mod_isOpen rfl (Nat.le_of_ble_eq_true rfl) (by decide +kernel) (sh_mono k ?_)
      rintro rv m4 ⟨r2, rfl, k⟩
      show sh_X g (d + 1) m_Mod_opens _ _ [(sh_i r2)] _ _
      refine xr_if_ne (a' := (i3 r2)) rfl (off := 13) (tgt := 71) (by decide) (by decide +kernel) ⟨fun c4 => ?_, fun c4 => ?_⟩
      · have k := k.1 c4
        refine xr_aload_n (n := 0) (i := 0) rfl (List.mem_of_getElem? (i := 0) rfl) (by decide +kernel) ?_
        refine xr_getR (o := 35) rfl fl_Mod_114 rfl (by decide +kernel) ?_
        show sh_X g (d + 1) m_Mod_opens _ _ ((sh_r 131) :: _) _ _
        refine xr_iconst (n := 0) (by decide +kernel) ?_
        refine xr_aload_n (n := 0) (i := 0) rfl (List.mem_of_getElem? (i := 0) rfl) (by decide +kernel) ?_
        refine xr_getR (o := 33) rfl fl_Mod_108 rfl (by decide +kernel) ?_
        show sh_X g (d + 1) m_Mod_opens _ _ ((sh_r 129) :: _) _ _
        refine xr_iconst (n := 0) (by decide +kernel) ?_
        refine xr_callS (av := [(sh_r 131), (sh_i 0), (sh_r 129), (sh_i 0)]) mo_Mod_copies ml_Mod_389 sa_Mod_copies rfl (Nat.le_of_ble_eq_true rfl) (by decide +kernel) (sh_mono k ?_)
        rintro rv m5 ⟨rfl, k⟩
        show sh_X g (d + 1) m_Mod_opens _ _ [] _ _
        refine xr_iload_n (n := 3) (i := 3) rfl (List.mem_of_getElem? (i := 3) rfl) (by decide +kernel) ?_
        refine xr_bipush (n := 60) (v := 60) (by decide) (by decide +kernel) ?_
        refine xr_icmp_le (a' := (i3 (x3 : Int))) (b' := 60) rfl (by decide) (off := 7) (tgt := 94) (by decide) (by decide +kernel) ⟨fun c5 => ?_, fun c5 => ?_⟩
        · have k := k.1 c5
          refine xr_iload_n (n := 3) (i := 3) rfl (List.mem_of_getElem? (i := 3) rfl) (by decide +kernel) ?_
          exact xr_iret rfl (by decide +kernel) k
        · have k := k.2 c5
          refine xr_iconst (n := (-1)) (by decide +kernel) ?_
          refine xr_goto (off := 4) (tgt := 95) (by decide) (by decide +kernel) ?_
          exact xr_iret rfl (by decide +kernel) k
      · have k := k.2 c4
        refine xr_aload_n (n := 0) (i := 0) rfl (List.mem_of_getElem? (i := 0) rfl) (by decide +kernel) ?_
        refine xr_callV (av := []) rfl rfl rfl mo_Mod_passes ml_Mod_414 im_Mod_passes se_Mod_passes rfl (Nat.le_of_ble_eq_true rfl) (by decide +kernel) (sh_mono k ?_)
        rintro rv m6 ⟨rfl, k⟩
        show sh_X g (d + 1) m_Mod_opens _ _ [] _ _
        refine xr_iinc (n := 1) (lo' := [(3, (sh_i (((x3 + 1) : Nat) : Int))), (0, (sh_r 96)), (1, (sh_i thief)), (2, (sh_i day))]) (List.mem_of_getElem? (i := 3) rfl) (by decide) rfl (by decide +kernel) ?_
        refine xr_goto (off := (-30)) (tgt := 38) (by decide) (by decide +kernel) ?_
        refine xr_sub (lo' := [(0, (sh_r 96)), (1, (sh_i thief)), (2, (sh_i day)), (3, (sh_i (((x3 + 1) : Nat) : Int)))]) [1, 2, 3, 0] rfl ?_
        exact k

theorem v_Mod_areWhole {g : sh_G} {d : Nat}   {mem : sh_Mem} {Q : Option sh_V → sh_Mem → Prop}  (k : sh_X g d m_Mod_areWhole 2 [(0, (sh_r 96)), (1, (sh_i 0))] [] mem (sh_K m_Mod_areWhole Q)) : sh_Cal g d m_Mod_areWhole [(sh_r 96)] mem Q := by
  refine sh_met (by decide +kernel) (Nat.le_of_ble_eq_true rfl) (lo := [(0, (sh_r 96))]) rfl ?_
  refine xr_iconst (n := 0) (by decide +kernel) ?_
  refine xr_istore_n (n := 1) (i := 1) rfl (by decide) rfl (by decide +kernel) ?_
  refine xr_sub (lo' := [(0, (sh_r 96)), (1, (sh_i 0))]) [1, 0] rfl ?_
  exact k
theorem v_Mod_areWhole_2 {g : sh_G} {d : Nat}   {mem : sh_Mem} {Q : Option sh_V → sh_Mem → Prop}  {x1 : Nat} (k : (((i3 (mem 98 0)) ≤ (i3 (x1 : Int)) → Q (some (sh_i 1)) mem) ∧ (¬ (i3 (mem 98 0)) ≤ (i3 (x1 : Int)) → ((1 + x1) < 45 ∧ (x1 < 16 ∧ (((i3 (mem 102 x1)) ≤ (i3 (mem 129 (1 + x1))) → sh_X g d m_Mod_areWhole 2 [(0, (sh_r 96)), (1, (sh_i (((x1 + 1) : Nat) : Int)))] [] mem (sh_K m_Mod_areWhole Q)) ∧ (¬ (i3 (mem 102 x1)) ≤ (i3 (mem 129 (1 + x1))) → Q (some (sh_i 0)) mem))))))) : sh_X g d m_Mod_areWhole 2 [(0, (sh_r 96)), (1, (sh_i (x1 : Int)))] [] mem (sh_K m_Mod_areWhole Q) := by
  refine xr_iload_n (n := 1) (i := 1) rfl (List.mem_of_getElem? (i := 1) rfl) (by decide +kernel) ?_
  refine xr_aload_n (n := 0) (i := 0) rfl (List.mem_of_getElem? (i := 0) rfl) (by decide +kernel) ?_
  refine xr_getR (o := 2) rfl fl_Mod_13 rfl (by decide +kernel) ?_
  show sh_X g d m_Mod_areWhole _ _ ((sh_r 98) :: _) _ _
  refine xr_iconst (n := 0) (by decide +kernel) ?_
  refine xr_ialdN (j := 0) rfl rfl (by decide) (by decide +kernel) ?_
  refine xr_icmp_ge (a' := (i3 (x1 : Int))) (b' := (i3 (mem 98 0))) rfl rfl (off := 28) (tgt := 37) (by decide) (by decide +kernel) ⟨fun c1 => ?_, fun c1 => ?_⟩
  · have k := k.1 c1
    refine xr_iconst (n := 1) (by decide +kernel) ?_
    exact xr_zret rfl (by decide +kernel) (by decide) k
  · have k := k.2 c1
    refine xr_aload_n (n := 0) (i := 0) rfl (List.mem_of_getElem? (i := 0) rfl) (by decide +kernel) ?_
    refine xr_getR (o := 33) rfl fl_Mod_108 rfl (by decide +kernel) ?_
    show sh_X g d m_Mod_areWhole _ _ ((sh_r 129) :: _) _ _
    refine xr_iconst (n := 1) (by decide +kernel) ?_
    refine xr_iload_n (n := 1) (i := 1) rfl (List.mem_of_getElem? (i := 1) rfl) (by decide +kernel) ?_
    refine xr_iadd (by decide +kernel) ?_
    show sh_X g d m_Mod_areWhole _ _ ((sh_i (((1 + x1) : Nat) : Int)) :: _) _ _
    obtain ⟨o, k⟩ := k
    refine xr_ialdN (j := (1 + x1)) rfl rfl o (by decide +kernel) ?_
    refine xr_aload_n (n := 0) (i := 0) rfl (List.mem_of_getElem? (i := 0) rfl) (by decide +kernel) ?_
    refine xr_getR (o := 6) rfl fl_Mod_26 rfl (by decide +kernel) ?_
    show sh_X g d m_Mod_areWhole _ _ ((sh_r 102) :: _) _ _
    refine xr_iload_n (n := 1) (i := 1) rfl (List.mem_of_getElem? (i := 1) rfl) (by decide +kernel) ?_
    obtain ⟨o, k⟩ := k
    refine xr_ialdN (j := x1) rfl rfl o (by decide +kernel) ?_
    refine xr_icmp_ge (a' := (i3 (mem 129 (1 + x1)))) (b' := (i3 (mem 102 x1))) rfl rfl (off := 5) (tgt := 31) (by decide) (by decide +kernel) ⟨fun c2 => ?_, fun c2 => ?_⟩
    · have k := k.1 c2
      refine xr_iinc (n := 1) (lo' := [(1, (sh_i (((x1 + 1) : Nat) : Int))), (0, (sh_r 96))]) (List.mem_of_getElem? (i := 1) rfl) (by decide) rfl (by decide +kernel) ?_
      refine xr_goto (off := (-32)) (tgt := 2) (by decide) (by decide +kernel) ?_
      refine xr_sub (lo' := [(0, (sh_r 96)), (1, (sh_i (((x1 + 1) : Nat) : Int)))]) [1, 0] rfl ?_
      exact k
    · have k := k.2 c2
      refine xr_iconst (n := 0) (by decide +kernel) ?_
      exact xr_zret rfl (by decide +kernel) (by decide) k

theorem v_Mod_whole {g : sh_G} {d : Nat}   {mem : sh_Mem} {Q : Option sh_V → sh_Mem → Prop}  (k : (∀ m1 : sh_Mem, m1 = ms mem 96 (ru (mem 96) 0 0) → (sh_Cal g d m_Mod_copies [(sh_r 129), (sh_i 0), (sh_r 131), (sh_i 0)] m1 fun rv m2 => rv = none ∧ sh_X g (d + 1) m_Mod_whole 20 [(0, (sh_r 96)), (1, (sh_i 0))] [] m2 (sh_K m_Mod_whole Q)))) : sh_Cal g (d + 1) m_Mod_whole [(sh_r 96)] mem Q := by
  refine sh_met (by decide +kernel) (Nat.le_of_ble_eq_true rfl) (lo := [(0, (sh_r 96))]) rfl ?_
  refine xr_aload_n (n := 0) (i := 0) rfl (List.mem_of_getElem? (i := 0) rfl) (by decide +kernel) ?_
  refine xr_iconst (n := 0) (by decide +kernel) ?_
  refine xr_putI rfl pl_Mod_141 rfl (by decide +kernel) ?_
  have k := k _ rfl
  generalize hg_m1 : ms mem 96 (ru (mem 96) 0 0) = m1 at k ⊢
  refine xr_aload_n (n := 0) (i := 0) rfl (List.mem_of_getElem? (i := 0) rfl) (by decide +kernel) ?_
  refine xr_getR (o := 33) rfl fl_Mod_108 rfl (by decide +kernel) ?_
  show sh_X g (d + 1) m_Mod_whole _ _ ((sh_r 129) :: _) _ _
  refine xr_iconst (n := 0) (by decide +kernel) ?_
  refine xr_aload_n (n := 0) (i := 0) rfl (List.mem_of_getElem? (i := 0) rfl) (by decide +kernel) ?_
  refine xr_getR (o := 35) rfl fl_Mod_114 rfl (by decide +kernel) ?_
  show sh_X g (d + 1) m_Mod_whole _ _ ((sh_r 131) :: _) _ _
  refine xr_iconst (n := 0) (by decide +kernel) ?_
  refine xr_callS (av := [(sh_r 129), (sh_i 0), (sh_r 131), (sh_i 0)]) mo_Mod_copies ml_Mod_389 sa_Mod_copies rfl (Nat.le_of_ble_eq_true rfl) (by decide +kernel) (sh_mono k ?_)
  rintro rv m2 ⟨rfl, k⟩
  show sh_X g (d + 1) m_Mod_whole _ _ [] _ _
  refine xr_iconst (n := 0) (by decide +kernel) ?_
  refine xr_istore_n (n := 1) (i := 1) rfl (by decide) rfl (by decide +kernel) ?_
  refine xr_sub (lo' := [(0, (sh_r 96)), (1, (sh_i 0))]) [1, 0] rfl ?_
  exact k
theorem v_Mod_whole_20 {g : sh_G} {d : Nat}   {mem : sh_Mem} {Q : Option sh_V → sh_Mem → Prop}  {x1 : Nat} (k : ((60 < (i3 (x1 : Int)) → (sh_Cal g d m_Mod_copies [(sh_r 131), (sh_i 0), (sh_r 129), (sh_i 0)] mem fun rv m1 => rv = none ∧ (((i3 (x1 : Int)) ≤ 60 → Q (some (sh_i (x1 : Int))) m1) ∧ (¬ (i3 (x1 : Int)) ≤ 60 → Q (some (sh_i (-1))) m1)))) ∧ (¬ 60 < (i3 (x1 : Int)) → (sh_Cal g d m_Mod_areWhole [(sh_r 96)] mem fun rv m2 => ∃ r1 : Int, rv = some (sh_i r1) ∧ ((¬ (i3 r1) = 0 → (sh_Cal g d m_Mod_copies [(sh_r 131), (sh_i 0), (sh_r 129), (sh_i 0)] m2 fun rv m3 => rv = none ∧ (((i3 (x1 : Int)) ≤ 60 → Q (some (sh_i (x1 : Int))) m3) ∧ (¬ (i3 (x1 : Int)) ≤ 60 → Q (some (sh_i (-1))) m3)))) ∧ ((i3 r1) = 0 → (sh_Cal g d m_Mod_passes [(sh_r 96)] m2 fun rv m4 => rv = none ∧ sh_X g (d + 1) m_Mod_whole 20 [(0, (sh_r 96)), (1, (sh_i (((x1 + 1) : Nat) : Int)))] [] m4 (sh_K m_Mod_whole Q)))))))) : sh_X g (d + 1) m_Mod_whole 20 [(0, (sh_r 96)), (1, (sh_i (x1 : Int)))] [] mem (sh_K m_Mod_whole Q) := by
  refine xr_iload_n (n := 1) (i := 1) rfl (List.mem_of_getElem? (i := 1) rfl) (by decide +kernel) ?_
  refine xr_bipush (n := 60) (v := 60) (by decide) (by decide +kernel) ?_
  refine xr_icmp_gt (a' := (i3 (x1 : Int))) (b' := 60) rfl (by decide) (off := 20) (tgt := 43) (by decide) (by decide +kernel) ⟨fun c1 => ?_, fun c1 => ?_⟩
  · have k := k.1 c1
    refine xr_aload_n (n := 0) (i := 0) rfl (List.mem_of_getElem? (i := 0) rfl) (by decide +kernel) ?_
    refine xr_getR (o := 35) rfl fl_Mod_114 rfl (by decide +kernel) ?_
    show sh_X g (d + 1) m_Mod_whole _ _ ((sh_r 131) :: _) _ _
    refine xr_iconst (n := 0) (by decide +kernel) ?_
    refine xr_aload_n (n := 0) (i := 0) rfl (List.mem_of_getElem? (i := 0) rfl) (by decide +kernel) ?_
    refine xr_getR (o := 33) rfl fl_Mod_108 rfl (by decide +kernel) ?_
    show sh_X g (d + 1) m_Mod_whole _ _ ((sh_r 129) :: _) _ _
    refine xr_iconst (n := 0) (by decide +kernel) ?_
    refine xr_callS (av := [(sh_r 131), (sh_i 0), (sh_r 129), (sh_i 0)]) mo_Mod_copies ml_Mod_389 sa_Mod_copies rfl (Nat.le_of_ble_eq_true rfl) (by decide +kernel) (sh_mono k ?_)
    rintro rv m1 ⟨rfl, k⟩
    show sh_X g (d + 1) m_Mod_whole _ _ [] _ _
    refine xr_iload_n (n := 1) (i := 1) rfl (List.mem_of_getElem? (i := 1) rfl) (by decide +kernel) ?_
    refine xr_bipush (n := 60) (v := 60) (by decide) (by decide +kernel) ?_
    refine xr_icmp_le (a' := (i3 (x1 : Int))) (b' := 60) rfl (by decide) (off := 7) (tgt := 66) (by decide) (by decide +kernel) ⟨fun c2 => ?_, fun c2 => ?_⟩
    · have k := k.1 c2
      refine xr_iload_n (n := 1) (i := 1) rfl (List.mem_of_getElem? (i := 1) rfl) (by decide +kernel) ?_
      exact xr_iret rfl (by decide +kernel) k
    · have k := k.2 c2
      refine xr_iconst (n := (-1)) (by decide +kernel) ?_
      refine xr_goto (off := 4) (tgt := 67) (by decide) (by decide +kernel) ?_
      exact xr_iret rfl (by decide +kernel) k
  · have k := k.2 c1
    refine xr_aload_n (n := 0) (i := 0) rfl (List.mem_of_getElem? (i := 0) rfl) (by decide +kernel) ?_
    refine xr_callV (av := []) rfl rfl rfl mo_Mod_areWhole ml_Mod_438 im_Mod_areWhole se_Mod_areWhole rfl (Nat.le_of_ble_eq_true rfl) (by decide +kernel) (sh_mono k ?_)
    rintro rv m2 ⟨r1, rfl, k⟩
    show sh_X g (d + 1) m_Mod_whole _ _ [(sh_i r1)] _ _
    refine xr_if_ne (a' := (i3 r1)) rfl (off := 13) (tgt := 43) (by decide) (by decide +kernel) ⟨fun c3 => ?_, fun c3 => ?_⟩
    · have k := k.1 c3
      refine xr_aload_n (n := 0) (i := 0) rfl (List.mem_of_getElem? (i := 0) rfl) (by decide +kernel) ?_
      refine xr_getR (o := 35) rfl fl_Mod_114 rfl (by decide +kernel) ?_
      show sh_X g (d + 1) m_Mod_whole _ _ ((sh_r 131) :: _) _ _
      refine xr_iconst (n := 0) (by decide +kernel) ?_
      refine xr_aload_n (n := 0) (i := 0) rfl (List.mem_of_getElem? (i := 0) rfl) (by decide +kernel) ?_
      refine xr_getR (o := 33) rfl fl_Mod_108 rfl (by decide +kernel) ?_
      show sh_X g (d + 1) m_Mod_whole _ _ ((sh_r 129) :: _) _ _
      refine xr_iconst (n := 0) (by decide +kernel) ?_
      refine xr_callS (av := [(sh_r 131), (sh_i 0), (sh_r 129), (sh_i 0)]) mo_Mod_copies ml_Mod_389 sa_Mod_copies rfl (Nat.le_of_ble_eq_true rfl) (by decide +kernel) (sh_mono k ?_)
      rintro rv m3 ⟨rfl, k⟩
      show sh_X g (d + 1) m_Mod_whole _ _ [] _ _
      refine xr_iload_n (n := 1) (i := 1) rfl (List.mem_of_getElem? (i := 1) rfl) (by decide +kernel) ?_
      refine xr_bipush (n := 60) (v := 60) (by decide) (by decide +kernel) ?_
      refine xr_icmp_le (a' := (i3 (x1 : Int))) (b' := 60) rfl (by decide) (off := 7) (tgt := 66) (by decide) (by decide +kernel) ⟨fun c4 => ?_, fun c4 => ?_⟩
      · have k := k.1 c4
        refine xr_iload_n (n := 1) (i := 1) rfl (List.mem_of_getElem? (i := 1) rfl) (by decide +kernel) ?_
        exact xr_iret rfl (by decide +kernel) k
      · have k := k.2 c4
        refine xr_iconst (n := (-1)) (by decide +kernel) ?_
        refine xr_goto (off := 4) (tgt := 67) (by decide) (by decide +kernel) ?_
        exact xr_iret rfl (by decide +kernel) k
    · have k := k.2 c3
      refine xr_aload_n (n := 0) (i := 0) rfl (List.mem_of_getElem? (i := 0) rfl) (by decide +kernel) ?_
      refine xr_callV (av := []) rfl rfl rfl mo_Mod_passes ml_Mod_414 im_Mod_passes se_Mod_passes rfl (Nat.le_of_ble_eq_true rfl) (by decide +kernel) (sh_mono k ?_)
      rintro rv m4 ⟨rfl, k⟩
      show sh_X g (d + 1) m_Mod_whole _ _ [] _ _
      refine xr_iinc (n := 1) (lo' := [(1, (sh_i (((x1 + 1) : Nat) : Int))), (0, (sh_r 96))]) (List.mem_of_getElem? (i := 1) rfl) (by decide) rfl (by decide +kernel) ?_
      refine xr_goto (off := (-20)) (tgt := 20) (by decide) (by decide +kernel) ?_
      refine xr_sub (lo' := [(0, (sh_r 96)), (1, (sh_i (((x1 + 1) : Nat) : Int)))]) [1, 0] rfl ?_
      exact k

theorem v_Mod_waitFor {g : sh_G} {d : Nat} {t : Nat} {joy : Int}  {mem : sh_Mem} {Q : Option sh_V → sh_Mem → Prop}  (k : (sh_Cal g d m_Mod_copies [(sh_r 129), (sh_i 0), (sh_r 131), (sh_i 0)] mem fun rv m1 => rv = none ∧ (∀ m2 : sh_Mem, m2 = ms m1 96 (ru (m1 96) 52 (-1)) → sh_X g (d + 1) m_Mod_waitFor 23 [(0, (sh_r 96)), (1, (sh_i (t : Int))), (2, (sh_i joy)), (3, (sh_i 0)), (4, (sh_i 0))] [] m2 (sh_K m_Mod_waitFor Q)))) : sh_Cal g (d + 1) m_Mod_waitFor [(sh_r 96), (sh_i (t : Int)), (sh_i joy)] mem Q := by
  refine sh_met (by decide +kernel) (Nat.le_of_ble_eq_true rfl) (lo := [(0, (sh_r 96)), (1, (sh_i (t : Int))), (2, (sh_i joy))]) rfl ?_
  refine xr_aload_n (n := 0) (i := 0) rfl (List.mem_of_getElem? (i := 0) rfl) (by decide +kernel) ?_
  refine xr_getR (o := 33) rfl fl_Mod_108 rfl (by decide +kernel) ?_
  show sh_X g (d + 1) m_Mod_waitFor _ _ ((sh_r 129) :: _) _ _
  refine xr_iconst (n := 0) (by decide +kernel) ?_
  refine xr_aload_n (n := 0) (i := 0) rfl (List.mem_of_getElem? (i := 0) rfl) (by decide +kernel) ?_
  refine xr_getR (o := 35) rfl fl_Mod_114 rfl (by decide +kernel) ?_
  show sh_X g (d + 1) m_Mod_waitFor _ _ ((sh_r 131) :: _) _ _
  refine xr_iconst (n := 0) (by decide +kernel) ?_
  refine xr_callS (av := [(sh_r 129), (sh_i 0), (sh_r 131), (sh_i 0)]) mo_Mod_copies ml_Mod_389 sa_Mod_copies rfl (Nat.le_of_ble_eq_true rfl) (by decide +kernel) (sh_mono k ?_)
  rintro rv m1 ⟨rfl, k⟩
  show sh_X g (d + 1) m_Mod_waitFor _ _ [] _ _
  refine xr_aload_n (n := 0) (i := 0) rfl (List.mem_of_getElem? (i := 0) rfl) (by decide +kernel) ?_
  refine xr_iconst (n := (-1)) (by decide +kernel) ?_
  refine xr_putI rfl pl_Mod_441 rfl (by decide +kernel) ?_
  have k := k _ rfl
  generalize hg_m2 : ms m1 96 (ru (m1 96) 52 (-1)) = m2 at k ⊢
  refine xr_iconst (n := 0) (by decide +kernel) ?_
  refine xr_istore_n (n := 3) (i := 3) rfl (by decide) rfl (by decide +kernel) ?_
  refine xr_iconst (n := 0) (by decide +kernel) ?_
  refine xr_istore (i := 4) (by decide) rfl (by decide +kernel) ?_
  refine xr_sub (lo' := [(0, (sh_r 96)), (1, (sh_i (t : Int))), (2, (sh_i joy)), (3, (sh_i 0)), (4, (sh_i 0))]) [2, 3, 4, 1, 0] rfl ?_
  exact k
theorem v_Mod_waitFor_23 {g : sh_G} {d : Nat} {t : Nat} {joy : Int}  {mem : sh_Mem} {Q : Option sh_V → sh_Mem → Prop}  {x3 : Int} {x4 : Nat} (k : ((30 < (i3 (x4 : Int)) → (sh_Cal g d m_Mod_copies [(sh_r 131), (sh_i 0), (sh_r 129), (sh_i 0)] mem fun rv m1 => rv = none ∧ Q (some (sh_i x3)) m1)) ∧ (¬ 30 < (i3 (x4 : Int)) → (((i3 joy) = 0 → (sh_Cal g d m_Mod_priceOf [(sh_r 96), (sh_i (t : Int))] mem fun rv m2 => ∃ r1 : Int, rv = some (sh_i r1) ∧ (((i3 r1) ≤ (i3 (m2 96 52)) → (sh_Cal g d m_Mod_passes [(sh_r 96)] m2 fun rv m3 => rv = none ∧ sh_X g (d + 1) m_Mod_waitFor 23 [(0, (sh_r 96)), (1, (sh_i (t : Int))), (2, (sh_i joy)), (3, (sh_i x3)), (4, (sh_i (((x4 + 1) : Nat) : Int)))] [] m3 (sh_K m_Mod_waitFor Q))) ∧ (¬ (i3 r1) ≤ (i3 (m2 96 52)) → (∀ m4 : sh_Mem, m4 = ms m2 96 (ru (m2 96) 52 r1) → (sh_Cal g d m_Mod_passes [(sh_r 96)] m4 fun rv m5 => rv = none ∧ sh_X g (d + 1) m_Mod_waitFor 23 [(0, (sh_r 96)), (1, (sh_i (t : Int))), (2, (sh_i joy)), (3, (sh_i (x4 : Int))), (4, (sh_i (((x4 + 1) : Nat) : Int)))] [] m5 (sh_K m_Mod_waitFor Q))))))) ∧ (¬ (i3 joy) = 0 → (sh_Cal g d m_Mod_joyOf [(sh_r 96), (sh_i (t : Int))] mem fun rv m6 => ∃ r2 : Int, rv = some (sh_i r2) ∧ (((i3 r2) ≤ (i3 (m6 96 52)) → (sh_Cal g d m_Mod_passes [(sh_r 96)] m6 fun rv m7 => rv = none ∧ sh_X g (d + 1) m_Mod_waitFor 23 [(0, (sh_r 96)), (1, (sh_i (t : Int))), (2, (sh_i joy)), (3, (sh_i x3)), (4, (sh_i (((x4 + 1) : Nat) : Int)))] [] m7 (sh_K m_Mod_waitFor Q))) ∧ (¬ (i3 r2) ≤ (i3 (m6 96 52)) → (∀ m8 : sh_Mem, m8 = ms m6 96 (ru (m6 96) 52 r2) → (sh_Cal g d m_Mod_passes [(sh_r 96)] m8 fun rv m9 => rv = none ∧ sh_X g (d + 1) m_Mod_waitFor 23 [(0, (sh_r 96)), (1, (sh_i (t : Int))), (2, (sh_i joy)), (3, (sh_i (x4 : Int))), (4, (sh_i (((x4 + 1) : Nat) : Int)))] [] m9 (sh_K m_Mod_waitFor Q))))))))))) : sh_X g (d + 1) m_Mod_waitFor 23 [(0, (sh_r 96)), (1, (sh_i (t : Int))), (2, (sh_i joy)), (3, (sh_i x3)), (4, (sh_i (x4 : Int)))] [] mem (sh_K m_Mod_waitFor Q) := by
  refine xr_iload (i := 4) (List.mem_of_getElem? (i := 4) rfl) (by decide +kernel) ?_
  refine xr_bipush (n := 30) (v := 30) (by decide) (by decide +kernel) ?_
  refine xr_icmp_gt (a' := (i3 (x4 : Int))) (b' := 30) rfl (by decide) (off := 50) (tgt := 77) (by decide) (by decide +kernel) ⟨fun c1 => ?_, fun c1 => ?_⟩
  · have k := k.1 c1
    refine xr_aload_n (n := 0) (i := 0) rfl (List.mem_of_getElem? (i := 0) rfl) (by decide +kernel) ?_
    refine xr_getR (o := 35) rfl fl_Mod_114 rfl (by decide +kernel) ?_
    show sh_X g (d + 1) m_Mod_waitFor _ _ ((sh_r 131) :: _) _ _
    refine xr_iconst (n := 0) (by decide +kernel) ?_
    refine xr_aload_n (n := 0) (i := 0) rfl (List.mem_of_getElem? (i := 0) rfl) (by decide +kernel) ?_
    refine xr_getR (o := 33) rfl fl_Mod_108 rfl (by decide +kernel) ?_
    show sh_X g (d + 1) m_Mod_waitFor _ _ ((sh_r 129) :: _) _ _
    refine xr_iconst (n := 0) (by decide +kernel) ?_
    refine xr_callS (av := [(sh_r 131), (sh_i 0), (sh_r 129), (sh_i 0)]) mo_Mod_copies ml_Mod_389 sa_Mod_copies rfl (Nat.le_of_ble_eq_true rfl) (by decide +kernel) (sh_mono k ?_)
    rintro rv m1 ⟨rfl, k⟩
    show sh_X g (d + 1) m_Mod_waitFor _ _ [] _ _
    refine xr_iload_n (n := 3) (i := 3) rfl (List.mem_of_getElem? (i := 3) rfl) (by decide +kernel) ?_
    exact xr_iret rfl (by decide +kernel) k
  · have k := k.2 c1
    refine xr_iload_n (n := 2) (i := 2) rfl (List.mem_of_getElem? (i := 2) rfl) (by decide +kernel) ?_
    refine xr_if_eq (a' := (i3 joy)) rfl (off := 11) (tgt := 42) (by decide) (by decide +kernel) ⟨fun c2 => ?_, fun c2 => ?_⟩
    · have k := k.1 c2
      refine xr_aload_n (n := 0) (i := 0) rfl (List.mem_of_getElem? (i := 0) rfl) (by decide +kernel) ?_
      refine xr_iload_n (n := 1) (i := 1) rfl (List.mem_of_getElem? (i := 1) rfl) (by decide +kernel) ?_
      refine xr_callV (av := [(sh_i (t : Int))]) rfl rfl rfl mo_Mod_priceOf ml_Mod_371 im_Mod_priceOf se_Mod_priceOf rfl (Nat.le_of_ble_eq_true rfl) (by decide +kernel) (sh_mono k ?_)
      rintro rv m2 ⟨r1, rfl, k⟩
      show sh_X g (d + 1) m_Mod_waitFor _ _ [(sh_i r1)] _ _
      refine xr_istore (i := 5) (by decide) rfl (by decide +kernel) ?_
      refine xr_iload (i := 5) (List.mem_of_getElem? (i := 0) rfl) (by decide +kernel) ?_
      refine xr_aload_n (n := 0) (i := 0) rfl (List.mem_of_getElem? (i := 1) rfl) (by decide +kernel) ?_
      refine xr_getI rfl fl_Mod_441 (by decide) (by decide +kernel) ?_
      refine xr_icmp_le (a' := (i3 r1)) (b' := (i3 (m2 96 52))) rfl rfl (off := 12) (tgt := 67) (by decide) (by decide +kernel) ⟨fun c3 => ?_, fun c3 => ?_⟩
      · have k := k.1 c3
        refine xr_aload_n (n := 0) (i := 0) rfl (List.mem_of_getElem? (i := 1) rfl) (by decide +kernel) ?_
        refine xr_callV (av := []) rfl rfl rfl mo_Mod_passes ml_Mod_414 im_Mod_passes se_Mod_passes rfl (Nat.le_of_ble_eq_true rfl) (by decide +kernel) (sh_mono k ?_)
        rintro rv m3 ⟨rfl, k⟩
        show sh_X g (d + 1) m_Mod_waitFor _ _ [] _ _
        refine xr_iinc (n := 1) (lo' := [(4, (sh_i (((x4 + 1) : Nat) : Int))), (5, (sh_i r1)), (0, (sh_r 96)), (1, (sh_i (t : Int))), (2, (sh_i joy)), (3, (sh_i x3))]) (List.mem_of_getElem? (i := 5) rfl) (by decide) rfl (by decide +kernel) ?_
        refine xr_goto (off := (-51)) (tgt := 23) (by decide) (by decide +kernel) ?_
        refine xr_sub (lo' := [(0, (sh_r 96)), (1, (sh_i (t : Int))), (2, (sh_i joy)), (3, (sh_i x3)), (4, (sh_i (((x4 + 1) : Nat) : Int)))]) [2, 3, 4, 5, 0] rfl ?_
        exact k
      · have k := k.2 c3
        refine xr_aload_n (n := 0) (i := 0) rfl (List.mem_of_getElem? (i := 1) rfl) (by decide +kernel) ?_
        refine xr_iload (i := 5) (List.mem_of_getElem? (i := 0) rfl) (by decide +kernel) ?_
        refine xr_putI rfl pl_Mod_441 rfl (by decide +kernel) ?_
        have k := k _ rfl
        generalize hg_m4 : ms m2 96 (ru (m2 96) 52 r1) = m4 at k ⊢
        refine xr_iload (i := 4) (List.mem_of_getElem? (i := 5) rfl) (by decide +kernel) ?_
        refine xr_istore_n (n := 3) (i := 3) rfl (by decide) rfl (by decide +kernel) ?_
        refine xr_aload_n (n := 0) (i := 0) rfl (List.mem_of_getElem? (i := 2) rfl) (by decide +kernel) ?_
        refine xr_callV (av := []) rfl rfl rfl mo_Mod_passes ml_Mod_414 im_Mod_passes se_Mod_passes rfl (Nat.le_of_ble_eq_true rfl) (by decide +kernel) (sh_mono k ?_)
        rintro rv m5 ⟨rfl, k⟩
        show sh_X g (d + 1) m_Mod_waitFor _ _ [] _ _
        refine xr_iinc (n := 1) (lo' := [(4, (sh_i (((x4 + 1) : Nat) : Int))), (3, (sh_i (x4 : Int))), (5, (sh_i r1)), (0, (sh_r 96)), (1, (sh_i (t : Int))), (2, (sh_i joy))]) (List.mem_of_getElem? (i := 5) rfl) (by decide) rfl (by decide +kernel) ?_
        refine xr_goto (off := (-51)) (tgt := 23) (by decide) (by decide +kernel) ?_
        refine xr_sub (lo' := [(0, (sh_r 96)), (1, (sh_i (t : Int))), (2, (sh_i joy)), (3, (sh_i (x4 : Int))), (4, (sh_i (((x4 + 1) : Nat) : Int)))]) [3, 4, 5, 1, 0] rfl ?_
        exact k
    · have k := k.2 c2
      refine xr_aload_n (n := 0) (i := 0) rfl (List.mem_of_getElem? (i := 0) rfl) (by decide +kernel) ?_
      refine xr_iload_n (n := 1) (i := 1) rfl (List.mem_of_getElem? (i := 1) rfl) (by decide +kernel) ?_
      refine xr_callV (av := [(sh_i (t : Int))]) rfl rfl rfl mo_Mod_joyOf ml_Mod_377 im_Mod_joyOf se_Mod_joyOf rfl (Nat.le_of_ble_eq_true rfl) (by decide +kernel) (sh_mono k ?_)
      rintro rv m6 ⟨r2, rfl, k⟩
      show sh_X g (d + 1) m_Mod_waitFor _ _ [(sh_i r2)] _ _
      refine xr_goto (off := 8) (tgt := 47) (by decide) (by decide +kernel) ?_
      refine xr_istore (i := 5) (by decide) rfl (by decide +kernel) ?_
      refine xr_iload (i := 5) (List.mem_of_getElem? (i := 0) rfl) (by decide +kernel) ?_
      refine xr_aload_n (n := 0) (i := 0) rfl (List.mem_of_getElem? (i := 1) rfl) (by decide +kernel) ?_
      refine xr_getI rfl fl_Mod_441 (by decide) (by decide +kernel) ?_
      refine xr_icmp_le (a' := (i3 r2)) (b' := (i3 (m6 96 52))) rfl rfl (off := 12) (tgt := 67) (by decide) (by decide +kernel) ⟨fun c4 => ?_, fun c4 => ?_⟩
      · have k := k.1 c4
        refine xr_aload_n (n := 0) (i := 0) rfl (List.mem_of_getElem? (i := 1) rfl) (by decide +kernel) ?_
        refine xr_callV (av := []) rfl rfl rfl mo_Mod_passes ml_Mod_414 im_Mod_passes se_Mod_passes rfl (Nat.le_of_ble_eq_true rfl) (by decide +kernel) (sh_mono k ?_)
        rintro rv m7 ⟨rfl, k⟩
        show sh_X g (d + 1) m_Mod_waitFor _ _ [] _ _
        refine xr_iinc (n := 1) (lo' := [(4, (sh_i (((x4 + 1) : Nat) : Int))), (5, (sh_i r2)), (0, (sh_r 96)), (1, (sh_i (t : Int))), (2, (sh_i joy)), (3, (sh_i x3))]) (List.mem_of_getElem? (i := 5) rfl) (by decide) rfl (by decide +kernel) ?_
        refine xr_goto (off := (-51)) (tgt := 23) (by decide) (by decide +kernel) ?_
        refine xr_sub (lo' := [(0, (sh_r 96)), (1, (sh_i (t : Int))), (2, (sh_i joy)), (3, (sh_i x3)), (4, (sh_i (((x4 + 1) : Nat) : Int)))]) [2, 3, 4, 5, 0] rfl ?_
        exact k
      · have k := k.2 c4
        refine xr_aload_n (n := 0) (i := 0) rfl (List.mem_of_getElem? (i := 1) rfl) (by decide +kernel) ?_
        refine xr_iload (i := 5) (List.mem_of_getElem? (i := 0) rfl) (by decide +kernel) ?_
        refine xr_putI rfl pl_Mod_441 rfl (by decide +kernel) ?_
        have k := k _ rfl
        generalize hg_m8 : ms m6 96 (ru (m6 96) 52 r2) = m8 at k ⊢
        refine xr_iload (i := 4) (List.mem_of_getElem? (i := 5) rfl) (by decide +kernel) ?_
        refine xr_istore_n (n := 3) (i := 3) rfl (by decide) rfl (by decide +kernel) ?_
        refine xr_aload_n (n := 0) (i := 0) rfl (List.mem_of_getElem? (i := 2) rfl) (by decide +kernel) ?_
        refine xr_callV (av := []) rfl rfl rfl mo_Mod_passes ml_Mod_414 im_Mod_passes se_Mod_passes rfl (Nat.le_of_ble_eq_true rfl) (by decide +kernel) (sh_mono k ?_)
        rintro rv m9 ⟨rfl, k⟩
        show sh_X g (d + 1) m_Mod_waitFor _ _ [] _ _
        refine xr_iinc (n := 1) (lo' := [(4, (sh_i (((x4 + 1) : Nat) : Int))), (3, (sh_i (x4 : Int))), (5, (sh_i r2)), (0, (sh_r 96)), (1, (sh_i (t : Int))), (2, (sh_i joy))]) (List.mem_of_getElem? (i := 5) rfl) (by decide) rfl (by decide +kernel) ?_
        refine xr_goto (off := (-51)) (tgt := 23) (by decide) (by decide +kernel) ?_
        refine xr_sub (lo' := [(0, (sh_r 96)), (1, (sh_i (t : Int))), (2, (sh_i joy)), (3, (sh_i (x4 : Int))), (4, (sh_i (((x4 + 1) : Nat) : Int)))]) [3, 4, 5, 1, 0] rfl ?_
        exact k

theorem v_Mod_waits {g : sh_G} {d : Nat} {thief : Int} {what : Int}  {mem : sh_Mem} {Q : Option sh_V → sh_Mem → Prop}  (k : (∀ m1 : sh_Mem, m1 = ms mem 96 (ru (mem 96) 0 0) → (sh_Cal g d m_Mod_isThief [(sh_r 96), (sh_i thief)] m1 fun rv m2 => ∃ r1 : Int, rv = some (sh_i r1) ∧ (((i3 r1) = 0 → Q (some (sh_i (-1))) m2) ∧ (¬ (i3 r1) = 0 → (sh_Cal g d m_Mod_within [(sh_i what), (sh_i 0), (sh_i 1)] m2 fun rv m3 => ∃ r2 : Int, rv = some (sh_i r2) ∧ (((i3 r2) = 0 → Q (some (sh_i (-1))) m3) ∧ (¬ (i3 r2) = 0 → (sh_Cal g d m_Mod_hasPiece [(sh_r 96), (sh_i thief)] m3 fun rv m4 => ∃ r3 : Int, rv = some (sh_i r3) ∧ ((¬ (i3 r3) = 0 → (sh_Cal g d m_Mod_waitFor [(sh_r 96), (sh_i thief), (sh_i 0)] m4 fun rv m5 => ∃ r4 : Int, rv = some (sh_i r4) ∧ ((¬ (i3 what) = 0 → Q (some (sh_i (m5 96 52))) m5) ∧ ((i3 what) = 0 → Q (some (sh_i r4)) m5)))) ∧ ((i3 r3) = 0 → Q (some (sh_i (-1))) m4))))))))))) : sh_Cal g (d + 1) m_Mod_waits [(sh_r 96), (sh_i thief), (sh_i what)] mem Q := by
  refine sh_met (by decide +kernel) (Nat.le_of_ble_eq_true rfl) (lo := [(0, (sh_r 96)), (1, (sh_i thief)), (2, (sh_i what))]) rfl ?_
  refine xr_aload_n (n := 0) (i := 0) rfl (List.mem_of_getElem? (i := 0) rfl) (by decide +kernel) ?_
  refine xr_iconst (n := 0) (by decide +kernel) ?_
  refine xr_putI rfl pl_Mod_141 rfl (by decide +kernel) ?_
  have k := k _ rfl
  generalize hg_m1 : ms mem 96 (ru (mem 96) 0 0) = m1 at k ⊢
  refine xr_aload_n (n := 0) (i := 0) rfl (List.mem_of_getElem? (i := 0) rfl) (by decide +kernel) ?_
  refine xr_iload_n (n := 1) (i := 1) rfl (List.mem_of_getElem? (i := 1) rfl) (by decide +kernel) ?_
  refine xr_callV (av := [(sh_i thief)]) rfl rfl rfl mo_Mod_isThief ml_Mod_386 im_Mod_isThief se_Mod_isThief rfl (Nat.le_of_ble_eq_true rfl) (by decide +kernel) (sh_mono k ?_)
  rintro rv m2 ⟨r1, rfl, k⟩
  show sh_X g (d + 1) m_Mod_waits _ _ [(sh_i r1)] _ _
  refine xr_if_eq (a' := (i3 r1)) rfl (off := 20) (tgt := 30) (by decide) (by decide +kernel) ⟨fun c1 => ?_, fun c1 => ?_⟩
  · have k := k.1 c1
    refine xr_iconst (n := (-1)) (by decide +kernel) ?_
    exact xr_iret rfl (by decide +kernel) k
  · have k := k.2 c1
    refine xr_iload_n (n := 2) (i := 2) rfl (List.mem_of_getElem? (i := 2) rfl) (by decide +kernel) ?_
    refine xr_iconst (n := 0) (by decide +kernel) ?_
    refine xr_iconst (n := 1) (by decide +kernel) ?_
    refine xr_callS (av := [(sh_i what), (sh_i 0), (sh_i 1)]) mo_Mod_within ml_Mod_264 sa_Mod_within rfl (Nat.le_of_ble_eq_true rfl) (by decide +kernel) (sh_mono k ?_)
    rintro rv m3 ⟨r2, rfl, k⟩
    show sh_X g (d + 1) m_Mod_waits _ _ [(sh_i r2)] _ _
    refine xr_if_eq (a' := (i3 r2)) rfl (off := 11) (tgt := 30) (by decide) (by decide +kernel) ⟨fun c2 => ?_, fun c2 => ?_⟩
    · have k := k.1 c2
      refine xr_iconst (n := (-1)) (by decide +kernel) ?_
      exact xr_iret rfl (by decide +kernel) k
    · have k := k.2 c2
      refine xr_aload_n (n := 0) (i := 0) rfl (List.mem_of_getElem? (i := 0) rfl) (by decide +kernel) ?_
      refine xr_iload_n (n := 1) (i := 1) rfl (List.mem_of_getElem? (i := 1) rfl) (by decide +kernel) ?_
      refine xr_callV (av := [(sh_i thief)]) rfl rfl rfl mo_Mod_hasPiece ml_Mod_346 im_Mod_hasPiece se_Mod_hasPiece rfl (Nat.le_of_ble_eq_true rfl) (by decide +kernel) (sh_mono k ?_)
      rintro rv m4 ⟨r3, rfl, k⟩
      show sh_X g (d + 1) m_Mod_waits _ _ [(sh_i r3)] _ _
      refine xr_if_ne (a' := (i3 r3)) rfl (off := 5) (tgt := 32) (by decide) (by decide +kernel) ⟨fun c3 => ?_, fun c3 => ?_⟩
      · have k := k.1 c3
        refine xr_aload_n (n := 0) (i := 0) rfl (List.mem_of_getElem? (i := 0) rfl) (by decide +kernel) ?_
        refine xr_iload_n (n := 1) (i := 1) rfl (List.mem_of_getElem? (i := 1) rfl) (by decide +kernel) ?_
        refine xr_iconst (n := 0) (by decide +kernel) ?_
        refine xr_callV (av := [(sh_i thief), (sh_i 0)]) rfl rfl rfl mo_Mod_waitFor ml_Mod_444 im_Mod_waitFor se_Mod_waitFor rfl (Nat.le_of_ble_eq_true rfl) (by decide +kernel) (sh_mono k ?_)
        rintro rv m5 ⟨r4, rfl, k⟩
        show sh_X g (d + 1) m_Mod_waits _ _ [(sh_i r4)] _ _
        refine xr_istore_n (n := 3) (i := 3) rfl (by decide) rfl (by decide +kernel) ?_
        refine xr_iload_n (n := 2) (i := 2) rfl (List.mem_of_getElem? (i := 3) rfl) (by decide +kernel) ?_
        refine xr_if_ne (a' := (i3 what)) rfl (off := 7) (tgt := 47) (by decide) (by decide +kernel) ⟨fun c4 => ?_, fun c4 => ?_⟩
        · have k := k.1 c4
          refine xr_aload_n (n := 0) (i := 0) rfl (List.mem_of_getElem? (i := 1) rfl) (by decide +kernel) ?_
          refine xr_getI rfl fl_Mod_441 (by decide) (by decide +kernel) ?_
          exact xr_iret rfl (by decide +kernel) k
        · have k := k.2 c4
          refine xr_iload_n (n := 3) (i := 3) rfl (List.mem_of_getElem? (i := 0) rfl) (by decide +kernel) ?_
          refine xr_goto (off := 7) (tgt := 51) (by decide) (by decide +kernel) ?_
          exact xr_iret rfl (by decide +kernel) k
      · have k := k.2 c3
        refine xr_iconst (n := (-1)) (by decide +kernel) ?_
        exact xr_iret rfl (by decide +kernel) k

theorem v_Mod_glads {g : sh_G} {d : Nat} {thief : Int} {what : Int}  {mem : sh_Mem} {Q : Option sh_V → sh_Mem → Prop}  (k : (∀ m1 : sh_Mem, m1 = ms mem 96 (ru (mem 96) 0 0) → (sh_Cal g d m_Mod_isThief [(sh_r 96), (sh_i thief)] m1 fun rv m2 => ∃ r1 : Int, rv = some (sh_i r1) ∧ (((i3 r1) = 0 → Q (some (sh_i (-1))) m2) ∧ (¬ (i3 r1) = 0 → (sh_Cal g d m_Mod_within [(sh_i what), (sh_i 0), (sh_i 1)] m2 fun rv m3 => ∃ r2 : Int, rv = some (sh_i r2) ∧ (((i3 r2) = 0 → Q (some (sh_i (-1))) m3) ∧ (¬ (i3 r2) = 0 → (sh_Cal g d m_Mod_hasPiece [(sh_r 96), (sh_i thief)] m3 fun rv m4 => ∃ r3 : Int, rv = some (sh_i r3) ∧ ((¬ (i3 r3) = 0 → (sh_Cal g d m_Mod_waitFor [(sh_r 96), (sh_i thief), (sh_i 1)] m4 fun rv m5 => ∃ r4 : Int, rv = some (sh_i r4) ∧ ((¬ (i3 what) = 0 → Q (some (sh_i (m5 96 52))) m5) ∧ ((i3 what) = 0 → Q (some (sh_i r4)) m5)))) ∧ ((i3 r3) = 0 → Q (some (sh_i (-1))) m4))))))))))) : sh_Cal g (d + 1) m_Mod_glads [(sh_r 96), (sh_i thief), (sh_i what)] mem Q := by
  refine sh_met (by decide +kernel) (Nat.le_of_ble_eq_true rfl) (lo := [(0, (sh_r 96)), (1, (sh_i thief)), (2, (sh_i what))]) rfl ?_
  refine xr_aload_n (n := 0) (i := 0) rfl (List.mem_of_getElem? (i := 0) rfl) (by decide +kernel) ?_
  refine xr_iconst (n := 0) (by decide +kernel) ?_
  refine xr_putI rfl pl_Mod_141 rfl (by decide +kernel) ?_
  have k := k _ rfl
  generalize hg_m1 : ms mem 96 (ru (mem 96) 0 0) = m1 at k ⊢
  refine xr_aload_n (n := 0) (i := 0) rfl (List.mem_of_getElem? (i := 0) rfl) (by decide +kernel) ?_
  refine xr_iload_n (n := 1) (i := 1) rfl (List.mem_of_getElem? (i := 1) rfl) (by decide +kernel) ?_
  refine xr_callV (av := [(sh_i thief)]) rfl rfl rfl mo_Mod_isThief ml_Mod_386 im_Mod_isThief se_Mod_isThief rfl (Nat.le_of_ble_eq_true rfl) (by decide +kernel) (sh_mono k ?_)
  rintro rv m2 ⟨r1, rfl, k⟩
  show sh_X g (d + 1) m_Mod_glads _ _ [(sh_i r1)] _ _
  refine xr_if_eq (a' := (i3 r1)) rfl (off := 20) (tgt := 30) (by decide) (by decide +kernel) ⟨fun c1 => ?_, fun c1 => ?_⟩
  · have k := k.1 c1
    refine xr_iconst (n := (-1)) (by decide +kernel) ?_
    exact xr_iret rfl (by decide +kernel) k
  · have k := k.2 c1
    refine xr_iload_n (n := 2) (i := 2) rfl (List.mem_of_getElem? (i := 2) rfl) (by decide +kernel) ?_
    refine xr_iconst (n := 0) (by decide +kernel) ?_
    refine xr_iconst (n := 1) (by decide +kernel) ?_
    refine xr_callS (av := [(sh_i what), (sh_i 0), (sh_i 1)]) mo_Mod_within ml_Mod_264 sa_Mod_within rfl (Nat.le_of_ble_eq_true rfl) (by decide +kernel) (sh_mono k ?_)
    rintro rv m3 ⟨r2, rfl, k⟩
    show sh_X g (d + 1) m_Mod_glads _ _ [(sh_i r2)] _ _
    refine xr_if_eq (a' := (i3 r2)) rfl (off := 11) (tgt := 30) (by decide) (by decide +kernel) ⟨fun c2 => ?_, fun c2 => ?_⟩
    · have k := k.1 c2
      refine xr_iconst (n := (-1)) (by decide +kernel) ?_
      exact xr_iret rfl (by decide +kernel) k
    · have k := k.2 c2
      refine xr_aload_n (n := 0) (i := 0) rfl (List.mem_of_getElem? (i := 0) rfl) (by decide +kernel) ?_
      refine xr_iload_n (n := 1) (i := 1) rfl (List.mem_of_getElem? (i := 1) rfl) (by decide +kernel) ?_
      refine xr_callV (av := [(sh_i thief)]) rfl rfl rfl mo_Mod_hasPiece ml_Mod_346 im_Mod_hasPiece se_Mod_hasPiece rfl (Nat.le_of_ble_eq_true rfl) (by decide +kernel) (sh_mono k ?_)
      rintro rv m4 ⟨r3, rfl, k⟩
      show sh_X g (d + 1) m_Mod_glads _ _ [(sh_i r3)] _ _
      refine xr_if_ne (a' := (i3 r3)) rfl (off := 5) (tgt := 32) (by decide) (by decide +kernel) ⟨fun c3 => ?_, fun c3 => ?_⟩
      · have k := k.1 c3
        refine xr_aload_n (n := 0) (i := 0) rfl (List.mem_of_getElem? (i := 0) rfl) (by decide +kernel) ?_
        refine xr_iload_n (n := 1) (i := 1) rfl (List.mem_of_getElem? (i := 1) rfl) (by decide +kernel) ?_
        refine xr_iconst (n := 1) (by decide +kernel) ?_
        refine xr_callV (av := [(sh_i thief), (sh_i 1)]) rfl rfl rfl mo_Mod_waitFor ml_Mod_444 im_Mod_waitFor se_Mod_waitFor rfl (Nat.le_of_ble_eq_true rfl) (by decide +kernel) (sh_mono k ?_)
        rintro rv m5 ⟨r4, rfl, k⟩
        show sh_X g (d + 1) m_Mod_glads _ _ [(sh_i r4)] _ _
        refine xr_istore_n (n := 3) (i := 3) rfl (by decide) rfl (by decide +kernel) ?_
        refine xr_iload_n (n := 2) (i := 2) rfl (List.mem_of_getElem? (i := 3) rfl) (by decide +kernel) ?_
        refine xr_if_ne (a' := (i3 what)) rfl (off := 7) (tgt := 47) (by decide) (by decide +kernel) ⟨fun c4 => ?_, fun c4 => ?_⟩
        · have k := k.1 c4
          refine xr_aload_n (n := 0) (i := 0) rfl (List.mem_of_getElem? (i := 1) rfl) (by decide +kernel) ?_
          refine xr_getI rfl fl_Mod_441 (by decide) (by decide +kernel) ?_
          exact xr_iret rfl (by decide +kernel) k
        · have k := k.2 c4
          refine xr_iload_n (n := 3) (i := 3) rfl (List.mem_of_getElem? (i := 0) rfl) (by decide +kernel) ?_
          refine xr_goto (off := 7) (tgt := 51) (by decide) (by decide +kernel) ?_
          exact xr_iret rfl (by decide +kernel) k
      · have k := k.2 c3
        refine xr_iconst (n := (-1)) (by decide +kernel) ?_
        exact xr_iret rfl (by decide +kernel) k

theorem v_Mod_slack {g : sh_G} {d : Nat} {nights : Int}  {mem : sh_Mem} {Q : Option sh_V → sh_Mem → Prop}  (k : (∀ m1 : sh_Mem, m1 = ms mem 96 (ru (mem 96) 0 0) → (sh_Cal g d m_Mod_within [(sh_i nights), (sh_i 0), (sh_i 60)] m1 fun rv m2 => ∃ r1 : Int, rv = some (sh_i r1) ∧ ((¬ (i3 r1) = 0 → (sh_Cal g d m_Mod_copies [(sh_r 129), (sh_i 0), (sh_r 131), (sh_i 0)] m2 fun rv m3 => rv = none ∧ sh_X g (d + 1) m_Mod_slack 32 [(0, (sh_r 96)), (1, (sh_i nights)), (2, (sh_i 0))] [] m3 (sh_K m_Mod_slack Q))) ∧ ((i3 r1) = 0 → Q (some (sh_i (-1))) m2))))) : sh_Cal g (d + 1) m_Mod_slack [(sh_r 96), (sh_i nights)] mem Q := by
  refine sh_met (by decide +kernel) (Nat.le_of_ble_eq_true rfl) (lo := [(0, (sh_r 96)), (1, (sh_i nights))]) rfl ?_
  refine xr_aload_n (n := 0) (i := 0) rfl (List.mem_of_getElem? (i := 0) rfl) (by decide +kernel) ?_
  refine xr_iconst (n := 0) (by decide +kernel) ?_
  refine xr_putI rfl pl_Mod_141 rfl (by decide +kernel) ?_
  have k := k _ rfl
  generalize hg_m1 : ms mem 96 (ru (mem 96) 0 0) = m1 at k ⊢
  refine xr_iload_n (n := 1) (i := 1) rfl (List.mem_of_getElem? (i := 1) rfl) (by decide +kernel) ?_
  refine xr_iconst (n := 0) (by decide +kernel) ?_
  refine xr_bipush (n := 60) (v := 60) (by decide) (by decide +kernel) ?_
  refine xr_callS (av := [(sh_i nights), (sh_i 0), (sh_i 60)]) mo_Mod_within ml_Mod_264 sa_Mod_within rfl (Nat.le_of_ble_eq_true rfl) (by decide +kernel) (sh_mono k ?_)
  rintro rv m2 ⟨r1, rfl, k⟩
  show sh_X g (d + 1) m_Mod_slack _ _ [(sh_i r1)] _ _
  refine xr_if_ne (a' := (i3 r1)) rfl (off := 5) (tgt := 17) (by decide) (by decide +kernel) ⟨fun c1 => ?_, fun c1 => ?_⟩
  · have k := k.1 c1
    refine xr_aload_n (n := 0) (i := 0) rfl (List.mem_of_getElem? (i := 0) rfl) (by decide +kernel) ?_
    refine xr_getR (o := 33) rfl fl_Mod_108 rfl (by decide +kernel) ?_
    show sh_X g (d + 1) m_Mod_slack _ _ ((sh_r 129) :: _) _ _
    refine xr_iconst (n := 0) (by decide +kernel) ?_
    refine xr_aload_n (n := 0) (i := 0) rfl (List.mem_of_getElem? (i := 0) rfl) (by decide +kernel) ?_
    refine xr_getR (o := 35) rfl fl_Mod_114 rfl (by decide +kernel) ?_
    show sh_X g (d + 1) m_Mod_slack _ _ ((sh_r 131) :: _) _ _
    refine xr_iconst (n := 0) (by decide +kernel) ?_
    refine xr_callS (av := [(sh_r 129), (sh_i 0), (sh_r 131), (sh_i 0)]) mo_Mod_copies ml_Mod_389 sa_Mod_copies rfl (Nat.le_of_ble_eq_true rfl) (by decide +kernel) (sh_mono k ?_)
    rintro rv m3 ⟨rfl, k⟩
    show sh_X g (d + 1) m_Mod_slack _ _ [] _ _
    refine xr_iconst (n := 0) (by decide +kernel) ?_
    refine xr_istore_n (n := 2) (i := 2) rfl (by decide) rfl (by decide +kernel) ?_
    refine xr_sub (lo' := [(0, (sh_r 96)), (1, (sh_i nights)), (2, (sh_i 0))]) [1, 2, 0] rfl ?_
    exact k
  · have k := k.2 c1
    refine xr_iconst (n := (-1)) (by decide +kernel) ?_
    exact xr_iret rfl (by decide +kernel) k
theorem v_Mod_slack_32 {g : sh_G} {d : Nat} {nights : Int}  {mem : sh_Mem} {Q : Option sh_V → sh_Mem → Prop}  {x2 : Int} (k : (((i3 nights) ≤ (i3 x2) → sh_X g (d + 1) m_Mod_slack 51 [(0, (sh_r 96)), (1, (sh_i nights)), (2, (sh_i (-1))), (3, (sh_i 0))] [] mem (sh_K m_Mod_slack Q)) ∧ (¬ (i3 nights) ≤ (i3 x2) → (sh_Cal g d m_Mod_passes [(sh_r 96)] mem fun rv m1 => rv = none ∧ sh_X g (d + 1) m_Mod_slack 32 [(0, (sh_r 96)), (1, (sh_i nights)), (2, (sh_i (x2 + 1)))] [] m1 (sh_K m_Mod_slack Q))))) : sh_X g (d + 1) m_Mod_slack 32 [(0, (sh_r 96)), (1, (sh_i nights)), (2, (sh_i x2))] [] mem (sh_K m_Mod_slack Q) := by
  refine xr_iload_n (n := 2) (i := 2) rfl (List.mem_of_getElem? (i := 2) rfl) (by decide +kernel) ?_
  refine xr_iload_n (n := 1) (i := 1) rfl (List.mem_of_getElem? (i := 1) rfl) (by decide +kernel) ?_
  refine xr_icmp_ge (a' := (i3 x2)) (b' := (i3 nights)) rfl rfl (off := 13) (tgt := 47) (by decide) (by decide +kernel) ⟨fun c1 => ?_, fun c1 => ?_⟩
  · have k := k.1 c1
    refine xr_iconst (n := (-1)) (by decide +kernel) ?_
    refine xr_istore_n (n := 2) (i := 2) rfl (by decide) rfl (by decide +kernel) ?_
    refine xr_iconst (n := 0) (by decide +kernel) ?_
    refine xr_istore_n (n := 3) (i := 3) rfl (by decide) rfl (by decide +kernel) ?_
    refine xr_sub (lo' := [(0, (sh_r 96)), (1, (sh_i nights)), (2, (sh_i (-1))), (3, (sh_i 0))]) [2, 3, 1, 0] rfl ?_
    exact k
  · have k := k.2 c1
    refine xr_aload_n (n := 0) (i := 0) rfl (List.mem_of_getElem? (i := 0) rfl) (by decide +kernel) ?_
    refine xr_callV (av := []) rfl rfl rfl mo_Mod_passes ml_Mod_414 im_Mod_passes se_Mod_passes rfl (Nat.le_of_ble_eq_true rfl) (by decide +kernel) (sh_mono k ?_)
    rintro rv m1 ⟨rfl, k⟩
    show sh_X g (d + 1) m_Mod_slack _ _ [] _ _
    refine xr_iinc (n := 1) (lo' := [(2, (sh_i (x2 + 1))), (0, (sh_r 96)), (1, (sh_i nights))]) (List.mem_of_getElem? (i := 2) rfl) (by decide) rfl (by decide +kernel) ?_
    refine xr_goto (off := (-12)) (tgt := 32) (by decide) (by decide +kernel) ?_
    refine xr_sub (lo' := [(0, (sh_r 96)), (1, (sh_i nights)), (2, (sh_i (x2 + 1)))]) [1, 2, 0] rfl ?_
    exact k
theorem v_Mod_slack_51 {g : sh_G} {d : Nat} {nights : Int}  {mem : sh_Mem} {Q : Option sh_V → sh_Mem → Prop}  {x2 : Int} {x3 : Nat} (k : (((i3 (mem 98 0)) ≤ (i3 (x3 : Int)) → (sh_Cal g d m_Mod_copies [(sh_r 131), (sh_i 0), (sh_r 129), (sh_i 0)] mem fun rv m1 => rv = none ∧ Q (some (sh_i x2)) m1)) ∧ (¬ (i3 (mem 98 0)) ≤ (i3 (x3 : Int)) → (((i3 x2) < 0 → sh_X g (d + 1) m_Mod_slack 51 [(0, (sh_r 96)), (1, (sh_i nights)), (2, (sh_i (x3 : Int))), (3, (sh_i (((x3 + 1) : Nat) : Int)))] [] mem (sh_K m_Mod_slack Q)) ∧ (¬ (i3 x2) < 0 → ((9 + x3) < 45 ∧ ((0 ≤ (9 + x2) ∧ (9 + x2) < 45) ∧ (((i3 (mem 129 ((9 + x2)).toNat)) ≤ (i3 (mem 129 (9 + x3))) → sh_X g (d + 1) m_Mod_slack 51 [(0, (sh_r 96)), (1, (sh_i nights)), (2, (sh_i x2)), (3, (sh_i (((x3 + 1) : Nat) : Int)))] [] mem (sh_K m_Mod_slack Q)) ∧ (¬ (i3 (mem 129 ((9 + x2)).toNat)) ≤ (i3 (mem 129 (9 + x3))) → sh_X g (d + 1) m_Mod_slack 51 [(0, (sh_r 96)), (1, (sh_i nights)), (2, (sh_i (x3 : Int))), (3, (sh_i (((x3 + 1) : Nat) : Int)))] [] mem (sh_K m_Mod_slack Q)))))))))) : sh_X g (d + 1) m_Mod_slack 51 [(0, (sh_r 96)), (1, (sh_i nights)), (2, (sh_i x2)), (3, (sh_i (x3 : Int)))] [] mem (sh_K m_Mod_slack Q) := by
  refine xr_iload_n (n := 3) (i := 3) rfl (List.mem_of_getElem? (i := 3) rfl) (by decide +kernel) ?_
  refine xr_aload_n (n := 0) (i := 0) rfl (List.mem_of_getElem? (i := 0) rfl) (by decide +kernel) ?_
  refine xr_getR (o := 2) rfl fl_Mod_13 rfl (by decide +kernel) ?_
  show sh_X g (d + 1) m_Mod_slack _ _ ((sh_r 98) :: _) _ _
  refine xr_iconst (n := 0) (by decide +kernel) ?_
  refine xr_ialdN (j := 0) rfl rfl (by decide) (by decide +kernel) ?_
  refine xr_icmp_ge (a' := (i3 (x3 : Int))) (b' := (i3 (mem 98 0))) rfl rfl (off := 36) (tgt := 94) (by decide) (by decide +kernel) ⟨fun c1 => ?_, fun c1 => ?_⟩
  · have k := k.1 c1
    refine xr_aload_n (n := 0) (i := 0) rfl (List.mem_of_getElem? (i := 0) rfl) (by decide +kernel) ?_
    refine xr_getR (o := 35) rfl fl_Mod_114 rfl (by decide +kernel) ?_
    show sh_X g (d + 1) m_Mod_slack _ _ ((sh_r 131) :: _) _ _
    refine xr_iconst (n := 0) (by decide +kernel) ?_
    refine xr_aload_n (n := 0) (i := 0) rfl (List.mem_of_getElem? (i := 0) rfl) (by decide +kernel) ?_
    refine xr_getR (o := 33) rfl fl_Mod_108 rfl (by decide +kernel) ?_
    show sh_X g (d + 1) m_Mod_slack _ _ ((sh_r 129) :: _) _ _
    refine xr_iconst (n := 0) (by decide +kernel) ?_
    refine xr_callS (av := [(sh_r 131), (sh_i 0), (sh_r 129), (sh_i 0)]) mo_Mod_copies ml_Mod_389 sa_Mod_copies rfl (Nat.le_of_ble_eq_true rfl) (by decide +kernel) (sh_mono k ?_)
    rintro rv m1 ⟨rfl, k⟩
    show sh_X g (d + 1) m_Mod_slack _ _ [] _ _
    refine xr_iload_n (n := 2) (i := 2) rfl (List.mem_of_getElem? (i := 2) rfl) (by decide +kernel) ?_
    exact xr_iret rfl (by decide +kernel) k
  · have k := k.2 c1
    refine xr_iload_n (n := 2) (i := 2) rfl (List.mem_of_getElem? (i := 2) rfl) (by decide +kernel) ?_
    refine xr_if_lt (a' := (i3 x2)) rfl (off := 24) (tgt := 86) (by decide) (by decide +kernel) ⟨fun c2 => ?_, fun c2 => ?_⟩
    · have k := k.1 c2
      refine xr_iload_n (n := 3) (i := 3) rfl (List.mem_of_getElem? (i := 3) rfl) (by decide +kernel) ?_
      refine xr_istore_n (n := 2) (i := 2) rfl (by decide) rfl (by decide +kernel) ?_
      refine xr_iinc (n := 1) (lo' := [(3, (sh_i (((x3 + 1) : Nat) : Int))), (2, (sh_i (x3 : Int))), (0, (sh_r 96)), (1, (sh_i nights))]) (List.mem_of_getElem? (i := 3) rfl) (by decide) rfl (by decide +kernel) ?_
      refine xr_goto (off := (-40)) (tgt := 51) (by decide) (by decide +kernel) ?_
      refine xr_sub (lo' := [(0, (sh_r 96)), (1, (sh_i nights)), (2, (sh_i (x3 : Int))), (3, (sh_i (((x3 + 1) : Nat) : Int)))]) [2, 3, 1, 0] rfl ?_
      exact k
    · have k := k.2 c2
      refine xr_aload_n (n := 0) (i := 0) rfl (List.mem_of_getElem? (i := 0) rfl) (by decide +kernel) ?_
      refine xr_getR (o := 33) rfl fl_Mod_108 rfl (by decide +kernel) ?_
      show sh_X g (d + 1) m_Mod_slack _ _ ((sh_r 129) :: _) _ _
      refine xr_bipush (n := 9) (v := 9) (by decide) (by decide +kernel) ?_
      refine xr_iload_n (n := 3) (i := 3) rfl (List.mem_of_getElem? (i := 3) rfl) (by decide +kernel) ?_
      refine xr_iadd (by decide +kernel) ?_
      show sh_X g (d + 1) m_Mod_slack _ _ ((sh_i (((9 + x3) : Nat) : Int)) :: _) _ _
      obtain ⟨o, k⟩ := k
      refine xr_ialdN (j := (9 + x3)) rfl rfl o (by decide +kernel) ?_
      refine xr_aload_n (n := 0) (i := 0) rfl (List.mem_of_getElem? (i := 0) rfl) (by decide +kernel) ?_
      refine xr_getR (o := 33) rfl fl_Mod_108 rfl (by decide +kernel) ?_
      show sh_X g (d + 1) m_Mod_slack _ _ ((sh_r 129) :: _) _ _
      refine xr_bipush (n := 9) (v := 9) (by decide) (by decide +kernel) ?_
      refine xr_iload_n (n := 2) (i := 2) rfl (List.mem_of_getElem? (i := 2) rfl) (by decide +kernel) ?_
      refine xr_iadd (by decide +kernel) ?_
      show sh_X g (d + 1) m_Mod_slack _ _ ((sh_i (9 + x2)) :: _) _ _
      obtain ⟨o, k⟩ := k
      refine xr_iald rfl o.1 o.2 (by decide +kernel) ?_
      refine xr_icmp_ge (a' := (i3 (mem 129 (9 + x3)))) (b' := (i3 (mem 129 ((9 + x2)).toNat))) rfl rfl (off := 5) (tgt := 88) (by decide) (by decide +kernel) ⟨fun c3 => ?_, fun c3 => ?_⟩
      · have k := k.1 c3
        refine xr_iinc (n := 1) (lo' := [(3, (sh_i (((x3 + 1) : Nat) : Int))), (0, (sh_r 96)), (1, (sh_i nights)), (2, (sh_i x2))]) (List.mem_of_getElem? (i := 3) rfl) (by decide) rfl (by decide +kernel) ?_
        refine xr_goto (off := (-40)) (tgt := 51) (by decide) (by decide +kernel) ?_
        refine xr_sub (lo' := [(0, (sh_r 96)), (1, (sh_i nights)), (2, (sh_i x2)), (3, (sh_i (((x3 + 1) : Nat) : Int)))]) [1, 2, 3, 0] rfl ?_
        exact k
      · have k := k.2 c3
        refine xr_iload_n (n := 3) (i := 3) rfl (List.mem_of_getElem? (i := 3) rfl) (by decide +kernel) ?_
        refine xr_istore_n (n := 2) (i := 2) rfl (by decide) rfl (by decide +kernel) ?_
        refine xr_iinc (n := 1) (lo' := [(3, (sh_i (((x3 + 1) : Nat) : Int))), (2, (sh_i (x3 : Int))), (0, (sh_r 96)), (1, (sh_i nights))]) (List.mem_of_getElem? (i := 3) rfl) (by decide) rfl (by decide +kernel) ?_
        refine xr_goto (off := (-40)) (tgt := 51) (by decide) (by decide +kernel) ?_
        refine xr_sub (lo' := [(0, (sh_r 96)), (1, (sh_i nights)), (2, (sh_i (x3 : Int))), (3, (sh_i (((x3 + 1) : Nat) : Int)))]) [2, 3, 1, 0] rfl ?_
        exact k

theorem v_Mod_goesOut {g : sh_G} {d : Nat} {t : Nat} {taken : Int} {much : Int}  {mem : sh_Mem} {Q : Option sh_V → sh_Mem → Prop}  (k : ((¬ (i3 (t : Int)) = (i3 (mem 98 1)) → (sh_Cal g d m_Mod_canOf [(sh_r 96), (sh_i (t : Int))] mem fun rv m1 => ∃ r1 : Int, rv = some (sh_i r1) ∧ sh_X g (d + 1) m_Mod_goesOut 68 [(0, (sh_r 96)), (1, (sh_i (t : Int))), (2, (sh_i taken)), (3, (sh_i much)), (4, (sh_i (i_and r1 (i_xor taken (-1))))), (5, (sh_i 0))] [] m1 (sh_K m_Mod_goesOut Q))) ∧ ((i3 (t : Int)) = (i3 (mem 98 1)) → (((i3 (mem 96 55)) < (i3 much) → (∀ m2 : sh_Mem, m2 = ms mem 96 (ru (mem 96) 55 much) → sh_X g (d + 1) m_Mod_goesOut 27 [(0, (sh_r 96)), (1, (sh_i (t : Int))), (2, (sh_i taken)), (3, (sh_i much)), (4, (sh_i 0))] [] m2 (sh_K m_Mod_goesOut Q))) ∧ (¬ (i3 (mem 96 55)) < (i3 much) → Q none mem))))) : sh_Cal g (d + 1) m_Mod_goesOut [(sh_r 96), (sh_i (t : Int)), (sh_i taken), (sh_i much)] mem Q := by
  refine sh_met (by decide +kernel) (Nat.le_of_ble_eq_true rfl) (lo := [(0, (sh_r 96)), (1, (sh_i (t : Int))), (2, (sh_i taken)), (3, (sh_i much))]) rfl ?_
  refine xr_iload_n (n := 1) (i := 1) rfl (List.mem_of_getElem? (i := 1) rfl) (by decide +kernel) ?_
  refine xr_aload_n (n := 0) (i := 0) rfl (List.mem_of_getElem? (i := 0) rfl) (by decide +kernel) ?_
  refine xr_getR (o := 2) rfl fl_Mod_13 rfl (by decide +kernel) ?_
  show sh_X g (d + 1) m_Mod_goesOut _ _ ((sh_r 98) :: _) _ _
  refine xr_iconst (n := 1) (by decide +kernel) ?_
  refine xr_ialdN (j := 1) rfl rfl (by decide) (by decide +kernel) ?_
  refine xr_icmp_ne (a' := (i3 (t : Int))) (b' := (i3 (mem 98 1))) rfl rfl (off := 47) (tgt := 54) (by decide) (by decide +kernel) ⟨fun c1 => ?_, fun c1 => ?_⟩
  · have k := k.1 c1
    refine xr_aload_n (n := 0) (i := 0) rfl (List.mem_of_getElem? (i := 0) rfl) (by decide +kernel) ?_
    refine xr_iload_n (n := 1) (i := 1) rfl (List.mem_of_getElem? (i := 1) rfl) (by decide +kernel) ?_
    refine xr_callV (av := [(sh_i (t : Int))]) rfl rfl rfl mo_Mod_canOf ml_Mod_429 im_Mod_canOf se_Mod_canOf rfl (Nat.le_of_ble_eq_true rfl) (by decide +kernel) (sh_mono k ?_)
    rintro rv m1 ⟨r1, rfl, k⟩
    show sh_X g (d + 1) m_Mod_goesOut _ _ [(sh_i r1)] _ _
    refine xr_iload_n (n := 2) (i := 2) rfl (List.mem_of_getElem? (i := 2) rfl) (by decide +kernel) ?_
    refine xr_iconst (n := (-1)) (by decide +kernel) ?_
    refine xr_ixor (by decide +kernel) ?_
    refine xr_iand (by decide +kernel) ?_
    refine xr_istore (i := 4) (by decide) rfl (by decide +kernel) ?_
    refine xr_iconst (n := 0) (by decide +kernel) ?_
    refine xr_istore (i := 5) (by decide) rfl (by decide +kernel) ?_
    refine xr_sub (lo' := [(0, (sh_r 96)), (1, (sh_i (t : Int))), (2, (sh_i taken)), (3, (sh_i much)), (4, (sh_i (i_and r1 (i_xor taken (-1))))), (5, (sh_i 0))]) [2, 3, 4, 5, 1, 0] rfl ?_
    exact k
  · have k := k.2 c1
    refine xr_iload_n (n := 3) (i := 3) rfl (List.mem_of_getElem? (i := 3) rfl) (by decide +kernel) ?_
    refine xr_aload_n (n := 0) (i := 0) rfl (List.mem_of_getElem? (i := 0) rfl) (by decide +kernel) ?_
    refine xr_getI rfl fl_Mod_448 (by decide) (by decide +kernel) ?_
    refine xr_icmp_gt (a' := (i3 much)) (b' := (i3 (mem 96 55))) rfl rfl (off := 4) (tgt := 19) (by decide) (by decide +kernel) ⟨fun c2 => ?_, fun c2 => ?_⟩
    · have k := k.1 c2
      refine xr_aload_n (n := 0) (i := 0) rfl (List.mem_of_getElem? (i := 0) rfl) (by decide +kernel) ?_
      refine xr_iload_n (n := 3) (i := 3) rfl (List.mem_of_getElem? (i := 3) rfl) (by decide +kernel) ?_
      refine xr_putI rfl pl_Mod_448 rfl (by decide +kernel) ?_
      have k := k _ rfl
      generalize hg_m2 : ms mem 96 (ru (mem 96) 55 much) = m2 at k ⊢
      refine xr_iconst (n := 0) (by decide +kernel) ?_
      refine xr_istore (i := 4) (by decide) rfl (by decide +kernel) ?_
      refine xr_sub (lo' := [(0, (sh_r 96)), (1, (sh_i (t : Int))), (2, (sh_i taken)), (3, (sh_i much)), (4, (sh_i 0))]) [1, 2, 3, 4, 0] rfl ?_
      exact k
    · have k := k.2 c2
      exact xr_ret rfl (by decide +kernel) k
theorem v_Mod_goesOut_68 {g : sh_G} {d : Nat} {t : Nat} {taken : Int} {much : Int}  {mem : sh_Mem} {Q : Option sh_V → sh_Mem → Prop}  {x4 : Int} {x5 : Nat} (k : (((i3 (mem 98 0)) ≤ (i3 (x5 : Int)) → (t < 4 ∧ (∀ m1 : sh_Mem, m1 = ms mem 136 (ru (mem 136) t (-1)) → (sh_Cal g d m_Mod_goesOut [(sh_r 96), (sh_i (((t + 1) : Nat) : Int)), (sh_i taken), (sh_i much)] m1 fun rv m2 => rv = none ∧ Q none m2)))) ∧ (¬ (i3 (mem 98 0)) ≤ (i3 (x5 : Int)) → ((¬ (i_and (i_shr x4 (x5 : Int)) 1) = 0 → (t < 4 ∧ (∀ m3 : sh_Mem, m3 = ms mem 136 (ru (mem 136) t (x5 : Int)) → (sh_Cal g d m_Mod_haulOf [(sh_r 96), (sh_i (t : Int)), (sh_i (x5 : Int))] m3 fun rv m4 => ∃ r1 : Int, rv = some (sh_i r1) ∧ (sh_Cal g d m_Mod_goesOut [(sh_r 96), (sh_i (((t + 1) : Nat) : Int)), (sh_i (i_or taken (i_shl 1 (x5 : Int)))), (sh_i (much + r1))] m4 fun rv m5 => rv = none ∧ sh_X g (d + 1) m_Mod_goesOut 68 [(0, (sh_r 96)), (1, (sh_i (t : Int))), (2, (sh_i taken)), (3, (sh_i much)), (4, (sh_i x4)), (5, (sh_i (((x5 + 1) : Nat) : Int)))] [] m5 (sh_K m_Mod_goesOut Q)))))) ∧ ((i_and (i_shr x4 (x5 : Int)) 1) = 0 → sh_X g (d + 1) m_Mod_goesOut 68 [(0, (sh_r 96)), (1, (sh_i (t : Int))), (2, (sh_i taken)), (3, (sh_i much)), (4, (sh_i x4)), (5, (sh_i (((x5 + 1) : Nat) : Int)))] [] mem (sh_K m_Mod_goesOut Q)))))) : sh_X g (d + 1) m_Mod_goesOut 68 [(0, (sh_r 96)), (1, (sh_i (t : Int))), (2, (sh_i taken)), (3, (sh_i much)), (4, (sh_i x4)), (5, (sh_i (x5 : Int)))] [] mem (sh_K m_Mod_goesOut Q) := by
  refine xr_iload (i := 5) (List.mem_of_getElem? (i := 5) rfl) (by decide +kernel) ?_
  refine xr_aload_n (n := 0) (i := 0) rfl (List.mem_of_getElem? (i := 0) rfl) (by decide +kernel) ?_
  refine xr_getR (o := 2) rfl fl_Mod_13 rfl (by decide +kernel) ?_
  show sh_X g (d + 1) m_Mod_goesOut _ _ ((sh_r 98) :: _) _ _
  refine xr_iconst (n := 0) (by decide +kernel) ?_
  refine xr_ialdN (j := 0) rfl rfl (by decide) (by decide +kernel) ?_
  refine xr_icmp_ge (a' := (i3 (x5 : Int))) (b' := (i3 (mem 98 0))) rfl rfl (off := 52) (tgt := 128) (by decide) (by decide +kernel) ⟨fun c1 => ?_, fun c1 => ?_⟩
  · have k := k.1 c1
    refine xr_aload_n (n := 0) (i := 0) rfl (List.mem_of_getElem? (i := 0) rfl) (by decide +kernel) ?_
    refine xr_getR (o := 40) rfl fl_Mod_129 rfl (by decide +kernel) ?_
    show sh_X g (d + 1) m_Mod_goesOut _ _ ((sh_r 136) :: _) _ _
    refine xr_iload_n (n := 1) (i := 1) rfl (List.mem_of_getElem? (i := 1) rfl) (by decide +kernel) ?_
    refine xr_iconst (n := (-1)) (by decide +kernel) ?_
    have o9 := True.intro
    obtain ⟨o, k⟩ := k
    refine xr_iastN (j := t) rfl rfl o (by decide +kernel) ?_
    have k := k _ rfl
    generalize hg_m1 : ms mem 136 (ru (mem 136) t (-1)) = m1 at k ⊢
    refine xr_aload_n (n := 0) (i := 0) rfl (List.mem_of_getElem? (i := 0) rfl) (by decide +kernel) ?_
    refine xr_iload_n (n := 1) (i := 1) rfl (List.mem_of_getElem? (i := 1) rfl) (by decide +kernel) ?_
    refine xr_iconst (n := 1) (by decide +kernel) ?_
    refine xr_iadd (by decide +kernel) ?_
    show sh_X g (d + 1) m_Mod_goesOut _ _ ((sh_i (((t + 1) : Nat) : Int)) :: _) _ _
    refine xr_iload_n (n := 2) (i := 2) rfl (List.mem_of_getElem? (i := 2) rfl) (by decide +kernel) ?_
    refine xr_iload_n (n := 3) (i := 3) rfl (List.mem_of_getElem? (i := 3) rfl) (by decide +kernel) ?_
    refine xr_callV (av := [(sh_i (((t + 1) : Nat) : Int)), (sh_i taken), (sh_i much)]) rfl rfl rfl mo_Mod_goesOut ml_Mod_451 im_Mod_goesOut se_Mod_goesOut rfl (Nat.le_of_ble_eq_true rfl) (by decide +kernel) (sh_mono k ?_)
    rintro rv m2 ⟨rfl, k⟩
    show sh_X g (d + 1) m_Mod_goesOut _ _ [] _ _
    exact xr_ret rfl (by decide +kernel) k
  · have k := k.2 c1
    refine xr_iload (i := 4) (List.mem_of_getElem? (i := 4) rfl) (by decide +kernel) ?_
    refine xr_iload (i := 5) (List.mem_of_getElem? (i := 5) rfl) (by decide +kernel) ?_
    refine xr_ishr (by decide +kernel) ?_
    refine xr_iconst (n := 1) (by decide +kernel) ?_
    refine xr_iand (by decide +kernel) ?_
    refine xr_if_ne (a' := (i_and (i_shr x4 (x5 : Int)) 1)) (i3_nrm _) (off := 6) (tgt := 92) (by decide) (by decide +kernel) ⟨fun c2 => ?_, fun c2 => ?_⟩
    · have k := k.1 c2
      refine xr_aload_n (n := 0) (i := 0) rfl (List.mem_of_getElem? (i := 0) rfl) (by decide +kernel) ?_
      refine xr_getR (o := 40) rfl fl_Mod_129 rfl (by decide +kernel) ?_
      show sh_X g (d + 1) m_Mod_goesOut _ _ ((sh_r 136) :: _) _ _
      refine xr_iload_n (n := 1) (i := 1) rfl (List.mem_of_getElem? (i := 1) rfl) (by decide +kernel) ?_
      refine xr_iload (i := 5) (List.mem_of_getElem? (i := 5) rfl) (by decide +kernel) ?_
      have o9 := True.intro
      obtain ⟨o, k⟩ := k
      refine xr_iastN (j := t) rfl rfl o (by decide +kernel) ?_
      have k := k _ rfl
      generalize hg_m3 : ms mem 136 (ru (mem 136) t (x5 : Int)) = m3 at k ⊢
      refine xr_aload_n (n := 0) (i := 0) rfl (List.mem_of_getElem? (i := 0) rfl) (by decide +kernel) ?_
      refine xr_iload_n (n := 1) (i := 1) rfl (List.mem_of_getElem? (i := 1) rfl) (by decide +kernel) ?_
      refine xr_iconst (n := 1) (by decide +kernel) ?_
      refine xr_iadd (by decide +kernel) ?_
      show sh_X g (d + 1) m_Mod_goesOut _ _ ((sh_i (((t + 1) : Nat) : Int)) :: _) _ _
      refine xr_iload_n (n := 2) (i := 2) rfl (List.mem_of_getElem? (i := 2) rfl) (by decide +kernel) ?_
      refine xr_iconst (n := 1) (by decide +kernel) ?_
      refine xr_iload (i := 5) (List.mem_of_getElem? (i := 5) rfl) (by decide +kernel) ?_
      refine xr_ishl (by decide +kernel) ?_
      refine xr_ior (by decide +kernel) ?_
      refine xr_iload_n (n := 3) (i := 3) rfl (List.mem_of_getElem? (i := 3) rfl) (by decide +kernel) ?_
      refine xr_aload_n (n := 0) (i := 0) rfl (List.mem_of_getElem? (i := 0) rfl) (by decide +kernel) ?_
      refine xr_iload_n (n := 1) (i := 1) rfl (List.mem_of_getElem? (i := 1) rfl) (by decide +kernel) ?_
      refine xr_iload (i := 5) (List.mem_of_getElem? (i := 5) rfl) (by decide +kernel) ?_
      refine xr_callV (av := [(sh_i (t : Int)), (sh_i (x5 : Int))]) rfl rfl rfl mo_Mod_haulOf ml_Mod_358 im_Mod_haulOf se_Mod_haulOf rfl (Nat.le_of_ble_eq_true rfl) (by decide +kernel) (sh_mono k ?_)
      rintro rv m4 ⟨r1, rfl, k⟩
      show sh_X g (d + 1) m_Mod_goesOut _ _ [(sh_i r1), (sh_i much), (sh_i (i_or taken (i_shl 1 (x5 : Int)))), (sh_i (((t + 1) : Nat) : Int)), (sh_r 96)] _ _
      refine xr_iadd (by decide +kernel) ?_
      show sh_X g (d + 1) m_Mod_goesOut _ _ ((sh_i (much + r1)) :: _) _ _
      refine xr_callV (av := [(sh_i (((t + 1) : Nat) : Int)), (sh_i (i_or taken (i_shl 1 (x5 : Int)))), (sh_i (much + r1))]) rfl rfl rfl mo_Mod_goesOut ml_Mod_451 im_Mod_goesOut se_Mod_goesOut rfl (Nat.le_of_ble_eq_true rfl) (by decide +kernel) (sh_mono k ?_)
      rintro rv m5 ⟨rfl, k⟩
      show sh_X g (d + 1) m_Mod_goesOut _ _ [] _ _
      refine xr_iinc (n := 1) (lo' := [(5, (sh_i (((x5 + 1) : Nat) : Int))), (0, (sh_r 96)), (1, (sh_i (t : Int))), (2, (sh_i taken)), (3, (sh_i much)), (4, (sh_i x4))]) (List.mem_of_getElem? (i := 5) rfl) (by decide) rfl (by decide +kernel) ?_
      refine xr_goto (off := (-57)) (tgt := 68) (by decide) (by decide +kernel) ?_
      refine xr_sub (lo' := [(0, (sh_r 96)), (1, (sh_i (t : Int))), (2, (sh_i taken)), (3, (sh_i much)), (4, (sh_i x4)), (5, (sh_i (((x5 + 1) : Nat) : Int)))]) [1, 2, 3, 4, 5, 0] rfl ?_
      exact k
    · have k := k.2 c2
      refine xr_goto (off := 33) (tgt := 122) (by decide) (by decide +kernel) ?_
      refine xr_iinc (n := 1) (lo' := [(5, (sh_i (((x5 + 1) : Nat) : Int))), (0, (sh_r 96)), (1, (sh_i (t : Int))), (2, (sh_i taken)), (3, (sh_i much)), (4, (sh_i x4))]) (List.mem_of_getElem? (i := 5) rfl) (by decide) rfl (by decide +kernel) ?_
      refine xr_goto (off := (-57)) (tgt := 68) (by decide) (by decide +kernel) ?_
      refine xr_sub (lo' := [(0, (sh_r 96)), (1, (sh_i (t : Int))), (2, (sh_i taken)), (3, (sh_i much)), (4, (sh_i x4)), (5, (sh_i (((x5 + 1) : Nat) : Int)))]) [1, 2, 3, 4, 5, 0] rfl ?_
      exact k
theorem v_Mod_goesOut_27 {g : sh_G} {d : Nat} {t : Nat} {taken : Int} {much : Int}  {mem : sh_Mem} {Q : Option sh_V → sh_Mem → Prop}  {x4 : Int} (k : ((4 ≤ (i3 x4) → Q none mem) ∧ (¬ 4 ≤ (i3 x4) → ((0 ≤ x4 ∧ x4 < 4) ∧ ((0 ≤ x4 ∧ x4 < 4) ∧ (∀ m1 : sh_Mem, m1 = ms mem 137 (ru (mem 137) (x4).toNat (mem 136 (x4).toNat)) → sh_X g (d + 1) m_Mod_goesOut 27 [(0, (sh_r 96)), (1, (sh_i (t : Int))), (2, (sh_i taken)), (3, (sh_i much)), (4, (sh_i (x4 + 1)))] [] m1 (sh_K m_Mod_goesOut Q))))))) : sh_X g (d + 1) m_Mod_goesOut 27 [(0, (sh_r 96)), (1, (sh_i (t : Int))), (2, (sh_i taken)), (3, (sh_i much)), (4, (sh_i x4))] [] mem (sh_K m_Mod_goesOut Q) := by
  refine xr_iload (i := 4) (List.mem_of_getElem? (i := 4) rfl) (by decide +kernel) ?_
  refine xr_iconst (n := 4) (by decide +kernel) ?_
  refine xr_icmp_ge (a' := (i3 x4)) (b' := 4) rfl (by decide) (off := 23) (tgt := 53) (by decide) (by decide +kernel) ⟨fun c1 => ?_, fun c1 => ?_⟩
  · have k := k.1 c1
    exact xr_ret rfl (by decide +kernel) k
  · have k := k.2 c1
    refine xr_aload_n (n := 0) (i := 0) rfl (List.mem_of_getElem? (i := 0) rfl) (by decide +kernel) ?_
    refine xr_getR (o := 41) rfl fl_Mod_132 rfl (by decide +kernel) ?_
    show sh_X g (d + 1) m_Mod_goesOut _ _ ((sh_r 137) :: _) _ _
    refine xr_iload (i := 4) (List.mem_of_getElem? (i := 4) rfl) (by decide +kernel) ?_
    refine xr_aload_n (n := 0) (i := 0) rfl (List.mem_of_getElem? (i := 0) rfl) (by decide +kernel) ?_
    refine xr_getR (o := 40) rfl fl_Mod_129 rfl (by decide +kernel) ?_
    show sh_X g (d + 1) m_Mod_goesOut _ _ ((sh_r 136) :: _) _ _
    refine xr_iload (i := 4) (List.mem_of_getElem? (i := 4) rfl) (by decide +kernel) ?_
    obtain ⟨o, k⟩ := k
    refine xr_iald rfl o.1 o.2 (by decide +kernel) ?_
    have o9 := True.intro
    obtain ⟨o, k⟩ := k
    refine xr_iast rfl o.1 o.2 (by decide +kernel) ?_
    have k := k _ rfl
    generalize hg_m1 : ms mem 137 (ru (mem 137) (x4).toNat (mem 136 (x4).toNat)) = m1 at k ⊢
    refine xr_iinc (n := 1) (lo' := [(4, (sh_i (x4 + 1))), (0, (sh_r 96)), (1, (sh_i (t : Int))), (2, (sh_i taken)), (3, (sh_i much))]) (List.mem_of_getElem? (i := 4) rfl) (by decide) rfl (by decide +kernel) ?_
    refine xr_goto (off := (-23)) (tgt := 27) (by decide) (by decide +kernel) ?_
    refine xr_sub (lo' := [(0, (sh_r 96)), (1, (sh_i (t : Int))), (2, (sh_i taken)), (3, (sh_i much)), (4, (sh_i (x4 + 1)))]) [1, 2, 3, 4, 0] rfl ?_
    exact k

theorem v_Mod_gang {g : sh_G} {d : Nat} {what : Int}  {mem : sh_Mem} {Q : Option sh_V → sh_Mem → Prop}  (k : (∀ m1 : sh_Mem, m1 = ms mem 96 (ru (mem 96) 0 0) → (((i3 what) = (-1) → sh_X g (d + 1) m_Mod_gang 21 [(0, (sh_r 96)), (1, (sh_i what))] [] m1 (sh_K m_Mod_gang Q)) ∧ (¬ (i3 what) = (-1) → (sh_Cal g d m_Mod_isThief [(sh_r 96), (sh_i what)] m1 fun rv m2 => ∃ r1 : Int, rv = some (sh_i r1) ∧ ((¬ (i3 r1) = 0 → sh_X g (d + 1) m_Mod_gang 21 [(0, (sh_r 96)), (1, (sh_i what))] [] m2 (sh_K m_Mod_gang Q)) ∧ ((i3 r1) = 0 → Q (some (sh_i (-2))) m2))))))) : sh_Cal g (d + 1) m_Mod_gang [(sh_r 96), (sh_i what)] mem Q := by
  refine sh_met (by decide +kernel) (Nat.le_of_ble_eq_true rfl) (lo := [(0, (sh_r 96)), (1, (sh_i what))]) rfl ?_
  refine xr_aload_n (n := 0) (i := 0) rfl (List.mem_of_getElem? (i := 0) rfl) (by decide +kernel) ?_
  refine xr_iconst (n := 0) (by decide +kernel) ?_
  refine xr_putI rfl pl_Mod_141 rfl (by decide +kernel) ?_
  have k := k _ rfl
  generalize hg_m1 : ms mem 96 (ru (mem 96) 0 0) = m1 at k ⊢
  refine xr_iload_n (n := 1) (i := 1) rfl (List.mem_of_getElem? (i := 1) rfl) (by decide +kernel) ?_
  refine xr_iconst (n := (-1)) (by decide +kernel) ?_
  refine xr_icmp_eq (a' := (i3 what)) (b' := (-1)) rfl (by decide) (off := 14) (tgt := 21) (by decide) (by decide +kernel) ⟨fun c1 => ?_, fun c1 => ?_⟩
  · have k := k.1 c1
    refine xr_sub (lo' := [(0, (sh_r 96)), (1, (sh_i what))]) [0, 1] rfl ?_
    exact k
  · have k := k.2 c1
    refine xr_aload_n (n := 0) (i := 0) rfl (List.mem_of_getElem? (i := 0) rfl) (by decide +kernel) ?_
    refine xr_iload_n (n := 1) (i := 1) rfl (List.mem_of_getElem? (i := 1) rfl) (by decide +kernel) ?_
    refine xr_callV (av := [(sh_i what)]) rfl rfl rfl mo_Mod_isThief ml_Mod_386 im_Mod_isThief se_Mod_isThief rfl (Nat.le_of_ble_eq_true rfl) (by decide +kernel) (sh_mono k ?_)
    rintro rv m2 ⟨r1, rfl, k⟩
    show sh_X g (d + 1) m_Mod_gang _ _ [(sh_i r1)] _ _
    refine xr_if_ne (a' := (i3 r1)) rfl (off := 6) (tgt := 21) (by decide) (by decide +kernel) ⟨fun c2 => ?_, fun c2 => ?_⟩
    · have k := k.1 c2
      refine xr_sub (lo' := [(0, (sh_r 96)), (1, (sh_i what))]) [0, 1] rfl ?_
      exact k
    · have k := k.2 c2
      refine xr_bipush (n := (-2)) (v := (-2)) (by decide) (by decide +kernel) ?_
      exact xr_iret rfl (by decide +kernel) k
theorem v_Mod_gang_21 {g : sh_G} {d : Nat} {what : Int}  {mem : sh_Mem} {Q : Option sh_V → sh_Mem → Prop}   (k : (∀ m1 : sh_Mem, m1 = ms mem 96 (ru (mem 96) 55 (-1)) → (sh_Cal g d m_Mod_goesOut [(sh_r 96), (sh_i 0), (sh_i 0), (sh_i 0)] m1 fun rv m2 => rv = none ∧ ((¬ (i3 what) = (-1) → ((0 ≤ what ∧ what < 4) ∧ Q (some (sh_i (m2 137 (what).toNat))) m2)) ∧ ((i3 what) = (-1) → Q (some (sh_i (m2 96 55))) m2))))) : sh_X g (d + 1) m_Mod_gang 21 [(0, (sh_r 96)), (1, (sh_i what))] [] mem (sh_K m_Mod_gang Q) := by
  refine xr_aload_n (n := 0) (i := 0) rfl (List.mem_of_getElem? (i := 0) rfl) (by decide +kernel) ?_
  refine xr_iconst (n := (-1)) (by decide +kernel) ?_
  refine xr_putI rfl pl_Mod_448 rfl (by decide +kernel) ?_
  have k := k _ rfl
  generalize hg_m1 : ms mem 96 (ru (mem 96) 55 (-1)) = m1 at k ⊢
  refine xr_aload_n (n := 0) (i := 0) rfl (List.mem_of_getElem? (i := 0) rfl) (by decide +kernel) ?_
  refine xr_iconst (n := 0) (by decide +kernel) ?_
  refine xr_iconst (n := 0) (by decide +kernel) ?_
  refine xr_iconst (n := 0) (by decide +kernel) ?_
  refine xr_callV (av := [(sh_i 0), (sh_i 0), (sh_i 0)]) rfl rfl rfl mo_Mod_goesOut ml_Mod_451 im_Mod_goesOut se_Mod_goesOut rfl (Nat.le_of_ble_eq_true rfl) (by decide +kernel) (sh_mono k ?_)
  rintro rv m2 ⟨rfl, k⟩
  show sh_X g (d + 1) m_Mod_gang _ _ [] _ _
  refine xr_iload_n (n := 1) (i := 1) rfl (List.mem_of_getElem? (i := 1) rfl) (by decide +kernel) ?_
  refine xr_iconst (n := (-1)) (by decide +kernel) ?_
  refine xr_icmp_ne (a' := (i3 what)) (b' := (-1)) rfl (by decide) (off := 10) (tgt := 45) (by decide) (by decide +kernel) ⟨fun c1 => ?_, fun c1 => ?_⟩
  · have k := k.1 c1
    refine xr_aload_n (n := 0) (i := 0) rfl (List.mem_of_getElem? (i := 0) rfl) (by decide +kernel) ?_
    refine xr_getR (o := 41) rfl fl_Mod_132 rfl (by decide +kernel) ?_
    show sh_X g (d + 1) m_Mod_gang _ _ ((sh_r 137) :: _) _ _
    refine xr_iload_n (n := 1) (i := 1) rfl (List.mem_of_getElem? (i := 1) rfl) (by decide +kernel) ?_
    obtain ⟨o, k⟩ := k
    refine xr_iald rfl o.1 o.2 (by decide +kernel) ?_
    exact xr_iret rfl (by decide +kernel) k
  · have k := k.2 c1
    refine xr_aload_n (n := 0) (i := 0) rfl (List.mem_of_getElem? (i := 0) rfl) (by decide +kernel) ?_
    refine xr_getI rfl fl_Mod_448 (by decide) (by decide +kernel) ?_
    refine xr_goto (off := 9) (tgt := 51) (by decide) (by decide +kernel) ?_
    exact xr_iret rfl (by decide +kernel) k

theorem v_Mod_cover {g : sh_G} {d : Nat}   {mem : sh_Mem} {Q : Option sh_V → sh_Mem → Prop}  (k : (∀ m1 : sh_Mem, m1 = ms mem 96 (ru (mem 96) 0 0) → sh_X g (d + 1) m_Mod_cover 9 [(0, (sh_r 96)), (1, (sh_i (-1))), (2, (sh_i 0))] [] m1 (sh_K m_Mod_cover Q))) : sh_Cal g (d + 1) m_Mod_cover [(sh_r 96)] mem Q := by
  refine sh_met (by decide +kernel) (Nat.le_of_ble_eq_true rfl) (lo := [(0, (sh_r 96))]) rfl ?_
  refine xr_aload_n (n := 0) (i := 0) rfl (List.mem_of_getElem? (i := 0) rfl) (by decide +kernel) ?_
  refine xr_iconst (n := 0) (by decide +kernel) ?_
  refine xr_putI rfl pl_Mod_141 rfl (by decide +kernel) ?_
  have k := k _ rfl
  generalize hg_m1 : ms mem 96 (ru (mem 96) 0 0) = m1 at k ⊢
  refine xr_iconst (n := (-1)) (by decide +kernel) ?_
  refine xr_istore_n (n := 1) (i := 1) rfl (by decide) rfl (by decide +kernel) ?_
  refine xr_iconst (n := 0) (by decide +kernel) ?_
  refine xr_istore_n (n := 2) (i := 2) rfl (by decide) rfl (by decide +kernel) ?_
  refine xr_sub (lo' := [(0, (sh_r 96)), (1, (sh_i (-1))), (2, (sh_i 0))]) [2, 1, 0] rfl ?_
  exact k
theorem v_Mod_cover_9 {g : sh_G} {d : Nat}   {mem : sh_Mem} {Q : Option sh_V → sh_Mem → Prop}  {x1 : Int} {x2 : Int} (k : (((i3 (mem 98 1)) ≤ (i3 x2) → sh_X g (d + 1) m_Mod_cover 48 [(0, (sh_r 96)), (1, (sh_i x1)), (2, (sh_i 0)), (3, (sh_i 0))] [] mem (sh_K m_Mod_cover Q)) ∧ (¬ (i3 (mem 98 1)) ≤ (i3 x2) → (sh_Cal g d m_Mod_couldSteal [(sh_r 96), (sh_i x2)] mem fun rv m1 => ∃ r1 : Int, rv = some (sh_i r1) ∧ (((i3 r1) = 0 → sh_X g (d + 1) m_Mod_cover 9 [(0, (sh_r 96)), (1, (sh_i x1)), (2, (sh_i (x2 + 1)))] [] m1 (sh_K m_Mod_cover Q)) ∧ (¬ (i3 r1) = 0 → ((0 ≤ x2 ∧ x2 < 8) ∧ sh_X g (d + 1) m_Mod_cover 9 [(0, (sh_r 96)), (1, (sh_i (if (i3 x1) < (i3 (m1 104 (x2).toNat)) then (m1 104 (x2).toNat) else x1))), (2, (sh_i (x2 + 1)))] [] m1 (sh_K m_Mod_cover Q)))))))) : sh_X g (d + 1) m_Mod_cover 9 [(0, (sh_r 96)), (1, (sh_i x1)), (2, (sh_i x2))] [] mem (sh_K m_Mod_cover Q) := by
  refine xr_iload_n (n := 2) (i := 2) rfl (List.mem_of_getElem? (i := 2) rfl) (by decide +kernel) ?_
  refine xr_aload_n (n := 0) (i := 0) rfl (List.mem_of_getElem? (i := 0) rfl) (by decide +kernel) ?_
  refine xr_getR (o := 2) rfl fl_Mod_13 rfl (by decide +kernel) ?_
  show sh_X g (d + 1) m_Mod_cover _ _ ((sh_r 98) :: _) _ _
  refine xr_iconst (n := 1) (by decide +kernel) ?_
  refine xr_ialdN (j := 1) rfl rfl (by decide) (by decide +kernel) ?_
  refine xr_icmp_ge (a' := (i3 x2)) (b' := (i3 (mem 98 1))) rfl rfl (off := 28) (tgt := 44) (by decide) (by decide +kernel) ⟨fun c1 => ?_, fun c1 => ?_⟩
  · have k := k.1 c1
    refine xr_iconst (n := 0) (by decide +kernel) ?_
    refine xr_istore_n (n := 2) (i := 2) rfl (by decide) rfl (by decide +kernel) ?_
    refine xr_iconst (n := 0) (by decide +kernel) ?_
    refine xr_istore_n (n := 3) (i := 3) rfl (by decide) rfl (by decide +kernel) ?_
    refine xr_sub (lo' := [(0, (sh_r 96)), (1, (sh_i x1)), (2, (sh_i 0)), (3, (sh_i 0))]) [2, 3, 1, 0] rfl ?_
    exact k
  · have k := k.2 c1
    refine xr_aload_n (n := 0) (i := 0) rfl (List.mem_of_getElem? (i := 0) rfl) (by decide +kernel) ?_
    refine xr_iload_n (n := 2) (i := 2) rfl (List.mem_of_getElem? (i := 2) rfl) (by decide +kernel) ?_
    refine xr_callV (av := [(sh_i x2)]) rfl rfl rfl mo_Mod_couldSteal ml_Mod_393 im_Mod_couldSteal se_Mod_couldSteal rfl (Nat.le_of_ble_eq_true rfl) (by decide +kernel) (sh_mono k ?_)
    rintro rv m1 ⟨r1, rfl, k⟩
    show sh_X g (d + 1) m_Mod_cover _ _ [(sh_i r1)] _ _
    refine xr_if_eq (a' := (i3 r1)) rfl (off := 14) (tgt := 38) (by decide) (by decide +kernel) ⟨fun c2 => ?_, fun c2 => ?_⟩
    · have k := k.1 c2
      refine xr_iinc (n := 1) (lo' := [(2, (sh_i (x2 + 1))), (0, (sh_r 96)), (1, (sh_i x1))]) (List.mem_of_getElem? (i := 2) rfl) (by decide) rfl (by decide +kernel) ?_
      refine xr_goto (off := (-32)) (tgt := 9) (by decide) (by decide +kernel) ?_
      refine xr_sub (lo' := [(0, (sh_r 96)), (1, (sh_i x1)), (2, (sh_i (x2 + 1)))]) [1, 2, 0] rfl ?_
      exact k
    · have k := k.2 c2
      refine xr_iload_n (n := 1) (i := 1) rfl (List.mem_of_getElem? (i := 1) rfl) (by decide +kernel) ?_
      refine xr_aload_n (n := 0) (i := 0) rfl (List.mem_of_getElem? (i := 0) rfl) (by decide +kernel) ?_
      refine xr_getR (o := 8) rfl fl_Mod_32 rfl (by decide +kernel) ?_
      show sh_X g (d + 1) m_Mod_cover _ _ ((sh_r 104) :: _) _ _
      refine xr_iload_n (n := 2) (i := 2) rfl (List.mem_of_getElem? (i := 2) rfl) (by decide +kernel) ?_
      obtain ⟨o, k⟩ := k
      refine xr_iald rfl o.1 o.2 (by decide +kernel) ?_
      refine xr_mmax ml_Mod_368 (Nat.le_of_ble_eq_true rfl) (by decide +kernel) ?_
      refine xr_istore_n (n := 1) (i := 1) rfl (by decide) rfl (by decide +kernel) ?_
      refine xr_iinc (n := 1) (lo' := [(2, (sh_i (x2 + 1))), (1, (sh_i (if (i3 x1) < (i3 (m1 104 (x2).toNat)) then (m1 104 (x2).toNat) else x1))), (0, (sh_r 96))]) (List.mem_of_getElem? (i := 2) rfl) (by decide) rfl (by decide +kernel) ?_
      refine xr_goto (off := (-32)) (tgt := 9) (by decide) (by decide +kernel) ?_
      refine xr_sub (lo' := [(0, (sh_r 96)), (1, (sh_i (if (i3 x1) < (i3 (m1 104 (x2).toNat)) then (m1 104 (x2).toNat) else x1))), (2, (sh_i (x2 + 1)))]) [2, 1, 0] rfl ?_
      exact k
theorem v_Mod_cover_48 {g : sh_G} {d : Nat}   {mem : sh_Mem} {Q : Option sh_V → sh_Mem → Prop}  {x1 : Int} {x2 : Int} {x3 : Nat} (k : (((i3 (mem 98 0)) ≤ (i3 (x3 : Int)) → Q (some (sh_i x2)) mem) ∧ (¬ (i3 (mem 98 0)) ≤ (i3 (x3 : Int)) → ((1 + x3) < 45 ∧ (((i3 (mem 129 (1 + x3))) = 0 → sh_X g (d + 1) m_Mod_cover 48 [(0, (sh_r 96)), (1, (sh_i x1)), (2, (sh_i x2)), (3, (sh_i (((x3 + 1) : Nat) : Int)))] [] mem (sh_K m_Mod_cover Q)) ∧ (¬ (i3 (mem 129 (1 + x3))) = 0 → ((9 + x3) < 45 ∧ (((i3 (mem 129 (9 + x3))) ≤ (i3 x1) → ((¬ (i3 x1) = 9 → ((9 + x3) < 45 ∧ sh_X g (d + 1) m_Mod_cover 48 [(0, (sh_r 96)), (1, (sh_i x1)), (2, (sh_i (x2 + ((x1 + 1) - (mem 129 (9 + x3)))))), (3, (sh_i (((x3 + 1) : Nat) : Int)))] [] mem (sh_K m_Mod_cover Q))) ∧ ((i3 x1) = 9 → Q (some (sh_i (-1))) mem))) ∧ (¬ (i3 (mem 129 (9 + x3))) ≤ (i3 x1) → sh_X g (d + 1) m_Mod_cover 48 [(0, (sh_r 96)), (1, (sh_i x1)), (2, (sh_i x2)), (3, (sh_i (((x3 + 1) : Nat) : Int)))] [] mem (sh_K m_Mod_cover Q)))))))))) : sh_X g (d + 1) m_Mod_cover 48 [(0, (sh_r 96)), (1, (sh_i x1)), (2, (sh_i x2)), (3, (sh_i (x3 : Int)))] [] mem (sh_K m_Mod_cover Q) := by
  refine xr_iload_n (n := 3) (i := 3) rfl (List.mem_of_getElem? (i := 3) rfl) (by decide +kernel) ?_
  refine xr_aload_n (n := 0) (i := 0) rfl (List.mem_of_getElem? (i := 0) rfl) (by decide +kernel) ?_
  refine xr_getR (o := 2) rfl fl_Mod_13 rfl (by decide +kernel) ?_
  show sh_X g (d + 1) m_Mod_cover _ _ ((sh_r 98) :: _) _ _
  refine xr_iconst (n := 0) (by decide +kernel) ?_
  refine xr_ialdN (j := 0) rfl rfl (by decide) (by decide +kernel) ?_
  refine xr_icmp_ge (a' := (i3 (x3 : Int))) (b' := (i3 (mem 98 0))) rfl rfl (off := 60) (tgt := 115) (by decide) (by decide +kernel) ⟨fun c1 => ?_, fun c1 => ?_⟩
  · have k := k.1 c1
    refine xr_iload_n (n := 2) (i := 2) rfl (List.mem_of_getElem? (i := 2) rfl) (by decide +kernel) ?_
    exact xr_iret rfl (by decide +kernel) k
  · have k := k.2 c1
    refine xr_aload_n (n := 0) (i := 0) rfl (List.mem_of_getElem? (i := 0) rfl) (by decide +kernel) ?_
    refine xr_getR (o := 33) rfl fl_Mod_108 rfl (by decide +kernel) ?_
    show sh_X g (d + 1) m_Mod_cover _ _ ((sh_r 129) :: _) _ _
    refine xr_iconst (n := 1) (by decide +kernel) ?_
    refine xr_iload_n (n := 3) (i := 3) rfl (List.mem_of_getElem? (i := 3) rfl) (by decide +kernel) ?_
    refine xr_iadd (by decide +kernel) ?_
    show sh_X g (d + 1) m_Mod_cover _ _ ((sh_i (((1 + x3) : Nat) : Int)) :: _) _ _
    obtain ⟨o, k⟩ := k
    refine xr_ialdN (j := (1 + x3)) rfl rfl o (by decide +kernel) ?_
    refine xr_if_eq (a' := (i3 (mem 129 (1 + x3)))) rfl (off := 43) (tgt := 109) (by decide) (by decide +kernel) ⟨fun c2 => ?_, fun c2 => ?_⟩
    · have k := k.1 c2
      refine xr_iinc (n := 1) (lo' := [(3, (sh_i (((x3 + 1) : Nat) : Int))), (0, (sh_r 96)), (1, (sh_i x1)), (2, (sh_i x2))]) (List.mem_of_getElem? (i := 3) rfl) (by decide) rfl (by decide +kernel) ?_
      refine xr_goto (off := (-64)) (tgt := 48) (by decide) (by decide +kernel) ?_
      refine xr_sub (lo' := [(0, (sh_r 96)), (1, (sh_i x1)), (2, (sh_i x2)), (3, (sh_i (((x3 + 1) : Nat) : Int)))]) [1, 2, 3, 0] rfl ?_
      exact k
    · have k := k.2 c2
      refine xr_iload_n (n := 1) (i := 1) rfl (List.mem_of_getElem? (i := 1) rfl) (by decide +kernel) ?_
      refine xr_aload_n (n := 0) (i := 0) rfl (List.mem_of_getElem? (i := 0) rfl) (by decide +kernel) ?_
      refine xr_getR (o := 33) rfl fl_Mod_108 rfl (by decide +kernel) ?_
      show sh_X g (d + 1) m_Mod_cover _ _ ((sh_r 129) :: _) _ _
      refine xr_bipush (n := 9) (v := 9) (by decide) (by decide +kernel) ?_
      refine xr_iload_n (n := 3) (i := 3) rfl (List.mem_of_getElem? (i := 3) rfl) (by decide +kernel) ?_
      refine xr_iadd (by decide +kernel) ?_
      show sh_X g (d + 1) m_Mod_cover _ _ ((sh_i (((9 + x3) : Nat) : Int)) :: _) _ _
      obtain ⟨o, k⟩ := k
      refine xr_ialdN (j := (9 + x3)) rfl rfl o (by decide +kernel) ?_
      refine xr_icmp_ge (a' := (i3 x1)) (b' := (i3 (mem 129 (9 + x3)))) rfl rfl (off := 6) (tgt := 85) (by decide) (by decide +kernel) ⟨fun c3 => ?_, fun c3 => ?_⟩
      · have k := k.1 c3
        refine xr_iload_n (n := 1) (i := 1) rfl (List.mem_of_getElem? (i := 1) rfl) (by decide +kernel) ?_
        refine xr_bipush (n := 9) (v := 9) (by decide) (by decide +kernel) ?_
        refine xr_icmp_ne (a' := (i3 x1)) (b' := 9) rfl (by decide) (off := 5) (tgt := 93) (by decide) (by decide +kernel) ⟨fun c4 => ?_, fun c4 => ?_⟩
        · have k := k.1 c4
          refine xr_iload_n (n := 2) (i := 2) rfl (List.mem_of_getElem? (i := 2) rfl) (by decide +kernel) ?_
          refine xr_iload_n (n := 1) (i := 1) rfl (List.mem_of_getElem? (i := 1) rfl) (by decide +kernel) ?_
          refine xr_iconst (n := 1) (by decide +kernel) ?_
          refine xr_iadd (by decide +kernel) ?_
          show sh_X g (d + 1) m_Mod_cover _ _ ((sh_i (x1 + 1)) :: _) _ _
          refine xr_aload_n (n := 0) (i := 0) rfl (List.mem_of_getElem? (i := 0) rfl) (by decide +kernel) ?_
          refine xr_getR (o := 33) rfl fl_Mod_108 rfl (by decide +kernel) ?_
          show sh_X g (d + 1) m_Mod_cover _ _ ((sh_r 129) :: _) _ _
          refine xr_bipush (n := 9) (v := 9) (by decide) (by decide +kernel) ?_
          refine xr_iload_n (n := 3) (i := 3) rfl (List.mem_of_getElem? (i := 3) rfl) (by decide +kernel) ?_
          refine xr_iadd (by decide +kernel) ?_
          show sh_X g (d + 1) m_Mod_cover _ _ ((sh_i (((9 + x3) : Nat) : Int)) :: _) _ _
          obtain ⟨o, k⟩ := k
          refine xr_ialdN (j := (9 + x3)) rfl rfl o (by decide +kernel) ?_
          refine xr_isub (by decide +kernel) ?_
          show sh_X g (d + 1) m_Mod_cover _ _ ((sh_i ((x1 + 1) - (mem 129 (9 + x3)))) :: _) _ _
          refine xr_iadd (by decide +kernel) ?_
          show sh_X g (d + 1) m_Mod_cover _ _ ((sh_i (x2 + ((x1 + 1) - (mem 129 (9 + x3))))) :: _) _ _
          refine xr_istore_n (n := 2) (i := 2) rfl (by decide) rfl (by decide +kernel) ?_
          refine xr_iinc (n := 1) (lo' := [(3, (sh_i (((x3 + 1) : Nat) : Int))), (2, (sh_i (x2 + ((x1 + 1) - (mem 129 (9 + x3)))))), (0, (sh_r 96)), (1, (sh_i x1))]) (List.mem_of_getElem? (i := 3) rfl) (by decide) rfl (by decide +kernel) ?_
          refine xr_goto (off := (-64)) (tgt := 48) (by decide) (by decide +kernel) ?_
          refine xr_sub (lo' := [(0, (sh_r 96)), (1, (sh_i x1)), (2, (sh_i (x2 + ((x1 + 1) - (mem 129 (9 + x3)))))), (3, (sh_i (((x3 + 1) : Nat) : Int)))]) [2, 3, 1, 0] rfl ?_
          exact k
        · have k := k.2 c4
          refine xr_iconst (n := (-1)) (by decide +kernel) ?_
          exact xr_iret rfl (by decide +kernel) k
      · have k := k.2 c3
        refine xr_goto (off := 27) (tgt := 109) (by decide) (by decide +kernel) ?_
        refine xr_iinc (n := 1) (lo' := [(3, (sh_i (((x3 + 1) : Nat) : Int))), (0, (sh_r 96)), (1, (sh_i x1)), (2, (sh_i x2))]) (List.mem_of_getElem? (i := 3) rfl) (by decide) rfl (by decide +kernel) ?_
        refine xr_goto (off := (-64)) (tgt := 48) (by decide) (by decide +kernel) ?_
        refine xr_sub (lo' := [(0, (sh_r 96)), (1, (sh_i x1)), (2, (sh_i x2)), (3, (sh_i (((x3 + 1) : Nat) : Int)))]) [1, 2, 3, 0] rfl ?_
        exact k

theorem v_Mod_mostBut {g : sh_G} {d : Nat} {but : Int}  {mem : sh_Mem} {Q : Option sh_V → sh_Mem → Prop}  (k : sh_X g (d + 1) m_Mod_mostBut 4 [(0, (sh_r 96)), (1, (sh_i but)), (2, (sh_i 0)), (3, (sh_i 0))] [] mem (sh_K m_Mod_mostBut Q)) : sh_Cal g (d + 1) m_Mod_mostBut [(sh_r 96), (sh_i but)] mem Q := by
  refine sh_met (by decide +kernel) (Nat.le_of_ble_eq_true rfl) (lo := [(0, (sh_r 96)), (1, (sh_i but))]) rfl ?_
  refine xr_iconst (n := 0) (by decide +kernel) ?_
  refine xr_istore_n (n := 2) (i := 2) rfl (by decide) rfl (by decide +kernel) ?_
  refine xr_iconst (n := 0) (by decide +kernel) ?_
  refine xr_istore_n (n := 3) (i := 3) rfl (by decide) rfl (by decide +kernel) ?_
  refine xr_sub (lo' := [(0, (sh_r 96)), (1, (sh_i but)), (2, (sh_i 0)), (3, (sh_i 0))]) [2, 3, 1, 0] rfl ?_
  exact k
theorem v_Mod_mostBut_4 {g : sh_G} {d : Nat} {but : Int}  {mem : sh_Mem} {Q : Option sh_V → sh_Mem → Prop}  {x2 : Int} {x3 : Nat} (k : (((i3 (mem 98 1)) ≤ (i3 (x3 : Int)) → Q (some (sh_i x2)) mem) ∧ (¬ (i3 (mem 98 1)) ≤ (i3 (x3 : Int)) → sh_X g (d + 1) m_Mod_mostBut 17 [(0, (sh_r 96)), (1, (sh_i but)), (2, (sh_i x2)), (3, (sh_i (x3 : Int))), (4, (sh_i 0))] [] mem (sh_K m_Mod_mostBut Q)))) : sh_X g (d + 1) m_Mod_mostBut 4 [(0, (sh_r 96)), (1, (sh_i but)), (2, (sh_i x2)), (3, (sh_i (x3 : Int)))] [] mem (sh_K m_Mod_mostBut Q) := by
  refine xr_iload_n (n := 3) (i := 3) rfl (List.mem_of_getElem? (i := 3) rfl) (by decide +kernel) ?_
  refine xr_aload_n (n := 0) (i := 0) rfl (List.mem_of_getElem? (i := 0) rfl) (by decide +kernel) ?_
  refine xr_getR (o := 2) rfl fl_Mod_13 rfl (by decide +kernel) ?_
  show sh_X g (d + 1) m_Mod_mostBut _ _ ((sh_r 98) :: _) _ _
  refine xr_iconst (n := 1) (by decide +kernel) ?_
  refine xr_ialdN (j := 1) rfl rfl (by decide) (by decide +kernel) ?_
  refine xr_icmp_ge (a' := (i3 (x3 : Int))) (b' := (i3 (mem 98 1))) rfl rfl (off := 61) (tgt := 72) (by decide) (by decide +kernel) ⟨fun c1 => ?_, fun c1 => ?_⟩
  · have k := k.1 c1
    refine xr_iload_n (n := 2) (i := 2) rfl (List.mem_of_getElem? (i := 2) rfl) (by decide +kernel) ?_
    exact xr_iret rfl (by decide +kernel) k
  · have k := k.2 c1
    refine xr_iconst (n := 0) (by decide +kernel) ?_
    refine xr_istore (i := 4) (by decide) rfl (by decide +kernel) ?_
    refine xr_sub (lo' := [(0, (sh_r 96)), (1, (sh_i but)), (2, (sh_i x2)), (3, (sh_i (x3 : Int))), (4, (sh_i 0))]) [1, 2, 3, 4, 0] rfl ?_
    exact k
theorem v_Mod_mostBut_17 {g : sh_G} {d : Nat} {but : Int}  {mem : sh_Mem} {Q : Option sh_V → sh_Mem → Prop}  {x2 : Int} {x3 : Nat} {x4 : Nat} (k : (((i3 (mem 98 0)) ≤ (i3 (x4 : Int)) → sh_X g (d + 1) m_Mod_mostBut 4 [(0, (sh_r 96)), (1, (sh_i but)), (2, (sh_i x2)), (3, (sh_i (((x3 + 1) : Nat) : Int)))] [] mem (sh_K m_Mod_mostBut Q)) ∧ (¬ (i3 (mem 98 0)) ≤ (i3 (x4 : Int)) → (((i3 (x4 : Int)) = (i3 but) → sh_X g (d + 1) m_Mod_mostBut 17 [(0, (sh_r 96)), (1, (sh_i but)), (2, (sh_i x2)), (3, (sh_i (x3 : Int))), (4, (sh_i (((x4 + 1) : Nat) : Int)))] [] mem (sh_K m_Mod_mostBut Q)) ∧ (¬ (i3 (x4 : Int)) = (i3 but) → (sh_Cal g d m_Mod_canOf [(sh_r 96), (sh_i (x3 : Int))] mem fun rv m1 => ∃ r1 : Int, rv = some (sh_i r1) ∧ ((¬ (i_and (i_shr r1 (x4 : Int)) 1) = 1 → sh_X g (d + 1) m_Mod_mostBut 17 [(0, (sh_r 96)), (1, (sh_i but)), (2, (sh_i x2)), (3, (sh_i (x3 : Int))), (4, (sh_i (((x4 + 1) : Nat) : Int)))] [] m1 (sh_K m_Mod_mostBut Q)) ∧ ((i_and (i_shr r1 (x4 : Int)) 1) = 1 → (sh_Cal g d m_Mod_haulOf [(sh_r 96), (sh_i (x3 : Int)), (sh_i (x4 : Int))] m1 fun rv m2 => ∃ r2 : Int, rv = some (sh_i r2) ∧ sh_X g (d + 1) m_Mod_mostBut 17 [(0, (sh_r 96)), (1, (sh_i but)), (2, (sh_i (if (i3 x2) < (i3 r2) then r2 else x2))), (3, (sh_i (x3 : Int))), (4, (sh_i (((x4 + 1) : Nat) : Int)))] [] m2 (sh_K m_Mod_mostBut Q)))))))))) : sh_X g (d + 1) m_Mod_mostBut 17 [(0, (sh_r 96)), (1, (sh_i but)), (2, (sh_i x2)), (3, (sh_i (x3 : Int))), (4, (sh_i (x4 : Int)))] [] mem (sh_K m_Mod_mostBut Q) := by
  refine xr_iload (i := 4) (List.mem_of_getElem? (i := 4) rfl) (by decide +kernel) ?_
  refine xr_aload_n (n := 0) (i := 0) rfl (List.mem_of_getElem? (i := 0) rfl) (by decide +kernel) ?_
  refine xr_getR (o := 2) rfl fl_Mod_13 rfl (by decide +kernel) ?_
  show sh_X g (d + 1) m_Mod_mostBut _ _ ((sh_r 98) :: _) _ _
  refine xr_iconst (n := 0) (by decide +kernel) ?_
  refine xr_ialdN (j := 0) rfl rfl (by decide) (by decide +kernel) ?_
  refine xr_icmp_ge (a' := (i3 (x4 : Int))) (b' := (i3 (mem 98 0))) rfl rfl (off := 41) (tgt := 66) (by decide) (by decide +kernel) ⟨fun c1 => ?_, fun c1 => ?_⟩
  · have k := k.1 c1
    refine xr_iinc (n := 1) (lo' := [(3, (sh_i (((x3 + 1) : Nat) : Int))), (0, (sh_r 96)), (1, (sh_i but)), (2, (sh_i x2)), (4, (sh_i (x4 : Int)))]) (List.mem_of_getElem? (i := 3) rfl) (by decide) rfl (by decide +kernel) ?_
    refine xr_goto (off := (-65)) (tgt := 4) (by decide) (by decide +kernel) ?_
    refine xr_sub (lo' := [(0, (sh_r 96)), (1, (sh_i but)), (2, (sh_i x2)), (3, (sh_i (((x3 + 1) : Nat) : Int)))]) [1, 2, 3, 0] rfl ?_
    exact k
  · have k := k.2 c1
    refine xr_iload (i := 4) (List.mem_of_getElem? (i := 4) rfl) (by decide +kernel) ?_
    refine xr_iload_n (n := 1) (i := 1) rfl (List.mem_of_getElem? (i := 1) rfl) (by decide +kernel) ?_
    refine xr_icmp_eq (a' := (i3 (x4 : Int))) (b' := (i3 but)) rfl rfl (off := 29) (tgt := 60) (by decide) (by decide +kernel) ⟨fun c2 => ?_, fun c2 => ?_⟩
    · have k := k.1 c2
      refine xr_iinc (n := 1) (lo' := [(4, (sh_i (((x4 + 1) : Nat) : Int))), (0, (sh_r 96)), (1, (sh_i but)), (2, (sh_i x2)), (3, (sh_i (x3 : Int)))]) (List.mem_of_getElem? (i := 4) rfl) (by decide) rfl (by decide +kernel) ?_
      refine xr_goto (off := (-46)) (tgt := 17) (by decide) (by decide +kernel) ?_
      refine xr_sub (lo' := [(0, (sh_r 96)), (1, (sh_i but)), (2, (sh_i x2)), (3, (sh_i (x3 : Int))), (4, (sh_i (((x4 + 1) : Nat) : Int)))]) [1, 2, 3, 4, 0] rfl ?_
      exact k
    · have k := k.2 c2
      refine xr_aload_n (n := 0) (i := 0) rfl (List.mem_of_getElem? (i := 0) rfl) (by decide +kernel) ?_
      refine xr_iload_n (n := 3) (i := 3) rfl (List.mem_of_getElem? (i := 3) rfl) (by decide +kernel) ?_
      refine xr_callV (av := [(sh_i (x3 : Int))]) rfl rfl rfl mo_Mod_canOf ml_Mod_429 im_Mod_canOf se_Mod_canOf rfl (Nat.le_of_ble_eq_true rfl) (by decide +kernel) (sh_mono k ?_)
      rintro rv m1 ⟨r1, rfl, k⟩
      show sh_X g (d + 1) m_Mod_mostBut _ _ [(sh_i r1)] _ _
      refine xr_iload (i := 4) (List.mem_of_getElem? (i := 4) rfl) (by decide +kernel) ?_
      refine xr_ishr (by decide +kernel) ?_
      refine xr_iconst (n := 1) (by decide +kernel) ?_
      refine xr_iand (by decide +kernel) ?_
      refine xr_iconst (n := 1) (by decide +kernel) ?_
      refine xr_icmp_ne (a' := (i_and (i_shr r1 (x4 : Int)) 1)) (b' := 1) (i3_nrm _) (by decide) (off := 15) (tgt := 60) (by decide) (by decide +kernel) ⟨fun c3 => ?_, fun c3 => ?_⟩
      · have k := k.1 c3
        refine xr_iinc (n := 1) (lo' := [(4, (sh_i (((x4 + 1) : Nat) : Int))), (0, (sh_r 96)), (1, (sh_i but)), (2, (sh_i x2)), (3, (sh_i (x3 : Int)))]) (List.mem_of_getElem? (i := 4) rfl) (by decide) rfl (by decide +kernel) ?_
        refine xr_goto (off := (-46)) (tgt := 17) (by decide) (by decide +kernel) ?_
        refine xr_sub (lo' := [(0, (sh_r 96)), (1, (sh_i but)), (2, (sh_i x2)), (3, (sh_i (x3 : Int))), (4, (sh_i (((x4 + 1) : Nat) : Int)))]) [1, 2, 3, 4, 0] rfl ?_
        exact k
      · have k := k.2 c3
        refine xr_iload_n (n := 2) (i := 2) rfl (List.mem_of_getElem? (i := 2) rfl) (by decide +kernel) ?_
        refine xr_aload_n (n := 0) (i := 0) rfl (List.mem_of_getElem? (i := 0) rfl) (by decide +kernel) ?_
        refine xr_iload_n (n := 3) (i := 3) rfl (List.mem_of_getElem? (i := 3) rfl) (by decide +kernel) ?_
        refine xr_iload (i := 4) (List.mem_of_getElem? (i := 4) rfl) (by decide +kernel) ?_
        refine xr_callV (av := [(sh_i (x3 : Int)), (sh_i (x4 : Int))]) rfl rfl rfl mo_Mod_haulOf ml_Mod_358 im_Mod_haulOf se_Mod_haulOf rfl (Nat.le_of_ble_eq_true rfl) (by decide +kernel) (sh_mono k ?_)
        rintro rv m2 ⟨r2, rfl, k⟩
        show sh_X g (d + 1) m_Mod_mostBut _ _ [(sh_i r2), (sh_i x2)] _ _
        refine xr_mmax ml_Mod_368 (Nat.le_of_ble_eq_true rfl) (by decide +kernel) ?_
        refine xr_istore_n (n := 2) (i := 2) rfl (by decide) rfl (by decide +kernel) ?_
        refine xr_iinc (n := 1) (lo' := [(4, (sh_i (((x4 + 1) : Nat) : Int))), (2, (sh_i (if (i3 x2) < (i3 r2) then r2 else x2))), (0, (sh_r 96)), (1, (sh_i but)), (3, (sh_i (x3 : Int)))]) (List.mem_of_getElem? (i := 4) rfl) (by decide) rfl (by decide +kernel) ?_
        refine xr_goto (off := (-46)) (tgt := 17) (by decide) (by decide +kernel) ?_
        refine xr_sub (lo' := [(0, (sh_r 96)), (1, (sh_i but)), (2, (sh_i (if (i3 x2) < (i3 r2) then r2 else x2))), (3, (sh_i (x3 : Int))), (4, (sh_i (((x4 + 1) : Nat) : Int)))]) [2, 3, 1, 4, 0] rfl ?_
        exact k

theorem v_Mod_watch {g : sh_G} {d : Nat}   {mem : sh_Mem} {Q : Option sh_V → sh_Mem → Prop}  (k : (∀ m1 : sh_Mem, m1 = ms mem 96 (ru (mem 96) 0 0) → (sh_Cal g d m_Mod_mostBut [(sh_r 96), (sh_i (-1))] m1 fun rv m2 => ∃ r1 : Int, rv = some (sh_i r1) ∧ sh_X g (d + 1) m_Mod_watch 15 [(0, (sh_r 96)), (1, (sh_i r1)), (2, (sh_i (-1))), (3, (sh_i 0))] [] m2 (sh_K m_Mod_watch Q)))) : sh_Cal g (d + 1) m_Mod_watch [(sh_r 96)] mem Q := by
  refine sh_met (by decide +kernel) (Nat.le_of_ble_eq_true rfl) (lo := [(0, (sh_r 96))]) rfl ?_
  refine xr_aload_n (n := 0) (i := 0) rfl (List.mem_of_getElem? (i := 0) rfl) (by decide +kernel) ?_
  refine xr_iconst (n := 0) (by decide +kernel) ?_
  refine xr_putI rfl pl_Mod_141 rfl (by decide +kernel) ?_
  have k := k _ rfl
  generalize hg_m1 : ms mem 96 (ru (mem 96) 0 0) = m1 at k ⊢
  refine xr_aload_n (n := 0) (i := 0) rfl (List.mem_of_getElem? (i := 0) rfl) (by decide +kernel) ?_
  refine xr_iconst (n := (-1)) (by decide +kernel) ?_
  refine xr_callV (av := [(sh_i (-1))]) rfl rfl rfl mo_Mod_mostBut ml_Mod_455 im_Mod_mostBut se_Mod_mostBut rfl (Nat.le_of_ble_eq_true rfl) (by decide +kernel) (sh_mono k ?_)
  rintro rv m2 ⟨r1, rfl, k⟩
  show sh_X g (d + 1) m_Mod_watch _ _ [(sh_i r1)] _ _
  refine xr_istore_n (n := 1) (i := 1) rfl (by decide) rfl (by decide +kernel) ?_
  refine xr_iconst (n := (-1)) (by decide +kernel) ?_
  refine xr_istore_n (n := 2) (i := 2) rfl (by decide) rfl (by decide +kernel) ?_
  refine xr_iconst (n := 0) (by decide +kernel) ?_
  refine xr_istore_n (n := 3) (i := 3) rfl (by decide) rfl (by decide +kernel) ?_
  refine xr_sub (lo' := [(0, (sh_r 96)), (1, (sh_i r1)), (2, (sh_i (-1))), (3, (sh_i 0))]) [3, 2, 1, 0] rfl ?_
  exact k
theorem v_Mod_watch_15 {g : sh_G} {d : Nat}   {mem : sh_Mem} {Q : Option sh_V → sh_Mem → Prop}  {x1 : Int} {x2 : Int} {x3 : Nat} (k : (((i3 (mem 98 0)) ≤ (i3 (x3 : Int)) → Q (some (sh_i x2)) mem) ∧ (¬ (i3 (mem 98 0)) ≤ (i3 (x3 : Int)) → (sh_Cal g d m_Mod_mostBut [(sh_r 96), (sh_i (x3 : Int))] mem fun rv m1 => ∃ r1 : Int, rv = some (sh_i r1) ∧ (((i3 r1) < (i3 x1) → sh_X g (d + 1) m_Mod_watch 15 [(0, (sh_r 96)), (1, (sh_i r1)), (2, (sh_i (x3 : Int))), (3, (sh_i (((x3 + 1) : Nat) : Int)))] [] m1 (sh_K m_Mod_watch Q)) ∧ (¬ (i3 r1) < (i3 x1) → sh_X g (d + 1) m_Mod_watch 15 [(0, (sh_r 96)), (1, (sh_i x1)), (2, (sh_i x2)), (3, (sh_i (((x3 + 1) : Nat) : Int)))] [] m1 (sh_K m_Mod_watch Q))))))) : sh_X g (d + 1) m_Mod_watch 15 [(0, (sh_r 96)), (1, (sh_i x1)), (2, (sh_i x2)), (3, (sh_i (x3 : Int)))] [] mem (sh_K m_Mod_watch Q) := by
  refine xr_iload_n (n := 3) (i := 3) rfl (List.mem_of_getElem? (i := 3) rfl) (by decide +kernel) ?_
  refine xr_aload_n (n := 0) (i := 0) rfl (List.mem_of_getElem? (i := 0) rfl) (by decide +kernel) ?_
  refine xr_getR (o := 2) rfl fl_Mod_13 rfl (by decide +kernel) ?_
  show sh_X g (d + 1) m_Mod_watch _ _ ((sh_r 98) :: _) _ _
  refine xr_iconst (n := 0) (by decide +kernel) ?_
  refine xr_ialdN (j := 0) rfl rfl (by decide) (by decide +kernel) ?_
  refine xr_icmp_ge (a' := (i3 (x3 : Int))) (b' := (i3 (mem 98 0))) rfl rfl (off := 30) (tgt := 52) (by decide) (by decide +kernel) ⟨fun c1 => ?_, fun c1 => ?_⟩
  · have k := k.1 c1
    refine xr_iload_n (n := 2) (i := 2) rfl (List.mem_of_getElem? (i := 2) rfl) (by decide +kernel) ?_
    exact xr_iret rfl (by decide +kernel) k
  · have k := k.2 c1
    refine xr_aload_n (n := 0) (i := 0) rfl (List.mem_of_getElem? (i := 0) rfl) (by decide +kernel) ?_
    refine xr_iload_n (n := 3) (i := 3) rfl (List.mem_of_getElem? (i := 3) rfl) (by decide +kernel) ?_
    refine xr_callV (av := [(sh_i (x3 : Int))]) rfl rfl rfl mo_Mod_mostBut ml_Mod_455 im_Mod_mostBut se_Mod_mostBut rfl (Nat.le_of_ble_eq_true rfl) (by decide +kernel) (sh_mono k ?_)
    rintro rv m1 ⟨r1, rfl, k⟩
    show sh_X g (d + 1) m_Mod_watch _ _ [(sh_i r1)] _ _
    refine xr_istore (i := 4) (by decide) rfl (by decide +kernel) ?_
    refine xr_iload (i := 4) (List.mem_of_getElem? (i := 0) rfl) (by decide +kernel) ?_
    refine xr_iload_n (n := 1) (i := 1) rfl (List.mem_of_getElem? (i := 2) rfl) (by decide +kernel) ?_
    refine xr_icmp_lt (a' := (i3 r1)) (b' := (i3 x1)) rfl rfl (off := 6) (tgt := 41) (by decide) (by decide +kernel) ⟨fun c2 => ?_, fun c2 => ?_⟩
    · have k := k.1 c2
      refine xr_iload (i := 4) (List.mem_of_getElem? (i := 0) rfl) (by decide +kernel) ?_
      refine xr_istore_n (n := 1) (i := 1) rfl (by decide) rfl (by decide +kernel) ?_
      refine xr_iload_n (n := 3) (i := 3) rfl (List.mem_of_getElem? (i := 4) rfl) (by decide +kernel) ?_
      refine xr_istore_n (n := 2) (i := 2) rfl (by decide) rfl (by decide +kernel) ?_
      refine xr_iinc (n := 1) (lo' := [(3, (sh_i (((x3 + 1) : Nat) : Int))), (2, (sh_i (x3 : Int))), (1, (sh_i r1)), (4, (sh_i r1)), (0, (sh_r 96))]) (List.mem_of_getElem? (i := 4) rfl) (by decide) rfl (by decide +kernel) ?_
      refine xr_goto (off := (-34)) (tgt := 15) (by decide) (by decide +kernel) ?_
      refine xr_sub (lo' := [(0, (sh_r 96)), (1, (sh_i r1)), (2, (sh_i (x3 : Int))), (3, (sh_i (((x3 + 1) : Nat) : Int)))]) [4, 2, 1, 0] rfl ?_
      exact k
    · have k := k.2 c2
      refine xr_goto (off := 8) (tgt := 46) (by decide) (by decide +kernel) ?_
      refine xr_iinc (n := 1) (lo' := [(3, (sh_i (((x3 + 1) : Nat) : Int))), (4, (sh_i r1)), (0, (sh_r 96)), (1, (sh_i x1)), (2, (sh_i x2))]) (List.mem_of_getElem? (i := 4) rfl) (by decide) rfl (by decide +kernel) ?_
      refine xr_goto (off := (-34)) (tgt := 15) (by decide) (by decide +kernel) ?_
      refine xr_sub (lo' := [(0, (sh_r 96)), (1, (sh_i x1)), (2, (sh_i x2)), (3, (sh_i (((x3 + 1) : Nat) : Int)))]) [2, 3, 4, 0] rfl ?_
      exact k

theorem v_Mod_spreeOf {g : sh_G} {d : Nat} {t : Nat} {nights : Int}  {mem : sh_Mem} {Q : Option sh_V → sh_Mem → Prop}  (k : ((¬ (i3 nights) = 0 → (sh_Cal g d m_Mod_copies [(sh_r 129), (sh_i 0), (sh_r 132), (sh_i (45 * nights))] mem fun rv m1 => rv = none ∧ sh_X g (d + 1) m_Mod_spreeOf 33 [(0, (sh_r 96)), (1, (sh_i (t : Int))), (2, (sh_i nights)), (3, (sh_i (45 * nights))), (4, (sh_i (-1))), (5, (sh_i (-1))), (6, (sh_i 0))] [] m1 (sh_K m_Mod_spreeOf Q))) ∧ ((i3 nights) = 0 → Q (some (sh_i 0)) mem))) : sh_Cal g (d + 1) m_Mod_spreeOf [(sh_r 96), (sh_i (t : Int)), (sh_i nights)] mem Q := by
  refine sh_met (by decide +kernel) (Nat.le_of_ble_eq_true rfl) (lo := [(0, (sh_r 96)), (1, (sh_i (t : Int))), (2, (sh_i nights))]) rfl ?_
  refine xr_iload_n (n := 2) (i := 2) rfl (List.mem_of_getElem? (i := 2) rfl) (by decide +kernel) ?_
  refine xr_if_ne (a' := (i3 nights)) rfl (off := 5) (tgt := 6) (by decide) (by decide +kernel) ⟨fun c1 => ?_, fun c1 => ?_⟩
  · have k := k.1 c1
    refine xr_bipush (n := 45) (v := 45) (by decide) (by decide +kernel) ?_
    refine xr_iload_n (n := 2) (i := 2) rfl (List.mem_of_getElem? (i := 2) rfl) (by decide +kernel) ?_
    refine xr_imul (by decide +kernel) ?_
    show sh_X g (d + 1) m_Mod_spreeOf _ _ ((sh_i (45 * nights)) :: _) _ _
    refine xr_istore_n (n := 3) (i := 3) rfl (by decide) rfl (by decide +kernel) ?_
    refine xr_iconst (n := (-1)) (by decide +kernel) ?_
    refine xr_istore (i := 4) (by decide) rfl (by decide +kernel) ?_
    refine xr_iconst (n := (-1)) (by decide +kernel) ?_
    refine xr_istore (i := 5) (by decide) rfl (by decide +kernel) ?_
    refine xr_aload_n (n := 0) (i := 0) rfl (List.mem_of_getElem? (i := 3) rfl) (by decide +kernel) ?_
    refine xr_getR (o := 33) rfl fl_Mod_108 rfl (by decide +kernel) ?_
    show sh_X g (d + 1) m_Mod_spreeOf _ _ ((sh_r 129) :: _) _ _
    refine xr_iconst (n := 0) (by decide +kernel) ?_
    refine xr_aload_n (n := 0) (i := 0) rfl (List.mem_of_getElem? (i := 3) rfl) (by decide +kernel) ?_
    refine xr_getR (o := 36) rfl fl_Mod_117 rfl (by decide +kernel) ?_
    show sh_X g (d + 1) m_Mod_spreeOf _ _ ((sh_r 132) :: _) _ _
    refine xr_iload_n (n := 3) (i := 3) rfl (List.mem_of_getElem? (i := 2) rfl) (by decide +kernel) ?_
    refine xr_callS (av := [(sh_r 129), (sh_i 0), (sh_r 132), (sh_i (45 * nights))]) mo_Mod_copies ml_Mod_389 sa_Mod_copies rfl (Nat.le_of_ble_eq_true rfl) (by decide +kernel) (sh_mono k ?_)
    rintro rv m1 ⟨rfl, k⟩
    show sh_X g (d + 1) m_Mod_spreeOf _ _ [] _ _
    refine xr_iconst (n := 0) (by decide +kernel) ?_
    refine xr_istore (i := 6) (by decide) rfl (by decide +kernel) ?_
    refine xr_sub (lo' := [(0, (sh_r 96)), (1, (sh_i (t : Int))), (2, (sh_i nights)), (3, (sh_i (45 * nights))), (4, (sh_i (-1))), (5, (sh_i (-1))), (6, (sh_i 0))]) [4, 5, 6, 3, 2, 1, 0] rfl ?_
    exact k
  · have k := k.2 c1
    refine xr_iconst (n := 0) (by decide +kernel) ?_
    exact xr_iret rfl (by decide +kernel) k
theorem v_Mod_spreeOf_33 {g : sh_G} {d : Nat} {t : Nat} {nights : Int}  {mem : sh_Mem} {Q : Option sh_V → sh_Mem → Prop}  {x3 : Int} {x4 : Int} {x5 : Int} {x6 : Nat} (k : (((i3 (mem 98 0)) < (i3 (x6 : Int)) → (∀ m1 : sh_Mem, m1 = ms mem 96 (ru (mem 96) 56 x5) → Q (some (sh_i x4)) m1)) ∧ (¬ (i3 (mem 98 0)) < (i3 (x6 : Int)) → (((i3 (mem 98 0)) ≤ (i3 (x6 : Int)) → sh_X g (d + 1) m_Mod_spreeOf 86 [(0, (sh_r 96)), (1, (sh_i (t : Int))), (2, (sh_i nights)), (3, (sh_i x3)), (4, (sh_i x4)), (5, (sh_i x5)), (6, (sh_i (x6 : Int))), (7, (sh_i 0))] [] mem (sh_K m_Mod_spreeOf Q)) ∧ (¬ (i3 (mem 98 0)) ≤ (i3 (x6 : Int)) → (sh_Cal g d m_Mod_isOpen [(sh_r 96), (sh_i (t : Int)), (sh_i (x6 : Int))] mem fun rv m2 => ∃ r1 : Int, rv = some (sh_i r1) ∧ ((¬ (i3 r1) = 0 → (sh_Cal g d m_Mod_steals [(sh_r 96), (sh_i (t : Int)), (sh_i (x6 : Int))] m2 fun rv m3 => ∃ r2 : Int, rv = some (sh_i r2) ∧ (sh_Cal g d m_Mod_spendsIt [(sh_r 96), (sh_i (t : Int))] m3 fun rv m4 => ∃ r3 : Int, rv = some (sh_i r3) ∧ sh_X g (d + 1) m_Mod_spreeOf 86 [(0, (sh_r 96)), (1, (sh_i (t : Int))), (2, (sh_i nights)), (3, (sh_i x3)), (4, (sh_i x4)), (5, (sh_i x5)), (6, (sh_i (x6 : Int))), (7, (sh_i r3))] [] m4 (sh_K m_Mod_spreeOf Q)))) ∧ ((i3 r1) = 0 → sh_X g (d + 1) m_Mod_spreeOf 33 [(0, (sh_r 96)), (1, (sh_i (t : Int))), (2, (sh_i nights)), (3, (sh_i x3)), (4, (sh_i x4)), (5, (sh_i x5)), (6, (sh_i (((x6 + 1) : Nat) : Int)))] [] m2 (sh_K m_Mod_spreeOf Q))))))))) : sh_X g (d + 1) m_Mod_spreeOf 33 [(0, (sh_r 96)), (1, (sh_i (t : Int))), (2, (sh_i nights)), (3, (sh_i x3)), (4, (sh_i x4)), (5, (sh_i x5)), (6, (sh_i (x6 : Int)))] [] mem (sh_K m_Mod_spreeOf Q) := by
  refine xr_iload (i := 6) (List.mem_of_getElem? (i := 6) rfl) (by decide +kernel) ?_
  refine xr_aload_n (n := 0) (i := 0) rfl (List.mem_of_getElem? (i := 0) rfl) (by decide +kernel) ?_
  refine xr_getR (o := 2) rfl fl_Mod_13 rfl (by decide +kernel) ?_
  show sh_X g (d + 1) m_Mod_spreeOf _ _ ((sh_r 98) :: _) _ _
  refine xr_iconst (n := 0) (by decide +kernel) ?_
  refine xr_ialdN (j := 0) rfl rfl (by decide) (by decide +kernel) ?_
  refine xr_icmp_gt (a' := (i3 (x6 : Int))) (b' := (i3 (mem 98 0))) rfl rfl (off := 114) (tgt := 155) (by decide) (by decide +kernel) ⟨fun c1 => ?_, fun c1 => ?_⟩
  · have k := k.1 c1
    refine xr_aload_n (n := 0) (i := 0) rfl (List.mem_of_getElem? (i := 0) rfl) (by decide +kernel) ?_
    refine xr_iload (i := 5) (List.mem_of_getElem? (i := 5) rfl) (by decide +kernel) ?_
    refine xr_putI rfl pl_Mod_461 rfl (by decide +kernel) ?_
    have k := k _ rfl
    generalize hg_m1 : ms mem 96 (ru (mem 96) 56 x5) = m1 at k ⊢
    refine xr_iload (i := 4) (List.mem_of_getElem? (i := 4) rfl) (by decide +kernel) ?_
    exact xr_iret rfl (by decide +kernel) k
  · have k := k.2 c1
    refine xr_iconst (n := 0) (by decide +kernel) ?_
    refine xr_istore (i := 7) (by decide) rfl (by decide +kernel) ?_
    refine xr_iload (i := 6) (List.mem_of_getElem? (i := 7) rfl) (by decide +kernel) ?_
    refine xr_aload_n (n := 0) (i := 0) rfl (List.mem_of_getElem? (i := 1) rfl) (by decide +kernel) ?_
    refine xr_getR (o := 2) rfl fl_Mod_13 rfl (by decide +kernel) ?_
    show sh_X g (d + 1) m_Mod_spreeOf _ _ ((sh_r 98) :: _) _ _
    refine xr_iconst (n := 0) (by decide +kernel) ?_
    refine xr_ialdN (j := 0) rfl rfl (by decide) (by decide +kernel) ?_
    refine xr_icmp_ge (a' := (i3 (x6 : Int))) (b' := (i3 (mem 98 0))) rfl rfl (off := 31) (tgt := 86) (by decide) (by decide +kernel) ⟨fun c2 => ?_, fun c2 => ?_⟩
    · have k := k.1 c2
      refine xr_sub (lo' := [(0, (sh_r 96)), (1, (sh_i (t : Int))), (2, (sh_i nights)), (3, (sh_i x3)), (4, (sh_i x4)), (5, (sh_i x5)), (6, (sh_i (x6 : Int))), (7, (sh_i 0))]) [1, 2, 3, 4, 5, 6, 7, 0] rfl ?_
      exact k
    · have k := k.2 c2
      refine xr_aload_n (n := 0) (i := 0) rfl (List.mem_of_getElem? (i := 1) rfl) (by decide +kernel) ?_
      refine xr_iload_n (n := 1) (i := 1) rfl (List.mem_of_getElem? (i := 2) rfl) (by decide +kernel) ?_
      refine xr_iload (i := 6) (List.mem_of_getElem? (i := 7) rfl) (by decide +kernel) ?_
      refine xr_callV (av := [(sh_i (t : Int)), (sh_i (x6 : Int))]) rfl rfl rfl mo_Mod_isOpen ml_Mod_349 im_Mod_isOpen se_Mod_isOpen rfl (Nat.le_of_ble_eq_true rfl) (by decide +kernel) (sh_mono k ?_)
      rintro rv m2 ⟨r1, rfl, k⟩
      show sh_X g (d + 1) m_Mod_spreeOf _ _ [(sh_i r1)] _ _
      refine xr_if_ne (a' := (i3 r1)) rfl (off := 6) (tgt := 71) (by decide) (by decide +kernel) ⟨fun c3 => ?_, fun c3 => ?_⟩
      · have k := k.1 c3
        refine xr_aload_n (n := 0) (i := 0) rfl (List.mem_of_getElem? (i := 1) rfl) (by decide +kernel) ?_
        refine xr_iload_n (n := 1) (i := 1) rfl (List.mem_of_getElem? (i := 2) rfl) (by decide +kernel) ?_
        refine xr_iload (i := 6) (List.mem_of_getElem? (i := 7) rfl) (by decide +kernel) ?_
        refine xr_callV (av := [(sh_i (t : Int)), (sh_i (x6 : Int))]) rfl rfl rfl mo_Mod_steals ml_Mod_399 im_Mod_steals se_Mod_steals rfl (Nat.le_of_ble_eq_true rfl) (by decide +kernel) (sh_mono k ?_)
        rintro rv m3 ⟨r2, rfl, k⟩
        show sh_X g (d + 1) m_Mod_spreeOf _ _ [(sh_i r2)] _ _
        refine xr_popI (by decide +kernel) ?_
        refine xr_aload_n (n := 0) (i := 0) rfl (List.mem_of_getElem? (i := 1) rfl) (by decide +kernel) ?_
        refine xr_iload_n (n := 1) (i := 1) rfl (List.mem_of_getElem? (i := 2) rfl) (by decide +kernel) ?_
        refine xr_callV (av := [(sh_i (t : Int))]) rfl rfl rfl mo_Mod_spendsIt ml_Mod_408 im_Mod_spendsIt se_Mod_spendsIt rfl (Nat.le_of_ble_eq_true rfl) (by decide +kernel) (sh_mono k ?_)
        rintro rv m4 ⟨r3, rfl, k⟩
        show sh_X g (d + 1) m_Mod_spreeOf _ _ [(sh_i r3)] _ _
        refine xr_istore (i := 7) (by decide) rfl (by decide +kernel) ?_
        refine xr_sub (lo' := [(0, (sh_r 96)), (1, (sh_i (t : Int))), (2, (sh_i nights)), (3, (sh_i x3)), (4, (sh_i x4)), (5, (sh_i x5)), (6, (sh_i (x6 : Int))), (7, (sh_i r3))]) [1, 2, 3, 4, 5, 6, 7, 0] rfl ?_
        exact k
      · have k := k.2 c3
        refine xr_goto (off := 81) (tgt := 149) (by decide) (by decide +kernel) ?_
        refine xr_iinc (n := 1) (lo' := [(6, (sh_i (((x6 + 1) : Nat) : Int))), (7, (sh_i 0)), (0, (sh_r 96)), (1, (sh_i (t : Int))), (2, (sh_i nights)), (3, (sh_i x3)), (4, (sh_i x4)), (5, (sh_i x5))]) (List.mem_of_getElem? (i := 7) rfl) (by decide) rfl (by decide +kernel) ?_
        refine xr_goto (off := (-119)) (tgt := 33) (by decide) (by decide +kernel) ?_
        refine xr_sub (lo' := [(0, (sh_r 96)), (1, (sh_i (t : Int))), (2, (sh_i nights)), (3, (sh_i x3)), (4, (sh_i x4)), (5, (sh_i x5)), (6, (sh_i (((x6 + 1) : Nat) : Int)))]) [2, 3, 4, 5, 6, 7, 0] rfl ?_
        exact k
theorem v_Mod_spreeOf_86 {g : sh_G} {d : Nat} {t : Nat} {nights : Int}  {mem : sh_Mem} {Q : Option sh_V → sh_Mem → Prop}  {x3 : Int} {x4 : Int} {x5 : Int} {x6 : Nat} {x7 : Int} (k : (sh_Cal g d m_Mod_passes [(sh_r 96)] mem fun rv m1 => rv = none ∧ (sh_Cal g d m_Mod_spreeOf [(sh_r 96), (sh_i (t : Int)), (sh_i (nights - 1))] m1 fun rv m2 => ∃ r1 : Int, rv = some (sh_i r1) ∧ (sh_Cal g d m_Mod_copies [(sh_r 132), (sh_i x3), (sh_r 129), (sh_i 0)] m2 fun rv m3 => rv = none ∧ (((i3 x4) < (i3 (x7 + r1)) → ((¬ (i3 (x6 : Int)) = (i3 (m3 98 0)) → sh_X g (d + 1) m_Mod_spreeOf 33 [(0, (sh_r 96)), (1, (sh_i (t : Int))), (2, (sh_i nights)), (3, (sh_i x3)), (4, (sh_i (x7 + r1))), (5, (sh_i (x6 : Int))), (6, (sh_i (((x6 + 1) : Nat) : Int)))] [] m3 (sh_K m_Mod_spreeOf Q)) ∧ ((i3 (x6 : Int)) = (i3 (m3 98 0)) → sh_X g (d + 1) m_Mod_spreeOf 33 [(0, (sh_r 96)), (1, (sh_i (t : Int))), (2, (sh_i nights)), (3, (sh_i x3)), (4, (sh_i (x7 + r1))), (5, (sh_i (-1))), (6, (sh_i (((x6 + 1) : Nat) : Int)))] [] m3 (sh_K m_Mod_spreeOf Q)))) ∧ (¬ (i3 x4) < (i3 (x7 + r1)) → sh_X g (d + 1) m_Mod_spreeOf 33 [(0, (sh_r 96)), (1, (sh_i (t : Int))), (2, (sh_i nights)), (3, (sh_i x3)), (4, (sh_i x4)), (5, (sh_i x5)), (6, (sh_i (((x6 + 1) : Nat) : Int)))] [] m3 (sh_K m_Mod_spreeOf Q))))))) : sh_X g (d + 1) m_Mod_spreeOf 86 [(0, (sh_r 96)), (1, (sh_i (t : Int))), (2, (sh_i nights)), (3, (sh_i x3)), (4, (sh_i x4)), (5, (sh_i x5)), (6, (sh_i (x6 : Int))), (7, (sh_i x7))] [] mem (sh_K m_Mod_spreeOf Q) := by
  refine xr_aload_n (n := 0) (i := 0) rfl (List.mem_of_getElem? (i := 0) rfl) (by decide +kernel) ?_
  refine xr_callV (av := []) rfl rfl rfl mo_Mod_passes ml_Mod_414 im_Mod_passes se_Mod_passes rfl (Nat.le_of_ble_eq_true rfl) (by decide +kernel) (sh_mono k ?_)
  rintro rv m1 ⟨rfl, k⟩
  show sh_X g (d + 1) m_Mod_spreeOf _ _ [] _ _
  refine xr_iload (i := 7) (List.mem_of_getElem? (i := 7) rfl) (by decide +kernel) ?_
  refine xr_aload_n (n := 0) (i := 0) rfl (List.mem_of_getElem? (i := 0) rfl) (by decide +kernel) ?_
  refine xr_iload_n (n := 1) (i := 1) rfl (List.mem_of_getElem? (i := 1) rfl) (by decide +kernel) ?_
  refine xr_iload_n (n := 2) (i := 2) rfl (List.mem_of_getElem? (i := 2) rfl) (by decide +kernel) ?_
  refine xr_iconst (n := 1) (by decide +kernel) ?_
  refine xr_isub (by decide +kernel) ?_
  show sh_X g (d + 1) m_Mod_spreeOf _ _ ((sh_i (nights - 1)) :: _) _ _
  refine xr_callV (av := [(sh_i (t : Int)), (sh_i (nights - 1))]) rfl rfl rfl mo_Mod_spreeOf ml_Mod_458 im_Mod_spreeOf se_Mod_spreeOf rfl (Nat.le_of_ble_eq_true rfl) (by decide +kernel) (sh_mono k ?_)
  rintro rv m2 ⟨r1, rfl, k⟩
  show sh_X g (d + 1) m_Mod_spreeOf _ _ [(sh_i r1), (sh_i x7)] _ _
  refine xr_iadd (by decide +kernel) ?_
  show sh_X g (d + 1) m_Mod_spreeOf _ _ ((sh_i (x7 + r1)) :: _) _ _
  refine xr_istore (i := 7) (by decide) rfl (by decide +kernel) ?_
  refine xr_aload_n (n := 0) (i := 0) rfl (List.mem_of_getElem? (i := 1) rfl) (by decide +kernel) ?_
  refine xr_getR (o := 36) rfl fl_Mod_117 rfl (by decide +kernel) ?_
  show sh_X g (d + 1) m_Mod_spreeOf _ _ ((sh_r 132) :: _) _ _
  refine xr_iload_n (n := 3) (i := 3) rfl (List.mem_of_getElem? (i := 4) rfl) (by decide +kernel) ?_
  refine xr_aload_n (n := 0) (i := 0) rfl (List.mem_of_getElem? (i := 1) rfl) (by decide +kernel) ?_
  refine xr_getR (o := 33) rfl fl_Mod_108 rfl (by decide +kernel) ?_
  show sh_X g (d + 1) m_Mod_spreeOf _ _ ((sh_r 129) :: _) _ _
  refine xr_iconst (n := 0) (by decide +kernel) ?_
  refine xr_callS (av := [(sh_r 132), (sh_i x3), (sh_r 129), (sh_i 0)]) mo_Mod_copies ml_Mod_389 sa_Mod_copies rfl (Nat.le_of_ble_eq_true rfl) (by decide +kernel) (sh_mono k ?_)
  rintro rv m3 ⟨rfl, k⟩
  show sh_X g (d + 1) m_Mod_spreeOf _ _ [] _ _
  refine xr_iload (i := 7) (List.mem_of_getElem? (i := 0) rfl) (by decide +kernel) ?_
  refine xr_iload (i := 4) (List.mem_of_getElem? (i := 5) rfl) (by decide +kernel) ?_
  refine xr_icmp_gt (a' := (i3 (x7 + r1))) (b' := (i3 x4)) rfl rfl (off := 6) (tgt := 126) (by decide) (by decide +kernel) ⟨fun c1 => ?_, fun c1 => ?_⟩
  · have k := k.1 c1
    refine xr_iload (i := 7) (List.mem_of_getElem? (i := 0) rfl) (by decide +kernel) ?_
    refine xr_istore (i := 4) (by decide) rfl (by decide +kernel) ?_
    refine xr_iload (i := 6) (List.mem_of_getElem? (i := 7) rfl) (by decide +kernel) ?_
    refine xr_aload_n (n := 0) (i := 0) rfl (List.mem_of_getElem? (i := 2) rfl) (by decide +kernel) ?_
    refine xr_getR (o := 2) rfl fl_Mod_13 rfl (by decide +kernel) ?_
    show sh_X g (d + 1) m_Mod_spreeOf _ _ ((sh_r 98) :: _) _ _
    refine xr_iconst (n := 0) (by decide +kernel) ?_
    refine xr_ialdN (j := 0) rfl rfl (by decide) (by decide +kernel) ?_
    refine xr_icmp_ne (a' := (i3 (x6 : Int))) (b' := (i3 (m3 98 0))) rfl rfl (off := 7) (tgt := 145) (by decide) (by decide +kernel) ⟨fun c2 => ?_, fun c2 => ?_⟩
    · have k := k.1 c2
      refine xr_iload (i := 6) (List.mem_of_getElem? (i := 7) rfl) (by decide +kernel) ?_
      refine xr_istore (i := 5) (by decide) rfl (by decide +kernel) ?_
      refine xr_iinc (n := 1) (lo' := [(6, (sh_i (((x6 + 1) : Nat) : Int))), (5, (sh_i (x6 : Int))), (4, (sh_i (x7 + r1))), (7, (sh_i (x7 + r1))), (0, (sh_r 96)), (1, (sh_i (t : Int))), (2, (sh_i nights)), (3, (sh_i x3))]) (List.mem_of_getElem? (i := 7) rfl) (by decide) rfl (by decide +kernel) ?_
      refine xr_goto (off := (-119)) (tgt := 33) (by decide) (by decide +kernel) ?_
      refine xr_sub (lo' := [(0, (sh_r 96)), (1, (sh_i (t : Int))), (2, (sh_i nights)), (3, (sh_i x3)), (4, (sh_i (x7 + r1))), (5, (sh_i (x6 : Int))), (6, (sh_i (((x6 + 1) : Nat) : Int)))]) [4, 5, 6, 7, 2, 1, 0] rfl ?_
      exact k
    · have k := k.2 c2
      refine xr_iconst (n := (-1)) (by decide +kernel) ?_
      refine xr_goto (off := 5) (tgt := 147) (by decide) (by decide +kernel) ?_
      refine xr_istore (i := 5) (by decide) rfl (by decide +kernel) ?_
      refine xr_iinc (n := 1) (lo' := [(6, (sh_i (((x6 + 1) : Nat) : Int))), (5, (sh_i (-1))), (4, (sh_i (x7 + r1))), (7, (sh_i (x7 + r1))), (0, (sh_r 96)), (1, (sh_i (t : Int))), (2, (sh_i nights)), (3, (sh_i x3))]) (List.mem_of_getElem? (i := 7) rfl) (by decide) rfl (by decide +kernel) ?_
      refine xr_goto (off := (-119)) (tgt := 33) (by decide) (by decide +kernel) ?_
      refine xr_sub (lo' := [(0, (sh_r 96)), (1, (sh_i (t : Int))), (2, (sh_i nights)), (3, (sh_i x3)), (4, (sh_i (x7 + r1))), (5, (sh_i (-1))), (6, (sh_i (((x6 + 1) : Nat) : Int)))]) [4, 5, 6, 7, 2, 1, 0] rfl ?_
      exact k
  · have k := k.2 c1
    refine xr_goto (off := 26) (tgt := 149) (by decide) (by decide +kernel) ?_
    refine xr_iinc (n := 1) (lo' := [(6, (sh_i (((x6 + 1) : Nat) : Int))), (7, (sh_i (x7 + r1))), (0, (sh_r 96)), (1, (sh_i (t : Int))), (2, (sh_i nights)), (3, (sh_i x3)), (4, (sh_i x4)), (5, (sh_i x5))]) (List.mem_of_getElem? (i := 7) rfl) (by decide) rfl (by decide +kernel) ?_
    refine xr_goto (off := (-119)) (tgt := 33) (by decide) (by decide +kernel) ?_
    refine xr_sub (lo' := [(0, (sh_r 96)), (1, (sh_i (t : Int))), (2, (sh_i nights)), (3, (sh_i x3)), (4, (sh_i x4)), (5, (sh_i x5)), (6, (sh_i (((x6 + 1) : Nat) : Int)))]) [2, 3, 4, 5, 6, 7, 0] rfl ?_
    exact k

theorem v_Mod_spree {g : sh_G} {d : Nat} {thief : Int} {nights : Int} {what : Int}  {mem : sh_Mem} {Q : Option sh_V → sh_Mem → Prop}  (k : (∀ m1 : sh_Mem, m1 = ms mem 96 (ru (mem 96) 0 0) → (sh_Cal g d m_Mod_isThief [(sh_r 96), (sh_i thief)] m1 fun rv m2 => ∃ r1 : Int, rv = some (sh_i r1) ∧ (((i3 r1) = 0 → Q (some (sh_i (-2))) m2) ∧ (¬ (i3 r1) = 0 → (sh_Cal g d m_Mod_within [(sh_i nights), (sh_i 1), (sh_i 5)] m2 fun rv m3 => ∃ r2 : Int, rv = some (sh_i r2) ∧ (((i3 r2) = 0 → Q (some (sh_i (-2))) m3) ∧ (¬ (i3 r2) = 0 → (sh_Cal g d m_Mod_within [(sh_i what), (sh_i 0), (sh_i 1)] m3 fun rv m4 => ∃ r3 : Int, rv = some (sh_i r3) ∧ (((i3 r3) = 0 → Q (some (sh_i (-2))) m4) ∧ (¬ (i3 r3) = 0 → (sh_Cal g d m_Mod_couldSteal [(sh_r 96), (sh_i thief)] m4 fun rv m5 => ∃ r4 : Int, rv = some (sh_i r4) ∧ ((¬ (i3 r4) = 0 → (sh_Cal g d m_Mod_spreeOf [(sh_r 96), (sh_i thief), (sh_i nights)] m5 fun rv m6 => ∃ r5 : Int, rv = some (sh_i r5) ∧ ((¬ (i3 what) = 0 → Q (some (sh_i (m6 96 56))) m6) ∧ ((i3 what) = 0 → Q (some (sh_i r5)) m6)))) ∧ ((i3 r4) = 0 → Q (some (sh_i (-2))) m5)))))))))))))) : sh_Cal g (d + 1) m_Mod_spree [(sh_r 96), (sh_i thief), (sh_i nights), (sh_i what)] mem Q := by
  refine sh_met (by decide +kernel) (Nat.le_of_ble_eq_true rfl) (lo := [(0, (sh_r 96)), (1, (sh_i thief)), (2, (sh_i nights)), (3, (sh_i what))]) rfl ?_
  refine xr_aload_n (n := 0) (i := 0) rfl (List.mem_of_getElem? (i := 0) rfl) (by decide +kernel) ?_
  refine xr_iconst (n := 0) (by decide +kernel) ?_
  refine xr_putI rfl pl_Mod_141 rfl (by decide +kernel) ?_
  have k := k _ rfl
  generalize hg_m1 : ms mem 96 (ru (mem 96) 0 0) = m1 at k ⊢
  refine xr_aload_n (n := 0) (i := 0) rfl (List.mem_of_getElem? (i := 0) rfl) (by decide +kernel) ?_
  refine xr_iload_n (n := 1) (i := 1) rfl (List.mem_of_getElem? (i := 1) rfl) (by decide +kernel) ?_
  refine xr_callV (av := [(sh_i thief)]) rfl rfl rfl mo_Mod_isThief ml_Mod_386 im_Mod_isThief se_Mod_isThief rfl (Nat.le_of_ble_eq_true rfl) (by decide +kernel) (sh_mono k ?_)
  rintro rv m2 ⟨r1, rfl, k⟩
  show sh_X g (d + 1) m_Mod_spree _ _ [(sh_i r1)] _ _
  refine xr_if_eq (a' := (i3 r1)) rfl (off := 29) (tgt := 39) (by decide) (by decide +kernel) ⟨fun c1 => ?_, fun c1 => ?_⟩
  · have k := k.1 c1
    refine xr_bipush (n := (-2)) (v := (-2)) (by decide) (by decide +kernel) ?_
    exact xr_iret rfl (by decide +kernel) k
  · have k := k.2 c1
    refine xr_iload_n (n := 2) (i := 2) rfl (List.mem_of_getElem? (i := 2) rfl) (by decide +kernel) ?_
    refine xr_iconst (n := 1) (by decide +kernel) ?_
    refine xr_iconst (n := 5) (by decide +kernel) ?_
    refine xr_callS (av := [(sh_i nights), (sh_i 1), (sh_i 5)]) mo_Mod_within ml_Mod_264 sa_Mod_within rfl (Nat.le_of_ble_eq_true rfl) (by decide +kernel) (sh_mono k ?_)
    rintro rv m3 ⟨r2, rfl, k⟩
    show sh_X g (d + 1) m_Mod_spree _ _ [(sh_i r2)] _ _
    refine xr_if_eq (a' := (i3 r2)) rfl (off := 20) (tgt := 39) (by decide) (by decide +kernel) ⟨fun c2 => ?_, fun c2 => ?_⟩
    · have k := k.1 c2
      refine xr_bipush (n := (-2)) (v := (-2)) (by decide) (by decide +kernel) ?_
      exact xr_iret rfl (by decide +kernel) k
    · have k := k.2 c2
      refine xr_iload_n (n := 3) (i := 3) rfl (List.mem_of_getElem? (i := 3) rfl) (by decide +kernel) ?_
      refine xr_iconst (n := 0) (by decide +kernel) ?_
      refine xr_iconst (n := 1) (by decide +kernel) ?_
      refine xr_callS (av := [(sh_i what), (sh_i 0), (sh_i 1)]) mo_Mod_within ml_Mod_264 sa_Mod_within rfl (Nat.le_of_ble_eq_true rfl) (by decide +kernel) (sh_mono k ?_)
      rintro rv m4 ⟨r3, rfl, k⟩
      show sh_X g (d + 1) m_Mod_spree _ _ [(sh_i r3)] _ _
      refine xr_if_eq (a' := (i3 r3)) rfl (off := 11) (tgt := 39) (by decide) (by decide +kernel) ⟨fun c3 => ?_, fun c3 => ?_⟩
      · have k := k.1 c3
        refine xr_bipush (n := (-2)) (v := (-2)) (by decide) (by decide +kernel) ?_
        exact xr_iret rfl (by decide +kernel) k
      · have k := k.2 c3
        refine xr_aload_n (n := 0) (i := 0) rfl (List.mem_of_getElem? (i := 0) rfl) (by decide +kernel) ?_
        refine xr_iload_n (n := 1) (i := 1) rfl (List.mem_of_getElem? (i := 1) rfl) (by decide +kernel) ?_
        refine xr_callV (av := [(sh_i thief)]) rfl rfl rfl mo_Mod_couldSteal ml_Mod_393 im_Mod_couldSteal se_Mod_couldSteal rfl (Nat.le_of_ble_eq_true rfl) (by decide +kernel) (sh_mono k ?_)
        rintro rv m5 ⟨r4, rfl, k⟩
        show sh_X g (d + 1) m_Mod_spree _ _ [(sh_i r4)] _ _
        refine xr_if_ne (a' := (i3 r4)) rfl (off := 6) (tgt := 42) (by decide) (by decide +kernel) ⟨fun c4 => ?_, fun c4 => ?_⟩
        · have k := k.1 c4
          refine xr_aload_n (n := 0) (i := 0) rfl (List.mem_of_getElem? (i := 0) rfl) (by decide +kernel) ?_
          refine xr_iload_n (n := 1) (i := 1) rfl (List.mem_of_getElem? (i := 1) rfl) (by decide +kernel) ?_
          refine xr_iload_n (n := 2) (i := 2) rfl (List.mem_of_getElem? (i := 2) rfl) (by decide +kernel) ?_
          refine xr_callV (av := [(sh_i thief), (sh_i nights)]) rfl rfl rfl mo_Mod_spreeOf ml_Mod_458 im_Mod_spreeOf se_Mod_spreeOf rfl (Nat.le_of_ble_eq_true rfl) (by decide +kernel) (sh_mono k ?_)
          rintro rv m6 ⟨r5, rfl, k⟩
          show sh_X g (d + 1) m_Mod_spree _ _ [(sh_i r5)] _ _
          refine xr_istore (i := 4) (by decide) rfl (by decide +kernel) ?_
          refine xr_iload_n (n := 3) (i := 3) rfl (List.mem_of_getElem? (i := 4) rfl) (by decide +kernel) ?_
          refine xr_if_ne (a' := (i3 what)) rfl (off := 8) (tgt := 59) (by decide) (by decide +kernel) ⟨fun c5 => ?_, fun c5 => ?_⟩
          · have k := k.1 c5
            refine xr_aload_n (n := 0) (i := 0) rfl (List.mem_of_getElem? (i := 1) rfl) (by decide +kernel) ?_
            refine xr_getI rfl fl_Mod_461 (by decide) (by decide +kernel) ?_
            exact xr_iret rfl (by decide +kernel) k
          · have k := k.2 c5
            refine xr_iload (i := 4) (List.mem_of_getElem? (i := 0) rfl) (by decide +kernel) ?_
            refine xr_goto (off := 7) (tgt := 63) (by decide) (by decide +kernel) ?_
            exact xr_iret rfl (by decide +kernel) k
        · have k := k.2 c4
          refine xr_bipush (n := (-2)) (v := (-2)) (by decide) (by decide +kernel) ?_
          exact xr_iret rfl (by decide +kernel) k

theorem v_Mod_laysOpen {g : sh_G} {d : Nat}   {mem : sh_Mem} {Q : Option sh_V → sh_Mem → Prop}  (k : (sh_Cal g d m_Mod_copies [(sh_r 129), (sh_i 0), (sh_r 131), (sh_i 0)] mem fun rv m1 => rv = none ∧ sh_X g (d + 1) m_Mod_laysOpen 15 [(0, (sh_r 96)), (1, (sh_i 0))] [] m1 (sh_K m_Mod_laysOpen Q))) : sh_Cal g (d + 1) m_Mod_laysOpen [(sh_r 96)] mem Q := by
  refine sh_met (by decide +kernel) (Nat.le_of_ble_eq_true rfl) (lo := [(0, (sh_r 96))]) rfl ?_
  refine xr_aload_n (n := 0) (i := 0) rfl (List.mem_of_getElem? (i := 0) rfl) (by decide +kernel) ?_
  refine xr_getR (o := 33) rfl fl_Mod_108 rfl (by decide +kernel) ?_
  show sh_X g (d + 1) m_Mod_laysOpen _ _ ((sh_r 129) :: _) _ _
  refine xr_iconst (n := 0) (by decide +kernel) ?_
  refine xr_aload_n (n := 0) (i := 0) rfl (List.mem_of_getElem? (i := 0) rfl) (by decide +kernel) ?_
  refine xr_getR (o := 35) rfl fl_Mod_114 rfl (by decide +kernel) ?_
  show sh_X g (d + 1) m_Mod_laysOpen _ _ ((sh_r 131) :: _) _ _
  refine xr_iconst (n := 0) (by decide +kernel) ?_
  refine xr_callS (av := [(sh_r 129), (sh_i 0), (sh_r 131), (sh_i 0)]) mo_Mod_copies ml_Mod_389 sa_Mod_copies rfl (Nat.le_of_ble_eq_true rfl) (by decide +kernel) (sh_mono k ?_)
  rintro rv m1 ⟨rfl, k⟩
  show sh_X g (d + 1) m_Mod_laysOpen _ _ [] _ _
  refine xr_iconst (n := 0) (by decide +kernel) ?_
  refine xr_istore_n (n := 1) (i := 1) rfl (by decide) rfl (by decide +kernel) ?_
  refine xr_sub (lo' := [(0, (sh_r 96)), (1, (sh_i 0))]) [1, 0] rfl ?_
  exact k
theorem v_Mod_laysOpen_15 {g : sh_G} {d : Nat}   {mem : sh_Mem} {Q : Option sh_V → sh_Mem → Prop}  {x1 : Nat} (k : ((30 < (i3 (x1 : Int)) → (sh_Cal g d m_Mod_copies [(sh_r 131), (sh_i 0), (sh_r 129), (sh_i 0)] mem fun rv m1 => rv = none ∧ Q none m1)) ∧ (¬ 30 < (i3 (x1 : Int)) → sh_X g (d + 1) m_Mod_laysOpen 23 [(0, (sh_r 96)), (1, (sh_i (x1 : Int))), (2, (sh_i 0))] [] mem (sh_K m_Mod_laysOpen Q)))) : sh_X g (d + 1) m_Mod_laysOpen 15 [(0, (sh_r 96)), (1, (sh_i (x1 : Int)))] [] mem (sh_K m_Mod_laysOpen Q) := by
  refine xr_iload_n (n := 1) (i := 1) rfl (List.mem_of_getElem? (i := 1) rfl) (by decide +kernel) ?_
  refine xr_bipush (n := 30) (v := 30) (by decide) (by decide +kernel) ?_
  refine xr_icmp_gt (a' := (i3 (x1 : Int))) (b' := 30) rfl (by decide) (off := 93) (tgt := 111) (by decide) (by decide +kernel) ⟨fun c1 => ?_, fun c1 => ?_⟩
  · have k := k.1 c1
    refine xr_aload_n (n := 0) (i := 0) rfl (List.mem_of_getElem? (i := 0) rfl) (by decide +kernel) ?_
    refine xr_getR (o := 35) rfl fl_Mod_114 rfl (by decide +kernel) ?_
    show sh_X g (d + 1) m_Mod_laysOpen _ _ ((sh_r 131) :: _) _ _
    refine xr_iconst (n := 0) (by decide +kernel) ?_
    refine xr_aload_n (n := 0) (i := 0) rfl (List.mem_of_getElem? (i := 0) rfl) (by decide +kernel) ?_
    refine xr_getR (o := 33) rfl fl_Mod_108 rfl (by decide +kernel) ?_
    show sh_X g (d + 1) m_Mod_laysOpen _ _ ((sh_r 129) :: _) _ _
    refine xr_iconst (n := 0) (by decide +kernel) ?_
    refine xr_callS (av := [(sh_r 131), (sh_i 0), (sh_r 129), (sh_i 0)]) mo_Mod_copies ml_Mod_389 sa_Mod_copies rfl (Nat.le_of_ble_eq_true rfl) (by decide +kernel) (sh_mono k ?_)
    rintro rv m1 ⟨rfl, k⟩
    show sh_X g (d + 1) m_Mod_laysOpen _ _ [] _ _
    exact xr_ret rfl (by decide +kernel) k
  · have k := k.2 c1
    refine xr_iconst (n := 0) (by decide +kernel) ?_
    refine xr_istore_n (n := 2) (i := 2) rfl (by decide) rfl (by decide +kernel) ?_
    refine xr_sub (lo' := [(0, (sh_r 96)), (1, (sh_i (x1 : Int))), (2, (sh_i 0))]) [1, 2, 0] rfl ?_
    exact k
theorem v_Mod_laysOpen_23 {g : sh_G} {d : Nat}   {mem : sh_Mem} {Q : Option sh_V → sh_Mem → Prop}  {x1 : Nat} {x2 : Nat} (k : (((i3 (mem 98 1)) ≤ (i3 (x2 : Int)) → (sh_Cal g d m_Mod_passes [(sh_r 96)] mem fun rv m1 => rv = none ∧ sh_X g (d + 1) m_Mod_laysOpen 15 [(0, (sh_r 96)), (1, (sh_i (((x1 + 1) : Nat) : Int)))] [] m1 (sh_K m_Mod_laysOpen Q))) ∧ (¬ (i3 (mem 98 1)) ≤ (i3 (x2 : Int)) → sh_X g (d + 1) m_Mod_laysOpen 38 [(0, (sh_r 96)), (1, (sh_i (x1 : Int))), (2, (sh_i (x2 : Int))), (3, (sh_i 0)), (4, (sh_i 0))] [] mem (sh_K m_Mod_laysOpen Q)))) : sh_X g (d + 1) m_Mod_laysOpen 23 [(0, (sh_r 96)), (1, (sh_i (x1 : Int))), (2, (sh_i (x2 : Int)))] [] mem (sh_K m_Mod_laysOpen Q) := by
  refine xr_iload_n (n := 2) (i := 2) rfl (List.mem_of_getElem? (i := 2) rfl) (by decide +kernel) ?_
  refine xr_aload_n (n := 0) (i := 0) rfl (List.mem_of_getElem? (i := 0) rfl) (by decide +kernel) ?_
  refine xr_getR (o := 2) rfl fl_Mod_13 rfl (by decide +kernel) ?_
  show sh_X g (d + 1) m_Mod_laysOpen _ _ ((sh_r 98) :: _) _ _
  refine xr_iconst (n := 1) (by decide +kernel) ?_
  refine xr_ialdN (j := 1) rfl rfl (by decide) (by decide +kernel) ?_
  refine xr_icmp_ge (a' := (i3 (x2 : Int))) (b' := (i3 (mem 98 1))) rfl rfl (off := 71) (tgt := 101) (by decide) (by decide +kernel) ⟨fun c1 => ?_, fun c1 => ?_⟩
  · have k := k.1 c1
    refine xr_aload_n (n := 0) (i := 0) rfl (List.mem_of_getElem? (i := 0) rfl) (by decide +kernel) ?_
    refine xr_callV (av := []) rfl rfl rfl mo_Mod_passes ml_Mod_414 im_Mod_passes se_Mod_passes rfl (Nat.le_of_ble_eq_true rfl) (by decide +kernel) (sh_mono k ?_)
    rintro rv m1 ⟨rfl, k⟩
    show sh_X g (d + 1) m_Mod_laysOpen _ _ [] _ _
    refine xr_iinc (n := 1) (lo' := [(1, (sh_i (((x1 + 1) : Nat) : Int))), (0, (sh_r 96)), (2, (sh_i (x2 : Int)))]) (List.mem_of_getElem? (i := 1) rfl) (by decide) rfl (by decide +kernel) ?_
    refine xr_goto (off := (-93)) (tgt := 15) (by decide) (by decide +kernel) ?_
    refine xr_sub (lo' := [(0, (sh_r 96)), (1, (sh_i (((x1 + 1) : Nat) : Int)))]) [1, 0] rfl ?_
    exact k
  · have k := k.2 c1
    refine xr_iconst (n := 0) (by decide +kernel) ?_
    refine xr_istore_n (n := 3) (i := 3) rfl (by decide) rfl (by decide +kernel) ?_
    refine xr_iconst (n := 0) (by decide +kernel) ?_
    refine xr_istore (i := 4) (by decide) rfl (by decide +kernel) ?_
    refine xr_sub (lo' := [(0, (sh_r 96)), (1, (sh_i (x1 : Int))), (2, (sh_i (x2 : Int))), (3, (sh_i 0)), (4, (sh_i 0))]) [2, 3, 4, 1, 0] rfl ?_
    exact k
theorem v_Mod_laysOpen_38 {g : sh_G} {d : Nat}   {mem : sh_Mem} {Q : Option sh_V → sh_Mem → Prop}  {x1 : Nat} {x2 : Nat} {x3 : Int} {x4 : Nat} (k : (((i3 (mem 98 0)) ≤ (i3 (x4 : Int)) → (((4 * x1) + x2) < 124 ∧ (∀ m1 : sh_Mem, m1 = ms mem 138 (ru (mem 138) ((4 * x1) + x2) x3) → sh_X g (d + 1) m_Mod_laysOpen 23 [(0, (sh_r 96)), (1, (sh_i (x1 : Int))), (2, (sh_i (((x2 + 1) : Nat) : Int)))] [] m1 (sh_K m_Mod_laysOpen Q)))) ∧ (¬ (i3 (mem 98 0)) ≤ (i3 (x4 : Int)) → (sh_Cal g d m_Mod_isFree [(sh_r 96), (sh_i (x2 : Int))] mem fun rv m2 => ∃ r1 : Int, rv = some (sh_i r1) ∧ (((i3 r1) = 0 → sh_X g (d + 1) m_Mod_laysOpen 38 [(0, (sh_r 96)), (1, (sh_i (x1 : Int))), (2, (sh_i (x2 : Int))), (3, (sh_i (i_or x3 0))), (4, (sh_i (((x4 + 1) : Nat) : Int)))] [] m2 (sh_K m_Mod_laysOpen Q)) ∧ (¬ (i3 r1) = 0 → (sh_Cal g d m_Mod_isOpen [(sh_r 96), (sh_i (x2 : Int)), (sh_i (x4 : Int))] m2 fun rv m3 => ∃ r2 : Int, rv = some (sh_i r2) ∧ (((i3 r2) = 0 → sh_X g (d + 1) m_Mod_laysOpen 38 [(0, (sh_r 96)), (1, (sh_i (x1 : Int))), (2, (sh_i (x2 : Int))), (3, (sh_i (i_or x3 0))), (4, (sh_i (((x4 + 1) : Nat) : Int)))] [] m3 (sh_K m_Mod_laysOpen Q)) ∧ (¬ (i3 r2) = 0 → sh_X g (d + 1) m_Mod_laysOpen 38 [(0, (sh_r 96)), (1, (sh_i (x1 : Int))), (2, (sh_i (x2 : Int))), (3, (sh_i (i_or x3 (i_shl 1 (x4 : Int))))), (4, (sh_i (((x4 + 1) : Nat) : Int)))] [] m3 (sh_K m_Mod_laysOpen Q)))))))))) : sh_X g (d + 1) m_Mod_laysOpen 38 [(0, (sh_r 96)), (1, (sh_i (x1 : Int))), (2, (sh_i (x2 : Int))), (3, (sh_i x3)), (4, (sh_i (x4 : Int)))] [] mem (sh_K m_Mod_laysOpen Q) := by
  refine xr_iload (i := 4) (List.mem_of_getElem? (i := 4) rfl) (by decide +kernel) ?_
  refine xr_aload_n (n := 0) (i := 0) rfl (List.mem_of_getElem? (i := 0) rfl) (by decide +kernel) ?_
  refine xr_getR (o := 2) rfl fl_Mod_13 rfl (by decide +kernel) ?_
  show sh_X g (d + 1) m_Mod_laysOpen _ _ ((sh_r 98) :: _) _ _
  refine xr_iconst (n := 0) (by decide +kernel) ?_
  refine xr_ialdN (j := 0) rfl rfl (by decide) (by decide +kernel) ?_
  refine xr_icmp_ge (a' := (i3 (x4 : Int))) (b' := (i3 (mem 98 0))) rfl rfl (off := 38) (tgt := 84) (by decide) (by decide +kernel) ⟨fun c1 => ?_, fun c1 => ?_⟩
  · have k := k.1 c1
    refine xr_aload_n (n := 0) (i := 0) rfl (List.mem_of_getElem? (i := 0) rfl) (by decide +kernel) ?_
    refine xr_getR (o := 42) rfl fl_Mod_135 rfl (by decide +kernel) ?_
    show sh_X g (d + 1) m_Mod_laysOpen _ _ ((sh_r 138) :: _) _ _
    refine xr_iconst (n := 4) (by decide +kernel) ?_
    refine xr_iload_n (n := 1) (i := 1) rfl (List.mem_of_getElem? (i := 1) rfl) (by decide +kernel) ?_
    refine xr_imul (by decide +kernel) ?_
    show sh_X g (d + 1) m_Mod_laysOpen _ _ ((sh_i (((4 * x1) : Nat) : Int)) :: _) _ _
    refine xr_iload_n (n := 2) (i := 2) rfl (List.mem_of_getElem? (i := 2) rfl) (by decide +kernel) ?_
    refine xr_iadd (by decide +kernel) ?_
    show sh_X g (d + 1) m_Mod_laysOpen _ _ ((sh_i ((((4 * x1) + x2) : Nat) : Int)) :: _) _ _
    refine xr_iload_n (n := 3) (i := 3) rfl (List.mem_of_getElem? (i := 3) rfl) (by decide +kernel) ?_
    have o9 := True.intro
    obtain ⟨o, k⟩ := k
    refine xr_iastN (j := ((4 * x1) + x2)) rfl rfl o (by decide +kernel) ?_
    have k := k _ rfl
    generalize hg_m1 : ms mem 138 (ru (mem 138) ((4 * x1) + x2) x3) = m1 at k ⊢
    refine xr_iinc (n := 1) (lo' := [(2, (sh_i (((x2 + 1) : Nat) : Int))), (0, (sh_r 96)), (1, (sh_i (x1 : Int))), (3, (sh_i x3)), (4, (sh_i (x4 : Int)))]) (List.mem_of_getElem? (i := 2) rfl) (by decide) rfl (by decide +kernel) ?_
    refine xr_goto (off := (-75)) (tgt := 23) (by decide) (by decide +kernel) ?_
    refine xr_sub (lo' := [(0, (sh_r 96)), (1, (sh_i (x1 : Int))), (2, (sh_i (((x2 + 1) : Nat) : Int)))]) [1, 2, 0] rfl ?_
    exact k
  · have k := k.2 c1
    refine xr_iload_n (n := 3) (i := 3) rfl (List.mem_of_getElem? (i := 3) rfl) (by decide +kernel) ?_
    refine xr_aload_n (n := 0) (i := 0) rfl (List.mem_of_getElem? (i := 0) rfl) (by decide +kernel) ?_
    refine xr_iload_n (n := 2) (i := 2) rfl (List.mem_of_getElem? (i := 2) rfl) (by decide +kernel) ?_
    refine xr_callV (av := [(sh_i (x2 : Int))]) rfl rfl rfl mo_Mod_isFree ml_Mod_343 im_Mod_isFree se_Mod_isFree rfl (Nat.le_of_ble_eq_true rfl) (by decide +kernel) (sh_mono k ?_)
    rintro rv m2 ⟨r1, rfl, k⟩
    show sh_X g (d + 1) m_Mod_laysOpen _ _ [(sh_i r1), (sh_i x3)] _ _
    refine xr_if_eq (a' := (i3 r1)) rfl (off := 20) (tgt := 75) (by decide) (by decide +kernel) ⟨fun c2 => ?_, fun c2 => ?_⟩
    · have k := k.1 c2
      refine xr_iconst (n := 0) (by decide +kernel) ?_
      refine xr_ior (by decide +kernel) ?_
      refine xr_istore_n (n := 3) (i := 3) rfl (by decide) rfl (by decide +kernel) ?_
      refine xr_iinc (n := 1) (lo' := [(4, (sh_i (((x4 + 1) : Nat) : Int))), (3, (sh_i (i_or x3 0))), (0, (sh_r 96)), (1, (sh_i (x1 : Int))), (2, (sh_i (x2 : Int)))]) (List.mem_of_getElem? (i := 4) rfl) (by decide) rfl (by decide +kernel) ?_
      refine xr_goto (off := (-43)) (tgt := 38) (by decide) (by decide +kernel) ?_
      refine xr_sub (lo' := [(0, (sh_r 96)), (1, (sh_i (x1 : Int))), (2, (sh_i (x2 : Int))), (3, (sh_i (i_or x3 0))), (4, (sh_i (((x4 + 1) : Nat) : Int)))]) [2, 3, 4, 1, 0] rfl ?_
      exact k
    · have k := k.2 c2
      refine xr_aload_n (n := 0) (i := 0) rfl (List.mem_of_getElem? (i := 0) rfl) (by decide +kernel) ?_
      refine xr_iload_n (n := 2) (i := 2) rfl (List.mem_of_getElem? (i := 2) rfl) (by decide +kernel) ?_
      refine xr_iload (i := 4) (List.mem_of_getElem? (i := 4) rfl) (by decide +kernel) ?_
      refine xr_callV (av := [(sh_i (x2 : Int)), (sh_i (x4 : Int))]) rfl rfl rfl mo_Mod_isOpen ml_Mod_349 im_Mod_isOpen se_Mod_isOpen rfl (Nat.le_of_ble_eq_true rfl) (by decide +kernel) (sh_mono k ?_)
      rintro rv m3 ⟨r2, rfl, k⟩
      show sh_X g (d + 1) m_Mod_laysOpen _ _ [(sh_i r2), (sh_i x3)] _ _
      refine xr_if_eq (a' := (i3 r2)) rfl (off := 10) (tgt := 75) (by decide) (by decide +kernel) ⟨fun c3 => ?_, fun c3 => ?_⟩
      · have k := k.1 c3
        refine xr_iconst (n := 0) (by decide +kernel) ?_
        refine xr_ior (by decide +kernel) ?_
        refine xr_istore_n (n := 3) (i := 3) rfl (by decide) rfl (by decide +kernel) ?_
        refine xr_iinc (n := 1) (lo' := [(4, (sh_i (((x4 + 1) : Nat) : Int))), (3, (sh_i (i_or x3 0))), (0, (sh_r 96)), (1, (sh_i (x1 : Int))), (2, (sh_i (x2 : Int)))]) (List.mem_of_getElem? (i := 4) rfl) (by decide) rfl (by decide +kernel) ?_
        refine xr_goto (off := (-43)) (tgt := 38) (by decide) (by decide +kernel) ?_
        refine xr_sub (lo' := [(0, (sh_r 96)), (1, (sh_i (x1 : Int))), (2, (sh_i (x2 : Int))), (3, (sh_i (i_or x3 0))), (4, (sh_i (((x4 + 1) : Nat) : Int)))]) [2, 3, 4, 1, 0] rfl ?_
        exact k
      · have k := k.2 c3
        refine xr_iconst (n := 1) (by decide +kernel) ?_
        refine xr_iload (i := 4) (List.mem_of_getElem? (i := 4) rfl) (by decide +kernel) ?_
        refine xr_ishl (by decide +kernel) ?_
        refine xr_goto (off := 4) (tgt := 76) (by decide) (by decide +kernel) ?_
        refine xr_ior (by decide +kernel) ?_
        refine xr_istore_n (n := 3) (i := 3) rfl (by decide) rfl (by decide +kernel) ?_
        refine xr_iinc (n := 1) (lo' := [(4, (sh_i (((x4 + 1) : Nat) : Int))), (3, (sh_i (i_or x3 (i_shl 1 (x4 : Int))))), (0, (sh_r 96)), (1, (sh_i (x1 : Int))), (2, (sh_i (x2 : Int)))]) (List.mem_of_getElem? (i := 4) rfl) (by decide) rfl (by decide +kernel) ?_
        refine xr_goto (off := (-43)) (tgt := 38) (by decide) (by decide +kernel) ?_
        refine xr_sub (lo' := [(0, (sh_r 96)), (1, (sh_i (x1 : Int))), (2, (sh_i (x2 : Int))), (3, (sh_i (i_or x3 (i_shl 1 (x4 : Int))))), (4, (sh_i (((x4 + 1) : Nat) : Int)))]) [2, 3, 4, 1, 0] rfl ?_
        exact k

theorem v_Mod_see {g : sh_G} {d : Nat} {day : Int} {nights : Int} {opn : Int}  {mem : sh_Mem} {Q : Option sh_V → sh_Mem → Prop}  (k : (∀ m1 : sh_Mem, m1 = ms mem 96 (ru (mem 96) 0 0) → (sh_Cal g d m_Mod_isDay [(sh_r 96), (sh_i day)] m1 fun rv m2 => ∃ r1 : Int, rv = some (sh_i r1) ∧ (((i3 r1) = 0 → Q (some (sh_i 0)) m2) ∧ (¬ (i3 r1) = 0 → (sh_Cal g d m_Mod_within [(sh_i nights), (sh_i 0), (sh_i 30)] m2 fun rv m3 => ∃ r2 : Int, rv = some (sh_i r2) ∧ (((i3 r2) = 0 → Q (some (sh_i 0)) m3) ∧ (¬ (i3 r2) = 0 → ((¬ (i3 (m3 125 0)) = 8 → ((0 ≤ (m3 125 0) ∧ (m3 125 0) < 40) ∧ (∀ m4 : sh_Mem, m4 = ms m3 126 (ru (m3 126) ((m3 125 0)).toNat day) → ((0 ≤ (m4 125 0) ∧ (m4 125 0) < 40) ∧ (∀ m5 : sh_Mem, m5 = ms m4 127 (ru (m4 127) ((m4 125 0)).toNat nights) → ((opn = 0 ∨ opn = 1) ∧ ((0 ≤ (m5 125 0) ∧ (m5 125 0) < 40) ∧ (∀ m6 : sh_Mem, m6 = ms m5 128 (ru (m5 128) ((m5 125 0)).toNat opn) → (∀ m7 : sh_Mem, m7 = ms m6 125 (ru (m6 125) 0 ((m6 125 0) + 1)) → Q (some (sh_i 1)) m7))))))))) ∧ ((i3 (m3 125 0)) = 8 → Q (some (sh_i 0)) m3)))))))))) : sh_Cal g (d + 1) m_Mod_see [(sh_r 96), (sh_i day), (sh_i nights), (sh_i opn)] mem Q := by
  refine sh_met (by decide +kernel) (Nat.le_of_ble_eq_true rfl) (lo := [(0, (sh_r 96)), (1, (sh_i day)), (2, (sh_i nights)), (3, (sh_i opn))]) rfl ?_
  refine xr_aload_n (n := 0) (i := 0) rfl (List.mem_of_getElem? (i := 0) rfl) (by decide +kernel) ?_
  refine xr_iconst (n := 0) (by decide +kernel) ?_
  refine xr_putI rfl pl_Mod_141 rfl (by decide +kernel) ?_
  have k := k _ rfl
  generalize hg_m1 : ms mem 96 (ru (mem 96) 0 0) = m1 at k ⊢
  refine xr_aload_n (n := 0) (i := 0) rfl (List.mem_of_getElem? (i := 0) rfl) (by decide +kernel) ?_
  refine xr_iload_n (n := 1) (i := 1) rfl (List.mem_of_getElem? (i := 1) rfl) (by decide +kernel) ?_
  refine xr_callV (av := [(sh_i day)]) rfl rfl rfl mo_Mod_isDay ml_Mod_383 im_Mod_isDay se_Mod_isDay rfl (Nat.le_of_ble_eq_true rfl) (by decide +kernel) (sh_mono k ?_)
  rintro rv m2 ⟨r1, rfl, k⟩
  show sh_X g (d + 1) m_Mod_see _ _ [(sh_i r1)] _ _
  refine xr_if_eq (a' := (i3 r1)) rfl (off := 24) (tgt := 34) (by decide) (by decide +kernel) ⟨fun c1 => ?_, fun c1 => ?_⟩
  · have k := k.1 c1
    refine xr_iconst (n := 0) (by decide +kernel) ?_
    exact xr_zret rfl (by decide +kernel) (by decide) k
  · have k := k.2 c1
    refine xr_iload_n (n := 2) (i := 2) rfl (List.mem_of_getElem? (i := 2) rfl) (by decide +kernel) ?_
    refine xr_iconst (n := 0) (by decide +kernel) ?_
    refine xr_bipush (n := 30) (v := 30) (by decide) (by decide +kernel) ?_
    refine xr_callS (av := [(sh_i nights), (sh_i 0), (sh_i 30)]) mo_Mod_within ml_Mod_264 sa_Mod_within rfl (Nat.le_of_ble_eq_true rfl) (by decide +kernel) (sh_mono k ?_)
    rintro rv m3 ⟨r2, rfl, k⟩
    show sh_X g (d + 1) m_Mod_see _ _ [(sh_i r2)] _ _
    refine xr_if_eq (a' := (i3 r2)) rfl (off := 14) (tgt := 34) (by decide) (by decide +kernel) ⟨fun c2 => ?_, fun c2 => ?_⟩
    · have k := k.1 c2
      refine xr_iconst (n := 0) (by decide +kernel) ?_
      exact xr_zret rfl (by decide +kernel) (by decide) k
    · have k := k.2 c2
      refine xr_aload_n (n := 0) (i := 0) rfl (List.mem_of_getElem? (i := 0) rfl) (by decide +kernel) ?_
      refine xr_getR (o := 29) rfl fl_Mod_96 rfl (by decide +kernel) ?_
      show sh_X g (d + 1) m_Mod_see _ _ ((sh_r 125) :: _) _ _
      refine xr_iconst (n := 0) (by decide +kernel) ?_
      refine xr_ialdN (j := 0) rfl rfl (by decide) (by decide +kernel) ?_
      refine xr_bipush (n := 8) (v := 8) (by decide) (by decide +kernel) ?_
      refine xr_icmp_ne (a' := (i3 (m3 125 0))) (b' := 8) rfl (by decide) (off := 5) (tgt := 36) (by decide) (by decide +kernel) ⟨fun c3 => ?_, fun c3 => ?_⟩
      · have k := k.1 c3
        refine xr_aload_n (n := 0) (i := 0) rfl (List.mem_of_getElem? (i := 0) rfl) (by decide +kernel) ?_
        refine xr_getR (o := 30) rfl fl_Mod_99 rfl (by decide +kernel) ?_
        show sh_X g (d + 1) m_Mod_see _ _ ((sh_r 126) :: _) _ _
        refine xr_aload_n (n := 0) (i := 0) rfl (List.mem_of_getElem? (i := 0) rfl) (by decide +kernel) ?_
        refine xr_getR (o := 29) rfl fl_Mod_96 rfl (by decide +kernel) ?_
        show sh_X g (d + 1) m_Mod_see _ _ ((sh_r 125) :: _) _ _
        refine xr_iconst (n := 0) (by decide +kernel) ?_
        refine xr_ialdN (j := 0) rfl rfl (by decide) (by decide +kernel) ?_
        refine xr_iload_n (n := 1) (i := 1) rfl (List.mem_of_getElem? (i := 1) rfl) (by decide +kernel) ?_
        have o9 := True.intro
        obtain ⟨o, k⟩ := k
        refine xr_iast rfl o.1 o.2 (by decide +kernel) ?_
        have k := k _ rfl
        generalize hg_m4 : ms m3 126 (ru (m3 126) ((m3 125 0)).toNat day) = m4 at k ⊢
        refine xr_aload_n (n := 0) (i := 0) rfl (List.mem_of_getElem? (i := 0) rfl) (by decide +kernel) ?_
        refine xr_getR (o := 31) rfl fl_Mod_102 rfl (by decide +kernel) ?_
        show sh_X g (d + 1) m_Mod_see _ _ ((sh_r 127) :: _) _ _
        refine xr_aload_n (n := 0) (i := 0) rfl (List.mem_of_getElem? (i := 0) rfl) (by decide +kernel) ?_
        refine xr_getR (o := 29) rfl fl_Mod_96 rfl (by decide +kernel) ?_
        show sh_X g (d + 1) m_Mod_see _ _ ((sh_r 125) :: _) _ _
        refine xr_iconst (n := 0) (by decide +kernel) ?_
        refine xr_ialdN (j := 0) rfl rfl (by decide) (by decide +kernel) ?_
        refine xr_iload_n (n := 2) (i := 2) rfl (List.mem_of_getElem? (i := 2) rfl) (by decide +kernel) ?_
        have o9 := True.intro
        obtain ⟨o, k⟩ := k
        refine xr_iast rfl o.1 o.2 (by decide +kernel) ?_
        have k := k _ rfl
        generalize hg_m5 : ms m4 127 (ru (m4 127) ((m4 125 0)).toNat nights) = m5 at k ⊢
        refine xr_aload_n (n := 0) (i := 0) rfl (List.mem_of_getElem? (i := 0) rfl) (by decide +kernel) ?_
        refine xr_getR (o := 32) rfl fl_Mod_105 rfl (by decide +kernel) ?_
        show sh_X g (d + 1) m_Mod_see _ _ ((sh_r 128) :: _) _ _
        refine xr_aload_n (n := 0) (i := 0) rfl (List.mem_of_getElem? (i := 0) rfl) (by decide +kernel) ?_
        refine xr_getR (o := 29) rfl fl_Mod_96 rfl (by decide +kernel) ?_
        show sh_X g (d + 1) m_Mod_see _ _ ((sh_r 125) :: _) _ _
        refine xr_iconst (n := 0) (by decide +kernel) ?_
        refine xr_ialdN (j := 0) rfl rfl (by decide) (by decide +kernel) ?_
        refine xr_iload_n (n := 3) (i := 3) rfl (List.mem_of_getElem? (i := 3) rfl) (by decide +kernel) ?_
        obtain ⟨o, k⟩ := k
        have o9 := o
        obtain ⟨o, k⟩ := k
        refine xr_zast o9 rfl o.1 o.2 (by decide +kernel) ?_
        have k := k _ rfl
        generalize hg_m6 : ms m5 128 (ru (m5 128) ((m5 125 0)).toNat opn) = m6 at k ⊢
        refine xr_aload_n (n := 0) (i := 0) rfl (List.mem_of_getElem? (i := 0) rfl) (by decide +kernel) ?_
        refine xr_getR (o := 29) rfl fl_Mod_96 rfl (by decide +kernel) ?_
        show sh_X g (d + 1) m_Mod_see _ _ ((sh_r 125) :: _) _ _
        refine xr_iconst (n := 0) (by decide +kernel) ?_
        refine xr_dup2 (by decide +kernel) ?_
        refine xr_ialdN (j := 0) rfl rfl (by decide) (by decide +kernel) ?_
        refine xr_iconst (n := 1) (by decide +kernel) ?_
        refine xr_iadd (by decide +kernel) ?_
        show sh_X g (d + 1) m_Mod_see _ _ ((sh_i ((m6 125 0) + 1)) :: _) _ _
        have o9 := True.intro
        refine xr_iastN (j := 0) rfl rfl (by decide) (by decide +kernel) ?_
        have k := k _ rfl
        generalize hg_m7 : ms m6 125 (ru (m6 125) 0 ((m6 125 0) + 1)) = m7 at k ⊢
        refine xr_iconst (n := 1) (by decide +kernel) ?_
        exact xr_zret rfl (by decide +kernel) (by decide) k
      · have k := k.2 c3
        refine xr_iconst (n := 0) (by decide +kernel) ?_
        exact xr_zret rfl (by decide +kernel) (by decide) k

theorem v_Mod_isAsSeen {g : sh_G} {d : Nat} {t : Nat}  {mem : sh_Mem} {Q : Option sh_V → sh_Mem → Prop}  (k : sh_X g d m_Mod_isAsSeen 2 [(0, (sh_r 96)), (1, (sh_i (t : Int))), (2, (sh_i 0))] [] mem (sh_K m_Mod_isAsSeen Q)) : sh_Cal g d m_Mod_isAsSeen [(sh_r 96), (sh_i (t : Int))] mem Q := by
  refine sh_met (by decide +kernel) (Nat.le_of_ble_eq_true rfl) (lo := [(0, (sh_r 96)), (1, (sh_i (t : Int)))]) rfl ?_
  refine xr_iconst (n := 0) (by decide +kernel) ?_
  refine xr_istore_n (n := 2) (i := 2) rfl (by decide) rfl (by decide +kernel) ?_
  refine xr_sub (lo' := [(0, (sh_r 96)), (1, (sh_i (t : Int))), (2, (sh_i 0))]) [1, 2, 0] rfl ?_
  exact k
theorem v_Mod_isAsSeen_2 {g : sh_G} {d : Nat} {t : Nat}  {mem : sh_Mem} {Q : Option sh_V → sh_Mem → Prop}  {x2 : Nat} (k : (((i3 (mem 125 0)) ≤ (i3 (x2 : Int)) → Q (some (sh_i 1)) mem) ∧ (¬ (i3 (mem 125 0)) ≤ (i3 (x2 : Int)) → (x2 < 40 ∧ ((0 ≤ ((4 * (mem 127 x2)) + (t : Int)) ∧ ((4 * (mem 127 x2)) + (t : Int)) < 124) ∧ (x2 < 40 ∧ ((¬ (i_and (i_shr (mem 138 (((4 * (mem 127 x2)) + (t : Int))).toNat) (mem 126 x2)) 1) = 1 → (x2 < 40 ∧ ((0 = (i3 (mem 128 x2)) → sh_X g d m_Mod_isAsSeen 2 [(0, (sh_r 96)), (1, (sh_i (t : Int))), (2, (sh_i (((x2 + 1) : Nat) : Int)))] [] mem (sh_K m_Mod_isAsSeen Q)) ∧ (¬ 0 = (i3 (mem 128 x2)) → Q (some (sh_i 0)) mem)))) ∧ ((i_and (i_shr (mem 138 (((4 * (mem 127 x2)) + (t : Int))).toNat) (mem 126 x2)) 1) = 1 → (x2 < 40 ∧ ((1 = (i3 (mem 128 x2)) → sh_X g d m_Mod_isAsSeen 2 [(0, (sh_r 96)), (1, (sh_i (t : Int))), (2, (sh_i (((x2 + 1) : Nat) : Int)))] [] mem (sh_K m_Mod_isAsSeen Q)) ∧ (¬ 1 = (i3 (mem 128 x2)) → Q (some (sh_i 0)) mem))))))))))) : sh_X g d m_Mod_isAsSeen 2 [(0, (sh_r 96)), (1, (sh_i (t : Int))), (2, (sh_i (x2 : Int)))] [] mem (sh_K m_Mod_isAsSeen Q) := by
  refine xr_iload_n (n := 2) (i := 2) rfl (List.mem_of_getElem? (i := 2) rfl) (by decide +kernel) ?_
  refine xr_aload_n (n := 0) (i := 0) rfl (List.mem_of_getElem? (i := 0) rfl) (by decide +kernel) ?_
  refine xr_getR (o := 29) rfl fl_Mod_96 rfl (by decide +kernel) ?_
  show sh_X g d m_Mod_isAsSeen _ _ ((sh_r 125) :: _) _ _
  refine xr_iconst (n := 0) (by decide +kernel) ?_
  refine xr_ialdN (j := 0) rfl rfl (by decide) (by decide +kernel) ?_
  refine xr_icmp_ge (a' := (i3 (x2 : Int))) (b' := (i3 (mem 125 0))) rfl rfl (off := 53) (tgt := 62) (by decide) (by decide +kernel) ⟨fun c1 => ?_, fun c1 => ?_⟩
  · have k := k.1 c1
    refine xr_iconst (n := 1) (by decide +kernel) ?_
    exact xr_zret rfl (by decide +kernel) (by decide) k
  · have k := k.2 c1
    refine xr_aload_n (n := 0) (i := 0) rfl (List.mem_of_getElem? (i := 0) rfl) (by decide +kernel) ?_
    refine xr_getR (o := 42) rfl fl_Mod_135 rfl (by decide +kernel) ?_
    show sh_X g d m_Mod_isAsSeen _ _ ((sh_r 138) :: _) _ _
    refine xr_iconst (n := 4) (by decide +kernel) ?_
    refine xr_aload_n (n := 0) (i := 0) rfl (List.mem_of_getElem? (i := 0) rfl) (by decide +kernel) ?_
    refine xr_getR (o := 31) rfl fl_Mod_102 rfl (by decide +kernel) ?_
    show sh_X g d m_Mod_isAsSeen _ _ ((sh_r 127) :: _) _ _
    refine xr_iload_n (n := 2) (i := 2) rfl (List.mem_of_getElem? (i := 2) rfl) (by decide +kernel) ?_
    obtain ⟨o, k⟩ := k
    refine xr_ialdN (j := x2) rfl rfl o (by decide +kernel) ?_
    refine xr_imul (by decide +kernel) ?_
    show sh_X g d m_Mod_isAsSeen _ _ ((sh_i (4 * (mem 127 x2))) :: _) _ _
    refine xr_iload_n (n := 1) (i := 1) rfl (List.mem_of_getElem? (i := 1) rfl) (by decide +kernel) ?_
    refine xr_iadd (by decide +kernel) ?_
    show sh_X g d m_Mod_isAsSeen _ _ ((sh_i ((4 * (mem 127 x2)) + (t : Int))) :: _) _ _
    obtain ⟨o, k⟩ := k
    refine xr_iald rfl o.1 o.2 (by decide +kernel) ?_
    refine xr_aload_n (n := 0) (i := 0) rfl (List.mem_of_getElem? (i := 0) rfl) (by decide +kernel) ?_
    refine xr_getR (o := 30) rfl fl_Mod_99 rfl (by decide +kernel) ?_
    show sh_X g d m_Mod_isAsSeen _ _ ((sh_r 126) :: _) _ _
    refine xr_iload_n (n := 2) (i := 2) rfl (List.mem_of_getElem? (i := 2) rfl) (by decide +kernel) ?_
    obtain ⟨o, k⟩ := k
    refine xr_ialdN (j := x2) rfl rfl o (by decide +kernel) ?_
    refine xr_ishr (by decide +kernel) ?_
    refine xr_iconst (n := 1) (by decide +kernel) ?_
    refine xr_iand (by decide +kernel) ?_
    refine xr_iconst (n := 1) (by decide +kernel) ?_
    refine xr_icmp_ne (a' := (i_and (i_shr (mem 138 (((4 * (mem 127 x2)) + (t : Int))).toNat) (mem 126 x2)) 1)) (b' := 1) (i3_nrm _) (by decide) (off := 7) (tgt := 44) (by decide) (by decide +kernel) ⟨fun c2 => ?_, fun c2 => ?_⟩
    · have k := k.1 c2
      refine xr_iconst (n := 0) (by decide +kernel) ?_
      refine xr_aload_n (n := 0) (i := 0) rfl (List.mem_of_getElem? (i := 0) rfl) (by decide +kernel) ?_
      refine xr_getR (o := 32) rfl fl_Mod_105 rfl (by decide +kernel) ?_
      show sh_X g d m_Mod_isAsSeen _ _ ((sh_r 128) :: _) _ _
      refine xr_iload_n (n := 2) (i := 2) rfl (List.mem_of_getElem? (i := 2) rfl) (by decide +kernel) ?_
      obtain ⟨o, k⟩ := k
      refine xr_zaldN (j := x2) rfl rfl o (by decide +kernel) ?_
      refine xr_icmp_eq (a' := 0) (b' := (i3 (mem 128 x2))) (by decide) rfl (off := 5) (tgt := 56) (by decide) (by decide +kernel) ⟨fun c3 => ?_, fun c3 => ?_⟩
      · have k := k.1 c3
        refine xr_iinc (n := 1) (lo' := [(2, (sh_i (((x2 + 1) : Nat) : Int))), (0, (sh_r 96)), (1, (sh_i (t : Int)))]) (List.mem_of_getElem? (i := 2) rfl) (by decide) rfl (by decide +kernel) ?_
        refine xr_goto (off := (-57)) (tgt := 2) (by decide) (by decide +kernel) ?_
        refine xr_sub (lo' := [(0, (sh_r 96)), (1, (sh_i (t : Int))), (2, (sh_i (((x2 + 1) : Nat) : Int)))]) [1, 2, 0] rfl ?_
        exact k
      · have k := k.2 c3
        refine xr_iconst (n := 0) (by decide +kernel) ?_
        exact xr_zret rfl (by decide +kernel) (by decide) k
    · have k := k.2 c2
      refine xr_iconst (n := 1) (by decide +kernel) ?_
      refine xr_goto (off := 4) (tgt := 45) (by decide) (by decide +kernel) ?_
      refine xr_aload_n (n := 0) (i := 0) rfl (List.mem_of_getElem? (i := 0) rfl) (by decide +kernel) ?_
      refine xr_getR (o := 32) rfl fl_Mod_105 rfl (by decide +kernel) ?_
      show sh_X g d m_Mod_isAsSeen _ _ ((sh_r 128) :: _) _ _
      refine xr_iload_n (n := 2) (i := 2) rfl (List.mem_of_getElem? (i := 2) rfl) (by decide +kernel) ?_
      obtain ⟨o, k⟩ := k
      refine xr_zaldN (j := x2) rfl rfl o (by decide +kernel) ?_
      refine xr_icmp_eq (a' := 1) (b' := (i3 (mem 128 x2))) (by decide) rfl (off := 5) (tgt := 56) (by decide) (by decide +kernel) ⟨fun c4 => ?_, fun c4 => ?_⟩
      · have k := k.1 c4
        refine xr_iinc (n := 1) (lo' := [(2, (sh_i (((x2 + 1) : Nat) : Int))), (0, (sh_r 96)), (1, (sh_i (t : Int)))]) (List.mem_of_getElem? (i := 2) rfl) (by decide) rfl (by decide +kernel) ?_
        refine xr_goto (off := (-57)) (tgt := 2) (by decide) (by decide +kernel) ?_
        refine xr_sub (lo' := [(0, (sh_r 96)), (1, (sh_i (t : Int))), (2, (sh_i (((x2 + 1) : Nat) : Int)))]) [1, 2, 0] rfl ?_
        exact k
      · have k := k.2 c4
        refine xr_iconst (n := 0) (by decide +kernel) ?_
        exact xr_zret rfl (by decide +kernel) (by decide) k

theorem v_Mod_who {g : sh_G} {d : Nat}   {mem : sh_Mem} {Q : Option sh_V → sh_Mem → Prop}  (k : (∀ m1 : sh_Mem, m1 = ms mem 96 (ru (mem 96) 0 0) → (sh_Cal g d m_Mod_laysOpen [(sh_r 96)] m1 fun rv m2 => rv = none ∧ sh_X g (d + 1) m_Mod_who 13 [(0, (sh_r 96)), (1, (sh_i 0)), (2, (sh_i 0))] [] m2 (sh_K m_Mod_who Q)))) : sh_Cal g (d + 1) m_Mod_who [(sh_r 96)] mem Q := by
  refine sh_met (by decide +kernel) (Nat.le_of_ble_eq_true rfl) (lo := [(0, (sh_r 96))]) rfl ?_
  refine xr_aload_n (n := 0) (i := 0) rfl (List.mem_of_getElem? (i := 0) rfl) (by decide +kernel) ?_
  refine xr_iconst (n := 0) (by decide +kernel) ?_
  refine xr_putI rfl pl_Mod_141 rfl (by decide +kernel) ?_
  have k := k _ rfl
  generalize hg_m1 : ms mem 96 (ru (mem 96) 0 0) = m1 at k ⊢
  refine xr_aload_n (n := 0) (i := 0) rfl (List.mem_of_getElem? (i := 0) rfl) (by decide +kernel) ?_
  refine xr_callV (av := []) rfl rfl rfl mo_Mod_laysOpen ml_Mod_464 im_Mod_laysOpen se_Mod_laysOpen rfl (Nat.le_of_ble_eq_true rfl) (by decide +kernel) (sh_mono k ?_)
  rintro rv m2 ⟨rfl, k⟩
  show sh_X g (d + 1) m_Mod_who _ _ [] _ _
  refine xr_iconst (n := 0) (by decide +kernel) ?_
  refine xr_istore_n (n := 1) (i := 1) rfl (by decide) rfl (by decide +kernel) ?_
  refine xr_iconst (n := 0) (by decide +kernel) ?_
  refine xr_istore_n (n := 2) (i := 2) rfl (by decide) rfl (by decide +kernel) ?_
  refine xr_sub (lo' := [(0, (sh_r 96)), (1, (sh_i 0)), (2, (sh_i 0))]) [2, 1, 0] rfl ?_
  exact k
theorem v_Mod_who_13 {g : sh_G} {d : Nat}   {mem : sh_Mem} {Q : Option sh_V → sh_Mem → Prop}  {x1 : Int} {x2 : Nat} (k : (((i3 (mem 98 1)) ≤ (i3 (x2 : Int)) → Q (some (sh_i x1)) mem) ∧ (¬ (i3 (mem 98 1)) ≤ (i3 (x2 : Int)) → (sh_Cal g d m_Mod_isAsSeen [(sh_r 96), (sh_i (x2 : Int))] mem fun rv m1 => ∃ r1 : Int, rv = some (sh_i r1) ∧ (((i3 r1) = 0 → sh_X g (d + 1) m_Mod_who 13 [(0, (sh_r 96)), (1, (sh_i (i_or x1 0))), (2, (sh_i (((x2 + 1) : Nat) : Int)))] [] m1 (sh_K m_Mod_who Q)) ∧ (¬ (i3 r1) = 0 → sh_X g (d + 1) m_Mod_who 13 [(0, (sh_r 96)), (1, (sh_i (i_or x1 (i_shl 1 (x2 : Int))))), (2, (sh_i (((x2 + 1) : Nat) : Int)))] [] m1 (sh_K m_Mod_who Q))))))) : sh_X g (d + 1) m_Mod_who 13 [(0, (sh_r 96)), (1, (sh_i x1)), (2, (sh_i (x2 : Int)))] [] mem (sh_K m_Mod_who Q) := by
  refine xr_iload_n (n := 2) (i := 2) rfl (List.mem_of_getElem? (i := 2) rfl) (by decide +kernel) ?_
  refine xr_aload_n (n := 0) (i := 0) rfl (List.mem_of_getElem? (i := 0) rfl) (by decide +kernel) ?_
  refine xr_getR (o := 2) rfl fl_Mod_13 rfl (by decide +kernel) ?_
  show sh_X g (d + 1) m_Mod_who _ _ ((sh_r 98) :: _) _ _
  refine xr_iconst (n := 1) (by decide +kernel) ?_
  refine xr_ialdN (j := 1) rfl rfl (by decide) (by decide +kernel) ?_
  refine xr_icmp_ge (a' := (i3 (x2 : Int))) (b' := (i3 (mem 98 1))) rfl rfl (off := 27) (tgt := 47) (by decide) (by decide +kernel) ⟨fun c1 => ?_, fun c1 => ?_⟩
  · have k := k.1 c1
    refine xr_iload_n (n := 1) (i := 1) rfl (List.mem_of_getElem? (i := 1) rfl) (by decide +kernel) ?_
    exact xr_iret rfl (by decide +kernel) k
  · have k := k.2 c1
    refine xr_iload_n (n := 1) (i := 1) rfl (List.mem_of_getElem? (i := 1) rfl) (by decide +kernel) ?_
    refine xr_aload_n (n := 0) (i := 0) rfl (List.mem_of_getElem? (i := 0) rfl) (by decide +kernel) ?_
    refine xr_iload_n (n := 2) (i := 2) rfl (List.mem_of_getElem? (i := 2) rfl) (by decide +kernel) ?_
    refine xr_callV (av := [(sh_i (x2 : Int))]) rfl rfl rfl mo_Mod_isAsSeen ml_Mod_467 im_Mod_isAsSeen se_Mod_isAsSeen rfl (Nat.le_of_ble_eq_true rfl) (by decide +kernel) (sh_mono k ?_)
    rintro rv m1 ⟨r1, rfl, k⟩
    show sh_X g (d + 1) m_Mod_who _ _ [(sh_i r1), (sh_i x1)] _ _
    refine xr_if_eq (a' := (i3 r1)) rfl (off := 9) (tgt := 38) (by decide) (by decide +kernel) ⟨fun c2 => ?_, fun c2 => ?_⟩
    · have k := k.1 c2
      refine xr_iconst (n := 0) (by decide +kernel) ?_
      refine xr_ior (by decide +kernel) ?_
      refine xr_istore_n (n := 1) (i := 1) rfl (by decide) rfl (by decide +kernel) ?_
      refine xr_iinc (n := 1) (lo' := [(2, (sh_i (((x2 + 1) : Nat) : Int))), (1, (sh_i (i_or x1 0))), (0, (sh_r 96))]) (List.mem_of_getElem? (i := 2) rfl) (by decide) rfl (by decide +kernel) ?_
      refine xr_goto (off := (-31)) (tgt := 13) (by decide) (by decide +kernel) ?_
      refine xr_sub (lo' := [(0, (sh_r 96)), (1, (sh_i (i_or x1 0))), (2, (sh_i (((x2 + 1) : Nat) : Int)))]) [2, 1, 0] rfl ?_
      exact k
    · have k := k.2 c2
      refine xr_iconst (n := 1) (by decide +kernel) ?_
      refine xr_iload_n (n := 2) (i := 2) rfl (List.mem_of_getElem? (i := 2) rfl) (by decide +kernel) ?_
      refine xr_ishl (by decide +kernel) ?_
      refine xr_goto (off := 4) (tgt := 39) (by decide) (by decide +kernel) ?_
      refine xr_ior (by decide +kernel) ?_
      refine xr_istore_n (n := 1) (i := 1) rfl (by decide) rfl (by decide +kernel) ?_
      refine xr_iinc (n := 1) (lo' := [(2, (sh_i (((x2 + 1) : Nat) : Int))), (1, (sh_i (i_or x1 (i_shl 1 (x2 : Int))))), (0, (sh_r 96))]) (List.mem_of_getElem? (i := 2) rfl) (by decide) rfl (by decide +kernel) ?_
      refine xr_goto (off := (-31)) (tgt := 13) (by decide) (by decide +kernel) ?_
      refine xr_sub (lo' := [(0, (sh_r 96)), (1, (sh_i (i_or x1 (i_shl 1 (x2 : Int))))), (2, (sh_i (((x2 + 1) : Nat) : Int)))]) [2, 1, 0] rfl ?_
      exact k

theorem v_Mod_ask {g : sh_G} {d : Nat}   {mem : sh_Mem} {Q : Option sh_V → sh_Mem → Prop}  (k : (∀ m1 : sh_Mem, m1 = ms mem 96 (ru (mem 96) 0 0) → (sh_Cal g d m_Mod_who [(sh_r 96)] m1 fun rv m2 => ∃ r1 : Int, rv = some (sh_i r1) ∧ (sh_Cal g d m_Mod_bits [(sh_i r1)] m2 fun rv m3 => ∃ r2 : Int, rv = some (sh_i r2) ∧ sh_X g (d + 1) m_Mod_ask 23 [(0, (sh_r 96)), (1, (sh_i r1)), (2, (sh_i r2)), (3, (sh_i r2)), (4, (sh_i (-1))), (5, (sh_i 0))] [] m3 (sh_K m_Mod_ask Q))))) : sh_Cal g (d + 1) m_Mod_ask [(sh_r 96)] mem Q := by
  refine sh_met (by decide +kernel) (Nat.le_of_ble_eq_true rfl) (lo := [(0, (sh_r 96))]) rfl ?_
  refine xr_aload_n (n := 0) (i := 0) rfl (List.mem_of_getElem? (i := 0) rfl) (by decide +kernel) ?_
  refine xr_iconst (n := 0) (by decide +kernel) ?_
  refine xr_putI rfl pl_Mod_141 rfl (by decide +kernel) ?_
  have k := k _ rfl
  generalize hg_m1 : ms mem 96 (ru (mem 96) 0 0) = m1 at k ⊢
  refine xr_aload_n (n := 0) (i := 0) rfl (List.mem_of_getElem? (i := 0) rfl) (by decide +kernel) ?_
  refine xr_callV (av := []) rfl rfl rfl mo_Mod_who ml_Mod_470 im_Mod_who se_Mod_who rfl (Nat.le_of_ble_eq_true rfl) (by decide +kernel) (sh_mono k ?_)
  rintro rv m2 ⟨r1, rfl, k⟩
  show sh_X g (d + 1) m_Mod_ask _ _ [(sh_i r1)] _ _
  refine xr_istore_n (n := 1) (i := 1) rfl (by decide) rfl (by decide +kernel) ?_
  refine xr_iload_n (n := 1) (i := 1) rfl (List.mem_of_getElem? (i := 0) rfl) (by decide +kernel) ?_
  refine xr_callS (av := [(sh_i r1)]) mo_Mod_bits ml_Mod_473 sa_Mod_bits rfl (Nat.le_of_ble_eq_true rfl) (by decide +kernel) (sh_mono k ?_)
  rintro rv m3 ⟨r2, rfl, k⟩
  show sh_X g (d + 1) m_Mod_ask _ _ [(sh_i r2)] _ _
  refine xr_istore_n (n := 2) (i := 2) rfl (by decide) rfl (by decide +kernel) ?_
  refine xr_iload_n (n := 2) (i := 2) rfl (List.mem_of_getElem? (i := 0) rfl) (by decide +kernel) ?_
  refine xr_istore_n (n := 3) (i := 3) rfl (by decide) rfl (by decide +kernel) ?_
  refine xr_iconst (n := (-1)) (by decide +kernel) ?_
  refine xr_istore (i := 4) (by decide) rfl (by decide +kernel) ?_
  refine xr_iconst (n := 0) (by decide +kernel) ?_
  refine xr_istore (i := 5) (by decide) rfl (by decide +kernel) ?_
  refine xr_sub (lo' := [(0, (sh_r 96)), (1, (sh_i r1)), (2, (sh_i r2)), (3, (sh_i r2)), (4, (sh_i (-1))), (5, (sh_i 0))]) [5, 4, 3, 2, 1, 0] rfl ?_
  exact k
theorem v_Mod_ask_23 {g : sh_G} {d : Nat}   {mem : sh_Mem} {Q : Option sh_V → sh_Mem → Prop}  {x1 : Int} {x2 : Int} {x3 : Int} {x4 : Int} {x5 : Nat} (k : ((30 < (i3 (x5 : Int)) → Q (some (sh_i x4)) mem) ∧ (¬ 30 < (i3 (x5 : Int)) → sh_X g (d + 1) m_Mod_ask 33 [(0, (sh_r 96)), (1, (sh_i x1)), (2, (sh_i x2)), (3, (sh_i x3)), (4, (sh_i x4)), (5, (sh_i (x5 : Int))), (6, (sh_i 0))] [] mem (sh_K m_Mod_ask Q)))) : sh_X g (d + 1) m_Mod_ask 23 [(0, (sh_r 96)), (1, (sh_i x1)), (2, (sh_i x2)), (3, (sh_i x3)), (4, (sh_i x4)), (5, (sh_i (x5 : Int)))] [] mem (sh_K m_Mod_ask Q) := by
  refine xr_iload (i := 5) (List.mem_of_getElem? (i := 5) rfl) (by decide +kernel) ?_
  refine xr_bipush (n := 30) (v := 30) (by decide) (by decide +kernel) ?_
  refine xr_icmp_gt (a' := (i3 (x5 : Int))) (b' := 30) rfl (by decide) (off := 126) (tgt := 153) (by decide) (by decide +kernel) ⟨fun c1 => ?_, fun c1 => ?_⟩
  · have k := k.1 c1
    refine xr_iload (i := 4) (List.mem_of_getElem? (i := 4) rfl) (by decide +kernel) ?_
    exact xr_iret rfl (by decide +kernel) k
  · have k := k.2 c1
    refine xr_iconst (n := 0) (by decide +kernel) ?_
    refine xr_istore (i := 6) (by decide) rfl (by decide +kernel) ?_
    refine xr_sub (lo' := [(0, (sh_r 96)), (1, (sh_i x1)), (2, (sh_i x2)), (3, (sh_i x3)), (4, (sh_i x4)), (5, (sh_i (x5 : Int))), (6, (sh_i 0))]) [1, 2, 3, 4, 5, 6, 0] rfl ?_
    exact k
theorem v_Mod_ask_33 {g : sh_G} {d : Nat}   {mem : sh_Mem} {Q : Option sh_V → sh_Mem → Prop}  {x1 : Int} {x2 : Int} {x3 : Int} {x4 : Int} {x5 : Nat} {x6 : Nat} (k : (((i3 (mem 98 0)) ≤ (i3 (x6 : Int)) → sh_X g (d + 1) m_Mod_ask 23 [(0, (sh_r 96)), (1, (sh_i x1)), (2, (sh_i x2)), (3, (sh_i x3)), (4, (sh_i x4)), (5, (sh_i (((x5 + 1) : Nat) : Int)))] [] mem (sh_K m_Mod_ask Q)) ∧ (¬ (i3 (mem 98 0)) ≤ (i3 (x6 : Int)) → sh_X g (d + 1) m_Mod_ask 50 [(0, (sh_r 96)), (1, (sh_i x1)), (2, (sh_i x2)), (3, (sh_i x3)), (4, (sh_i x4)), (5, (sh_i (x5 : Int))), (6, (sh_i (x6 : Int))), (7, (sh_i 0)), (8, (sh_i 0))] [] mem (sh_K m_Mod_ask Q)))) : sh_X g (d + 1) m_Mod_ask 33 [(0, (sh_r 96)), (1, (sh_i x1)), (2, (sh_i x2)), (3, (sh_i x3)), (4, (sh_i x4)), (5, (sh_i (x5 : Int))), (6, (sh_i (x6 : Int)))] [] mem (sh_K m_Mod_ask Q) := by
  refine xr_iload (i := 6) (List.mem_of_getElem? (i := 6) rfl) (by decide +kernel) ?_
  refine xr_aload_n (n := 0) (i := 0) rfl (List.mem_of_getElem? (i := 0) rfl) (by decide +kernel) ?_
  refine xr_getR (o := 2) rfl fl_Mod_13 rfl (by decide +kernel) ?_
  show sh_X g (d + 1) m_Mod_ask _ _ ((sh_r 98) :: _) _ _
  refine xr_iconst (n := 0) (by decide +kernel) ?_
  refine xr_ialdN (j := 0) rfl rfl (by decide) (by decide +kernel) ?_
  refine xr_icmp_ge (a' := (i3 (x6 : Int))) (b' := (i3 (mem 98 0))) rfl rfl (off := 106) (tgt := 147) (by decide) (by decide +kernel) ⟨fun c1 => ?_, fun c1 => ?_⟩
  · have k := k.1 c1
    refine xr_iinc (n := 1) (lo' := [(5, (sh_i (((x5 + 1) : Nat) : Int))), (0, (sh_r 96)), (1, (sh_i x1)), (2, (sh_i x2)), (3, (sh_i x3)), (4, (sh_i x4)), (6, (sh_i (x6 : Int)))]) (List.mem_of_getElem? (i := 5) rfl) (by decide) rfl (by decide +kernel) ?_
    refine xr_goto (off := (-127)) (tgt := 23) (by decide) (by decide +kernel) ?_
    refine xr_sub (lo' := [(0, (sh_r 96)), (1, (sh_i x1)), (2, (sh_i x2)), (3, (sh_i x3)), (4, (sh_i x4)), (5, (sh_i (((x5 + 1) : Nat) : Int)))]) [1, 2, 3, 4, 5, 0] rfl ?_
    exact k
  · have k := k.2 c1
    refine xr_iconst (n := 0) (by decide +kernel) ?_
    refine xr_istore (i := 7) (by decide) rfl (by decide +kernel) ?_
    refine xr_iconst (n := 0) (by decide +kernel) ?_
    refine xr_istore (i := 8) (by decide) rfl (by decide +kernel) ?_
    refine xr_sub (lo' := [(0, (sh_r 96)), (1, (sh_i x1)), (2, (sh_i x2)), (3, (sh_i x3)), (4, (sh_i x4)), (5, (sh_i (x5 : Int))), (6, (sh_i (x6 : Int))), (7, (sh_i 0)), (8, (sh_i 0))]) [2, 3, 4, 5, 6, 7, 8, 1, 0] rfl ?_
    exact k
theorem v_Mod_ask_50 {g : sh_G} {d : Nat}   {mem : sh_Mem} {Q : Option sh_V → sh_Mem → Prop}  {x1 : Int} {x2 : Int} {x3 : Int} {x4 : Int} {x5 : Nat} {x6 : Nat} {x7 : Int} {x8 : Nat} (k : (((i3 (mem 98 1)) ≤ (i3 (x8 : Int)) → (((i3 (if (i3 x7) < (i3 (x2 - x7)) then (x2 - x7) else x7)) < (i3 x3) → sh_X g (d + 1) m_Mod_ask 33 [(0, (sh_r 96)), (1, (sh_i x1)), (2, (sh_i x2)), (3, (sh_i (if (i3 x7) < (i3 (x2 - x7)) then (x2 - x7) else x7))), (4, (sh_i ((((8 * x5) + x6) : Nat) : Int))), (5, (sh_i (x5 : Int))), (6, (sh_i (((x6 + 1) : Nat) : Int)))] [] mem (sh_K m_Mod_ask Q)) ∧ (¬ (i3 (if (i3 x7) < (i3 (x2 - x7)) then (x2 - x7) else x7)) < (i3 x3) → sh_X g (d + 1) m_Mod_ask 33 [(0, (sh_r 96)), (1, (sh_i x1)), (2, (sh_i x2)), (3, (sh_i x3)), (4, (sh_i x4)), (5, (sh_i (x5 : Int))), (6, (sh_i (((x6 + 1) : Nat) : Int)))] [] mem (sh_K m_Mod_ask Q)))) ∧ (¬ (i3 (mem 98 1)) ≤ (i3 (x8 : Int)) → ((¬ (i_and (i_shr x1 (x8 : Int)) 1) = 1 → sh_X g (d + 1) m_Mod_ask 50 [(0, (sh_r 96)), (1, (sh_i x1)), (2, (sh_i x2)), (3, (sh_i x3)), (4, (sh_i x4)), (5, (sh_i (x5 : Int))), (6, (sh_i (x6 : Int))), (7, (sh_i (x7 + 0))), (8, (sh_i (((x8 + 1) : Nat) : Int)))] [] mem (sh_K m_Mod_ask Q)) ∧ ((i_and (i_shr x1 (x8 : Int)) 1) = 1 → (((4 * x5) + x8) < 124 ∧ ((¬ (i_and (i_shr (mem 138 ((4 * x5) + x8)) (x6 : Int)) 1) = 1 → sh_X g (d + 1) m_Mod_ask 50 [(0, (sh_r 96)), (1, (sh_i x1)), (2, (sh_i x2)), (3, (sh_i x3)), (4, (sh_i x4)), (5, (sh_i (x5 : Int))), (6, (sh_i (x6 : Int))), (7, (sh_i (x7 + 0))), (8, (sh_i (((x8 + 1) : Nat) : Int)))] [] mem (sh_K m_Mod_ask Q)) ∧ ((i_and (i_shr (mem 138 ((4 * x5) + x8)) (x6 : Int)) 1) = 1 → sh_X g (d + 1) m_Mod_ask 50 [(0, (sh_r 96)), (1, (sh_i x1)), (2, (sh_i x2)), (3, (sh_i x3)), (4, (sh_i x4)), (5, (sh_i (x5 : Int))), (6, (sh_i (x6 : Int))), (7, (sh_i (x7 + 1))), (8, (sh_i (((x8 + 1) : Nat) : Int)))] [] mem (sh_K m_Mod_ask Q))))))))) : sh_X g (d + 1) m_Mod_ask 50 [(0, (sh_r 96)), (1, (sh_i x1)), (2, (sh_i x2)), (3, (sh_i x3)), (4, (sh_i x4)), (5, (sh_i (x5 : Int))), (6, (sh_i (x6 : Int))), (7, (sh_i x7)), (8, (sh_i (x8 : Int)))] [] mem (sh_K m_Mod_ask Q) := by
  refine xr_iload (i := 8) (List.mem_of_getElem? (i := 8) rfl) (by decide +kernel) ?_
  refine xr_aload_n (n := 0) (i := 0) rfl (List.mem_of_getElem? (i := 0) rfl) (by decide +kernel) ?_
  refine xr_getR (o := 2) rfl fl_Mod_13 rfl (by decide +kernel) ?_
  show sh_X g (d + 1) m_Mod_ask _ _ ((sh_r 98) :: _) _ _
  refine xr_iconst (n := 1) (by decide +kernel) ?_
  refine xr_ialdN (j := 1) rfl rfl (by decide) (by decide +kernel) ?_
  refine xr_icmp_ge (a' := (i3 (x8 : Int))) (b' := (i3 (mem 98 1))) rfl rfl (off := 50) (tgt := 108) (by decide) (by decide +kernel) ⟨fun c1 => ?_, fun c1 => ?_⟩
  · have k := k.1 c1
    refine xr_iload (i := 7) (List.mem_of_getElem? (i := 7) rfl) (by decide +kernel) ?_
    refine xr_iload_n (n := 2) (i := 2) rfl (List.mem_of_getElem? (i := 2) rfl) (by decide +kernel) ?_
    refine xr_iload (i := 7) (List.mem_of_getElem? (i := 7) rfl) (by decide +kernel) ?_
    refine xr_isub (by decide +kernel) ?_
    show sh_X g (d + 1) m_Mod_ask _ _ ((sh_i (x2 - x7)) :: _) _ _
    refine xr_mmax ml_Mod_368 (Nat.le_of_ble_eq_true rfl) (by decide +kernel) ?_
    refine xr_istore (i := 7) (by decide) rfl (by decide +kernel) ?_
    refine xr_iload (i := 7) (List.mem_of_getElem? (i := 0) rfl) (by decide +kernel) ?_
    refine xr_iload_n (n := 3) (i := 3) rfl (List.mem_of_getElem? (i := 4) rfl) (by decide +kernel) ?_
    refine xr_icmp_lt (a' := (i3 (if (i3 x7) < (i3 (x2 - x7)) then (x2 - x7) else x7))) (b' := (i3 x3)) rfl rfl (off := 6) (tgt := 128) (by decide) (by decide +kernel) ⟨fun c2 => ?_, fun c2 => ?_⟩
    · have k := k.1 c2
      refine xr_iload (i := 7) (List.mem_of_getElem? (i := 0) rfl) (by decide +kernel) ?_
      refine xr_istore_n (n := 3) (i := 3) rfl (by decide) rfl (by decide +kernel) ?_
      refine xr_bipush (n := 8) (v := 8) (by decide) (by decide +kernel) ?_
      refine xr_iload (i := 5) (List.mem_of_getElem? (i := 6) rfl) (by decide +kernel) ?_
      refine xr_imul (by decide +kernel) ?_
      show sh_X g (d + 1) m_Mod_ask _ _ ((sh_i (((8 * x5) : Nat) : Int)) :: _) _ _
      refine xr_iload (i := 6) (List.mem_of_getElem? (i := 7) rfl) (by decide +kernel) ?_
      refine xr_iadd (by decide +kernel) ?_
      show sh_X g (d + 1) m_Mod_ask _ _ ((sh_i ((((8 * x5) + x6) : Nat) : Int)) :: _) _ _
      refine xr_istore (i := 4) (by decide) rfl (by decide +kernel) ?_
      refine xr_iinc (n := 1) (lo' := [(6, (sh_i (((x6 + 1) : Nat) : Int))), (4, (sh_i ((((8 * x5) + x6) : Nat) : Int))), (3, (sh_i (if (i3 x7) < (i3 (x2 - x7)) then (x2 - x7) else x7))), (7, (sh_i (if (i3 x7) < (i3 (x2 - x7)) then (x2 - x7) else x7))), (0, (sh_r 96)), (1, (sh_i x1)), (2, (sh_i x2)), (5, (sh_i (x5 : Int))), (8, (sh_i (x8 : Int)))]) (List.mem_of_getElem? (i := 7) rfl) (by decide) rfl (by decide +kernel) ?_
      refine xr_goto (off := (-111)) (tgt := 33) (by decide) (by decide +kernel) ?_
      refine xr_sub (lo' := [(0, (sh_r 96)), (1, (sh_i x1)), (2, (sh_i x2)), (3, (sh_i (if (i3 x7) < (i3 (x2 - x7)) then (x2 - x7) else x7))), (4, (sh_i ((((8 * x5) + x6) : Nat) : Int))), (5, (sh_i (x5 : Int))), (6, (sh_i (((x6 + 1) : Nat) : Int)))]) [4, 5, 6, 2, 1, 7, 0] rfl ?_
      exact k
    · have k := k.2 c2
      refine xr_goto (off := 16) (tgt := 141) (by decide) (by decide +kernel) ?_
      refine xr_iinc (n := 1) (lo' := [(6, (sh_i (((x6 + 1) : Nat) : Int))), (7, (sh_i (if (i3 x7) < (i3 (x2 - x7)) then (x2 - x7) else x7))), (0, (sh_r 96)), (1, (sh_i x1)), (2, (sh_i x2)), (3, (sh_i x3)), (4, (sh_i x4)), (5, (sh_i (x5 : Int))), (8, (sh_i (x8 : Int)))]) (List.mem_of_getElem? (i := 7) rfl) (by decide) rfl (by decide +kernel) ?_
      refine xr_goto (off := (-111)) (tgt := 33) (by decide) (by decide +kernel) ?_
      refine xr_sub (lo' := [(0, (sh_r 96)), (1, (sh_i x1)), (2, (sh_i x2)), (3, (sh_i x3)), (4, (sh_i x4)), (5, (sh_i (x5 : Int))), (6, (sh_i (((x6 + 1) : Nat) : Int)))]) [2, 3, 4, 5, 6, 7, 0] rfl ?_
      exact k
  · have k := k.2 c1
    refine xr_iload (i := 7) (List.mem_of_getElem? (i := 7) rfl) (by decide +kernel) ?_
    refine xr_iload_n (n := 1) (i := 1) rfl (List.mem_of_getElem? (i := 1) rfl) (by decide +kernel) ?_
    refine xr_iload (i := 8) (List.mem_of_getElem? (i := 8) rfl) (by decide +kernel) ?_
    refine xr_ishr (by decide +kernel) ?_
    refine xr_iconst (n := 1) (by decide +kernel) ?_
    refine xr_iand (by decide +kernel) ?_
    refine xr_iconst (n := 1) (by decide +kernel) ?_
    refine xr_icmp_ne (a' := (i_and (i_shr x1 (x8 : Int)) 1)) (b' := 1) (i3_nrm _) (by decide) (off := 28) (tgt := 98) (by decide) (by decide +kernel) ⟨fun c3 => ?_, fun c3 => ?_⟩
    · have k := k.1 c3
      refine xr_iconst (n := 0) (by decide +kernel) ?_
      refine xr_iadd (by decide +kernel) ?_
      show sh_X g (d + 1) m_Mod_ask _ _ ((sh_i (x7 + 0)) :: _) _ _
      refine xr_istore (i := 7) (by decide) rfl (by decide +kernel) ?_
      refine xr_iinc (n := 1) (lo' := [(8, (sh_i (((x8 + 1) : Nat) : Int))), (7, (sh_i (x7 + 0))), (0, (sh_r 96)), (1, (sh_i x1)), (2, (sh_i x2)), (3, (sh_i x3)), (4, (sh_i x4)), (5, (sh_i (x5 : Int))), (6, (sh_i (x6 : Int)))]) (List.mem_of_getElem? (i := 8) rfl) (by decide) rfl (by decide +kernel) ?_
      refine xr_goto (off := (-55)) (tgt := 50) (by decide) (by decide +kernel) ?_
      refine xr_sub (lo' := [(0, (sh_r 96)), (1, (sh_i x1)), (2, (sh_i x2)), (3, (sh_i x3)), (4, (sh_i x4)), (5, (sh_i (x5 : Int))), (6, (sh_i (x6 : Int))), (7, (sh_i (x7 + 0))), (8, (sh_i (((x8 + 1) : Nat) : Int)))]) [2, 3, 4, 5, 6, 7, 8, 1, 0] rfl ?_
      exact k
    · have k := k.2 c3
      refine xr_aload_n (n := 0) (i := 0) rfl (List.mem_of_getElem? (i := 0) rfl) (by decide +kernel) ?_
      refine xr_getR (o := 42) rfl fl_Mod_135 rfl (by decide +kernel) ?_
      show sh_X g (d + 1) m_Mod_ask _ _ ((sh_r 138) :: _) _ _
      refine xr_iconst (n := 4) (by decide +kernel) ?_
      refine xr_iload (i := 5) (List.mem_of_getElem? (i := 5) rfl) (by decide +kernel) ?_
      refine xr_imul (by decide +kernel) ?_
      show sh_X g (d + 1) m_Mod_ask _ _ ((sh_i (((4 * x5) : Nat) : Int)) :: _) _ _
      refine xr_iload (i := 8) (List.mem_of_getElem? (i := 8) rfl) (by decide +kernel) ?_
      refine xr_iadd (by decide +kernel) ?_
      show sh_X g (d + 1) m_Mod_ask _ _ ((sh_i ((((4 * x5) + x8) : Nat) : Int)) :: _) _ _
      obtain ⟨o, k⟩ := k
      refine xr_ialdN (j := ((4 * x5) + x8)) rfl rfl o (by decide +kernel) ?_
      refine xr_iload (i := 6) (List.mem_of_getElem? (i := 6) rfl) (by decide +kernel) ?_
      refine xr_ishr (by decide +kernel) ?_
      refine xr_iconst (n := 1) (by decide +kernel) ?_
      refine xr_iand (by decide +kernel) ?_
      refine xr_iconst (n := 1) (by decide +kernel) ?_
      refine xr_icmp_ne (a' := (i_and (i_shr (mem 138 ((4 * x5) + x8)) (x6 : Int)) 1)) (b' := 1) (i3_nrm _) (by decide) (off := 7) (tgt := 98) (by decide) (by decide +kernel) ⟨fun c4 => ?_, fun c4 => ?_⟩
      · have k := k.1 c4
        refine xr_iconst (n := 0) (by decide +kernel) ?_
        refine xr_iadd (by decide +kernel) ?_
        show sh_X g (d + 1) m_Mod_ask _ _ ((sh_i (x7 + 0)) :: _) _ _
        refine xr_istore (i := 7) (by decide) rfl (by decide +kernel) ?_
        refine xr_iinc (n := 1) (lo' := [(8, (sh_i (((x8 + 1) : Nat) : Int))), (7, (sh_i (x7 + 0))), (0, (sh_r 96)), (1, (sh_i x1)), (2, (sh_i x2)), (3, (sh_i x3)), (4, (sh_i x4)), (5, (sh_i (x5 : Int))), (6, (sh_i (x6 : Int)))]) (List.mem_of_getElem? (i := 8) rfl) (by decide) rfl (by decide +kernel) ?_
        refine xr_goto (off := (-55)) (tgt := 50) (by decide) (by decide +kernel) ?_
        refine xr_sub (lo' := [(0, (sh_r 96)), (1, (sh_i x1)), (2, (sh_i x2)), (3, (sh_i x3)), (4, (sh_i x4)), (5, (sh_i (x5 : Int))), (6, (sh_i (x6 : Int))), (7, (sh_i (x7 + 0))), (8, (sh_i (((x8 + 1) : Nat) : Int)))]) [2, 3, 4, 5, 6, 7, 8, 1, 0] rfl ?_
        exact k
      · have k := k.2 c4
        refine xr_iconst (n := 1) (by decide +kernel) ?_
        refine xr_goto (off := 4) (tgt := 99) (by decide) (by decide +kernel) ?_
        refine xr_iadd (by decide +kernel) ?_
        show sh_X g (d + 1) m_Mod_ask _ _ ((sh_i (x7 + 1)) :: _) _ _
        refine xr_istore (i := 7) (by decide) rfl (by decide +kernel) ?_
        refine xr_iinc (n := 1) (lo' := [(8, (sh_i (((x8 + 1) : Nat) : Int))), (7, (sh_i (x7 + 1))), (0, (sh_r 96)), (1, (sh_i x1)), (2, (sh_i x2)), (3, (sh_i x3)), (4, (sh_i x4)), (5, (sh_i (x5 : Int))), (6, (sh_i (x6 : Int)))]) (List.mem_of_getElem? (i := 8) rfl) (by decide) rfl (by decide +kernel) ?_
        refine xr_goto (off := (-55)) (tgt := 50) (by decide) (by decide +kernel) ?_
        refine xr_sub (lo' := [(0, (sh_r 96)), (1, (sh_i x1)), (2, (sh_i x2)), (3, (sh_i x3)), (4, (sh_i x4)), (5, (sh_i (x5 : Int))), (6, (sh_i (x6 : Int))), (7, (sh_i (x7 + 1))), (8, (sh_i (((x8 + 1) : Nat) : Int)))]) [2, 3, 4, 5, 6, 7, 8, 1, 0] rfl ?_
        exact k

theorem v_Mod_chance {g : sh_G} {d : Nat} {thief : Int} {day : Int} {nights : Int} {odds : Int}  {mem : sh_Mem} {Q : Option sh_V → sh_Mem → Prop}  (k : (∀ m1 : sh_Mem, m1 = ms mem 96 (ru (mem 96) 0 0) → (sh_Cal g d m_Mod_isThief [(sh_r 96), (sh_i thief)] m1 fun rv m2 => ∃ r1 : Int, rv = some (sh_i r1) ∧ (((i3 r1) = 0 → Q (some (sh_i (-1))) m2) ∧ (¬ (i3 r1) = 0 → (sh_Cal g d m_Mod_isDay [(sh_r 96), (sh_i day)] m2 fun rv m3 => ∃ r2 : Int, rv = some (sh_i r2) ∧ (((i3 r2) = 0 → Q (some (sh_i (-1))) m3) ∧ (¬ (i3 r2) = 0 → (sh_Cal g d m_Mod_within [(sh_i nights), (sh_i 1), (sh_i 6)] m3 fun rv m4 => ∃ r3 : Int, rv = some (sh_i r3) ∧ (((i3 r3) = 0 → Q (some (sh_i (-1))) m4) ∧ (¬ (i3 r3) = 0 → (sh_Cal g d m_Mod_within [(sh_i odds), (sh_i 0), (sh_i 10)] m4 fun rv m5 => ∃ r4 : Int, rv = some (sh_i r4) ∧ ((¬ (i3 r4) = 0 → sh_X g (d + 1) m_Mod_chance 53 [(0, (sh_r 96)), (1, (sh_i thief)), (2, (sh_i day)), (3, (sh_i nights)), (4, (sh_i odds)), (5, (sh_l 0)), (7, (sh_l 1)), (9, (sh_i 0))] [] m5 (sh_K m_Mod_chance Q)) ∧ ((i3 r4) = 0 → Q (some (sh_i (-1))) m5)))))))))))))) : sh_Cal g (d + 1) m_Mod_chance [(sh_r 96), (sh_i thief), (sh_i day), (sh_i nights), (sh_i odds)] mem Q := by
  refine sh_met (by decide +kernel) (Nat.le_of_ble_eq_true rfl) (lo := [(0, (sh_r 96)), (1, (sh_i thief)), (2, (sh_i day)), (3, (sh_i nights)), (4, (sh_i odds))]) rfl ?_
  refine xr_aload_n (n := 0) (i := 0) rfl (List.mem_of_getElem? (i := 0) rfl) (by decide +kernel) ?_
  refine xr_iconst (n := 0) (by decide +kernel) ?_
  refine xr_putI rfl pl_Mod_141 rfl (by decide +kernel) ?_
  have k := k _ rfl
  generalize hg_m1 : ms mem 96 (ru (mem 96) 0 0) = m1 at k ⊢
  refine xr_aload_n (n := 0) (i := 0) rfl (List.mem_of_getElem? (i := 0) rfl) (by decide +kernel) ?_
  refine xr_iload_n (n := 1) (i := 1) rfl (List.mem_of_getElem? (i := 1) rfl) (by decide +kernel) ?_
  refine xr_callV (av := [(sh_i thief)]) rfl rfl rfl mo_Mod_isThief ml_Mod_386 im_Mod_isThief se_Mod_isThief rfl (Nat.le_of_ble_eq_true rfl) (by decide +kernel) (sh_mono k ?_)
  rintro rv m2 ⟨r1, rfl, k⟩
  show sh_X g (d + 1) m_Mod_chance _ _ [(sh_i r1)] _ _
  refine xr_if_eq (a' := (i3 r1)) rfl (off := 32) (tgt := 42) (by decide) (by decide +kernel) ⟨fun c1 => ?_, fun c1 => ?_⟩
  · have k := k.1 c1
    refine xr_iconst (n := (-1)) (by decide +kernel) ?_
    exact xr_iret rfl (by decide +kernel) k
  · have k := k.2 c1
    refine xr_aload_n (n := 0) (i := 0) rfl (List.mem_of_getElem? (i := 0) rfl) (by decide +kernel) ?_
    refine xr_iload_n (n := 2) (i := 2) rfl (List.mem_of_getElem? (i := 2) rfl) (by decide +kernel) ?_
    refine xr_callV (av := [(sh_i day)]) rfl rfl rfl mo_Mod_isDay ml_Mod_383 im_Mod_isDay se_Mod_isDay rfl (Nat.le_of_ble_eq_true rfl) (by decide +kernel) (sh_mono k ?_)
    rintro rv m3 ⟨r2, rfl, k⟩
    show sh_X g (d + 1) m_Mod_chance _ _ [(sh_i r2)] _ _
    refine xr_if_eq (a' := (i3 r2)) rfl (off := 24) (tgt := 42) (by decide) (by decide +kernel) ⟨fun c2 => ?_, fun c2 => ?_⟩
    · have k := k.1 c2
      refine xr_iconst (n := (-1)) (by decide +kernel) ?_
      exact xr_iret rfl (by decide +kernel) k
    · have k := k.2 c2
      refine xr_iload_n (n := 3) (i := 3) rfl (List.mem_of_getElem? (i := 3) rfl) (by decide +kernel) ?_
      refine xr_iconst (n := 1) (by decide +kernel) ?_
      refine xr_bipush (n := 6) (v := 6) (by decide) (by decide +kernel) ?_
      refine xr_callS (av := [(sh_i nights), (sh_i 1), (sh_i 6)]) mo_Mod_within ml_Mod_264 sa_Mod_within rfl (Nat.le_of_ble_eq_true rfl) (by decide +kernel) (sh_mono k ?_)
      rintro rv m4 ⟨r3, rfl, k⟩
      show sh_X g (d + 1) m_Mod_chance _ _ [(sh_i r3)] _ _
      refine xr_if_eq (a' := (i3 r3)) rfl (off := 14) (tgt := 42) (by decide) (by decide +kernel) ⟨fun c3 => ?_, fun c3 => ?_⟩
      · have k := k.1 c3
        refine xr_iconst (n := (-1)) (by decide +kernel) ?_
        exact xr_iret rfl (by decide +kernel) k
      · have k := k.2 c3
        refine xr_iload (i := 4) (List.mem_of_getElem? (i := 4) rfl) (by decide +kernel) ?_
        refine xr_iconst (n := 0) (by decide +kernel) ?_
        refine xr_bipush (n := 10) (v := 10) (by decide) (by decide +kernel) ?_
        refine xr_callS (av := [(sh_i odds), (sh_i 0), (sh_i 10)]) mo_Mod_within ml_Mod_264 sa_Mod_within rfl (Nat.le_of_ble_eq_true rfl) (by decide +kernel) (sh_mono k ?_)
        rintro rv m5 ⟨r4, rfl, k⟩
        show sh_X g (d + 1) m_Mod_chance _ _ [(sh_i r4)] _ _
        refine xr_if_ne (a' := (i3 r4)) rfl (off := 5) (tgt := 44) (by decide) (by decide +kernel) ⟨fun c4 => ?_, fun c4 => ?_⟩
        · have k := k.1 c4
          refine xr_lconst (n := 0) (v := 0) (by decide) (by decide +kernel) ?_
          refine xr_lstore (i := 5) (by decide) rfl (by decide +kernel) ?_
          refine xr_lconst (n := 1) (v := 1) (by decide) (by decide +kernel) ?_
          refine xr_lstore (i := 7) (by decide) rfl (by decide +kernel) ?_
          refine xr_iconst (n := 0) (by decide +kernel) ?_
          refine xr_istore (i := 9) (by decide) rfl (by decide +kernel) ?_
          refine xr_sub (lo' := [(0, (sh_r 96)), (1, (sh_i thief)), (2, (sh_i day)), (3, (sh_i nights)), (4, (sh_i odds)), (5, (sh_l 0)), (7, (sh_l 1)), (9, (sh_i 0))]) [3, 4, 5, 6, 7, 2, 1, 0] rfl ?_
          exact k
        · have k := k.2 c4
          refine xr_iconst (n := (-1)) (by decide +kernel) ?_
          exact xr_iret rfl (by decide +kernel) k
theorem v_Mod_chance_53 {g : sh_G} {d : Nat} {thief : Int} {day : Int} {nights : Int} {odds : Int}  {mem : sh_Mem} {Q : Option sh_V → sh_Mem → Prop}  {x5 : Int} {x7 : Int} {x9 : Nat} (k : (((i3 nights) ≤ (i3 (x9 : Int)) → (sh_Cal g d m_Mod_copies [(sh_r 129), (sh_i 0), (sh_r 131), (sh_i 0)] mem fun rv m1 => rv = none ∧ sh_X g (d + 1) m_Mod_chance 89 [(0, (sh_r 96)), (1, (sh_i thief)), (2, (sh_i day)), (3, (sh_i nights)), (4, (sh_i odds)), (5, (sh_l x5)), (7, (sh_l x7)), (9, (sh_i 0))] [] m1 (sh_K m_Mod_chance Q))) ∧ (¬ (i3 nights) ≤ (i3 (x9 : Int)) → sh_X g (d + 1) m_Mod_chance 53 [(0, (sh_r 96)), (1, (sh_i thief)), (2, (sh_i day)), (3, (sh_i nights)), (4, (sh_i odds)), (5, (sh_l x5)), (7, (sh_l (x7 * 10))), (9, (sh_i (((x9 + 1) : Nat) : Int)))] [] mem (sh_K m_Mod_chance Q)))) : sh_X g (d + 1) m_Mod_chance 53 [(0, (sh_r 96)), (1, (sh_i thief)), (2, (sh_i day)), (3, (sh_i nights)), (4, (sh_i odds)), (5, (sh_l x5)), (7, (sh_l x7)), (9, (sh_i (x9 : Int)))] [] mem (sh_K m_Mod_chance Q) := by
  refine xr_iload (i := 9) (List.mem_of_getElem? (i := 7) rfl) (by decide +kernel) ?_
  refine xr_iload_n (n := 3) (i := 3) rfl (List.mem_of_getElem? (i := 3) rfl) (by decide +kernel) ?_
  refine xr_icmp_ge (a' := (i3 (x9 : Int))) (b' := (i3 nights)) rfl rfl (off := 17) (tgt := 73) (by decide) (by decide +kernel) ⟨fun c1 => ?_, fun c1 => ?_⟩
  · have k := k.1 c1
    refine xr_aload_n (n := 0) (i := 0) rfl (List.mem_of_getElem? (i := 0) rfl) (by decide +kernel) ?_
    refine xr_getR (o := 33) rfl fl_Mod_108 rfl (by decide +kernel) ?_
    show sh_X g (d + 1) m_Mod_chance _ _ ((sh_r 129) :: _) _ _
    refine xr_iconst (n := 0) (by decide +kernel) ?_
    refine xr_aload_n (n := 0) (i := 0) rfl (List.mem_of_getElem? (i := 0) rfl) (by decide +kernel) ?_
    refine xr_getR (o := 35) rfl fl_Mod_114 rfl (by decide +kernel) ?_
    show sh_X g (d + 1) m_Mod_chance _ _ ((sh_r 131) :: _) _ _
    refine xr_iconst (n := 0) (by decide +kernel) ?_
    refine xr_callS (av := [(sh_r 129), (sh_i 0), (sh_r 131), (sh_i 0)]) mo_Mod_copies ml_Mod_389 sa_Mod_copies rfl (Nat.le_of_ble_eq_true rfl) (by decide +kernel) (sh_mono k ?_)
    rintro rv m1 ⟨rfl, k⟩
    show sh_X g (d + 1) m_Mod_chance _ _ [] _ _
    refine xr_iconst (n := 0) (by decide +kernel) ?_
    refine xr_istore (i := 9) (by decide) rfl (by decide +kernel) ?_
    refine xr_sub (lo' := [(0, (sh_r 96)), (1, (sh_i thief)), (2, (sh_i day)), (3, (sh_i nights)), (4, (sh_i odds)), (5, (sh_l x5)), (7, (sh_l x7)), (9, (sh_i 0))]) [1, 2, 3, 4, 5, 6, 7, 0] rfl ?_
    exact k
  · have k := k.2 c1
    refine xr_lload (i := 7) (List.mem_of_getElem? (i := 6) rfl) (by decide +kernel) ?_
    refine xr_ldc2 (v := 10) (by decide) kl_Mod_476 (by decide +kernel) ?_
    refine xr_lmul (by decide +kernel) ?_
    show sh_X g (d + 1) m_Mod_chance _ _ ((sh_l (x7 * 10)) :: _) _ _
    refine xr_lstore (i := 7) (by decide) rfl (by decide +kernel) ?_
    refine xr_iinc (n := 1) (lo' := [(9, (sh_i (((x9 + 1) : Nat) : Int))), (7, (sh_l (x7 * 10))), (0, (sh_r 96)), (1, (sh_i thief)), (2, (sh_i day)), (3, (sh_i nights)), (4, (sh_i odds)), (5, (sh_l x5))]) (List.mem_of_getElem? (i := 7) rfl) (by decide) rfl (by decide +kernel) ?_
    refine xr_goto (off := (-17)) (tgt := 53) (by decide) (by decide +kernel) ?_
    refine xr_sub (lo' := [(0, (sh_r 96)), (1, (sh_i thief)), (2, (sh_i day)), (3, (sh_i nights)), (4, (sh_i odds)), (5, (sh_l x5)), (7, (sh_l (x7 * 10))), (9, (sh_i (((x9 + 1) : Nat) : Int)))]) [2, 3, 4, 5, 6, 7, 1, 0] rfl ?_
    exact k
theorem v_Mod_chance_89 {g : sh_G} {d : Nat} {thief : Int} {day : Int} {nights : Int} {odds : Int}  {mem : sh_Mem} {Q : Option sh_V → sh_Mem → Prop}  {x5 : Int} {x7 : Int} {x9 : Nat} (k : (((i_shl 1 nights) ≤ (i3 (x9 : Int)) → (¬ Int64.ofInt x7 = 0 ∧ Q (some (sh_i (l_2i (l_div (x5 * 1000000) x7)))) mem)) ∧ (¬ (i_shl 1 nights) ≤ (i3 (x9 : Int)) → sh_X g (d + 1) m_Mod_chance 103 [(0, (sh_r 96)), (1, (sh_i thief)), (2, (sh_i day)), (3, (sh_i nights)), (4, (sh_i odds)), (5, (sh_l x5)), (7, (sh_l x7)), (9, (sh_i (x9 : Int))), (10, (sh_l 1)), (12, (sh_i 0))] [] mem (sh_K m_Mod_chance Q)))) : sh_X g (d + 1) m_Mod_chance 89 [(0, (sh_r 96)), (1, (sh_i thief)), (2, (sh_i day)), (3, (sh_i nights)), (4, (sh_i odds)), (5, (sh_l x5)), (7, (sh_l x7)), (9, (sh_i (x9 : Int)))] [] mem (sh_K m_Mod_chance Q) := by
  refine xr_iload (i := 9) (List.mem_of_getElem? (i := 7) rfl) (by decide +kernel) ?_
  refine xr_iconst (n := 1) (by decide +kernel) ?_
  refine xr_iload_n (n := 3) (i := 3) rfl (List.mem_of_getElem? (i := 3) rfl) (by decide +kernel) ?_
  refine xr_ishl (by decide +kernel) ?_
  refine xr_icmp_ge (a' := (i3 (x9 : Int))) (b' := (i_shl 1 nights)) rfl (i3_nrm _) (off := 160) (tgt := 254) (by decide) (by decide +kernel) ⟨fun c1 => ?_, fun c1 => ?_⟩
  · have k := k.1 c1
    refine xr_lload (i := 5) (List.mem_of_getElem? (i := 5) rfl) (by decide +kernel) ?_
    refine xr_ldc2 (v := 1000000) (by decide) kl_Mod_478 (by decide +kernel) ?_
    refine xr_lmul (by decide +kernel) ?_
    show sh_X g (d + 1) m_Mod_chance _ _ ((sh_l (x5 * 1000000)) :: _) _ _
    refine xr_lload (i := 7) (List.mem_of_getElem? (i := 6) rfl) (by decide +kernel) ?_
    obtain ⟨o, k⟩ := k
    refine xr_ldiv o (by decide +kernel) ?_
    refine xr_l2i (by decide +kernel) ?_
    exact xr_iret rfl (by decide +kernel) k
  · have k := k.2 c1
    refine xr_lconst (n := 1) (v := 1) (by decide) (by decide +kernel) ?_
    refine xr_lstore (i := 10) (by decide) rfl (by decide +kernel) ?_
    refine xr_iconst (n := 0) (by decide +kernel) ?_
    refine xr_istore (i := 12) (by decide) rfl (by decide +kernel) ?_
    refine xr_sub (lo' := [(0, (sh_r 96)), (1, (sh_i thief)), (2, (sh_i day)), (3, (sh_i nights)), (4, (sh_i odds)), (5, (sh_l x5)), (7, (sh_l x7)), (9, (sh_i (x9 : Int))), (10, (sh_l 1)), (12, (sh_i 0))]) [2, 3, 4, 5, 6, 7, 8, 9, 1, 0] rfl ?_
    exact k
theorem v_Mod_chance_103 {g : sh_G} {d : Nat} {thief : Int} {day : Int} {nights : Int} {odds : Int}  {mem : sh_Mem} {Q : Option sh_V → sh_Mem → Prop}  {x5 : Int} {x7 : Int} {x9 : Nat} {x10 : Int} {x12 : Nat} (k : (((i3 nights) ≤ (i3 (x12 : Int)) → (sh_Cal g d m_Mod_isFree [(sh_r 96), (sh_i thief)] mem fun rv m1 => ∃ r1 : Int, rv = some (sh_i r1) ∧ (((i3 r1) = 0 → sh_X g (d + 1) m_Mod_chance 235 [(0, (sh_r 96)), (1, (sh_i thief)), (2, (sh_i day)), (3, (sh_i nights)), (4, (sh_i odds)), (5, (sh_l x5)), (7, (sh_l x7)), (9, (sh_i (x9 : Int))), (10, (sh_l x10)), (12, (sh_i (x12 : Int)))] [] m1 (sh_K m_Mod_chance Q)) ∧ (¬ (i3 r1) = 0 → (sh_Cal g d m_Mod_isOpen [(sh_r 96), (sh_i thief), (sh_i day)] m1 fun rv m2 => ∃ r2 : Int, rv = some (sh_i r2) ∧ (((i3 r2) = 0 → sh_X g (d + 1) m_Mod_chance 235 [(0, (sh_r 96)), (1, (sh_i thief)), (2, (sh_i day)), (3, (sh_i nights)), (4, (sh_i odds)), (5, (sh_l x5)), (7, (sh_l x7)), (9, (sh_i (x9 : Int))), (10, (sh_l x10)), (12, (sh_i (x12 : Int)))] [] m2 (sh_K m_Mod_chance Q)) ∧ (¬ (i3 r2) = 0 → sh_X g (d + 1) m_Mod_chance 235 [(0, (sh_r 96)), (1, (sh_i thief)), (2, (sh_i day)), (3, (sh_i nights)), (4, (sh_i odds)), (5, (sh_l (x5 + x10))), (7, (sh_l x7)), (9, (sh_i (x9 : Int))), (10, (sh_l x10)), (12, (sh_i (x12 : Int)))] [] m2 (sh_K m_Mod_chance Q)))))))) ∧ (¬ (i3 nights) ≤ (i3 (x12 : Int)) → ((¬ (i_and (i_shr (x9 : Int) (x12 : Int)) 1) = 1 → sh_X g (d + 1) m_Mod_chance 125 [(0, (sh_r 96)), (1, (sh_i thief)), (2, (sh_i day)), (3, (sh_i nights)), (4, (sh_i odds)), (5, (sh_l x5)), (7, (sh_l x7)), (9, (sh_i (x9 : Int))), (10, (sh_l x10)), (12, (sh_i (x12 : Int)))] [(sh_i 0)] mem (sh_K m_Mod_chance Q)) ∧ ((i_and (i_shr (x9 : Int) (x12 : Int)) 1) = 1 → sh_X g (d + 1) m_Mod_chance 125 [(0, (sh_r 96)), (1, (sh_i thief)), (2, (sh_i day)), (3, (sh_i nights)), (4, (sh_i odds)), (5, (sh_l x5)), (7, (sh_l x7)), (9, (sh_i (x9 : Int))), (10, (sh_l x10)), (12, (sh_i (x12 : Int)))] [(sh_i 1)] mem (sh_K m_Mod_chance Q)))))) : sh_X g (d + 1) m_Mod_chance 103 [(0, (sh_r 96)), (1, (sh_i thief)), (2, (sh_i day)), (3, (sh_i nights)), (4, (sh_i odds)), (5, (sh_l x5)), (7, (sh_l x7)), (9, (sh_i (x9 : Int))), (10, (sh_l x10)), (12, (sh_i (x12 : Int)))] [] mem (sh_K m_Mod_chance Q) := by
  refine xr_iload (i := 12) (List.mem_of_getElem? (i := 9) rfl) (by decide +kernel) ?_
  refine xr_iload_n (n := 3) (i := 3) rfl (List.mem_of_getElem? (i := 3) rfl) (by decide +kernel) ?_
  refine xr_icmp_ge (a' := (i3 (x12 : Int))) (b' := (i3 nights)) rfl rfl (off := 105) (tgt := 211) (by decide) (by decide +kernel) ⟨fun c1 => ?_, fun c1 => ?_⟩
  · have k := k.1 c1
    refine xr_aload_n (n := 0) (i := 0) rfl (List.mem_of_getElem? (i := 0) rfl) (by decide +kernel) ?_
    refine xr_iload_n (n := 1) (i := 1) rfl (List.mem_of_getElem? (i := 1) rfl) (by decide +kernel) ?_
    refine xr_callV (av := [(sh_i thief)]) rfl rfl rfl mo_Mod_isFree ml_Mod_343 im_Mod_isFree se_Mod_isFree rfl (Nat.le_of_ble_eq_true rfl) (by decide +kernel) (sh_mono k ?_)
    rintro rv m1 ⟨r1, rfl, k⟩
    show sh_X g (d + 1) m_Mod_chance _ _ [(sh_i r1)] _ _
    refine xr_if_eq (a' := (i3 r1)) rfl (off := 19) (tgt := 235) (by decide) (by decide +kernel) ⟨fun c2 => ?_, fun c2 => ?_⟩
    · have k := k.1 c2
      refine xr_sub (lo' := [(0, (sh_r 96)), (1, (sh_i thief)), (2, (sh_i day)), (3, (sh_i nights)), (4, (sh_i odds)), (5, (sh_l x5)), (7, (sh_l x7)), (9, (sh_i (x9 : Int))), (10, (sh_l x10)), (12, (sh_i (x12 : Int)))]) [0, 1, 2, 3, 4, 5, 6, 7, 8, 9] rfl ?_
      exact k
    · have k := k.2 c2
      refine xr_aload_n (n := 0) (i := 0) rfl (List.mem_of_getElem? (i := 0) rfl) (by decide +kernel) ?_
      refine xr_iload_n (n := 1) (i := 1) rfl (List.mem_of_getElem? (i := 1) rfl) (by decide +kernel) ?_
      refine xr_iload_n (n := 2) (i := 2) rfl (List.mem_of_getElem? (i := 2) rfl) (by decide +kernel) ?_
      refine xr_callV (av := [(sh_i thief), (sh_i day)]) rfl rfl rfl mo_Mod_isOpen ml_Mod_349 im_Mod_isOpen se_Mod_isOpen rfl (Nat.le_of_ble_eq_true rfl) (by decide +kernel) (sh_mono k ?_)
      rintro rv m2 ⟨r2, rfl, k⟩
      show sh_X g (d + 1) m_Mod_chance _ _ [(sh_i r2)] _ _
      refine xr_if_eq (a' := (i3 r2)) rfl (off := 10) (tgt := 235) (by decide) (by decide +kernel) ⟨fun c3 => ?_, fun c3 => ?_⟩
      · have k := k.1 c3
        refine xr_sub (lo' := [(0, (sh_r 96)), (1, (sh_i thief)), (2, (sh_i day)), (3, (sh_i nights)), (4, (sh_i odds)), (5, (sh_l x5)), (7, (sh_l x7)), (9, (sh_i (x9 : Int))), (10, (sh_l x10)), (12, (sh_i (x12 : Int)))]) [0, 1, 2, 3, 4, 5, 6, 7, 8, 9] rfl ?_
        exact k
      · have k := k.2 c3
        refine xr_lload (i := 5) (List.mem_of_getElem? (i := 5) rfl) (by decide +kernel) ?_
        refine xr_lload (i := 10) (List.mem_of_getElem? (i := 8) rfl) (by decide +kernel) ?_
        refine xr_ladd (by decide +kernel) ?_
        show sh_X g (d + 1) m_Mod_chance _ _ ((sh_l (x5 + x10)) :: _) _ _
        refine xr_lstore (i := 5) (by decide) rfl (by decide +kernel) ?_
        refine xr_sub (lo' := [(0, (sh_r 96)), (1, (sh_i thief)), (2, (sh_i day)), (3, (sh_i nights)), (4, (sh_i odds)), (5, (sh_l (x5 + x10))), (7, (sh_l x7)), (9, (sh_i (x9 : Int))), (10, (sh_l x10)), (12, (sh_i (x12 : Int)))]) [1, 2, 3, 4, 5, 0, 6, 7, 8, 9] rfl ?_
        exact k
  · have k := k.2 c1
    refine xr_iload (i := 9) (List.mem_of_getElem? (i := 7) rfl) (by decide +kernel) ?_
    refine xr_iload (i := 12) (List.mem_of_getElem? (i := 9) rfl) (by decide +kernel) ?_
    refine xr_ishr (by decide +kernel) ?_
    refine xr_iconst (n := 1) (by decide +kernel) ?_
    refine xr_iand (by decide +kernel) ?_
    refine xr_iconst (n := 1) (by decide +kernel) ?_
    refine xr_icmp_ne (a' := (i_and (i_shr (x9 : Int) (x12 : Int)) 1)) (b' := 1) (i3_nrm _) (by decide) (off := 7) (tgt := 124) (by decide) (by decide +kernel) ⟨fun c4 => ?_, fun c4 => ?_⟩
    · have k := k.1 c4
      refine xr_iconst (n := 0) (by decide +kernel) ?_
      refine xr_sub (lo' := [(0, (sh_r 96)), (1, (sh_i thief)), (2, (sh_i day)), (3, (sh_i nights)), (4, (sh_i odds)), (5, (sh_l x5)), (7, (sh_l x7)), (9, (sh_i (x9 : Int))), (10, (sh_l x10)), (12, (sh_i (x12 : Int)))]) [0, 1, 2, 3, 4, 5, 6, 7, 8, 9] rfl ?_
      exact k
    · have k := k.2 c4
      refine xr_iconst (n := 1) (by decide +kernel) ?_
      refine xr_goto (off := 4) (tgt := 125) (by decide) (by decide +kernel) ?_
      refine xr_sub (lo' := [(0, (sh_r 96)), (1, (sh_i thief)), (2, (sh_i day)), (3, (sh_i nights)), (4, (sh_i odds)), (5, (sh_l x5)), (7, (sh_l x7)), (9, (sh_i (x9 : Int))), (10, (sh_l x10)), (12, (sh_i (x12 : Int)))]) [0, 1, 2, 3, 4, 5, 6, 7, 8, 9] rfl ?_
      exact k
theorem v_Mod_chance_235 {g : sh_G} {d : Nat} {thief : Int} {day : Int} {nights : Int} {odds : Int}  {mem : sh_Mem} {Q : Option sh_V → sh_Mem → Prop}  {x5 : Int} {x7 : Int} {x9 : Nat} {x10 : Int} {x12 : Nat} (k : (sh_Cal g d m_Mod_copies [(sh_r 131), (sh_i 0), (sh_r 129), (sh_i 0)] mem fun rv m1 => rv = none ∧ sh_X g (d + 1) m_Mod_chance 89 [(0, (sh_r 96)), (1, (sh_i thief)), (2, (sh_i day)), (3, (sh_i nights)), (4, (sh_i odds)), (5, (sh_l x5)), (7, (sh_l x7)), (9, (sh_i (((x9 + 1) : Nat) : Int)))] [] m1 (sh_K m_Mod_chance Q))) : sh_X g (d + 1) m_Mod_chance 235 [(0, (sh_r 96)), (1, (sh_i thief)), (2, (sh_i day)), (3, (sh_i nights)), (4, (sh_i odds)), (5, (sh_l x5)), (7, (sh_l x7)), (9, (sh_i (x9 : Int))), (10, (sh_l x10)), (12, (sh_i (x12 : Int)))] [] mem (sh_K m_Mod_chance Q) := by
  refine xr_aload_n (n := 0) (i := 0) rfl (List.mem_of_getElem? (i := 0) rfl) (by decide +kernel) ?_
  refine xr_getR (o := 35) rfl fl_Mod_114 rfl (by decide +kernel) ?_
  show sh_X g (d + 1) m_Mod_chance _ _ ((sh_r 131) :: _) _ _
  refine xr_iconst (n := 0) (by decide +kernel) ?_
  refine xr_aload_n (n := 0) (i := 0) rfl (List.mem_of_getElem? (i := 0) rfl) (by decide +kernel) ?_
  refine xr_getR (o := 33) rfl fl_Mod_108 rfl (by decide +kernel) ?_
  show sh_X g (d + 1) m_Mod_chance _ _ ((sh_r 129) :: _) _ _
  refine xr_iconst (n := 0) (by decide +kernel) ?_
  refine xr_callS (av := [(sh_r 131), (sh_i 0), (sh_r 129), (sh_i 0)]) mo_Mod_copies ml_Mod_389 sa_Mod_copies rfl (Nat.le_of_ble_eq_true rfl) (by decide +kernel) (sh_mono k ?_)
  rintro rv m1 ⟨rfl, k⟩
  show sh_X g (d + 1) m_Mod_chance _ _ [] _ _
  refine xr_iinc (n := 1) (lo' := [(9, (sh_i (((x9 + 1) : Nat) : Int))), (0, (sh_r 96)), (1, (sh_i thief)), (2, (sh_i day)), (3, (sh_i nights)), (4, (sh_i odds)), (5, (sh_l x5)), (7, (sh_l x7)), (10, (sh_l x10)), (12, (sh_i (x12 : Int)))]) (List.mem_of_getElem? (i := 7) rfl) (by decide) rfl (by decide +kernel) ?_
  refine xr_goto (off := (-162)) (tgt := 89) (by decide) (by decide +kernel) ?_
  refine xr_sub (lo' := [(0, (sh_r 96)), (1, (sh_i thief)), (2, (sh_i day)), (3, (sh_i nights)), (4, (sh_i odds)), (5, (sh_l x5)), (7, (sh_l x7)), (9, (sh_i (((x9 + 1) : Nat) : Int)))]) [1, 2, 3, 4, 5, 6, 7, 0] rfl ?_
  exact k
theorem v_Mod_chance_125 {g : sh_G} {d : Nat} {thief : Int} {day : Int} {nights : Int} {odds : Int}  {mem : sh_Mem} {Q : Option sh_V → sh_Mem → Prop}  {x5 : Int} {x7 : Int} {x9 : Nat} {x10 : Int} {x12 : Nat} {y0 : Int} (k : (((i3 y0) = 0 → sh_X g (d + 1) m_Mod_chance 152 [(0, (sh_r 96)), (1, (sh_i thief)), (2, (sh_i day)), (3, (sh_i nights)), (4, (sh_i odds)), (5, (sh_l x5)), (7, (sh_l x7)), (9, (sh_i (x9 : Int))), (10, (sh_l (x10 * (i_2l (10 - odds))))), (12, (sh_i (x12 : Int))), (13, (sh_i y0)), (14, (sh_i 0))] [] mem (sh_K m_Mod_chance Q)) ∧ (¬ (i3 y0) = 0 → sh_X g (d + 1) m_Mod_chance 152 [(0, (sh_r 96)), (1, (sh_i thief)), (2, (sh_i day)), (3, (sh_i nights)), (4, (sh_i odds)), (5, (sh_l x5)), (7, (sh_l x7)), (9, (sh_i (x9 : Int))), (10, (sh_l (x10 * (i_2l odds)))), (12, (sh_i (x12 : Int))), (13, (sh_i y0)), (14, (sh_i 0))] [] mem (sh_K m_Mod_chance Q)))) : sh_X g (d + 1) m_Mod_chance 125 [(0, (sh_r 96)), (1, (sh_i thief)), (2, (sh_i day)), (3, (sh_i nights)), (4, (sh_i odds)), (5, (sh_l x5)), (7, (sh_l x7)), (9, (sh_i (x9 : Int))), (10, (sh_l x10)), (12, (sh_i (x12 : Int)))] [(sh_i y0)] mem (sh_K m_Mod_chance Q) := by
  refine xr_istore (i := 13) (by decide) rfl (by decide +kernel) ?_
  refine xr_lload (i := 10) (List.mem_of_getElem? (i := 9) rfl) (by decide +kernel) ?_
  refine xr_iload (i := 13) (List.mem_of_getElem? (i := 0) rfl) (by decide +kernel) ?_
  refine xr_if_eq (a' := (i3 y0)) rfl (off := 9) (tgt := 140) (by decide) (by decide +kernel) ⟨fun c1 => ?_, fun c1 => ?_⟩
  · have k := k.1 c1
    refine xr_bipush (n := 10) (v := 10) (by decide) (by decide +kernel) ?_
    refine xr_iload (i := 4) (List.mem_of_getElem? (i := 5) rfl) (by decide +kernel) ?_
    refine xr_isub (by decide +kernel) ?_
    show sh_X g (d + 1) m_Mod_chance _ _ ((sh_i (10 - odds)) :: _) _ _
    refine xr_i2l (by decide +kernel) ?_
    refine xr_lmul (by decide +kernel) ?_
    show sh_X g (d + 1) m_Mod_chance _ _ ((sh_l (x10 * (i_2l (10 - odds)))) :: _) _ _
    refine xr_lstore (i := 10) (by decide) rfl (by decide +kernel) ?_
    refine xr_iconst (n := 0) (by decide +kernel) ?_
    refine xr_istore (i := 14) (by decide) rfl (by decide +kernel) ?_
    refine xr_sub (lo' := [(0, (sh_r 96)), (1, (sh_i thief)), (2, (sh_i day)), (3, (sh_i nights)), (4, (sh_i odds)), (5, (sh_l x5)), (7, (sh_l x7)), (9, (sh_i (x9 : Int))), (10, (sh_l (x10 * (i_2l (10 - odds))))), (12, (sh_i (x12 : Int))), (13, (sh_i y0)), (14, (sh_i 0))]) [3, 4, 5, 6, 7, 8, 9, 10, 1, 11, 2, 0] rfl ?_
    exact k
  · have k := k.2 c1
    refine xr_iload (i := 4) (List.mem_of_getElem? (i := 5) rfl) (by decide +kernel) ?_
    refine xr_i2l (by decide +kernel) ?_
    refine xr_goto (off := 9) (tgt := 146) (by decide) (by decide +kernel) ?_
    refine xr_lmul (by decide +kernel) ?_
    show sh_X g (d + 1) m_Mod_chance _ _ ((sh_l (x10 * (i_2l odds))) :: _) _ _
    refine xr_lstore (i := 10) (by decide) rfl (by decide +kernel) ?_
    refine xr_iconst (n := 0) (by decide +kernel) ?_
    refine xr_istore (i := 14) (by decide) rfl (by decide +kernel) ?_
    refine xr_sub (lo' := [(0, (sh_r 96)), (1, (sh_i thief)), (2, (sh_i day)), (3, (sh_i nights)), (4, (sh_i odds)), (5, (sh_l x5)), (7, (sh_l x7)), (9, (sh_i (x9 : Int))), (10, (sh_l (x10 * (i_2l odds)))), (12, (sh_i (x12 : Int))), (13, (sh_i y0)), (14, (sh_i 0))]) [3, 4, 5, 6, 7, 8, 9, 10, 1, 11, 2, 0] rfl ?_
    exact k
theorem v_Mod_chance_152 {g : sh_G} {d : Nat} {thief : Int} {day : Int} {nights : Int} {odds : Int}  {mem : sh_Mem} {Q : Option sh_V → sh_Mem → Prop}  {x5 : Int} {x7 : Int} {x9 : Nat} {x10 : Int} {x12 : Nat} {x13 : Int} {x14 : Nat} (k : (((i3 (mem 98 0)) ≤ (i3 (x14 : Int)) → (sh_Cal g d m_Mod_passes [(sh_r 96)] mem fun rv m1 => rv = none ∧ sh_X g (d + 1) m_Mod_chance 103 [(0, (sh_r 96)), (1, (sh_i thief)), (2, (sh_i day)), (3, (sh_i nights)), (4, (sh_i odds)), (5, (sh_l x5)), (7, (sh_l x7)), (9, (sh_i (x9 : Int))), (10, (sh_l x10)), (12, (sh_i (((x12 + 1) : Nat) : Int)))] [] m1 (sh_K m_Mod_chance Q))) ∧ (¬ (i3 (mem 98 0)) ≤ (i3 (x14 : Int)) → (((i3 x13) = 0 → (sh_Cal g d m_Mod_passes [(sh_r 96)] mem fun rv m2 => rv = none ∧ sh_X g (d + 1) m_Mod_chance 103 [(0, (sh_r 96)), (1, (sh_i thief)), (2, (sh_i day)), (3, (sh_i nights)), (4, (sh_i odds)), (5, (sh_l x5)), (7, (sh_l x7)), (9, (sh_i (x9 : Int))), (10, (sh_l x10)), (12, (sh_i (((x12 + 1) : Nat) : Int)))] [] m2 (sh_K m_Mod_chance Q))) ∧ (¬ (i3 x13) = 0 → ((9 + x14) < 45 ∧ ((9 + x14) < 45 ∧ (∀ m3 : sh_Mem, m3 = ms mem 129 (ru (mem 129) (9 + x14) (if (i3 ((mem 129 (9 + x14)) + 3)) < (i3 9) then ((mem 129 (9 + x14)) + 3) else (9 : Int))) → sh_X g (d + 1) m_Mod_chance 152 [(0, (sh_r 96)), (1, (sh_i thief)), (2, (sh_i day)), (3, (sh_i nights)), (4, (sh_i odds)), (5, (sh_l x5)), (7, (sh_l x7)), (9, (sh_i (x9 : Int))), (10, (sh_l x10)), (12, (sh_i (x12 : Int))), (13, (sh_i x13)), (14, (sh_i (((x14 + 1) : Nat) : Int)))] [] m3 (sh_K m_Mod_chance Q))))))))) : sh_X g (d + 1) m_Mod_chance 152 [(0, (sh_r 96)), (1, (sh_i thief)), (2, (sh_i day)), (3, (sh_i nights)), (4, (sh_i odds)), (5, (sh_l x5)), (7, (sh_l x7)), (9, (sh_i (x9 : Int))), (10, (sh_l x10)), (12, (sh_i (x12 : Int))), (13, (sh_i x13)), (14, (sh_i (x14 : Int)))] [] mem (sh_K m_Mod_chance Q) := by
  refine xr_iload (i := 14) (List.mem_of_getElem? (i := 11) rfl) (by decide +kernel) ?_
  refine xr_aload_n (n := 0) (i := 0) rfl (List.mem_of_getElem? (i := 0) rfl) (by decide +kernel) ?_
  refine xr_getR (o := 2) rfl fl_Mod_13 rfl (by decide +kernel) ?_
  show sh_X g (d + 1) m_Mod_chance _ _ ((sh_r 98) :: _) _ _
  refine xr_iconst (n := 0) (by decide +kernel) ?_
  refine xr_ialdN (j := 0) rfl rfl (by decide) (by decide +kernel) ?_
  refine xr_icmp_ge (a' := (i3 (x14 : Int))) (b' := (i3 (mem 98 0))) rfl rfl (off := 41) (tgt := 201) (by decide) (by decide +kernel) ⟨fun c1 => ?_, fun c1 => ?_⟩
  · have k := k.1 c1
    refine xr_aload_n (n := 0) (i := 0) rfl (List.mem_of_getElem? (i := 0) rfl) (by decide +kernel) ?_
    refine xr_callV (av := []) rfl rfl rfl mo_Mod_passes ml_Mod_414 im_Mod_passes se_Mod_passes rfl (Nat.le_of_ble_eq_true rfl) (by decide +kernel) (sh_mono k ?_)
    rintro rv m1 ⟨rfl, k⟩
    show sh_X g (d + 1) m_Mod_chance _ _ [] _ _
    refine xr_iinc (n := 1) (lo' := [(12, (sh_i (((x12 + 1) : Nat) : Int))), (0, (sh_r 96)), (1, (sh_i thief)), (2, (sh_i day)), (3, (sh_i nights)), (4, (sh_i odds)), (5, (sh_l x5)), (7, (sh_l x7)), (9, (sh_i (x9 : Int))), (10, (sh_l x10)), (13, (sh_i x13)), (14, (sh_i (x14 : Int)))]) (List.mem_of_getElem? (i := 9) rfl) (by decide) rfl (by decide +kernel) ?_
    refine xr_goto (off := (-105)) (tgt := 103) (by decide) (by decide +kernel) ?_
    refine xr_sub (lo' := [(0, (sh_r 96)), (1, (sh_i thief)), (2, (sh_i day)), (3, (sh_i nights)), (4, (sh_i odds)), (5, (sh_l x5)), (7, (sh_l x7)), (9, (sh_i (x9 : Int))), (10, (sh_l x10)), (12, (sh_i (((x12 + 1) : Nat) : Int)))]) [1, 2, 3, 4, 5, 6, 7, 8, 9, 0] rfl ?_
    exact k
  · have k := k.2 c1
    refine xr_iload (i := 13) (List.mem_of_getElem? (i := 10) rfl) (by decide +kernel) ?_
    refine xr_if_eq (a' := (i3 x13)) rfl (off := 36) (tgt := 201) (by decide) (by decide +kernel) ⟨fun c2 => ?_, fun c2 => ?_⟩
    · have k := k.1 c2
      refine xr_aload_n (n := 0) (i := 0) rfl (List.mem_of_getElem? (i := 0) rfl) (by decide +kernel) ?_
      refine xr_callV (av := []) rfl rfl rfl mo_Mod_passes ml_Mod_414 im_Mod_passes se_Mod_passes rfl (Nat.le_of_ble_eq_true rfl) (by decide +kernel) (sh_mono k ?_)
      rintro rv m2 ⟨rfl, k⟩
      show sh_X g (d + 1) m_Mod_chance _ _ [] _ _
      refine xr_iinc (n := 1) (lo' := [(12, (sh_i (((x12 + 1) : Nat) : Int))), (0, (sh_r 96)), (1, (sh_i thief)), (2, (sh_i day)), (3, (sh_i nights)), (4, (sh_i odds)), (5, (sh_l x5)), (7, (sh_l x7)), (9, (sh_i (x9 : Int))), (10, (sh_l x10)), (13, (sh_i x13)), (14, (sh_i (x14 : Int)))]) (List.mem_of_getElem? (i := 9) rfl) (by decide) rfl (by decide +kernel) ?_
      refine xr_goto (off := (-105)) (tgt := 103) (by decide) (by decide +kernel) ?_
      refine xr_sub (lo' := [(0, (sh_r 96)), (1, (sh_i thief)), (2, (sh_i day)), (3, (sh_i nights)), (4, (sh_i odds)), (5, (sh_l x5)), (7, (sh_l x7)), (9, (sh_i (x9 : Int))), (10, (sh_l x10)), (12, (sh_i (((x12 + 1) : Nat) : Int)))]) [1, 2, 3, 4, 5, 6, 7, 8, 9, 0] rfl ?_
      exact k
    · have k := k.2 c2
      refine xr_aload_n (n := 0) (i := 0) rfl (List.mem_of_getElem? (i := 0) rfl) (by decide +kernel) ?_
      refine xr_getR (o := 33) rfl fl_Mod_108 rfl (by decide +kernel) ?_
      show sh_X g (d + 1) m_Mod_chance _ _ ((sh_r 129) :: _) _ _
      refine xr_bipush (n := 9) (v := 9) (by decide) (by decide +kernel) ?_
      refine xr_iload (i := 14) (List.mem_of_getElem? (i := 11) rfl) (by decide +kernel) ?_
      refine xr_iadd (by decide +kernel) ?_
      show sh_X g (d + 1) m_Mod_chance _ _ ((sh_i (((9 + x14) : Nat) : Int)) :: _) _ _
      refine xr_bipush (n := 9) (v := 9) (by decide) (by decide +kernel) ?_
      refine xr_aload_n (n := 0) (i := 0) rfl (List.mem_of_getElem? (i := 0) rfl) (by decide +kernel) ?_
      refine xr_getR (o := 33) rfl fl_Mod_108 rfl (by decide +kernel) ?_
      show sh_X g (d + 1) m_Mod_chance _ _ ((sh_r 129) :: _) _ _
      refine xr_bipush (n := 9) (v := 9) (by decide) (by decide +kernel) ?_
      refine xr_iload (i := 14) (List.mem_of_getElem? (i := 11) rfl) (by decide +kernel) ?_
      refine xr_iadd (by decide +kernel) ?_
      show sh_X g (d + 1) m_Mod_chance _ _ ((sh_i (((9 + x14) : Nat) : Int)) :: _) _ _
      obtain ⟨o, k⟩ := k
      refine xr_ialdN (j := (9 + x14)) rfl rfl o (by decide +kernel) ?_
      refine xr_iconst (n := 3) (by decide +kernel) ?_
      refine xr_iadd (by decide +kernel) ?_
      show sh_X g (d + 1) m_Mod_chance _ _ ((sh_i ((mem 129 (9 + x14)) + 3)) :: _) _ _
      refine xr_mmin ml_Mod_352 (Nat.le_of_ble_eq_true rfl) (by decide +kernel) ?_
      have o9 := True.intro
      obtain ⟨o, k⟩ := k
      refine xr_iastN (j := (9 + x14)) rfl rfl o (by decide +kernel) ?_
      have k := k _ rfl
      generalize hg_m3 : ms mem 129 (ru (mem 129) (9 + x14) (if (i3 ((mem 129 (9 + x14)) + 3)) < (i3 9) then ((mem 129 (9 + x14)) + 3) else (9 : Int))) = m3 at k ⊢
      refine xr_iinc (n := 1) (lo' := [(14, (sh_i (((x14 + 1) : Nat) : Int))), (0, (sh_r 96)), (1, (sh_i thief)), (2, (sh_i day)), (3, (sh_i nights)), (4, (sh_i odds)), (5, (sh_l x5)), (7, (sh_l x7)), (9, (sh_i (x9 : Int))), (10, (sh_l x10)), (12, (sh_i (x12 : Int))), (13, (sh_i x13))]) (List.mem_of_getElem? (i := 11) rfl) (by decide) rfl (by decide +kernel) ?_
      refine xr_goto (off := (-46)) (tgt := 152) (by decide) (by decide +kernel) ?_
      refine xr_sub (lo' := [(0, (sh_r 96)), (1, (sh_i thief)), (2, (sh_i day)), (3, (sh_i nights)), (4, (sh_i odds)), (5, (sh_l x5)), (7, (sh_l x7)), (9, (sh_i (x9 : Int))), (10, (sh_l x10)), (12, (sh_i (x12 : Int))), (13, (sh_i x13)), (14, (sh_i (((x14 + 1) : Nat) : Int)))]) [1, 2, 3, 4, 5, 6, 7, 8, 9, 10, 11, 0] rfl ?_
      exact k

theorem v_Mod_getsBy {g : sh_G} {d : Nat} {lose : Int} {tells : Int} {not0 : Int} {mine : Int} {his : Int}  {mem : sh_Mem} {Q : Option sh_V → sh_Mem → Prop}  (k : ((¬ (i3 mine) = 1 → ((¬ (i3 his) = 1 → Q (some (sh_i 0)) mem) ∧ ((i3 his) = 1 → Q (some (sh_i not0)) mem))) ∧ ((i3 mine) = 1 → ((¬ (i3 his) = 1 → Q (some (sh_i tells)) mem) ∧ ((i3 his) = 1 → Q (some (sh_i (-lose))) mem))))) : sh_Cal g d m_Mod_getsBy [(sh_i lose), (sh_i tells), (sh_i not0), (sh_i mine), (sh_i his)] mem Q := by
  refine sh_met (by decide +kernel) (Nat.le_of_ble_eq_true rfl) (lo := [(0, (sh_i lose)), (1, (sh_i tells)), (2, (sh_i not0)), (3, (sh_i mine)), (4, (sh_i his))]) rfl ?_
  refine xr_iload_n (n := 3) (i := 3) rfl (List.mem_of_getElem? (i := 3) rfl) (by decide +kernel) ?_
  refine xr_iconst (n := 1) (by decide +kernel) ?_
  refine xr_icmp_ne (a' := (i3 mine)) (b' := 1) rfl (by decide) (off := 18) (tgt := 20) (by decide) (by decide +kernel) ⟨fun c1 => ?_, fun c1 => ?_⟩
  · have k := k.1 c1
    refine xr_iload (i := 4) (List.mem_of_getElem? (i := 4) rfl) (by decide +kernel) ?_
    refine xr_iconst (n := 1) (by decide +kernel) ?_
    refine xr_icmp_ne (a' := (i3 his)) (b' := 1) rfl (by decide) (off := 7) (tgt := 30) (by decide) (by decide +kernel) ⟨fun c2 => ?_, fun c2 => ?_⟩
    · have k := k.1 c2
      refine xr_iconst (n := 0) (by decide +kernel) ?_
      exact xr_iret rfl (by decide +kernel) k
    · have k := k.2 c2
      refine xr_iload_n (n := 2) (i := 2) rfl (List.mem_of_getElem? (i := 2) rfl) (by decide +kernel) ?_
      refine xr_goto (off := 4) (tgt := 31) (by decide) (by decide +kernel) ?_
      exact xr_iret rfl (by decide +kernel) k
  · have k := k.2 c1
    refine xr_iload (i := 4) (List.mem_of_getElem? (i := 4) rfl) (by decide +kernel) ?_
    refine xr_iconst (n := 1) (by decide +kernel) ?_
    refine xr_icmp_ne (a' := (i3 his)) (b' := 1) rfl (by decide) (off := 8) (tgt := 16) (by decide) (by decide +kernel) ⟨fun c3 => ?_, fun c3 => ?_⟩
    · have k := k.1 c3
      refine xr_iload_n (n := 1) (i := 1) rfl (List.mem_of_getElem? (i := 1) rfl) (by decide +kernel) ?_
      refine xr_goto (off := 14) (tgt := 31) (by decide) (by decide +kernel) ?_
      exact xr_iret rfl (by decide +kernel) k
    · have k := k.2 c3
      refine xr_iload_n (n := 0) (i := 0) rfl (List.mem_of_getElem? (i := 0) rfl) (by decide +kernel) ?_
      refine xr_ineg (by decide +kernel) ?_
      refine xr_goto (off := 18) (tgt := 31) (by decide) (by decide +kernel) ?_
      exact xr_iret rfl (by decide +kernel) k

theorem v_Mod_rests {g : sh_G} {d : Nat} {lose : Int} {tells : Int} {not0 : Int} {what : Int}  {mem : sh_Mem} {Q : Option sh_V → sh_Mem → Prop}  (k : (sh_Cal g d m_Mod_within [(sh_i lose), (sh_i 0), (sh_i 9)] mem fun rv m1 => ∃ r1 : Int, rv = some (sh_i r1) ∧ (((i3 r1) = 0 → sh_X g (d + 1) m_Mod_rests 41 [(0, (sh_r 96)), (1, (sh_i lose)), (2, (sh_i tells)), (3, (sh_i not0)), (4, (sh_i what))] [(sh_r 96)] m1 (sh_K m_Mod_rests Q)) ∧ (¬ (i3 r1) = 0 → (sh_Cal g d m_Mod_within [(sh_i tells), (sh_i 0), (sh_i 9)] m1 fun rv m2 => ∃ r2 : Int, rv = some (sh_i r2) ∧ (((i3 r2) = 0 → sh_X g (d + 1) m_Mod_rests 41 [(0, (sh_r 96)), (1, (sh_i lose)), (2, (sh_i tells)), (3, (sh_i not0)), (4, (sh_i what))] [(sh_r 96)] m2 (sh_K m_Mod_rests Q)) ∧ (¬ (i3 r2) = 0 → (sh_Cal g d m_Mod_within [(sh_i not0), (sh_i 0), (sh_i 9)] m2 fun rv m3 => ∃ r3 : Int, rv = some (sh_i r3) ∧ (((i3 r3) = 0 → sh_X g (d + 1) m_Mod_rests 41 [(0, (sh_r 96)), (1, (sh_i lose)), (2, (sh_i tells)), (3, (sh_i not0)), (4, (sh_i what))] [(sh_r 96)] m3 (sh_K m_Mod_rests Q)) ∧ (¬ (i3 r3) = 0 → (((i3 what) < (-1) → sh_X g (d + 1) m_Mod_rests 41 [(0, (sh_r 96)), (1, (sh_i lose)), (2, (sh_i tells)), (3, (sh_i not0)), (4, (sh_i what))] [(sh_r 96)] m3 (sh_K m_Mod_rests Q)) ∧ (¬ (i3 what) < (-1) → (∀ m4 : sh_Mem, m4 = ms m3 96 (ru (m3 96) 0 0) → ((¬ (i3 (m4 96 0)) = 1 → sh_X g (d + 1) m_Mod_rests 61 [(0, (sh_r 96)), (1, (sh_i lose)), (2, (sh_i tells)), (3, (sh_i not0)), (4, (sh_i what)), (5, (sh_i 0)), (6, (sh_i 0))] [] m4 (sh_K m_Mod_rests Q)) ∧ ((i3 (m4 96 0)) = 1 → Q (some (sh_i 0)) m4))))))))))))))) : sh_Cal g (d + 1) m_Mod_rests [(sh_r 96), (sh_i lose), (sh_i tells), (sh_i not0), (sh_i what)] mem Q := by
  refine sh_met (by decide +kernel) (Nat.le_of_ble_eq_true rfl) (lo := [(0, (sh_r 96)), (1, (sh_i lose)), (2, (sh_i tells)), (3, (sh_i not0)), (4, (sh_i what))]) rfl ?_
  refine xr_aload_n (n := 0) (i := 0) rfl (List.mem_of_getElem? (i := 0) rfl) (by decide +kernel) ?_
  refine xr_iload_n (n := 1) (i := 1) rfl (List.mem_of_getElem? (i := 1) rfl) (by decide +kernel) ?_
  refine xr_iconst (n := 0) (by decide +kernel) ?_
  refine xr_bipush (n := 9) (v := 9) (by decide) (by decide +kernel) ?_
  refine xr_callS (av := [(sh_i lose), (sh_i 0), (sh_i 9)]) mo_Mod_within ml_Mod_264 sa_Mod_within rfl (Nat.le_of_ble_eq_true rfl) (by decide +kernel) (sh_mono k ?_)
  rintro rv m1 ⟨r1, rfl, k⟩
  show sh_X g (d + 1) m_Mod_rests _ _ [(sh_i r1), (sh_r 96)] _ _
  refine xr_if_eq (a' := (i3 r1)) rfl (off := 33) (tgt := 41) (by decide) (by decide +kernel) ⟨fun c1 => ?_, fun c1 => ?_⟩
  · have k := k.1 c1
    refine xr_sub (lo' := [(0, (sh_r 96)), (1, (sh_i lose)), (2, (sh_i tells)), (3, (sh_i not0)), (4, (sh_i what))]) [0, 1, 2, 3, 4] rfl ?_
    exact k
  · have k := k.2 c1
    refine xr_iload_n (n := 2) (i := 2) rfl (List.mem_of_getElem? (i := 2) rfl) (by decide +kernel) ?_
    refine xr_iconst (n := 0) (by decide +kernel) ?_
    refine xr_bipush (n := 9) (v := 9) (by decide) (by decide +kernel) ?_
    refine xr_callS (av := [(sh_i tells), (sh_i 0), (sh_i 9)]) mo_Mod_within ml_Mod_264 sa_Mod_within rfl (Nat.le_of_ble_eq_true rfl) (by decide +kernel) (sh_mono k ?_)
    rintro rv m2 ⟨r2, rfl, k⟩
    show sh_X g (d + 1) m_Mod_rests _ _ [(sh_i r2), (sh_r 96)] _ _
    refine xr_if_eq (a' := (i3 r2)) rfl (off := 23) (tgt := 41) (by decide) (by decide +kernel) ⟨fun c2 => ?_, fun c2 => ?_⟩
    · have k := k.1 c2
      refine xr_sub (lo' := [(0, (sh_r 96)), (1, (sh_i lose)), (2, (sh_i tells)), (3, (sh_i not0)), (4, (sh_i what))]) [0, 1, 2, 3, 4] rfl ?_
      exact k
    · have k := k.2 c2
      refine xr_iload_n (n := 3) (i := 3) rfl (List.mem_of_getElem? (i := 3) rfl) (by decide +kernel) ?_
      refine xr_iconst (n := 0) (by decide +kernel) ?_
      refine xr_bipush (n := 9) (v := 9) (by decide) (by decide +kernel) ?_
      refine xr_callS (av := [(sh_i not0), (sh_i 0), (sh_i 9)]) mo_Mod_within ml_Mod_264 sa_Mod_within rfl (Nat.le_of_ble_eq_true rfl) (by decide +kernel) (sh_mono k ?_)
      rintro rv m3 ⟨r3, rfl, k⟩
      show sh_X g (d + 1) m_Mod_rests _ _ [(sh_i r3), (sh_r 96)] _ _
      refine xr_if_eq (a' := (i3 r3)) rfl (off := 13) (tgt := 41) (by decide) (by decide +kernel) ⟨fun c3 => ?_, fun c3 => ?_⟩
      · have k := k.1 c3
        refine xr_sub (lo' := [(0, (sh_r 96)), (1, (sh_i lose)), (2, (sh_i tells)), (3, (sh_i not0)), (4, (sh_i what))]) [0, 1, 2, 3, 4] rfl ?_
        exact k
      · have k := k.2 c3
        refine xr_iload (i := 4) (List.mem_of_getElem? (i := 4) rfl) (by decide +kernel) ?_
        refine xr_iconst (n := (-1)) (by decide +kernel) ?_
        refine xr_icmp_lt (a' := (i3 what)) (b' := (-1)) rfl (by decide) (off := 7) (tgt := 41) (by decide) (by decide +kernel) ⟨fun c4 => ?_, fun c4 => ?_⟩
        · have k := k.1 c4
          refine xr_sub (lo' := [(0, (sh_r 96)), (1, (sh_i lose)), (2, (sh_i tells)), (3, (sh_i not0)), (4, (sh_i what))]) [0, 1, 2, 3, 4] rfl ?_
          exact k
        · have k := k.2 c4
          refine xr_iconst (n := 0) (by decide +kernel) ?_
          refine xr_goto (off := 4) (tgt := 42) (by decide) (by decide +kernel) ?_
          refine xr_putI rfl pl_Mod_141 rfl (by decide +kernel) ?_
          have k := k _ rfl
          generalize hg_m4 : ms m3 96 (ru (m3 96) 0 0) = m4 at k ⊢
          refine xr_aload_n (n := 0) (i := 0) rfl (List.mem_of_getElem? (i := 0) rfl) (by decide +kernel) ?_
          refine xr_getI rfl fl_Mod_141 (by decide) (by decide +kernel) ?_
          refine xr_iconst (n := 1) (by decide +kernel) ?_
          refine xr_icmp_ne (a' := (i3 (m4 96 0))) (b' := 1) rfl (by decide) (off := 5) (tgt := 55) (by decide) (by decide +kernel) ⟨fun c5 => ?_, fun c5 => ?_⟩
          · have k := k.1 c5
            refine xr_iconst (n := 0) (by decide +kernel) ?_
            refine xr_istore (i := 5) (by decide) rfl (by decide +kernel) ?_
            refine xr_iconst (n := 0) (by decide +kernel) ?_
            refine xr_istore (i := 6) (by decide) rfl (by decide +kernel) ?_
            refine xr_sub (lo' := [(0, (sh_r 96)), (1, (sh_i lose)), (2, (sh_i tells)), (3, (sh_i not0)), (4, (sh_i what)), (5, (sh_i 0)), (6, (sh_i 0))]) [2, 3, 4, 5, 6, 1, 0] rfl ?_
            exact k
          · have k := k.2 c5
            refine xr_iconst (n := 0) (by decide +kernel) ?_
            exact xr_iret rfl (by decide +kernel) k
theorem v_Mod_rests_41 {g : sh_G} {d : Nat} {lose : Int} {tells : Int} {not0 : Int} {what : Int}  {mem : sh_Mem} {Q : Option sh_V → sh_Mem → Prop}   (k : (∀ m1 : sh_Mem, m1 = ms mem 96 (ru (mem 96) 0 1) → ((¬ (i3 (m1 96 0)) = 1 → sh_X g (d + 1) m_Mod_rests 61 [(0, (sh_r 96)), (1, (sh_i lose)), (2, (sh_i tells)), (3, (sh_i not0)), (4, (sh_i what)), (5, (sh_i 0)), (6, (sh_i 0))] [] m1 (sh_K m_Mod_rests Q)) ∧ ((i3 (m1 96 0)) = 1 → Q (some (sh_i 0)) m1)))) : sh_X g (d + 1) m_Mod_rests 41 [(0, (sh_r 96)), (1, (sh_i lose)), (2, (sh_i tells)), (3, (sh_i not0)), (4, (sh_i what))] [(sh_r 96)] mem (sh_K m_Mod_rests Q) := by
  refine xr_iconst (n := 1) (by decide +kernel) ?_
  refine xr_putI rfl pl_Mod_141 rfl (by decide +kernel) ?_
  have k := k _ rfl
  generalize hg_m1 : ms mem 96 (ru (mem 96) 0 1) = m1 at k ⊢
  refine xr_aload_n (n := 0) (i := 0) rfl (List.mem_of_getElem? (i := 0) rfl) (by decide +kernel) ?_
  refine xr_getI rfl fl_Mod_141 (by decide) (by decide +kernel) ?_
  refine xr_iconst (n := 1) (by decide +kernel) ?_
  refine xr_icmp_ne (a' := (i3 (m1 96 0))) (b' := 1) rfl (by decide) (off := 5) (tgt := 55) (by decide) (by decide +kernel) ⟨fun c1 => ?_, fun c1 => ?_⟩
  · have k := k.1 c1
    refine xr_iconst (n := 0) (by decide +kernel) ?_
    refine xr_istore (i := 5) (by decide) rfl (by decide +kernel) ?_
    refine xr_iconst (n := 0) (by decide +kernel) ?_
    refine xr_istore (i := 6) (by decide) rfl (by decide +kernel) ?_
    refine xr_sub (lo' := [(0, (sh_r 96)), (1, (sh_i lose)), (2, (sh_i tells)), (3, (sh_i not0)), (4, (sh_i what)), (5, (sh_i 0)), (6, (sh_i 0))]) [2, 3, 4, 5, 6, 1, 0] rfl ?_
    exact k
  · have k := k.2 c1
    refine xr_iconst (n := 0) (by decide +kernel) ?_
    exact xr_iret rfl (by decide +kernel) k
theorem v_Mod_rests_61 {g : sh_G} {d : Nat} {lose : Int} {tells : Int} {not0 : Int} {what : Int}  {mem : sh_Mem} {Q : Option sh_V → sh_Mem → Prop}  {x5 : Nat} {x6 : Nat} (k : ((4 ≤ (i3 (x6 : Int)) → ((¬ (i3 what) = (-1) → (∀ m1 : sh_Mem, m1 = ms mem 96 (ru (mem 96) 0 1) → ((¬ (i3 what) = (-1) → Q (some (sh_i 0)) m1) ∧ ((i3 what) = (-1) → Q (some (sh_i (x5 : Int))) m1)))) ∧ ((i3 what) = (-1) → (∀ m2 : sh_Mem, m2 = ms mem 96 (ru (mem 96) 0 0) → ((¬ (i3 what) = (-1) → Q (some (sh_i 0)) m2) ∧ ((i3 what) = (-1) → Q (some (sh_i (x5 : Int))) m2)))))) ∧ (¬ 4 ≤ (i3 (x6 : Int)) → (sh_Cal g d m_Mod_getsBy [(sh_i lose), (sh_i tells), (sh_i not0), (sh_i (1 - (i_div (x6 : Int) 2))), (sh_i (i_rem (x6 : Int) 2))] mem fun rv m3 => ∃ r1 : Int, rv = some (sh_i r1) ∧ (sh_Cal g d m_Mod_getsBy [(sh_i lose), (sh_i tells), (sh_i not0), (sh_i (i_div (x6 : Int) 2)), (sh_i (i_rem (x6 : Int) 2))] m3 fun rv m4 => ∃ r2 : Int, rv = some (sh_i r2) ∧ (((i3 r2) < (i3 r1) → sh_X g (d + 1) m_Mod_rests 61 [(0, (sh_r 96)), (1, (sh_i lose)), (2, (sh_i tells)), (3, (sh_i not0)), (4, (sh_i what)), (5, (sh_i (x5 : Int))), (6, (sh_i (((x6 + 1) : Nat) : Int)))] [] m4 (sh_K m_Mod_rests Q)) ∧ (¬ (i3 r2) < (i3 r1) → (sh_Cal g d m_Mod_getsBy [(sh_i lose), (sh_i tells), (sh_i not0), (sh_i (1 - (i_rem (x6 : Int) 2))), (sh_i (i_div (x6 : Int) 2))] m4 fun rv m5 => ∃ r3 : Int, rv = some (sh_i r3) ∧ (sh_Cal g d m_Mod_getsBy [(sh_i lose), (sh_i tells), (sh_i not0), (sh_i (i_rem (x6 : Int) 2)), (sh_i (i_div (x6 : Int) 2))] m5 fun rv m6 => ∃ r4 : Int, rv = some (sh_i r4) ∧ (((i3 r3) ≤ (i3 r4) → ((¬ (i3 (x5 : Int)) = (i3 what) → sh_X g (d + 1) m_Mod_rests 61 [(0, (sh_r 96)), (1, (sh_i lose)), (2, (sh_i tells)), (3, (sh_i not0)), (4, (sh_i what)), (5, (sh_i (((x5 + 1) : Nat) : Int))), (6, (sh_i (((x6 + 1) : Nat) : Int)))] [] m6 (sh_K m_Mod_rests Q)) ∧ ((i3 (x5 : Int)) = (i3 what) → Q (some (sh_i (x6 : Int))) m6))) ∧ (¬ (i3 r3) ≤ (i3 r4) → sh_X g (d + 1) m_Mod_rests 61 [(0, (sh_r 96)), (1, (sh_i lose)), (2, (sh_i tells)), (3, (sh_i not0)), (4, (sh_i what)), (5, (sh_i (x5 : Int))), (6, (sh_i (((x6 + 1) : Nat) : Int)))] [] m6 (sh_K m_Mod_rests Q)))))))))))) : sh_X g (d + 1) m_Mod_rests 61 [(0, (sh_r 96)), (1, (sh_i lose)), (2, (sh_i tells)), (3, (sh_i not0)), (4, (sh_i what)), (5, (sh_i (x5 : Int))), (6, (sh_i (x6 : Int)))] [] mem (sh_K m_Mod_rests Q) := by
  refine xr_iload (i := 6) (List.mem_of_getElem? (i := 6) rfl) (by decide +kernel) ?_
  refine xr_iconst (n := 4) (by decide +kernel) ?_
  refine xr_icmp_ge (a' := (i3 (x6 : Int))) (b' := 4) rfl (by decide) (off := 87) (tgt := 151) (by decide) (by decide +kernel) ⟨fun c1 => ?_, fun c1 => ?_⟩
  · have k := k.1 c1
    refine xr_aload_n (n := 0) (i := 0) rfl (List.mem_of_getElem? (i := 0) rfl) (by decide +kernel) ?_
    refine xr_iload (i := 4) (List.mem_of_getElem? (i := 4) rfl) (by decide +kernel) ?_
    refine xr_iconst (n := (-1)) (by decide +kernel) ?_
    refine xr_icmp_ne (a' := (i3 what)) (b' := (-1)) rfl (by decide) (off := 7) (tgt := 162) (by decide) (by decide +kernel) ⟨fun c2 => ?_, fun c2 => ?_⟩
    · have k := k.1 c2
      refine xr_iconst (n := 1) (by decide +kernel) ?_
      refine xr_putI rfl pl_Mod_141 rfl (by decide +kernel) ?_
      have k := k _ rfl
      generalize hg_m1 : ms mem 96 (ru (mem 96) 0 1) = m1 at k ⊢
      refine xr_iload (i := 4) (List.mem_of_getElem? (i := 4) rfl) (by decide +kernel) ?_
      refine xr_iconst (n := (-1)) (by decide +kernel) ?_
      refine xr_icmp_ne (a' := (i3 what)) (b' := (-1)) rfl (by decide) (off := 8) (tgt := 177) (by decide) (by decide +kernel) ⟨fun c3 => ?_, fun c3 => ?_⟩
      · have k := k.1 c3
        refine xr_iconst (n := 0) (by decide +kernel) ?_
        exact xr_iret rfl (by decide +kernel) k
      · have k := k.2 c3
        refine xr_iload (i := 5) (List.mem_of_getElem? (i := 5) rfl) (by decide +kernel) ?_
        refine xr_goto (off := 4) (tgt := 178) (by decide) (by decide +kernel) ?_
        exact xr_iret rfl (by decide +kernel) k
    · have k := k.2 c2
      refine xr_iconst (n := 0) (by decide +kernel) ?_
      refine xr_goto (off := 4) (tgt := 163) (by decide) (by decide +kernel) ?_
      refine xr_putI rfl pl_Mod_141 rfl (by decide +kernel) ?_
      have k := k _ rfl
      generalize hg_m2 : ms mem 96 (ru (mem 96) 0 0) = m2 at k ⊢
      refine xr_iload (i := 4) (List.mem_of_getElem? (i := 4) rfl) (by decide +kernel) ?_
      refine xr_iconst (n := (-1)) (by decide +kernel) ?_
      refine xr_icmp_ne (a' := (i3 what)) (b' := (-1)) rfl (by decide) (off := 8) (tgt := 177) (by decide) (by decide +kernel) ⟨fun c4 => ?_, fun c4 => ?_⟩
      · have k := k.1 c4
        refine xr_iconst (n := 0) (by decide +kernel) ?_
        exact xr_iret rfl (by decide +kernel) k
      · have k := k.2 c4
        refine xr_iload (i := 5) (List.mem_of_getElem? (i := 5) rfl) (by decide +kernel) ?_
        refine xr_goto (off := 4) (tgt := 178) (by decide) (by decide +kernel) ?_
        exact xr_iret rfl (by decide +kernel) k
  · have k := k.2 c1
    refine xr_iload (i := 6) (List.mem_of_getElem? (i := 6) rfl) (by decide +kernel) ?_
    refine xr_iconst (n := 2) (by decide +kernel) ?_
    refine xr_idiv (by decide) (by decide +kernel) ?_
    refine xr_istore (i := 7) (by decide) rfl (by decide +kernel) ?_
    refine xr_iload (i := 6) (List.mem_of_getElem? (i := 7) rfl) (by decide +kernel) ?_
    refine xr_iconst (n := 2) (by decide +kernel) ?_
    refine xr_irem (by decide) (by decide +kernel) ?_
    refine xr_istore (i := 8) (by decide) rfl (by decide +kernel) ?_
    refine xr_iload_n (n := 1) (i := 1) rfl (List.mem_of_getElem? (i := 3) rfl) (by decide +kernel) ?_
    refine xr_iload_n (n := 2) (i := 2) rfl (List.mem_of_getElem? (i := 4) rfl) (by decide +kernel) ?_
    refine xr_iload_n (n := 3) (i := 3) rfl (List.mem_of_getElem? (i := 5) rfl) (by decide +kernel) ?_
    refine xr_iconst (n := 1) (by decide +kernel) ?_
    refine xr_iload (i := 7) (List.mem_of_getElem? (i := 1) rfl) (by decide +kernel) ?_
    refine xr_isub (by decide +kernel) ?_
    show sh_X g (d + 1) m_Mod_rests _ _ ((sh_i (1 - (i_div (x6 : Int) 2))) :: _) _ _
    refine xr_iload (i := 8) (List.mem_of_getElem? (i := 0) rfl) (by decide +kernel) ?_
    refine xr_callS (av := [(sh_i lose), (sh_i tells), (sh_i not0), (sh_i (1 - (i_div (x6 : Int) 2))), (sh_i (i_rem (x6 : Int) 2))]) mo_Mod_getsBy ml_Mod_480 sa_Mod_getsBy rfl (Nat.le_of_ble_eq_true rfl) (by decide +kernel) (sh_mono k ?_)
    rintro rv m3 ⟨r1, rfl, k⟩
    show sh_X g (d + 1) m_Mod_rests _ _ [(sh_i r1)] _ _
    refine xr_iload_n (n := 1) (i := 1) rfl (List.mem_of_getElem? (i := 3) rfl) (by decide +kernel) ?_
    refine xr_iload_n (n := 2) (i := 2) rfl (List.mem_of_getElem? (i := 4) rfl) (by decide +kernel) ?_
    refine xr_iload_n (n := 3) (i := 3) rfl (List.mem_of_getElem? (i := 5) rfl) (by decide +kernel) ?_
    refine xr_iload (i := 7) (List.mem_of_getElem? (i := 1) rfl) (by decide +kernel) ?_
    refine xr_iload (i := 8) (List.mem_of_getElem? (i := 0) rfl) (by decide +kernel) ?_
    refine xr_callS (av := [(sh_i lose), (sh_i tells), (sh_i not0), (sh_i (i_div (x6 : Int) 2)), (sh_i (i_rem (x6 : Int) 2))]) mo_Mod_getsBy ml_Mod_480 sa_Mod_getsBy rfl (Nat.le_of_ble_eq_true rfl) (by decide +kernel) (sh_mono k ?_)
    rintro rv m4 ⟨r2, rfl, k⟩
    show sh_X g (d + 1) m_Mod_rests _ _ [(sh_i r2), (sh_i r1)] _ _
    refine xr_icmp_gt (a' := (i3 r1)) (b' := (i3 r2)) rfl rfl (off := 44) (tgt := 145) (by decide) (by decide +kernel) ⟨fun c5 => ?_, fun c5 => ?_⟩
    · have k := k.1 c5
      refine xr_iinc (n := 1) (lo' := [(6, (sh_i (((x6 + 1) : Nat) : Int))), (8, (sh_i (i_rem (x6 : Int) 2))), (7, (sh_i (i_div (x6 : Int) 2))), (0, (sh_r 96)), (1, (sh_i lose)), (2, (sh_i tells)), (3, (sh_i not0)), (4, (sh_i what)), (5, (sh_i (x5 : Int)))]) (List.mem_of_getElem? (i := 8) rfl) (by decide) rfl (by decide +kernel) ?_
      refine xr_goto (off := (-87)) (tgt := 61) (by decide) (by decide +kernel) ?_
      refine xr_sub (lo' := [(0, (sh_r 96)), (1, (sh_i lose)), (2, (sh_i tells)), (3, (sh_i not0)), (4, (sh_i what)), (5, (sh_i (x5 : Int))), (6, (sh_i (((x6 + 1) : Nat) : Int)))]) [3, 4, 5, 6, 7, 8, 0] rfl ?_
      exact k
    · have k := k.2 c5
      refine xr_iload_n (n := 1) (i := 1) rfl (List.mem_of_getElem? (i := 3) rfl) (by decide +kernel) ?_
      refine xr_iload_n (n := 2) (i := 2) rfl (List.mem_of_getElem? (i := 4) rfl) (by decide +kernel) ?_
      refine xr_iload_n (n := 3) (i := 3) rfl (List.mem_of_getElem? (i := 5) rfl) (by decide +kernel) ?_
      refine xr_iconst (n := 1) (by decide +kernel) ?_
      refine xr_iload (i := 8) (List.mem_of_getElem? (i := 0) rfl) (by decide +kernel) ?_
      refine xr_isub (by decide +kernel) ?_
      show sh_X g (d + 1) m_Mod_rests _ _ ((sh_i (1 - (i_rem (x6 : Int) 2))) :: _) _ _
      refine xr_iload (i := 7) (List.mem_of_getElem? (i := 1) rfl) (by decide +kernel) ?_
      refine xr_callS (av := [(sh_i lose), (sh_i tells), (sh_i not0), (sh_i (1 - (i_rem (x6 : Int) 2))), (sh_i (i_div (x6 : Int) 2))]) mo_Mod_getsBy ml_Mod_480 sa_Mod_getsBy rfl (Nat.le_of_ble_eq_true rfl) (by decide +kernel) (sh_mono k ?_)
      rintro rv m5 ⟨r3, rfl, k⟩
      show sh_X g (d + 1) m_Mod_rests _ _ [(sh_i r3)] _ _
      refine xr_iload_n (n := 1) (i := 1) rfl (List.mem_of_getElem? (i := 3) rfl) (by decide +kernel) ?_
      refine xr_iload_n (n := 2) (i := 2) rfl (List.mem_of_getElem? (i := 4) rfl) (by decide +kernel) ?_
      refine xr_iload_n (n := 3) (i := 3) rfl (List.mem_of_getElem? (i := 5) rfl) (by decide +kernel) ?_
      refine xr_iload (i := 8) (List.mem_of_getElem? (i := 0) rfl) (by decide +kernel) ?_
      refine xr_iload (i := 7) (List.mem_of_getElem? (i := 1) rfl) (by decide +kernel) ?_
      refine xr_callS (av := [(sh_i lose), (sh_i tells), (sh_i not0), (sh_i (i_rem (x6 : Int) 2)), (sh_i (i_div (x6 : Int) 2))]) mo_Mod_getsBy ml_Mod_480 sa_Mod_getsBy rfl (Nat.le_of_ble_eq_true rfl) (by decide +kernel) (sh_mono k ?_)
      rintro rv m6 ⟨r4, rfl, k⟩
      show sh_X g (d + 1) m_Mod_rests _ _ [(sh_i r4), (sh_i r3)] _ _
      refine xr_icmp_le (a' := (i3 r3)) (b' := (i3 r4)) rfl rfl (off := 6) (tgt := 132) (by decide) (by decide +kernel) ⟨fun c6 => ?_, fun c6 => ?_⟩
      · have k := k.1 c6
        refine xr_iload (i := 5) (List.mem_of_getElem? (i := 7) rfl) (by decide +kernel) ?_
        refine xr_iload (i := 4) (List.mem_of_getElem? (i := 6) rfl) (by decide +kernel) ?_
        refine xr_icmp_ne (a' := (i3 (x5 : Int))) (b' := (i3 what)) rfl rfl (off := 6) (tgt := 142) (by decide) (by decide +kernel) ⟨fun c7 => ?_, fun c7 => ?_⟩
        · have k := k.1 c7
          refine xr_iinc (n := 1) (lo' := [(5, (sh_i (((x5 + 1) : Nat) : Int))), (8, (sh_i (i_rem (x6 : Int) 2))), (7, (sh_i (i_div (x6 : Int) 2))), (0, (sh_r 96)), (1, (sh_i lose)), (2, (sh_i tells)), (3, (sh_i not0)), (4, (sh_i what)), (6, (sh_i (x6 : Int)))]) (List.mem_of_getElem? (i := 7) rfl) (by decide) rfl (by decide +kernel) ?_
          refine xr_iinc (n := 1) (lo' := [(6, (sh_i (((x6 + 1) : Nat) : Int))), (5, (sh_i (((x5 + 1) : Nat) : Int))), (8, (sh_i (i_rem (x6 : Int) 2))), (7, (sh_i (i_div (x6 : Int) 2))), (0, (sh_r 96)), (1, (sh_i lose)), (2, (sh_i tells)), (3, (sh_i not0)), (4, (sh_i what))]) (List.mem_of_getElem? (i := 8) rfl) (by decide) rfl (by decide +kernel) ?_
          refine xr_goto (off := (-87)) (tgt := 61) (by decide) (by decide +kernel) ?_
          refine xr_sub (lo' := [(0, (sh_r 96)), (1, (sh_i lose)), (2, (sh_i tells)), (3, (sh_i not0)), (4, (sh_i what)), (5, (sh_i (((x5 + 1) : Nat) : Int))), (6, (sh_i (((x6 + 1) : Nat) : Int)))]) [4, 5, 6, 7, 8, 1, 0] rfl ?_
          exact k
        · have k := k.2 c7
          refine xr_iload (i := 6) (List.mem_of_getElem? (i := 8) rfl) (by decide +kernel) ?_
          exact xr_iret rfl (by decide +kernel) k
      · have k := k.2 c6
        refine xr_goto (off := 16) (tgt := 145) (by decide) (by decide +kernel) ?_
        refine xr_iinc (n := 1) (lo' := [(6, (sh_i (((x6 + 1) : Nat) : Int))), (8, (sh_i (i_rem (x6 : Int) 2))), (7, (sh_i (i_div (x6 : Int) 2))), (0, (sh_r 96)), (1, (sh_i lose)), (2, (sh_i tells)), (3, (sh_i not0)), (4, (sh_i what)), (5, (sh_i (x5 : Int)))]) (List.mem_of_getElem? (i := 8) rfl) (by decide) rfl (by decide +kernel) ?_
        refine xr_goto (off := (-87)) (tgt := 61) (by decide) (by decide +kernel) ?_
        refine xr_sub (lo' := [(0, (sh_r 96)), (1, (sh_i lose)), (2, (sh_i tells)), (3, (sh_i not0)), (4, (sh_i what)), (5, (sh_i (x5 : Int))), (6, (sh_i (((x6 + 1) : Nat) : Int)))]) [3, 4, 5, 6, 7, 8, 0] rfl ?_
        exact k

theorem v_Mod_draws {g : sh_G} {d : Nat} {mm : Int}  {mem : sh_Mem} {Q : Option sh_V → sh_Mem → Prop}  (k : (∀ m1 : sh_Mem, m1 = ms mem 96 (ru (mem 96) 58 (l_rem (((mem 96 58) * 1103515245) + 12345) 2147483648)) → (¬ Int64.ofInt (i_2l mm) = 0 ∧ Q (some (sh_i (l_2i (l_rem (l_div (m1 96 58) 65536) (i_2l mm))))) m1))) : sh_Cal g d m_Mod_draws [(sh_r 96), (sh_i mm)] mem Q := by
  refine sh_met (by decide +kernel) (Nat.le_of_ble_eq_true rfl) (lo := [(0, (sh_r 96)), (1, (sh_i mm))]) rfl ?_
  refine xr_aload_n (n := 0) (i := 0) rfl (List.mem_of_getElem? (i := 0) rfl) (by decide +kernel) ?_
  refine xr_aload_n (n := 0) (i := 0) rfl (List.mem_of_getElem? (i := 0) rfl) (by decide +kernel) ?_
  refine xr_getL rfl fl_Mod_484 (by decide) (by decide +kernel) ?_
  refine xr_ldc2 (v := 1103515245) (by decide) kl_Mod_487 (by decide +kernel) ?_
  refine xr_lmul (by decide +kernel) ?_
  show sh_X g d m_Mod_draws _ _ ((sh_l ((mem 96 58) * 1103515245)) :: _) _ _
  refine xr_ldc2 (v := 12345) (by decide) kl_Mod_489 (by decide +kernel) ?_
  refine xr_ladd (by decide +kernel) ?_
  show sh_X g d m_Mod_draws _ _ ((sh_l (((mem 96 58) * 1103515245) + 12345)) :: _) _ _
  refine xr_ldc2 (v := 2147483648) (by decide) kl_Mod_491 (by decide +kernel) ?_
  refine xr_lrem (by decide) (by decide +kernel) ?_
  refine xr_putL rfl pl_Mod_484 rfl (by decide +kernel) ?_
  have k := k _ rfl
  generalize hg_m1 : ms mem 96 (ru (mem 96) 58 (l_rem (((mem 96 58) * 1103515245) + 12345) 2147483648)) = m1 at k ⊢
  refine xr_aload_n (n := 0) (i := 0) rfl (List.mem_of_getElem? (i := 0) rfl) (by decide +kernel) ?_
  refine xr_getL rfl fl_Mod_484 (by decide) (by decide +kernel) ?_
  refine xr_ldc2 (v := 65536) (by decide) kl_Mod_493 (by decide +kernel) ?_
  refine xr_ldiv (by decide) (by decide +kernel) ?_
  refine xr_iload_n (n := 1) (i := 1) rfl (List.mem_of_getElem? (i := 1) rfl) (by decide +kernel) ?_
  refine xr_i2l (by decide +kernel) ?_
  obtain ⟨o, k⟩ := k
  refine xr_lrem o (by decide +kernel) ?_
  refine xr_l2i (by decide +kernel) ?_
  exact xr_iret rfl (by decide +kernel) k

theorem v_Mod_lives {g : sh_G} {d : Nat}   {mem : sh_Mem} {Q : Option sh_V → sh_Mem → Prop}  (k : (((i3 (mem 98 1)) ≤ 0 → sh_X g (d + 1) m_Mod_lives 121 [(0, (sh_r 96)), (1, (sh_i 0))] [] mem (sh_K m_Mod_lives Q)) ∧ (¬ (i3 (mem 98 1)) ≤ 0 → (((i3 (mem 98 0)) ≤ 0 → sh_X g (d + 1) m_Mod_lives 121 [(0, (sh_r 96)), (1, (sh_i 0))] [] mem (sh_K m_Mod_lives Q)) ∧ (¬ (i3 (mem 98 0)) ≤ 0 → (sh_Cal g d m_Mod_draws [(sh_r 96), (sh_i (mem 98 1))] mem fun rv m1 => ∃ r1 : Int, rv = some (sh_i r1) ∧ (sh_Cal g d m_Mod_draws [(sh_r 96), (sh_i (m1 98 0))] m1 fun rv m2 => ∃ r2 : Int, rv = some (sh_i r2) ∧ (sh_Cal g d m_Mod_draws [(sh_r 96), (sh_i 4)] m2 fun rv m3 => ∃ r3 : Int, rv = some (sh_i r3) ∧ ((2 ≤ (i3 r3) → sh_X g (d + 1) m_Mod_lives 81 [(0, (sh_r 96)), (1, (sh_i 0)), (2, (sh_i r1)), (3, (sh_i r2)), (4, (sh_i r3))] [] m3 (sh_K m_Mod_lives Q)) ∧ (¬ 2 ≤ (i3 r3) → (sh_Cal g d m_Mod_couldSteal [(sh_r 96), (sh_i r1)] m3 fun rv m4 => ∃ r4 : Int, rv = some (sh_i r4) ∧ (((i3 r4) = 0 → sh_X g (d + 1) m_Mod_lives 81 [(0, (sh_r 96)), (1, (sh_i 0)), (2, (sh_i r1)), (3, (sh_i r2)), (4, (sh_i r3))] [] m4 (sh_K m_Mod_lives Q)) ∧ (¬ (i3 r4) = 0 → ((0 ≤ (1 + r2) ∧ (1 + r2) < 45) ∧ (((i3 (m4 129 ((1 + r2)).toNat)) ≤ 0 → sh_X g (d + 1) m_Mod_lives 81 [(0, (sh_r 96)), (1, (sh_i 0)), (2, (sh_i r1)), (3, (sh_i r2)), (4, (sh_i r3))] [] m4 (sh_K m_Mod_lives Q)) ∧ (¬ (i3 (m4 129 ((1 + r2)).toNat)) ≤ 0 → (sh_Cal g d m_Mod_steals [(sh_r 96), (sh_i r1), (sh_i r2)] m4 fun rv m5 => ∃ r5 : Int, rv = some (sh_i r5) ∧ sh_X g (d + 1) m_Mod_lives 81 [(0, (sh_r 96)), (1, (sh_i r5)), (2, (sh_i r1)), (3, (sh_i r2)), (4, (sh_i r3))] [] m5 (sh_K m_Mod_lives Q)))))))))))))))))) : sh_Cal g (d + 1) m_Mod_lives [(sh_r 96)] mem Q := by
  refine sh_met (by decide +kernel) (Nat.le_of_ble_eq_true rfl) (lo := [(0, (sh_r 96))]) rfl ?_
  refine xr_iconst (n := 0) (by decide +kernel) ?_
  refine xr_istore_n (n := 1) (i := 1) rfl (by decide) rfl (by decide +kernel) ?_
  refine xr_aload_n (n := 0) (i := 0) rfl (List.mem_of_getElem? (i := 1) rfl) (by decide +kernel) ?_
  refine xr_getR (o := 2) rfl fl_Mod_13 rfl (by decide +kernel) ?_
  show sh_X g (d + 1) m_Mod_lives _ _ ((sh_r 98) :: _) _ _
  refine xr_iconst (n := 1) (by decide +kernel) ?_
  refine xr_ialdN (j := 1) rfl rfl (by decide) (by decide +kernel) ?_
  refine xr_if_le (a' := (i3 (mem 98 1))) rfl (off := 113) (tgt := 121) (by decide) (by decide +kernel) ⟨fun c1 => ?_, fun c1 => ?_⟩
  · have k := k.1 c1
    refine xr_sub (lo' := [(0, (sh_r 96)), (1, (sh_i 0))]) [1, 0] rfl ?_
    exact k
  · have k := k.2 c1
    refine xr_aload_n (n := 0) (i := 0) rfl (List.mem_of_getElem? (i := 1) rfl) (by decide +kernel) ?_
    refine xr_getR (o := 2) rfl fl_Mod_13 rfl (by decide +kernel) ?_
    show sh_X g (d + 1) m_Mod_lives _ _ ((sh_r 98) :: _) _ _
    refine xr_iconst (n := 0) (by decide +kernel) ?_
    refine xr_ialdN (j := 0) rfl rfl (by decide) (by decide +kernel) ?_
    refine xr_if_le (a' := (i3 (mem 98 0))) rfl (off := 104) (tgt := 121) (by decide) (by decide +kernel) ⟨fun c2 => ?_, fun c2 => ?_⟩
    · have k := k.1 c2
      refine xr_sub (lo' := [(0, (sh_r 96)), (1, (sh_i 0))]) [1, 0] rfl ?_
      exact k
    · have k := k.2 c2
      refine xr_aload_n (n := 0) (i := 0) rfl (List.mem_of_getElem? (i := 1) rfl) (by decide +kernel) ?_
      refine xr_aload_n (n := 0) (i := 0) rfl (List.mem_of_getElem? (i := 1) rfl) (by decide +kernel) ?_
      refine xr_getR (o := 2) rfl fl_Mod_13 rfl (by decide +kernel) ?_
      show sh_X g (d + 1) m_Mod_lives _ _ ((sh_r 98) :: _) _ _
      refine xr_iconst (n := 1) (by decide +kernel) ?_
      refine xr_ialdN (j := 1) rfl rfl (by decide) (by decide +kernel) ?_
      refine xr_callV (av := [(sh_i (mem 98 1))]) rfl rfl rfl mo_Mod_draws ml_Mod_495 im_Mod_draws se_Mod_draws rfl (Nat.le_of_ble_eq_true rfl) (by decide +kernel) (sh_mono k ?_)
      rintro rv m1 ⟨r1, rfl, k⟩
      show sh_X g (d + 1) m_Mod_lives _ _ [(sh_i r1)] _ _
      refine xr_istore_n (n := 2) (i := 2) rfl (by decide) rfl (by decide +kernel) ?_
      refine xr_aload_n (n := 0) (i := 0) rfl (List.mem_of_getElem? (i := 2) rfl) (by decide +kernel) ?_
      refine xr_aload_n (n := 0) (i := 0) rfl (List.mem_of_getElem? (i := 2) rfl) (by decide +kernel) ?_
      refine xr_getR (o := 2) rfl fl_Mod_13 rfl (by decide +kernel) ?_
      show sh_X g (d + 1) m_Mod_lives _ _ ((sh_r 98) :: _) _ _
      refine xr_iconst (n := 0) (by decide +kernel) ?_
      refine xr_ialdN (j := 0) rfl rfl (by decide) (by decide +kernel) ?_
      refine xr_callV (av := [(sh_i (m1 98 0))]) rfl rfl rfl mo_Mod_draws ml_Mod_495 im_Mod_draws se_Mod_draws rfl (Nat.le_of_ble_eq_true rfl) (by decide +kernel) (sh_mono k ?_)
      rintro rv m2 ⟨r2, rfl, k⟩
      show sh_X g (d + 1) m_Mod_lives _ _ [(sh_i r2)] _ _
      refine xr_istore_n (n := 3) (i := 3) rfl (by decide) rfl (by decide +kernel) ?_
      refine xr_aload_n (n := 0) (i := 0) rfl (List.mem_of_getElem? (i := 3) rfl) (by decide +kernel) ?_
      refine xr_iconst (n := 4) (by decide +kernel) ?_
      refine xr_callV (av := [(sh_i 4)]) rfl rfl rfl mo_Mod_draws ml_Mod_495 im_Mod_draws se_Mod_draws rfl (Nat.le_of_ble_eq_true rfl) (by decide +kernel) (sh_mono k ?_)
      rintro rv m3 ⟨r3, rfl, k⟩
      show sh_X g (d + 1) m_Mod_lives _ _ [(sh_i r3)] _ _
      refine xr_istore (i := 4) (by decide) rfl (by decide +kernel) ?_
      refine xr_iload (i := 4) (List.mem_of_getElem? (i := 0) rfl) (by decide +kernel) ?_
      refine xr_iconst (n := 2) (by decide +kernel) ?_
      refine xr_icmp_ge (a' := (i3 r3)) (b' := 2) rfl (by decide) (off := 29) (tgt := 81) (by decide) (by decide +kernel) ⟨fun c3 => ?_, fun c3 => ?_⟩
      · have k := k.1 c3
        refine xr_sub (lo' := [(0, (sh_r 96)), (1, (sh_i 0)), (2, (sh_i r1)), (3, (sh_i r2)), (4, (sh_i r3))]) [4, 3, 2, 1, 0] rfl ?_
        exact k
      · have k := k.2 c3
        refine xr_aload_n (n := 0) (i := 0) rfl (List.mem_of_getElem? (i := 4) rfl) (by decide +kernel) ?_
        refine xr_iload_n (n := 2) (i := 2) rfl (List.mem_of_getElem? (i := 2) rfl) (by decide +kernel) ?_
        refine xr_callV (av := [(sh_i r1)]) rfl rfl rfl mo_Mod_couldSteal ml_Mod_393 im_Mod_couldSteal se_Mod_couldSteal rfl (Nat.le_of_ble_eq_true rfl) (by decide +kernel) (sh_mono k ?_)
        rintro rv m4 ⟨r4, rfl, k⟩
        show sh_X g (d + 1) m_Mod_lives _ _ [(sh_i r4)] _ _
        refine xr_if_eq (a' := (i3 r4)) rfl (off := 21) (tgt := 81) (by decide) (by decide +kernel) ⟨fun c4 => ?_, fun c4 => ?_⟩
        · have k := k.1 c4
          refine xr_sub (lo' := [(0, (sh_r 96)), (1, (sh_i 0)), (2, (sh_i r1)), (3, (sh_i r2)), (4, (sh_i r3))]) [4, 3, 2, 1, 0] rfl ?_
          exact k
        · have k := k.2 c4
          refine xr_aload_n (n := 0) (i := 0) rfl (List.mem_of_getElem? (i := 4) rfl) (by decide +kernel) ?_
          refine xr_getR (o := 33) rfl fl_Mod_108 rfl (by decide +kernel) ?_
          show sh_X g (d + 1) m_Mod_lives _ _ ((sh_r 129) :: _) _ _
          refine xr_iconst (n := 1) (by decide +kernel) ?_
          refine xr_iload_n (n := 3) (i := 3) rfl (List.mem_of_getElem? (i := 1) rfl) (by decide +kernel) ?_
          refine xr_iadd (by decide +kernel) ?_
          show sh_X g (d + 1) m_Mod_lives _ _ ((sh_i (1 + r2)) :: _) _ _
          obtain ⟨o, k⟩ := k
          refine xr_iald rfl o.1 o.2 (by decide +kernel) ?_
          refine xr_if_le (a' := (i3 (m4 129 ((1 + r2)).toNat))) rfl (off := 10) (tgt := 81) (by decide) (by decide +kernel) ⟨fun c5 => ?_, fun c5 => ?_⟩
          · have k := k.1 c5
            refine xr_sub (lo' := [(0, (sh_r 96)), (1, (sh_i 0)), (2, (sh_i r1)), (3, (sh_i r2)), (4, (sh_i r3))]) [4, 3, 2, 1, 0] rfl ?_
            exact k
          · have k := k.2 c5
            refine xr_aload_n (n := 0) (i := 0) rfl (List.mem_of_getElem? (i := 4) rfl) (by decide +kernel) ?_
            refine xr_iload_n (n := 2) (i := 2) rfl (List.mem_of_getElem? (i := 2) rfl) (by decide +kernel) ?_
            refine xr_iload_n (n := 3) (i := 3) rfl (List.mem_of_getElem? (i := 1) rfl) (by decide +kernel) ?_
            refine xr_callV (av := [(sh_i r1), (sh_i r2)]) rfl rfl rfl mo_Mod_steals ml_Mod_399 im_Mod_steals se_Mod_steals rfl (Nat.le_of_ble_eq_true rfl) (by decide +kernel) (sh_mono k ?_)
            rintro rv m5 ⟨r5, rfl, k⟩
            show sh_X g (d + 1) m_Mod_lives _ _ [(sh_i r5)] _ _
            refine xr_istore_n (n := 1) (i := 1) rfl (by decide) rfl (by decide +kernel) ?_
            refine xr_sub (lo' := [(0, (sh_r 96)), (1, (sh_i r5)), (2, (sh_i r1)), (3, (sh_i r2)), (4, (sh_i r3))]) [4, 0, 3, 2, 1] rfl ?_
            exact k
theorem v_Mod_lives_121 {g : sh_G} {d : Nat}   {mem : sh_Mem} {Q : Option sh_V → sh_Mem → Prop}  {x1 : Int} (k : (sh_Cal g d m_Mod_passes [(sh_r 96)] mem fun rv m1 => rv = none ∧ Q (some (sh_i x1)) m1)) : sh_X g (d + 1) m_Mod_lives 121 [(0, (sh_r 96)), (1, (sh_i x1))] [] mem (sh_K m_Mod_lives Q) := by
  refine xr_aload_n (n := 0) (i := 0) rfl (List.mem_of_getElem? (i := 0) rfl) (by decide +kernel) ?_
  refine xr_callV (av := []) rfl rfl rfl mo_Mod_passes ml_Mod_414 im_Mod_passes se_Mod_passes rfl (Nat.le_of_ble_eq_true rfl) (by decide +kernel) (sh_mono k ?_)
  rintro rv m1 ⟨rfl, k⟩
  show sh_X g (d + 1) m_Mod_lives _ _ [] _ _
  refine xr_iload_n (n := 1) (i := 1) rfl (List.mem_of_getElem? (i := 1) rfl) (by decide +kernel) ?_
  exact xr_iret rfl (by decide +kernel) k
theorem v_Mod_lives_81 {g : sh_G} {d : Nat}   {mem : sh_Mem} {Q : Option sh_V → sh_Mem → Prop}  {x1 : Int} {x2 : Int} {x3 : Int} {x4 : Int} (k : ((¬ (i3 x4) = 2 → sh_X g (d + 1) m_Mod_lives 101 [(0, (sh_r 96)), (1, (sh_i x1)), (2, (sh_i x2)), (3, (sh_i x3)), (4, (sh_i x4))] [] mem (sh_K m_Mod_lives Q)) ∧ ((i3 x4) = 2 → (sh_Cal g d m_Mod_canDeal [(sh_r 96), (sh_i x2)] mem fun rv m1 => ∃ r1 : Int, rv = some (sh_i r1) ∧ (((i3 r1) = 0 → sh_X g (d + 1) m_Mod_lives 101 [(0, (sh_r 96)), (1, (sh_i x1)), (2, (sh_i x2)), (3, (sh_i x3)), (4, (sh_i x4))] [] m1 (sh_K m_Mod_lives Q)) ∧ (¬ (i3 r1) = 0 → (sh_Cal g d m_Mod_sellsIt [(sh_r 96), (sh_i x2)] m1 fun rv m2 => ∃ r2 : Int, rv = some (sh_i r2) ∧ sh_X g (d + 1) m_Mod_lives 101 [(0, (sh_r 96)), (1, (sh_i x1)), (2, (sh_i x2)), (3, (sh_i x3)), (4, (sh_i x4))] [] m2 (sh_K m_Mod_lives Q)))))))) : sh_X g (d + 1) m_Mod_lives 81 [(0, (sh_r 96)), (1, (sh_i x1)), (2, (sh_i x2)), (3, (sh_i x3)), (4, (sh_i x4))] [] mem (sh_K m_Mod_lives Q) := by
  refine xr_iload (i := 4) (List.mem_of_getElem? (i := 4) rfl) (by decide +kernel) ?_
  refine xr_iconst (n := 2) (by decide +kernel) ?_
  refine xr_icmp_ne (a' := (i3 x4)) (b' := 2) rfl (by decide) (off := 17) (tgt := 101) (by decide) (by decide +kernel) ⟨fun c1 => ?_, fun c1 => ?_⟩
  · have k := k.1 c1
    refine xr_sub (lo' := [(0, (sh_r 96)), (1, (sh_i x1)), (2, (sh_i x2)), (3, (sh_i x3)), (4, (sh_i x4))]) [0, 1, 2, 3, 4] rfl ?_
    exact k
  · have k := k.2 c1
    refine xr_aload_n (n := 0) (i := 0) rfl (List.mem_of_getElem? (i := 0) rfl) (by decide +kernel) ?_
    refine xr_iload_n (n := 2) (i := 2) rfl (List.mem_of_getElem? (i := 2) rfl) (by decide +kernel) ?_
    refine xr_callV (av := [(sh_i x2)]) rfl rfl rfl mo_Mod_canDeal ml_Mod_402 im_Mod_canDeal se_Mod_canDeal rfl (Nat.le_of_ble_eq_true rfl) (by decide +kernel) (sh_mono k ?_)
    rintro rv m1 ⟨r1, rfl, k⟩
    show sh_X g (d + 1) m_Mod_lives _ _ [(sh_i r1)] _ _
    refine xr_if_eq (a' := (i3 r1)) rfl (off := 9) (tgt := 101) (by decide) (by decide +kernel) ⟨fun c2 => ?_, fun c2 => ?_⟩
    · have k := k.1 c2
      refine xr_sub (lo' := [(0, (sh_r 96)), (1, (sh_i x1)), (2, (sh_i x2)), (3, (sh_i x3)), (4, (sh_i x4))]) [0, 1, 2, 3, 4] rfl ?_
      exact k
    · have k := k.2 c2
      refine xr_aload_n (n := 0) (i := 0) rfl (List.mem_of_getElem? (i := 0) rfl) (by decide +kernel) ?_
      refine xr_iload_n (n := 2) (i := 2) rfl (List.mem_of_getElem? (i := 2) rfl) (by decide +kernel) ?_
      refine xr_callV (av := [(sh_i x2)]) rfl rfl rfl mo_Mod_sellsIt ml_Mod_405 im_Mod_sellsIt se_Mod_sellsIt rfl (Nat.le_of_ble_eq_true rfl) (by decide +kernel) (sh_mono k ?_)
      rintro rv m2 ⟨r2, rfl, k⟩
      show sh_X g (d + 1) m_Mod_lives _ _ [(sh_i r2)] _ _
      refine xr_popI (by decide +kernel) ?_
      refine xr_sub (lo' := [(0, (sh_r 96)), (1, (sh_i x1)), (2, (sh_i x2)), (3, (sh_i x3)), (4, (sh_i x4))]) [0, 1, 2, 3, 4] rfl ?_
      exact k
theorem v_Mod_lives_101 {g : sh_G} {d : Nat}   {mem : sh_Mem} {Q : Option sh_V → sh_Mem → Prop}  {x1 : Int} {x2 : Int} {x3 : Int} {x4 : Int} (k : ((¬ (i3 x4) = 3 → sh_X g (d + 1) m_Mod_lives 121 [(0, (sh_r 96)), (1, (sh_i x1))] [] mem (sh_K m_Mod_lives Q)) ∧ ((i3 x4) = 3 → (sh_Cal g d m_Mod_canDeal [(sh_r 96), (sh_i x2)] mem fun rv m1 => ∃ r1 : Int, rv = some (sh_i r1) ∧ (((i3 r1) = 0 → sh_X g (d + 1) m_Mod_lives 121 [(0, (sh_r 96)), (1, (sh_i x1))] [] m1 (sh_K m_Mod_lives Q)) ∧ (¬ (i3 r1) = 0 → (sh_Cal g d m_Mod_spendsIt [(sh_r 96), (sh_i x2)] m1 fun rv m2 => ∃ r2 : Int, rv = some (sh_i r2) ∧ sh_X g (d + 1) m_Mod_lives 121 [(0, (sh_r 96)), (1, (sh_i x1))] [] m2 (sh_K m_Mod_lives Q)))))))) : sh_X g (d + 1) m_Mod_lives 101 [(0, (sh_r 96)), (1, (sh_i x1)), (2, (sh_i x2)), (3, (sh_i x3)), (4, (sh_i x4))] [] mem (sh_K m_Mod_lives Q) := by
  refine xr_iload (i := 4) (List.mem_of_getElem? (i := 4) rfl) (by decide +kernel) ?_
  refine xr_iconst (n := 3) (by decide +kernel) ?_
  refine xr_icmp_ne (a' := (i3 x4)) (b' := 3) rfl (by decide) (off := 17) (tgt := 121) (by decide) (by decide +kernel) ⟨fun c1 => ?_, fun c1 => ?_⟩
  · have k := k.1 c1
    refine xr_sub (lo' := [(0, (sh_r 96)), (1, (sh_i x1))]) [0, 1] rfl ?_
    exact k
  · have k := k.2 c1
    refine xr_aload_n (n := 0) (i := 0) rfl (List.mem_of_getElem? (i := 0) rfl) (by decide +kernel) ?_
    refine xr_iload_n (n := 2) (i := 2) rfl (List.mem_of_getElem? (i := 2) rfl) (by decide +kernel) ?_
    refine xr_callV (av := [(sh_i x2)]) rfl rfl rfl mo_Mod_canDeal ml_Mod_402 im_Mod_canDeal se_Mod_canDeal rfl (Nat.le_of_ble_eq_true rfl) (by decide +kernel) (sh_mono k ?_)
    rintro rv m1 ⟨r1, rfl, k⟩
    show sh_X g (d + 1) m_Mod_lives _ _ [(sh_i r1)] _ _
    refine xr_if_eq (a' := (i3 r1)) rfl (off := 9) (tgt := 121) (by decide) (by decide +kernel) ⟨fun c2 => ?_, fun c2 => ?_⟩
    · have k := k.1 c2
      refine xr_sub (lo' := [(0, (sh_r 96)), (1, (sh_i x1))]) [0, 1] rfl ?_
      exact k
    · have k := k.2 c2
      refine xr_aload_n (n := 0) (i := 0) rfl (List.mem_of_getElem? (i := 0) rfl) (by decide +kernel) ?_
      refine xr_iload_n (n := 2) (i := 2) rfl (List.mem_of_getElem? (i := 2) rfl) (by decide +kernel) ?_
      refine xr_callV (av := [(sh_i x2)]) rfl rfl rfl mo_Mod_spendsIt ml_Mod_408 im_Mod_spendsIt se_Mod_spendsIt rfl (Nat.le_of_ble_eq_true rfl) (by decide +kernel) (sh_mono k ?_)
      rintro rv m2 ⟨r2, rfl, k⟩
      show sh_X g (d + 1) m_Mod_lives _ _ [(sh_i r2)] _ _
      refine xr_popI (by decide +kernel) ?_
      refine xr_sub (lo' := [(0, (sh_r 96)), (1, (sh_i x1))]) [0, 1] rfl ?_
      exact k

theorem v_Mod_years {g : sh_G} {d : Nat} {seed : Int} {nights : Int} {what : Int}  {mem : sh_Mem} {Q : Option sh_V → sh_Mem → Prop}  (k : (∀ m1 : sh_Mem, m1 = ms mem 96 (ru (mem 96) 0 0) → (sh_Cal g d m_Mod_within [(sh_i seed), (sh_i 0), (sh_i 9999)] m1 fun rv m2 => ∃ r1 : Int, rv = some (sh_i r1) ∧ (((i3 r1) = 0 → Q (some (sh_i (-1))) m2) ∧ (¬ (i3 r1) = 0 → (sh_Cal g d m_Mod_within [(sh_i nights), (sh_i 1), (sh_i 99)] m2 fun rv m3 => ∃ r2 : Int, rv = some (sh_i r2) ∧ (((i3 r2) = 0 → Q (some (sh_i (-1))) m3) ∧ (¬ (i3 r2) = 0 → (sh_Cal g d m_Mod_within [(sh_i what), (sh_i 0), (sh_i 2)] m3 fun rv m4 => ∃ r3 : Int, rv = some (sh_i r3) ∧ ((¬ (i3 r3) = 0 → (∀ m5 : sh_Mem, m5 = ms m4 96 (ru (m4 96) 58 (i_2l seed)) → (sh_Cal g d m_Mod_copies [(sh_r 129), (sh_i 0), (sh_r 130), (sh_i 0)] m5 fun rv m6 => rv = none ∧ sh_X g (d + 1) m_Mod_years 62 [(0, (sh_r 96)), (1, (sh_i seed)), (2, (sh_i nights)), (3, (sh_i what)), (4, (sh_i 0)), (5, (sh_i 0))] [] m6 (sh_K m_Mod_years Q)))) ∧ ((i3 r3) = 0 → Q (some (sh_i (-1))) m4))))))))))) : sh_Cal g (d + 1) m_Mod_years [(sh_r 96), (sh_i seed), (sh_i nights), (sh_i what)] mem Q := by
  refine sh_met (by decide +kernel) (Nat.le_of_ble_eq_true rfl) (lo := [(0, (sh_r 96)), (1, (sh_i seed)), (2, (sh_i nights)), (3, (sh_i what))]) rfl ?_
  refine xr_aload_n (n := 0) (i := 0) rfl (List.mem_of_getElem? (i := 0) rfl) (by decide +kernel) ?_
  refine xr_iconst (n := 0) (by decide +kernel) ?_
  refine xr_putI rfl pl_Mod_141 rfl (by decide +kernel) ?_
  have k := k _ rfl
  generalize hg_m1 : ms mem 96 (ru (mem 96) 0 0) = m1 at k ⊢
  refine xr_iload_n (n := 1) (i := 1) rfl (List.mem_of_getElem? (i := 1) rfl) (by decide +kernel) ?_
  refine xr_iconst (n := 0) (by decide +kernel) ?_
  refine xr_sipush (n := 9999) (v := 9999) (by decide) (by decide +kernel) ?_
  refine xr_callS (av := [(sh_i seed), (sh_i 0), (sh_i 9999)]) mo_Mod_within ml_Mod_264 sa_Mod_within rfl (Nat.le_of_ble_eq_true rfl) (by decide +kernel) (sh_mono k ?_)
  rintro rv m2 ⟨r1, rfl, k⟩
  show sh_X g (d + 1) m_Mod_years _ _ [(sh_i r1)] _ _
  refine xr_if_eq (a' := (i3 r1)) rfl (off := 22) (tgt := 35) (by decide) (by decide +kernel) ⟨fun c1 => ?_, fun c1 => ?_⟩
  · have k := k.1 c1
    refine xr_iconst (n := (-1)) (by decide +kernel) ?_
    exact xr_iret rfl (by decide +kernel) k
  · have k := k.2 c1
    refine xr_iload_n (n := 2) (i := 2) rfl (List.mem_of_getElem? (i := 2) rfl) (by decide +kernel) ?_
    refine xr_iconst (n := 1) (by decide +kernel) ?_
    refine xr_bipush (n := 99) (v := 99) (by decide) (by decide +kernel) ?_
    refine xr_callS (av := [(sh_i nights), (sh_i 1), (sh_i 99)]) mo_Mod_within ml_Mod_264 sa_Mod_within rfl (Nat.le_of_ble_eq_true rfl) (by decide +kernel) (sh_mono k ?_)
    rintro rv m3 ⟨r2, rfl, k⟩
    show sh_X g (d + 1) m_Mod_years _ _ [(sh_i r2)] _ _
    refine xr_if_eq (a' := (i3 r2)) rfl (off := 12) (tgt := 35) (by decide) (by decide +kernel) ⟨fun c2 => ?_, fun c2 => ?_⟩
    · have k := k.1 c2
      refine xr_iconst (n := (-1)) (by decide +kernel) ?_
      exact xr_iret rfl (by decide +kernel) k
    · have k := k.2 c2
      refine xr_iload_n (n := 3) (i := 3) rfl (List.mem_of_getElem? (i := 3) rfl) (by decide +kernel) ?_
      refine xr_iconst (n := 0) (by decide +kernel) ?_
      refine xr_iconst (n := 2) (by decide +kernel) ?_
      refine xr_callS (av := [(sh_i what), (sh_i 0), (sh_i 2)]) mo_Mod_within ml_Mod_264 sa_Mod_within rfl (Nat.le_of_ble_eq_true rfl) (by decide +kernel) (sh_mono k ?_)
      rintro rv m4 ⟨r3, rfl, k⟩
      show sh_X g (d + 1) m_Mod_years _ _ [(sh_i r3)] _ _
      refine xr_if_ne (a' := (i3 r3)) rfl (off := 5) (tgt := 37) (by decide) (by decide +kernel) ⟨fun c3 => ?_, fun c3 => ?_⟩
      · have k := k.1 c3
        refine xr_aload_n (n := 0) (i := 0) rfl (List.mem_of_getElem? (i := 0) rfl) (by decide +kernel) ?_
        refine xr_iload_n (n := 1) (i := 1) rfl (List.mem_of_getElem? (i := 1) rfl) (by decide +kernel) ?_
        refine xr_i2l (by decide +kernel) ?_
        refine xr_putL rfl pl_Mod_484 rfl (by decide +kernel) ?_
        have k := k _ rfl
        generalize hg_m5 : ms m4 96 (ru (m4 96) 58 (i_2l seed)) = m5 at k ⊢
        refine xr_aload_n (n := 0) (i := 0) rfl (List.mem_of_getElem? (i := 0) rfl) (by decide +kernel) ?_
        refine xr_getR (o := 33) rfl fl_Mod_108 rfl (by decide +kernel) ?_
        show sh_X g (d + 1) m_Mod_years _ _ ((sh_r 129) :: _) _ _
        refine xr_iconst (n := 0) (by decide +kernel) ?_
        refine xr_aload_n (n := 0) (i := 0) rfl (List.mem_of_getElem? (i := 0) rfl) (by decide +kernel) ?_
        refine xr_getR (o := 34) rfl fl_Mod_111 rfl (by decide +kernel) ?_
        show sh_X g (d + 1) m_Mod_years _ _ ((sh_r 130) :: _) _ _
        refine xr_iconst (n := 0) (by decide +kernel) ?_
        refine xr_callS (av := [(sh_r 129), (sh_i 0), (sh_r 130), (sh_i 0)]) mo_Mod_copies ml_Mod_389 sa_Mod_copies rfl (Nat.le_of_ble_eq_true rfl) (by decide +kernel) (sh_mono k ?_)
        rintro rv m6 ⟨rfl, k⟩
        show sh_X g (d + 1) m_Mod_years _ _ [] _ _
        refine xr_iconst (n := 0) (by decide +kernel) ?_
        refine xr_istore (i := 4) (by decide) rfl (by decide +kernel) ?_
        refine xr_iconst (n := 0) (by decide +kernel) ?_
        refine xr_istore (i := 5) (by decide) rfl (by decide +kernel) ?_
        refine xr_sub (lo' := [(0, (sh_r 96)), (1, (sh_i seed)), (2, (sh_i nights)), (3, (sh_i what)), (4, (sh_i 0)), (5, (sh_i 0))]) [2, 3, 4, 5, 1, 0] rfl ?_
        exact k
      · have k := k.2 c3
        refine xr_iconst (n := (-1)) (by decide +kernel) ?_
        exact xr_iret rfl (by decide +kernel) k
theorem v_Mod_years_62 {g : sh_G} {d : Nat} {seed : Int} {nights : Int} {what : Int}  {mem : sh_Mem} {Q : Option sh_V → sh_Mem → Prop}  {x4 : Int} {x5 : Int} (k : (((i3 nights) ≤ (i3 x5) → (sh_Cal g d m_Mod_sumOf [(sh_r 96), (sh_i 37), (sh_i 4)] mem fun rv m1 => ∃ r1 : Int, rv = some (sh_i r1) ∧ (sh_Cal g d m_Mod_caughtOnes [(sh_r 96)] m1 fun rv m2 => ∃ r2 : Int, rv = some (sh_i r2) ∧ (sh_Cal g d m_Mod_copies [(sh_r 130), (sh_i 0), (sh_r 129), (sh_i 0)] m2 fun rv m3 => rv = none ∧ ((¬ (i3 what) = 0 → ((¬ (i3 what) = 1 → Q (some (sh_i r2)) m3) ∧ ((i3 what) = 1 → Q (some (sh_i r1)) m3))) ∧ ((i3 what) = 0 → Q (some (sh_i x4)) m3)))))) ∧ (¬ (i3 nights) ≤ (i3 x5) → (sh_Cal g d m_Mod_lives [(sh_r 96)] mem fun rv m4 => ∃ r3 : Int, rv = some (sh_i r3) ∧ sh_X g (d + 1) m_Mod_years 62 [(0, (sh_r 96)), (1, (sh_i seed)), (2, (sh_i nights)), (3, (sh_i what)), (4, (sh_i (x4 + r3))), (5, (sh_i (x5 + 1)))] [] m4 (sh_K m_Mod_years Q))))) : sh_X g (d + 1) m_Mod_years 62 [(0, (sh_r 96)), (1, (sh_i seed)), (2, (sh_i nights)), (3, (sh_i what)), (4, (sh_i x4)), (5, (sh_i x5))] [] mem (sh_K m_Mod_years Q) := by
  refine xr_iload (i := 5) (List.mem_of_getElem? (i := 5) rfl) (by decide +kernel) ?_
  refine xr_iload_n (n := 2) (i := 2) rfl (List.mem_of_getElem? (i := 2) rfl) (by decide +kernel) ?_
  refine xr_icmp_ge (a' := (i3 x5)) (b' := (i3 nights)) rfl rfl (off := 18) (tgt := 83) (by decide) (by decide +kernel) ⟨fun c1 => ?_, fun c1 => ?_⟩
  · have k := k.1 c1
    refine xr_aload_n (n := 0) (i := 0) rfl (List.mem_of_getElem? (i := 0) rfl) (by decide +kernel) ?_
    refine xr_bipush (n := 37) (v := 37) (by decide) (by decide +kernel) ?_
    refine xr_iconst (n := 4) (by decide +kernel) ?_
    refine xr_callV (av := [(sh_i 37), (sh_i 4)]) rfl rfl rfl mo_Mod_sumOf ml_Mod_426 im_Mod_sumOf se_Mod_sumOf rfl (Nat.le_of_ble_eq_true rfl) (by decide +kernel) (sh_mono k ?_)
    rintro rv m1 ⟨r1, rfl, k⟩
    show sh_X g (d + 1) m_Mod_years _ _ [(sh_i r1)] _ _
    refine xr_istore (i := 5) (by decide) rfl (by decide +kernel) ?_
    refine xr_aload_n (n := 0) (i := 0) rfl (List.mem_of_getElem? (i := 1) rfl) (by decide +kernel) ?_
    refine xr_callV (av := []) rfl rfl rfl mo_Mod_caughtOnes ml_Mod_423 im_Mod_caughtOnes se_Mod_caughtOnes rfl (Nat.le_of_ble_eq_true rfl) (by decide +kernel) (sh_mono k ?_)
    rintro rv m2 ⟨r2, rfl, k⟩
    show sh_X g (d + 1) m_Mod_years _ _ [(sh_i r2)] _ _
    refine xr_istore (i := 6) (by decide) rfl (by decide +kernel) ?_
    refine xr_aload_n (n := 0) (i := 0) rfl (List.mem_of_getElem? (i := 2) rfl) (by decide +kernel) ?_
    refine xr_getR (o := 34) rfl fl_Mod_111 rfl (by decide +kernel) ?_
    show sh_X g (d + 1) m_Mod_years _ _ ((sh_r 130) :: _) _ _
    refine xr_iconst (n := 0) (by decide +kernel) ?_
    refine xr_aload_n (n := 0) (i := 0) rfl (List.mem_of_getElem? (i := 2) rfl) (by decide +kernel) ?_
    refine xr_getR (o := 33) rfl fl_Mod_108 rfl (by decide +kernel) ?_
    show sh_X g (d + 1) m_Mod_years _ _ ((sh_r 129) :: _) _ _
    refine xr_iconst (n := 0) (by decide +kernel) ?_
    refine xr_callS (av := [(sh_r 130), (sh_i 0), (sh_r 129), (sh_i 0)]) mo_Mod_copies ml_Mod_389 sa_Mod_copies rfl (Nat.le_of_ble_eq_true rfl) (by decide +kernel) (sh_mono k ?_)
    rintro rv m3 ⟨rfl, k⟩
    show sh_X g (d + 1) m_Mod_years _ _ [] _ _
    refine xr_iload_n (n := 3) (i := 3) rfl (List.mem_of_getElem? (i := 5) rfl) (by decide +kernel) ?_
    refine xr_if_ne (a' := (i3 what)) rfl (off := 8) (tgt := 120) (by decide) (by decide +kernel) ⟨fun c2 => ?_, fun c2 => ?_⟩
    · have k := k.1 c2
      refine xr_iload_n (n := 3) (i := 3) rfl (List.mem_of_getElem? (i := 5) rfl) (by decide +kernel) ?_
      refine xr_iconst (n := 1) (by decide +kernel) ?_
      refine xr_icmp_ne (a' := (i3 what)) (b' := 1) rfl (by decide) (off := 8) (tgt := 130) (by decide) (by decide +kernel) ⟨fun c3 => ?_, fun c3 => ?_⟩
      · have k := k.1 c3
        refine xr_iload (i := 6) (List.mem_of_getElem? (i := 0) rfl) (by decide +kernel) ?_
        exact xr_iret rfl (by decide +kernel) k
      · have k := k.2 c3
        refine xr_iload (i := 5) (List.mem_of_getElem? (i := 1) rfl) (by decide +kernel) ?_
        refine xr_goto (off := 5) (tgt := 132) (by decide) (by decide +kernel) ?_
        exact xr_iret rfl (by decide +kernel) k
    · have k := k.2 c2
      refine xr_iload (i := 4) (List.mem_of_getElem? (i := 6) rfl) (by decide +kernel) ?_
      refine xr_goto (off := 15) (tgt := 132) (by decide) (by decide +kernel) ?_
      exact xr_iret rfl (by decide +kernel) k
  · have k := k.2 c1
    refine xr_iload (i := 4) (List.mem_of_getElem? (i := 4) rfl) (by decide +kernel) ?_
    refine xr_aload_n (n := 0) (i := 0) rfl (List.mem_of_getElem? (i := 0) rfl) (by decide +kernel) ?_
    refine xr_callV (av := []) rfl rfl rfl mo_Mod_lives ml_Mod_498 im_Mod_lives se_Mod_lives rfl (Nat.le_of_ble_eq_true rfl) (by decide +kernel) (sh_mono k ?_)
    rintro rv m4 ⟨r3, rfl, k⟩
    show sh_X g (d + 1) m_Mod_years _ _ [(sh_i r3), (sh_i x4)] _ _
    refine xr_iadd (by decide +kernel) ?_
    show sh_X g (d + 1) m_Mod_years _ _ ((sh_i (x4 + r3)) :: _) _ _
    refine xr_istore (i := 4) (by decide) rfl (by decide +kernel) ?_
    refine xr_iinc (n := 1) (lo' := [(5, (sh_i (x5 + 1))), (4, (sh_i (x4 + r3))), (0, (sh_r 96)), (1, (sh_i seed)), (2, (sh_i nights)), (3, (sh_i what))]) (List.mem_of_getElem? (i := 5) rfl) (by decide) rfl (by decide +kernel) ?_
    refine xr_goto (off := (-18)) (tgt := 62) (by decide) (by decide +kernel) ?_
    refine xr_sub (lo' := [(0, (sh_r 96)), (1, (sh_i seed)), (2, (sh_i nights)), (3, (sh_i what)), (4, (sh_i (x4 + r3))), (5, (sh_i (x5 + 1)))]) [2, 3, 4, 5, 1, 0] rfl ?_
    exact k

theorem v_Mod_mark {g : sh_G} {d : Nat} {mark : Int} {back : Int}  {mem : sh_Mem} {Q : Option sh_V → sh_Mem → Prop}  (k : (∀ m1 : sh_Mem, m1 = ms mem 96 (ru (mem 96) 0 0) → (sh_Cal g d m_Mod_within [(sh_i mark), (sh_i 0), (sh_i 3)] m1 fun rv m2 => ∃ r1 : Int, rv = some (sh_i r1) ∧ (((i3 r1) = 0 → Q (some (sh_i 0)) m2) ∧ (¬ (i3 r1) = 0 → (((i3 back) = 0 → sh_X g (d + 1) m_Mod_mark 29 [(0, (sh_r 96)), (1, (sh_i mark)), (2, (sh_i back))] [] m2 (sh_K m_Mod_mark Q)) ∧ (¬ (i3 back) = 0 → ((0 ≤ mark ∧ mark < 4) ∧ ((¬ (i3 (m2 135 (mark).toNat)) = 0 → sh_X g (d + 1) m_Mod_mark 29 [(0, (sh_r 96)), (1, (sh_i mark)), (2, (sh_i back))] [] m2 (sh_K m_Mod_mark Q)) ∧ ((i3 (m2 135 (mark).toNat)) = 0 → Q (some (sh_i 0)) m2)))))))))) : sh_Cal g (d + 1) m_Mod_mark [(sh_r 96), (sh_i mark), (sh_i back)] mem Q := by
  refine sh_met (by decide +kernel) (Nat.le_of_ble_eq_true rfl) (lo := [(0, (sh_r 96)), (1, (sh_i mark)), (2, (sh_i back))]) rfl ?_
  refine xr_aload_n (n := 0) (i := 0) rfl (List.mem_of_getElem? (i := 0) rfl) (by decide +kernel) ?_
  refine xr_iconst (n := 0) (by decide +kernel) ?_
  refine xr_putI rfl pl_Mod_141 rfl (by decide +kernel) ?_
  have k := k _ rfl
  generalize hg_m1 : ms mem 96 (ru (mem 96) 0 0) = m1 at k ⊢
  refine xr_iload_n (n := 1) (i := 1) rfl (List.mem_of_getElem? (i := 1) rfl) (by decide +kernel) ?_
  refine xr_iconst (n := 0) (by decide +kernel) ?_
  refine xr_iconst (n := 3) (by decide +kernel) ?_
  refine xr_callS (av := [(sh_i mark), (sh_i 0), (sh_i 3)]) mo_Mod_within ml_Mod_264 sa_Mod_within rfl (Nat.le_of_ble_eq_true rfl) (by decide +kernel) (sh_mono k ?_)
  rintro rv m2 ⟨r1, rfl, k⟩
  show sh_X g (d + 1) m_Mod_mark _ _ [(sh_i r1)] _ _
  refine xr_if_eq (a' := (i3 r1)) rfl (off := 16) (tgt := 27) (by decide) (by decide +kernel) ⟨fun c1 => ?_, fun c1 => ?_⟩
  · have k := k.1 c1
    refine xr_iconst (n := 0) (by decide +kernel) ?_
    exact xr_zret rfl (by decide +kernel) (by decide) k
  · have k := k.2 c1
    refine xr_iload_n (n := 2) (i := 2) rfl (List.mem_of_getElem? (i := 2) rfl) (by decide +kernel) ?_
    refine xr_if_eq (a' := (i3 back)) rfl (off := 14) (tgt := 29) (by decide) (by decide +kernel) ⟨fun c2 => ?_, fun c2 => ?_⟩
    · have k := k.1 c2
      refine xr_sub (lo' := [(0, (sh_r 96)), (1, (sh_i mark)), (2, (sh_i back))]) [0, 1, 2] rfl ?_
      exact k
    · have k := k.2 c2
      refine xr_aload_n (n := 0) (i := 0) rfl (List.mem_of_getElem? (i := 0) rfl) (by decide +kernel) ?_
      refine xr_getR (o := 39) rfl fl_Mod_126 rfl (by decide +kernel) ?_
      show sh_X g (d + 1) m_Mod_mark _ _ ((sh_r 135) :: _) _ _
      refine xr_iload_n (n := 1) (i := 1) rfl (List.mem_of_getElem? (i := 1) rfl) (by decide +kernel) ?_
      obtain ⟨o, k⟩ := k
      refine xr_zald rfl o.1 o.2 (by decide +kernel) ?_
      refine xr_if_ne (a' := (i3 (m2 135 (mark).toNat))) rfl (off := 5) (tgt := 29) (by decide) (by decide +kernel) ⟨fun c3 => ?_, fun c3 => ?_⟩
      · have k := k.1 c3
        refine xr_sub (lo' := [(0, (sh_r 96)), (1, (sh_i mark)), (2, (sh_i back))]) [0, 1, 2] rfl ?_
        exact k
      · have k := k.2 c3
        refine xr_iconst (n := 0) (by decide +kernel) ?_
        exact xr_zret rfl (by decide +kernel) (by decide) k
theorem v_Mod_mark_29 {g : sh_G} {d : Nat} {mark : Int} {back : Int}  {mem : sh_Mem} {Q : Option sh_V → sh_Mem → Prop}   (k : ((0 ≤ mark ∧ mark < 4) ∧ (∀ m1 : sh_Mem, m1 = ms mem 135 (ru (mem 135) (mark).toNat 1) → (((i3 back) = 0 → sh_X g (d + 1) m_Mod_mark 47 [(0, (sh_r 96)), (1, (sh_i mark)), (2, (sh_i back))] [(sh_i 0)] m1 (sh_K m_Mod_mark Q)) ∧ (¬ (i3 back) = 0 → sh_X g (d + 1) m_Mod_mark 47 [(0, (sh_r 96)), (1, (sh_i mark)), (2, (sh_i back))] [(sh_i (1 + mark))] m1 (sh_K m_Mod_mark Q)))))) : sh_X g (d + 1) m_Mod_mark 29 [(0, (sh_r 96)), (1, (sh_i mark)), (2, (sh_i back))] [] mem (sh_K m_Mod_mark Q) := by
  refine xr_aload_n (n := 0) (i := 0) rfl (List.mem_of_getElem? (i := 0) rfl) (by decide +kernel) ?_
  refine xr_getR (o := 39) rfl fl_Mod_126 rfl (by decide +kernel) ?_
  show sh_X g (d + 1) m_Mod_mark _ _ ((sh_r 135) :: _) _ _
  refine xr_iload_n (n := 1) (i := 1) rfl (List.mem_of_getElem? (i := 1) rfl) (by decide +kernel) ?_
  refine xr_iconst (n := 1) (by decide +kernel) ?_
  have o9 := True.intro
  obtain ⟨o, k⟩ := k
  refine xr_zast (by decide) rfl o.1 o.2 (by decide +kernel) ?_
  have k := k _ rfl
  generalize hg_m1 : ms mem 135 (ru (mem 135) (mark).toNat 1) = m1 at k ⊢
  refine xr_iload_n (n := 2) (i := 2) rfl (List.mem_of_getElem? (i := 2) rfl) (by decide +kernel) ?_
  refine xr_if_eq (a' := (i3 back)) rfl (off := 9) (tgt := 46) (by decide) (by decide +kernel) ⟨fun c1 => ?_, fun c1 => ?_⟩
  · have k := k.1 c1
    refine xr_iconst (n := 0) (by decide +kernel) ?_
    refine xr_sub (lo' := [(0, (sh_r 96)), (1, (sh_i mark)), (2, (sh_i back))]) [0, 1, 2] rfl ?_
    exact k
  · have k := k.2 c1
    refine xr_iconst (n := 1) (by decide +kernel) ?_
    refine xr_iload_n (n := 1) (i := 1) rfl (List.mem_of_getElem? (i := 1) rfl) (by decide +kernel) ?_
    refine xr_iadd (by decide +kernel) ?_
    show sh_X g (d + 1) m_Mod_mark _ _ ((sh_i (1 + mark)) :: _) _ _
    refine xr_goto (off := 4) (tgt := 47) (by decide) (by decide +kernel) ?_
    refine xr_sub (lo' := [(0, (sh_r 96)), (1, (sh_i mark)), (2, (sh_i back))]) [0, 1, 2] rfl ?_
    exact k
theorem v_Mod_mark_47 {g : sh_G} {d : Nat} {mark : Int} {back : Int}  {mem : sh_Mem} {Q : Option sh_V → sh_Mem → Prop}  {y0 : Int} (k : (((i3 back) = 0 → sh_X g (d + 1) m_Mod_mark 59 [(0, (sh_r 96)), (1, (sh_i mark)), (2, (sh_i back)), (3, (sh_i y0))] [(sh_i (1 + mark))] mem (sh_K m_Mod_mark Q)) ∧ (¬ (i3 back) = 0 → sh_X g (d + 1) m_Mod_mark 59 [(0, (sh_r 96)), (1, (sh_i mark)), (2, (sh_i back)), (3, (sh_i y0))] [(sh_i 0)] mem (sh_K m_Mod_mark Q)))) : sh_X g (d + 1) m_Mod_mark 47 [(0, (sh_r 96)), (1, (sh_i mark)), (2, (sh_i back))] [(sh_i y0)] mem (sh_K m_Mod_mark Q) := by
  refine xr_istore_n (n := 3) (i := 3) rfl (by decide) rfl (by decide +kernel) ?_
  refine xr_iload_n (n := 2) (i := 2) rfl (List.mem_of_getElem? (i := 3) rfl) (by decide +kernel) ?_
  refine xr_if_eq (a' := (i3 back)) rfl (off := 7) (tgt := 56) (by decide) (by decide +kernel) ⟨fun c1 => ?_, fun c1 => ?_⟩
  · have k := k.1 c1
    refine xr_iconst (n := 1) (by decide +kernel) ?_
    refine xr_iload_n (n := 1) (i := 1) rfl (List.mem_of_getElem? (i := 2) rfl) (by decide +kernel) ?_
    refine xr_iadd (by decide +kernel) ?_
    show sh_X g (d + 1) m_Mod_mark _ _ ((sh_i (1 + mark)) :: _) _ _
    refine xr_sub (lo' := [(0, (sh_r 96)), (1, (sh_i mark)), (2, (sh_i back)), (3, (sh_i y0))]) [1, 2, 3, 0] rfl ?_
    exact k
  · have k := k.2 c1
    refine xr_iconst (n := 0) (by decide +kernel) ?_
    refine xr_goto (off := 6) (tgt := 59) (by decide) (by decide +kernel) ?_
    refine xr_sub (lo' := [(0, (sh_r 96)), (1, (sh_i mark)), (2, (sh_i back)), (3, (sh_i y0))]) [1, 2, 3, 0] rfl ?_
    exact k
theorem v_Mod_mark_59 {g : sh_G} {d : Nat} {mark : Int} {back : Int}  {mem : sh_Mem} {Q : Option sh_V → sh_Mem → Prop}  {x3 : Int} {y0 : Int} (k : (sh_Cal g d m_Mod_laysLines [(sh_r 96), (sh_i x3), (sh_i y0)] mem fun rv m1 => rv = none ∧ (sh_Cal g d m_Mod_laysSeen [(sh_r 96), (sh_i x3), (sh_i y0)] m1 fun rv m2 => rv = none ∧ (((i3 back) = 0 → (sh_Cal g d m_Mod_copies [(sh_r 129), (sh_i 0), (sh_r 133), (sh_i (45 * mark))] m2 fun rv m3 => rv = none ∧ Q (some (sh_i 1)) m3)) ∧ (¬ (i3 back) = 0 → (sh_Cal g d m_Mod_copies [(sh_r 133), (sh_i (45 * mark)), (sh_r 129), (sh_i 0)] m2 fun rv m4 => rv = none ∧ (∀ m5 : sh_Mem, m5 = ms m4 96 (ru (m4 96) 51 0) → Q (some (sh_i 1)) m5))))))) : sh_X g (d + 1) m_Mod_mark 59 [(0, (sh_r 96)), (1, (sh_i mark)), (2, (sh_i back)), (3, (sh_i x3))] [(sh_i y0)] mem (sh_K m_Mod_mark Q) := by
  refine xr_istore (i := 4) (by decide) rfl (by decide +kernel) ?_
  refine xr_aload_n (n := 0) (i := 0) rfl (List.mem_of_getElem? (i := 1) rfl) (by decide +kernel) ?_
  refine xr_iload_n (n := 3) (i := 3) rfl (List.mem_of_getElem? (i := 4) rfl) (by decide +kernel) ?_
  refine xr_iload (i := 4) (List.mem_of_getElem? (i := 0) rfl) (by decide +kernel) ?_
  refine xr_callV (av := [(sh_i x3), (sh_i y0)]) rfl rfl rfl mo_Mod_laysLines ml_Mod_339 im_Mod_laysLines se_Mod_laysLines rfl (Nat.le_of_ble_eq_true rfl) (by decide +kernel) (sh_mono k ?_)
  rintro rv m1 ⟨rfl, k⟩
  show sh_X g (d + 1) m_Mod_mark _ _ [] _ _
  refine xr_aload_n (n := 0) (i := 0) rfl (List.mem_of_getElem? (i := 1) rfl) (by decide +kernel) ?_
  refine xr_iload_n (n := 3) (i := 3) rfl (List.mem_of_getElem? (i := 4) rfl) (by decide +kernel) ?_
  refine xr_iload (i := 4) (List.mem_of_getElem? (i := 0) rfl) (by decide +kernel) ?_
  refine xr_callV (av := [(sh_i x3), (sh_i y0)]) rfl rfl rfl mo_Mod_laysSeen ml_Mod_501 im_Mod_laysSeen se_Mod_laysSeen rfl (Nat.le_of_ble_eq_true rfl) (by decide +kernel) (sh_mono k ?_)
  rintro rv m2 ⟨rfl, k⟩
  show sh_X g (d + 1) m_Mod_mark _ _ [] _ _
  refine xr_iload_n (n := 2) (i := 2) rfl (List.mem_of_getElem? (i := 3) rfl) (by decide +kernel) ?_
  refine xr_if_eq (a' := (i3 back)) rfl (off := 27) (tgt := 103) (by decide) (by decide +kernel) ⟨fun c1 => ?_, fun c1 => ?_⟩
  · have k := k.1 c1
    refine xr_aload_n (n := 0) (i := 0) rfl (List.mem_of_getElem? (i := 1) rfl) (by decide +kernel) ?_
    refine xr_getR (o := 33) rfl fl_Mod_108 rfl (by decide +kernel) ?_
    show sh_X g (d + 1) m_Mod_mark _ _ ((sh_r 129) :: _) _ _
    refine xr_iconst (n := 0) (by decide +kernel) ?_
    refine xr_aload_n (n := 0) (i := 0) rfl (List.mem_of_getElem? (i := 1) rfl) (by decide +kernel) ?_
    refine xr_getR (o := 37) rfl fl_Mod_120 rfl (by decide +kernel) ?_
    show sh_X g (d + 1) m_Mod_mark _ _ ((sh_r 133) :: _) _ _
    refine xr_bipush (n := 45) (v := 45) (by decide) (by decide +kernel) ?_
    refine xr_iload_n (n := 1) (i := 1) rfl (List.mem_of_getElem? (i := 2) rfl) (by decide +kernel) ?_
    refine xr_imul (by decide +kernel) ?_
    show sh_X g (d + 1) m_Mod_mark _ _ ((sh_i (45 * mark)) :: _) _ _
    refine xr_callS (av := [(sh_r 129), (sh_i 0), (sh_r 133), (sh_i (45 * mark))]) mo_Mod_copies ml_Mod_389 sa_Mod_copies rfl (Nat.le_of_ble_eq_true rfl) (by decide +kernel) (sh_mono k ?_)
    rintro rv m3 ⟨rfl, k⟩
    show sh_X g (d + 1) m_Mod_mark _ _ [] _ _
    refine xr_iconst (n := 1) (by decide +kernel) ?_
    exact xr_zret rfl (by decide +kernel) (by decide) k
  · have k := k.2 c1
    refine xr_aload_n (n := 0) (i := 0) rfl (List.mem_of_getElem? (i := 1) rfl) (by decide +kernel) ?_
    refine xr_getR (o := 37) rfl fl_Mod_120 rfl (by decide +kernel) ?_
    show sh_X g (d + 1) m_Mod_mark _ _ ((sh_r 133) :: _) _ _
    refine xr_bipush (n := 45) (v := 45) (by decide) (by decide +kernel) ?_
    refine xr_iload_n (n := 1) (i := 1) rfl (List.mem_of_getElem? (i := 2) rfl) (by decide +kernel) ?_
    refine xr_imul (by decide +kernel) ?_
    show sh_X g (d + 1) m_Mod_mark _ _ ((sh_i (45 * mark)) :: _) _ _
    refine xr_aload_n (n := 0) (i := 0) rfl (List.mem_of_getElem? (i := 1) rfl) (by decide +kernel) ?_
    refine xr_getR (o := 33) rfl fl_Mod_108 rfl (by decide +kernel) ?_
    show sh_X g (d + 1) m_Mod_mark _ _ ((sh_r 129) :: _) _ _
    refine xr_iconst (n := 0) (by decide +kernel) ?_
    refine xr_callS (av := [(sh_r 133), (sh_i (45 * mark)), (sh_r 129), (sh_i 0)]) mo_Mod_copies ml_Mod_389 sa_Mod_copies rfl (Nat.le_of_ble_eq_true rfl) (by decide +kernel) (sh_mono k ?_)
    rintro rv m4 ⟨rfl, k⟩
    show sh_X g (d + 1) m_Mod_mark _ _ [] _ _
    refine xr_aload_n (n := 0) (i := 0) rfl (List.mem_of_getElem? (i := 1) rfl) (by decide +kernel) ?_
    refine xr_iconst (n := 0) (by decide +kernel) ?_
    refine xr_putI rfl pl_Mod_333 rfl (by decide +kernel) ?_
    have k := k _ rfl
    generalize hg_m5 : ms m4 96 (ru (m4 96) 51 0) = m5 at k ⊢
    refine xr_goto (off := 19) (tgt := 119) (by decide) (by decide +kernel) ?_
    refine xr_iconst (n := 1) (by decide +kernel) ?_
    exact xr_zret rfl (by decide +kernel) (by decide) k

theorem v_Mod_count {g : sh_G} {d : Nat} {what : Int}  {mem : sh_Mem} {Q : Option sh_V → sh_Mem → Prop}  (k : (∀ m1 : sh_Mem, m1 = ms mem 96 (ru (mem 96) 0 0) → (sh_Cal g d m_Mod_within [(sh_i what), (sh_i 0), (sh_i 11)] m1 fun rv m2 => ∃ r1 : Int, rv = some (sh_i r1) ∧ ((¬ (i3 r1) = 0 → ((2 ≤ (i3 what) → ((4 ≤ (i3 what) → ((6 ≤ (i3 what) → ((8 ≤ (i3 what) → ((10 ≤ (i3 what) → ((¬ (i3 what) = 10 → Q (some (sh_i (m2 96 1))) m2) ∧ ((i3 what) = 10 → Q (some (sh_i (m2 96 51))) m2))) ∧ (¬ 10 ≤ (i3 what) → ((¬ (i3 what) = 8 → Q (some (sh_i (m2 125 0))) m2) ∧ ((i3 what) = 8 → Q (some (sh_i (m2 121 0))) m2))))) ∧ (¬ 8 ≤ (i3 what) → ((¬ (i3 what) = 6 → (sh_Cal g d m_Mod_sumOf [(sh_r 96), (sh_i 41), (sh_i 4)] m2 fun rv m3 => ∃ r2 : Int, rv = some (sh_i r2) ∧ Q (some (sh_i r2)) m3)) ∧ ((i3 what) = 6 → (sh_Cal g d m_Mod_sumOf [(sh_r 96), (sh_i 37), (sh_i 4)] m2 fun rv m4 => ∃ r3 : Int, rv = some (sh_i r3) ∧ Q (some (sh_i r3)) m4)))))) ∧ (¬ 6 ≤ (i3 what) → ((¬ (i3 what) = 4 → (sh_Cal g d m_Mod_having [(sh_r 96)] m2 fun rv m5 => ∃ r4 : Int, rv = some (sh_i r4) ∧ Q (some (sh_i r4)) m5)) ∧ ((i3 what) = 4 → (sh_Cal g d m_Mod_caughtOnes [(sh_r 96)] m2 fun rv m6 => ∃ r5 : Int, rv = some (sh_i r5) ∧ Q (some (sh_i r5)) m6)))))) ∧ (¬ 4 ≤ (i3 what) → ((¬ (i3 what) = 2 → (sh_Cal g d m_Mod_sumOf [(sh_r 96), (sh_i 1), (sh_i 8)] m2 fun rv m7 => ∃ r6 : Int, rv = some (sh_i r6) ∧ Q (some (sh_i r6)) m7)) ∧ ((i3 what) = 2 → Q (some (sh_i (m2 129 0))) m2))))) ∧ (¬ 2 ≤ (i3 what) → ((0 ≤ what ∧ what < 4) ∧ Q (some (sh_i (m2 98 (what).toNat))) m2)))) ∧ ((i3 r1) = 0 → Q (some (sh_i (-1))) m2))))) : sh_Cal g (d + 1) m_Mod_count [(sh_r 96), (sh_i what)] mem Q := by
  refine sh_met (by decide +kernel) (Nat.le_of_ble_eq_true rfl) (lo := [(0, (sh_r 96)), (1, (sh_i what))]) rfl ?_
  refine xr_aload_n (n := 0) (i := 0) rfl (List.mem_of_getElem? (i := 0) rfl) (by decide +kernel) ?_
  refine xr_iconst (n := 0) (by decide +kernel) ?_
  refine xr_putI rfl pl_Mod_141 rfl (by decide +kernel) ?_
  have k := k _ rfl
  generalize hg_m1 : ms mem 96 (ru (mem 96) 0 0) = m1 at k ⊢
  refine xr_iload_n (n := 1) (i := 1) rfl (List.mem_of_getElem? (i := 1) rfl) (by decide +kernel) ?_
  refine xr_iconst (n := 0) (by decide +kernel) ?_
  refine xr_bipush (n := 11) (v := 11) (by decide) (by decide +kernel) ?_
  refine xr_callS (av := [(sh_i what), (sh_i 0), (sh_i 11)]) mo_Mod_within ml_Mod_264 sa_Mod_within rfl (Nat.le_of_ble_eq_true rfl) (by decide +kernel) (sh_mono k ?_)
  rintro rv m2 ⟨r1, rfl, k⟩
  show sh_X g (d + 1) m_Mod_count _ _ [(sh_i r1)] _ _
  refine xr_if_ne (a' := (i3 r1)) rfl (off := 5) (tgt := 17) (by decide) (by decide +kernel) ⟨fun c1 => ?_, fun c1 => ?_⟩
  · have k := k.1 c1
    refine xr_iload_n (n := 1) (i := 1) rfl (List.mem_of_getElem? (i := 1) rfl) (by decide +kernel) ?_
    refine xr_iconst (n := 2) (by decide +kernel) ?_
    refine xr_icmp_ge (a' := (i3 what)) (b' := 2) rfl (by decide) (off := 10) (tgt := 29) (by decide) (by decide +kernel) ⟨fun c2 => ?_, fun c2 => ?_⟩
    · have k := k.1 c2
      refine xr_iload_n (n := 1) (i := 1) rfl (List.mem_of_getElem? (i := 1) rfl) (by decide +kernel) ?_
      refine xr_iconst (n := 4) (by decide +kernel) ?_
      refine xr_icmp_ge (a' := (i3 what)) (b' := 4) rfl (by decide) (off := 25) (tgt := 56) (by decide) (by decide +kernel) ⟨fun c3 => ?_, fun c3 => ?_⟩
      · have k := k.1 c3
        refine xr_iload_n (n := 1) (i := 1) rfl (List.mem_of_getElem? (i := 1) rfl) (by decide +kernel) ?_
        refine xr_bipush (n := 6) (v := 6) (by decide) (by decide +kernel) ?_
        refine xr_icmp_ge (a' := (i3 what)) (b' := 6) rfl (by decide) (off := 20) (tgt := 79) (by decide) (by decide +kernel) ⟨fun c4 => ?_, fun c4 => ?_⟩
        · have k := k.1 c4
          refine xr_iload_n (n := 1) (i := 1) rfl (List.mem_of_getElem? (i := 1) rfl) (by decide +kernel) ?_
          refine xr_bipush (n := 8) (v := 8) (by decide) (by decide +kernel) ?_
          refine xr_icmp_ge (a' := (i3 what)) (b' := 8) rfl (by decide) (off := 22) (tgt := 104) (by decide) (by decide +kernel) ⟨fun c5 => ?_, fun c5 => ?_⟩
          · have k := k.1 c5
            refine xr_iload_n (n := 1) (i := 1) rfl (List.mem_of_getElem? (i := 1) rfl) (by decide +kernel) ?_
            refine xr_bipush (n := 10) (v := 10) (by decide) (by decide +kernel) ?_
            refine xr_icmp_ge (a' := (i3 what)) (b' := 10) rfl (by decide) (off := 25) (tgt := 132) (by decide) (by decide +kernel) ⟨fun c6 => ?_, fun c6 => ?_⟩
            · have k := k.1 c6
              refine xr_iload_n (n := 1) (i := 1) rfl (List.mem_of_getElem? (i := 1) rfl) (by decide +kernel) ?_
              refine xr_bipush (n := 10) (v := 10) (by decide) (by decide +kernel) ?_
              refine xr_icmp_ne (a' := (i3 what)) (b' := 10) rfl (by decide) (off := 10) (tgt := 145) (by decide) (by decide +kernel) ⟨fun c7 => ?_, fun c7 => ?_⟩
              · have k := k.1 c7
                refine xr_aload_n (n := 0) (i := 0) rfl (List.mem_of_getElem? (i := 0) rfl) (by decide +kernel) ?_
                refine xr_getI rfl fl_Mod_147 (by decide) (by decide +kernel) ?_
                exact xr_iret rfl (by decide +kernel) k
              · have k := k.2 c7
                refine xr_aload_n (n := 0) (i := 0) rfl (List.mem_of_getElem? (i := 0) rfl) (by decide +kernel) ?_
                refine xr_getI rfl fl_Mod_333 (by decide) (by decide +kernel) ?_
                refine xr_goto (off := 7) (tgt := 149) (by decide) (by decide +kernel) ?_
                exact xr_iret rfl (by decide +kernel) k
            · have k := k.2 c6
              refine xr_iload_n (n := 1) (i := 1) rfl (List.mem_of_getElem? (i := 1) rfl) (by decide +kernel) ?_
              refine xr_bipush (n := 8) (v := 8) (by decide) (by decide +kernel) ?_
              refine xr_icmp_ne (a' := (i3 what)) (b' := 8) rfl (by decide) (off := 12) (tgt := 125) (by decide) (by decide +kernel) ⟨fun c8 => ?_, fun c8 => ?_⟩
              · have k := k.1 c8
                refine xr_aload_n (n := 0) (i := 0) rfl (List.mem_of_getElem? (i := 0) rfl) (by decide +kernel) ?_
                refine xr_getR (o := 29) rfl fl_Mod_96 rfl (by decide +kernel) ?_
                show sh_X g (d + 1) m_Mod_count _ _ ((sh_r 125) :: _) _ _
                refine xr_iconst (n := 0) (by decide +kernel) ?_
                refine xr_ialdN (j := 0) rfl rfl (by decide) (by decide +kernel) ?_
                exact xr_iret rfl (by decide +kernel) k
              · have k := k.2 c8
                refine xr_aload_n (n := 0) (i := 0) rfl (List.mem_of_getElem? (i := 0) rfl) (by decide +kernel) ?_
                refine xr_getR (o := 25) rfl fl_Mod_84 rfl (by decide +kernel) ?_
                show sh_X g (d + 1) m_Mod_count _ _ ((sh_r 121) :: _) _ _
                refine xr_iconst (n := 0) (by decide +kernel) ?_
                refine xr_ialdN (j := 0) rfl rfl (by decide) (by decide +kernel) ?_
                refine xr_goto (off := 9) (tgt := 131) (by decide) (by decide +kernel) ?_
                exact xr_iret rfl (by decide +kernel) k
          · have k := k.2 c5
            refine xr_aload_n (n := 0) (i := 0) rfl (List.mem_of_getElem? (i := 0) rfl) (by decide +kernel) ?_
            refine xr_iload_n (n := 1) (i := 1) rfl (List.mem_of_getElem? (i := 1) rfl) (by decide +kernel) ?_
            refine xr_bipush (n := 6) (v := 6) (by decide) (by decide +kernel) ?_
            refine xr_icmp_ne (a' := (i3 what)) (b' := 6) rfl (by decide) (off := 8) (tgt := 97) (by decide) (by decide +kernel) ⟨fun c9 => ?_, fun c9 => ?_⟩
            · have k := k.1 c9
              refine xr_bipush (n := 41) (v := 41) (by decide) (by decide +kernel) ?_
              refine xr_iconst (n := 4) (by decide +kernel) ?_
              refine xr_callV (av := [(sh_i 41), (sh_i 4)]) rfl rfl rfl mo_Mod_sumOf ml_Mod_426 im_Mod_sumOf se_Mod_sumOf rfl (Nat.le_of_ble_eq_true rfl) (by decide +kernel) (sh_mono k ?_)
              rintro rv m3 ⟨r2, rfl, k⟩
              show sh_X g (d + 1) m_Mod_count _ _ [(sh_i r2)] _ _
              exact xr_iret rfl (by decide +kernel) k
            · have k := k.2 c9
              refine xr_bipush (n := 37) (v := 37) (by decide) (by decide +kernel) ?_
              refine xr_goto (off := 5) (tgt := 99) (by decide) (by decide +kernel) ?_
              refine xr_iconst (n := 4) (by decide +kernel) ?_
              refine xr_callV (av := [(sh_i 37), (sh_i 4)]) rfl rfl rfl mo_Mod_sumOf ml_Mod_426 im_Mod_sumOf se_Mod_sumOf rfl (Nat.le_of_ble_eq_true rfl) (by decide +kernel) (sh_mono k ?_)
              rintro rv m4 ⟨r3, rfl, k⟩
              show sh_X g (d + 1) m_Mod_count _ _ [(sh_i r3)] _ _
              exact xr_iret rfl (by decide +kernel) k
        · have k := k.2 c4
          refine xr_iload_n (n := 1) (i := 1) rfl (List.mem_of_getElem? (i := 1) rfl) (by decide +kernel) ?_
          refine xr_iconst (n := 4) (by decide +kernel) ?_
          refine xr_icmp_ne (a' := (i3 what)) (b' := 4) rfl (by decide) (off := 10) (tgt := 74) (by decide) (by decide +kernel) ⟨fun c10 => ?_, fun c10 => ?_⟩
          · have k := k.1 c10
            refine xr_aload_n (n := 0) (i := 0) rfl (List.mem_of_getElem? (i := 0) rfl) (by decide +kernel) ?_
            refine xr_callV (av := []) rfl rfl rfl mo_Mod_having ml_Mod_417 im_Mod_having se_Mod_having rfl (Nat.le_of_ble_eq_true rfl) (by decide +kernel) (sh_mono k ?_)
            rintro rv m5 ⟨r4, rfl, k⟩
            show sh_X g (d + 1) m_Mod_count _ _ [(sh_i r4)] _ _
            exact xr_iret rfl (by decide +kernel) k
          · have k := k.2 c10
            refine xr_aload_n (n := 0) (i := 0) rfl (List.mem_of_getElem? (i := 0) rfl) (by decide +kernel) ?_
            refine xr_callV (av := []) rfl rfl rfl mo_Mod_caughtOnes ml_Mod_423 im_Mod_caughtOnes se_Mod_caughtOnes rfl (Nat.le_of_ble_eq_true rfl) (by decide +kernel) (sh_mono k ?_)
            rintro rv m6 ⟨r5, rfl, k⟩
            show sh_X g (d + 1) m_Mod_count _ _ [(sh_i r5)] _ _
            refine xr_goto (off := 7) (tgt := 78) (by decide) (by decide +kernel) ?_
            exact xr_iret rfl (by decide +kernel) k
      · have k := k.2 c3
        refine xr_iload_n (n := 1) (i := 1) rfl (List.mem_of_getElem? (i := 1) rfl) (by decide +kernel) ?_
        refine xr_iconst (n := 2) (by decide +kernel) ?_
        refine xr_icmp_ne (a' := (i3 what)) (b' := 2) rfl (by decide) (off := 12) (tgt := 48) (by decide) (by decide +kernel) ⟨fun c11 => ?_, fun c11 => ?_⟩
        · have k := k.1 c11
          refine xr_aload_n (n := 0) (i := 0) rfl (List.mem_of_getElem? (i := 0) rfl) (by decide +kernel) ?_
          refine xr_iconst (n := 1) (by decide +kernel) ?_
          refine xr_bipush (n := 8) (v := 8) (by decide) (by decide +kernel) ?_
          refine xr_callV (av := [(sh_i 1), (sh_i 8)]) rfl rfl rfl mo_Mod_sumOf ml_Mod_426 im_Mod_sumOf se_Mod_sumOf rfl (Nat.le_of_ble_eq_true rfl) (by decide +kernel) (sh_mono k ?_)
          rintro rv m7 ⟨r6, rfl, k⟩
          show sh_X g (d + 1) m_Mod_count _ _ [(sh_i r6)] _ _
          exact xr_iret rfl (by decide +kernel) k
        · have k := k.2 c11
          refine xr_aload_n (n := 0) (i := 0) rfl (List.mem_of_getElem? (i := 0) rfl) (by decide +kernel) ?_
          refine xr_getR (o := 33) rfl fl_Mod_108 rfl (by decide +kernel) ?_
          show sh_X g (d + 1) m_Mod_count _ _ ((sh_r 129) :: _) _ _
          refine xr_iconst (n := 0) (by decide +kernel) ?_
          refine xr_ialdN (j := 0) rfl rfl (by decide) (by decide +kernel) ?_
          refine xr_goto (off := 10) (tgt := 55) (by decide) (by decide +kernel) ?_
          exact xr_iret rfl (by decide +kernel) k
    · have k := k.2 c2
      refine xr_aload_n (n := 0) (i := 0) rfl (List.mem_of_getElem? (i := 0) rfl) (by decide +kernel) ?_
      refine xr_getR (o := 2) rfl fl_Mod_13 rfl (by decide +kernel) ?_
      show sh_X g (d + 1) m_Mod_count _ _ ((sh_r 98) :: _) _ _
      refine xr_iload_n (n := 1) (i := 1) rfl (List.mem_of_getElem? (i := 1) rfl) (by decide +kernel) ?_
      obtain ⟨o, k⟩ := k
      refine xr_iald rfl o.1 o.2 (by decide +kernel) ?_
      exact xr_iret rfl (by decide +kernel) k
  · have k := k.2 c1
    refine xr_iconst (n := (-1)) (by decide +kernel) ?_
    exact xr_iret rfl (by decide +kernel) k
