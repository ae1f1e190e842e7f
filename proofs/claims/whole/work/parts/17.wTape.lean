theorem v_Tape_put {g : sh_G} {d : Nat} {bytes : Int}  {mem : sh_Mem} {Q : Option sh_V → sh_Mem → Prop}  (k : sh_X g d m_Tape_put 3 [(0, (sh_r 2)), (1, (sh_l bytes)), (3, (sh_i 56))] [] mem (sh_K m_Tape_put Q)) : sh_Cal g d m_Tape_put [(sh_r 2), (sh_l bytes)] mem Q := by
  refine sh_met (by decide +kernel) (Nat.le_of_ble_eq_true rfl) (lo := [(0, (sh_r 2)), (1, (sh_l bytes))]) rfl ?_
  refine xr_bipush (n := 56) (v := 56) (by decide) (by decide +kernel) ?_
  refine xr_istore_n (n := 3) (i := 3) rfl (by decide) rfl (by decide +kernel) ?_
  refine xr_sub (lo' := [(0, (sh_r 2)), (1, (sh_l bytes)), (3, (sh_i 56))]) [1, 2, 0] rfl ?_
  exact k
theorem v_Tape_put_3 {g : sh_G} {d : Nat} {bytes : Int}  {mem : sh_Mem} {Q : Option sh_V → sh_Mem → Prop}  {x3 : Int} (k : (((i3 x3) < 0 → Q none mem) ∧ (¬ (i3 x3) < 0 → (((i_and (l_2i (l_ushr bytes x3)) 255) = 10 → sh_X g d m_Tape_put 38 [(0, (sh_r 2)), (1, (sh_l bytes)), (3, (sh_i x3)), (4, (sh_i (i_and (l_2i (l_ushr bytes x3)) 255)))] [] mem (sh_K m_Tape_put Q)) ∧ (¬ (i_and (l_2i (l_ushr bytes x3)) 255) = 10 → (((i_and (l_2i (l_ushr bytes x3)) 255) < 32 → sh_X g d m_Tape_put 42 [(0, (sh_r 2)), (1, (sh_l bytes)), (3, (sh_i x3)), (4, (sh_i (i_and (l_2i (l_ushr bytes x3)) 255)))] [] mem (sh_K m_Tape_put Q)) ∧ (¬ (i_and (l_2i (l_ushr bytes x3)) 255) < 32 → ((126 < (i_and (l_2i (l_ushr bytes x3)) 255) → sh_X g d m_Tape_put 42 [(0, (sh_r 2)), (1, (sh_l bytes)), (3, (sh_i x3)), (4, (sh_i (i_and (l_2i (l_ushr bytes x3)) 255)))] [] mem (sh_K m_Tape_put Q)) ∧ (¬ 126 < (i_and (l_2i (l_ushr bytes x3)) 255) → sh_X g d m_Tape_put 38 [(0, (sh_r 2)), (1, (sh_l bytes)), (3, (sh_i x3)), (4, (sh_i (i_and (l_2i (l_ushr bytes x3)) 255)))] [] mem (sh_K m_Tape_put Q)))))))))) : sh_X g d m_Tape_put 3 [(0, (sh_r 2)), (1, (sh_l bytes)), (3, (sh_i x3))] [] mem (sh_K m_Tape_put Q) := by
  refine xr_iload_n (n := 3) (i := 3) rfl (List.mem_of_getElem? (i := 2) rfl) (by decide +kernel) ?_
  refine xr_if_lt (a' := (i3 x3)) rfl (off := 84) (tgt := 88) (by decide) (by decide +kernel) ⟨fun c1 => ?_, fun c1 => ?_⟩
  · have k := k.1 c1
    exact xr_ret rfl (by decide +kernel) k
  · have k := k.2 c1
    refine xr_lload_n (n := 1) (i := 1) rfl (List.mem_of_getElem? (i := 1) rfl) (by decide +kernel) ?_
    refine xr_iload_n (n := 3) (i := 3) rfl (List.mem_of_getElem? (i := 2) rfl) (by decide +kernel) ?_
    refine xr_lushr (by decide +kernel) ?_
    refine xr_l2i (by decide +kernel) ?_
    refine xr_sipush (n := 255) (v := 255) (by decide) (by decide +kernel) ?_
    refine xr_iand (by decide +kernel) ?_
    refine xr_istore (i := 4) (by decide) rfl (by decide +kernel) ?_
    refine xr_iload (i := 4) (List.mem_of_getElem? (i := 0) rfl) (by decide +kernel) ?_
    refine xr_bipush (n := 10) (v := 10) (by decide) (by decide +kernel) ?_
    refine xr_icmp_eq (a' := (i_and (l_2i (l_ushr bytes x3)) 255)) (b' := 10) (i3_nrm _) (by decide) (off := 17) (tgt := 38) (by decide) (by decide +kernel) ⟨fun c2 => ?_, fun c2 => ?_⟩
    · have k := k.1 c2
      refine xr_sub (lo' := [(0, (sh_r 2)), (1, (sh_l bytes)), (3, (sh_i x3)), (4, (sh_i (i_and (l_2i (l_ushr bytes x3)) 255)))]) [1, 2, 3, 0] rfl ?_
      exact k
    · have k := k.2 c2
      refine xr_iload (i := 4) (List.mem_of_getElem? (i := 0) rfl) (by decide +kernel) ?_
      refine xr_bipush (n := 32) (v := 32) (by decide) (by decide +kernel) ?_
      refine xr_icmp_lt (a' := (i_and (l_2i (l_ushr bytes x3)) 255)) (b' := 32) (i3_nrm _) (by decide) (off := 14) (tgt := 42) (by decide) (by decide +kernel) ⟨fun c3 => ?_, fun c3 => ?_⟩
      · have k := k.1 c3
        refine xr_sub (lo' := [(0, (sh_r 2)), (1, (sh_l bytes)), (3, (sh_i x3)), (4, (sh_i (i_and (l_2i (l_ushr bytes x3)) 255)))]) [1, 2, 3, 0] rfl ?_
        exact k
      · have k := k.2 c3
        refine xr_iload (i := 4) (List.mem_of_getElem? (i := 0) rfl) (by decide +kernel) ?_
        refine xr_bipush (n := 126) (v := 126) (by decide) (by decide +kernel) ?_
        refine xr_icmp_gt (a' := (i_and (l_2i (l_ushr bytes x3)) 255)) (b' := 126) (i3_nrm _) (by decide) (off := 7) (tgt := 42) (by decide) (by decide +kernel) ⟨fun c4 => ?_, fun c4 => ?_⟩
        · have k := k.1 c4
          refine xr_sub (lo' := [(0, (sh_r 2)), (1, (sh_l bytes)), (3, (sh_i x3)), (4, (sh_i (i_and (l_2i (l_ushr bytes x3)) 255)))]) [1, 2, 3, 0] rfl ?_
          exact k
        · have k := k.2 c4
          refine xr_sub (lo' := [(0, (sh_r 2)), (1, (sh_l bytes)), (3, (sh_i x3)), (4, (sh_i (i_and (l_2i (l_ushr bytes x3)) 255)))]) [1, 2, 3, 0] rfl ?_
          exact k
theorem v_Tape_put_38 {g : sh_G} {d : Nat} {bytes : Int}  {mem : sh_Mem} {Q : Option sh_V → sh_Mem → Prop}  {x3 : Int} {x4 : Int} (k : sh_X g d m_Tape_put 43 [(0, (sh_r 2)), (1, (sh_l bytes)), (3, (sh_i x3)), (4, (sh_i x4))] [(sh_i 1)] mem (sh_K m_Tape_put Q)) : sh_X g d m_Tape_put 38 [(0, (sh_r 2)), (1, (sh_l bytes)), (3, (sh_i x3)), (4, (sh_i x4))] [] mem (sh_K m_Tape_put Q) := by
  refine xr_iconst (n := 1) (by decide +kernel) ?_
  refine xr_goto (off := 4) (tgt := 43) (by decide) (by decide +kernel) ?_
  refine xr_sub (lo' := [(0, (sh_r 2)), (1, (sh_l bytes)), (3, (sh_i x3)), (4, (sh_i x4))]) [0, 1, 2, 3] rfl ?_
  exact k
theorem v_Tape_put_42 {g : sh_G} {d : Nat} {bytes : Int}  {mem : sh_Mem} {Q : Option sh_V → sh_Mem → Prop}  {x3 : Int} {x4 : Int} (k : sh_X g d m_Tape_put 43 [(0, (sh_r 2)), (1, (sh_l bytes)), (3, (sh_i x3)), (4, (sh_i x4))] [(sh_i 0)] mem (sh_K m_Tape_put Q)) : sh_X g d m_Tape_put 42 [(0, (sh_r 2)), (1, (sh_l bytes)), (3, (sh_i x3)), (4, (sh_i x4))] [] mem (sh_K m_Tape_put Q) := by
  refine xr_iconst (n := 0) (by decide +kernel) ?_
  refine xr_sub (lo' := [(0, (sh_r 2)), (1, (sh_l bytes)), (3, (sh_i x3)), (4, (sh_i x4))]) [0, 1, 2, 3] rfl ?_
  exact k
theorem v_Tape_put_43 {g : sh_G} {d : Nat} {bytes : Int}  {mem : sh_Mem} {Q : Option sh_V → sh_Mem → Prop}  {x3 : Int} {x4 : Int} {y0 : Int} (k : (((i3 y0) = 0 → sh_X g d m_Tape_put 3 [(0, (sh_r 2)), (1, (sh_l bytes)), (3, (sh_i (x3 + (-8))))] [] mem (sh_K m_Tape_put Q)) ∧ (¬ (i3 y0) = 0 → ((1000 ≤ (i3 (mem 2 1)) → sh_X g d m_Tape_put 3 [(0, (sh_r 2)), (1, (sh_l bytes)), (3, (sh_i (x3 + (-8))))] [] mem (sh_K m_Tape_put Q)) ∧ (¬ 1000 ≤ (i3 (mem 2 1)) → ((-128 ≤ (i_2b x4) ∧ (i_2b x4) < 128) ∧ ((0 ≤ (mem 2 1) ∧ (mem 2 1) < 1000) ∧ (∀ m1 : sh_Mem, m1 = ms mem 3 (ru (mem 3) ((mem 2 1)).toNat (i_2b x4)) → (∀ m2 : sh_Mem, m2 = ms m1 2 (ru (m1 2) 1 ((m1 2 1) + 1)) → sh_X g d m_Tape_put 3 [(0, (sh_r 2)), (1, (sh_l bytes)), (3, (sh_i (x3 + (-8))))] [] m2 (sh_K m_Tape_put Q)))))))))) : sh_X g d m_Tape_put 43 [(0, (sh_r 2)), (1, (sh_l bytes)), (3, (sh_i x3)), (4, (sh_i x4))] [(sh_i y0)] mem (sh_K m_Tape_put Q) := by
  refine xr_istore (i := 5) (by decide) rfl (by decide +kernel) ?_
  refine xr_iload (i := 5) (List.mem_of_getElem? (i := 0) rfl) (by decide +kernel) ?_
  refine xr_if_eq (a' := (i3 y0)) rfl (off := 35) (tgt := 82) (by decide) (by decide +kernel) ⟨fun c1 => ?_, fun c1 => ?_⟩
  · have k := k.1 c1
    refine xr_iinc (n := (-8)) (lo' := [(3, (sh_i (x3 + (-8)))), (5, (sh_i y0)), (0, (sh_r 2)), (1, (sh_l bytes)), (4, (sh_i x4))]) (List.mem_of_getElem? (i := 3) rfl) (by decide) rfl (by decide +kernel) ?_
    refine xr_goto (off := (-82)) (tgt := 3) (by decide) (by decide +kernel) ?_
    refine xr_sub (lo' := [(0, (sh_r 2)), (1, (sh_l bytes)), (3, (sh_i (x3 + (-8))))]) [2, 3, 0] rfl ?_
    exact k
  · have k := k.2 c1
    refine xr_aload_n (n := 0) (i := 0) rfl (List.mem_of_getElem? (i := 1) rfl) (by decide +kernel) ?_
    refine xr_getI rfl fl_Tape_15 (by decide) (by decide +kernel) ?_
    refine xr_sipush (n := 1000) (v := 1000) (by decide) (by decide +kernel) ?_
    refine xr_icmp_ge (a' := (i3 (mem 2 1))) (b' := 1000) rfl (by decide) (off := 25) (tgt := 82) (by decide) (by decide +kernel) ⟨fun c2 => ?_, fun c2 => ?_⟩
    · have k := k.1 c2
      refine xr_iinc (n := (-8)) (lo' := [(3, (sh_i (x3 + (-8)))), (5, (sh_i y0)), (0, (sh_r 2)), (1, (sh_l bytes)), (4, (sh_i x4))]) (List.mem_of_getElem? (i := 3) rfl) (by decide) rfl (by decide +kernel) ?_
      refine xr_goto (off := (-82)) (tgt := 3) (by decide) (by decide +kernel) ?_
      refine xr_sub (lo' := [(0, (sh_r 2)), (1, (sh_l bytes)), (3, (sh_i (x3 + (-8))))]) [2, 3, 0] rfl ?_
      exact k
    · have k := k.2 c2
      refine xr_aload_n (n := 0) (i := 0) rfl (List.mem_of_getElem? (i := 1) rfl) (by decide +kernel) ?_
      refine xr_getR (o := 1) rfl fl_Tape_9 rfl (by decide +kernel) ?_
      show sh_X g d m_Tape_put _ _ ((sh_r 3) :: _) _ _
      refine xr_aload_n (n := 0) (i := 0) rfl (List.mem_of_getElem? (i := 1) rfl) (by decide +kernel) ?_
      refine xr_getI rfl fl_Tape_15 (by decide) (by decide +kernel) ?_
      refine xr_iload (i := 4) (List.mem_of_getElem? (i := 4) rfl) (by decide +kernel) ?_
      refine xr_i2b (by decide +kernel) ?_
      obtain ⟨o, k⟩ := k
      have o9 := o
      obtain ⟨o, k⟩ := k
      refine xr_bast o9 rfl o.1 o.2 (by decide +kernel) ?_
      have k := k _ rfl
      generalize hg_m1 : ms mem 3 (ru (mem 3) ((mem 2 1)).toNat (i_2b x4)) = m1 at k ⊢
      refine xr_aload_n (n := 0) (i := 0) rfl (List.mem_of_getElem? (i := 1) rfl) (by decide +kernel) ?_
      refine xr_dupR (by decide +kernel) ?_
      refine xr_getI rfl fl_Tape_15 (by decide) (by decide +kernel) ?_
      refine xr_iconst (n := 1) (by decide +kernel) ?_
      refine xr_iadd (by decide +kernel) ?_
      show sh_X g d m_Tape_put _ _ ((sh_i ((m1 2 1) + 1)) :: _) _ _
      refine xr_putI rfl pl_Tape_15 rfl (by decide +kernel) ?_
      have k := k _ rfl
      generalize hg_m2 : ms m1 2 (ru (m1 2) 1 ((m1 2 1) + 1)) = m2 at k ⊢
      refine xr_iinc (n := (-8)) (lo' := [(3, (sh_i (x3 + (-8)))), (5, (sh_i y0)), (0, (sh_r 2)), (1, (sh_l bytes)), (4, (sh_i x4))]) (List.mem_of_getElem? (i := 3) rfl) (by decide) rfl (by decide +kernel) ?_
      refine xr_goto (off := (-82)) (tgt := 3) (by decide) (by decide +kernel) ?_
      refine xr_sub (lo' := [(0, (sh_r 2)), (1, (sh_l bytes)), (3, (sh_i (x3 + (-8))))]) [2, 3, 0] rfl ?_
      exact k

theorem v_Tape_clear {g : sh_G} {d : Nat}   {mem : sh_Mem} {Q : Option sh_V → sh_Mem → Prop}  (k : (∀ m1 : sh_Mem, m1 = ms mem 2 (ru (mem 2) 1 0) → Q none m1)) : sh_Cal g d m_Tape_clear [(sh_r 2)] mem Q := by
  refine sh_met (by decide +kernel) (Nat.le_of_ble_eq_true rfl) (lo := [(0, (sh_r 2))]) rfl ?_
  refine xr_aload_n (n := 0) (i := 0) rfl (List.mem_of_getElem? (i := 0) rfl) (by decide +kernel) ?_
  refine xr_iconst (n := 0) (by decide +kernel) ?_
  refine xr_putI rfl pl_Tape_15 rfl (by decide +kernel) ?_
  have k := k _ rfl
  generalize hg_m1 : ms mem 2 (ru (mem 2) 1 0) = m1 at k ⊢
  exact xr_ret rfl (by decide +kernel) k

theorem v_Tape_rewind {g : sh_G} {d : Nat}   {mem : sh_Mem} {Q : Option sh_V → sh_Mem → Prop}  (k : (∀ m1 : sh_Mem, m1 = ms mem 2 (ru (mem 2) 4 0) → (sh_Cal g d m_Tape_step [(sh_r 2)] m1 fun rv m2 => rv = none ∧ Q none m2))) : sh_Cal g (d + 1) m_Tape_rewind [(sh_r 2)] mem Q := by
  refine sh_met (by decide +kernel) (Nat.le_of_ble_eq_true rfl) (lo := [(0, (sh_r 2))]) rfl ?_
  refine xr_aload_n (n := 0) (i := 0) rfl (List.mem_of_getElem? (i := 0) rfl) (by decide +kernel) ?_
  refine xr_iconst (n := 0) (by decide +kernel) ?_
  refine xr_putI rfl pl_Tape_19 rfl (by decide +kernel) ?_
  have k := k _ rfl
  generalize hg_m1 : ms mem 2 (ru (mem 2) 4 0) = m1 at k ⊢
  refine xr_aload_n (n := 0) (i := 0) rfl (List.mem_of_getElem? (i := 0) rfl) (by decide +kernel) ?_
  refine xr_callV (av := []) rfl rfl rfl mo_Tape_step ml_Tape_22 im_Tape_step se_Tape_step rfl (Nat.le_of_ble_eq_true rfl) (by decide +kernel) (sh_mono k ?_)
  rintro rv m2 ⟨rfl, k⟩
  show sh_X g (d + 1) m_Tape_rewind _ _ [] _ _
  exact xr_ret rfl (by decide +kernel) k

theorem v_Tape_step {g : sh_G} {d : Nat}   {mem : sh_Mem} {Q : Option sh_V → sh_Mem → Prop}  (k : (∀ m1 : sh_Mem, m1 = ms mem 2 (ru (mem 2) 3 (mem 2 4)) → sh_X g (d + 1) m_Tape_step 8 [(0, (sh_r 2))] [] m1 (sh_K m_Tape_step Q))) : sh_Cal g (d + 1) m_Tape_step [(sh_r 2)] mem Q := by
  refine sh_met (by decide +kernel) (Nat.le_of_ble_eq_true rfl) (lo := [(0, (sh_r 2))]) rfl ?_
  refine xr_aload_n (n := 0) (i := 0) rfl (List.mem_of_getElem? (i := 0) rfl) (by decide +kernel) ?_
  refine xr_aload_n (n := 0) (i := 0) rfl (List.mem_of_getElem? (i := 0) rfl) (by decide +kernel) ?_
  refine xr_getI rfl fl_Tape_19 (by decide) (by decide +kernel) ?_
  refine xr_putI rfl pl_Tape_25 rfl (by decide +kernel) ?_
  have k := k _ rfl
  generalize hg_m1 : ms mem 2 (ru (mem 2) 3 (mem 2 4)) = m1 at k ⊢
  refine xr_sub (lo' := [(0, (sh_r 2))]) [0] rfl ?_
  exact k
theorem v_Tape_step_8 {g : sh_G} {d : Nat}   {mem : sh_Mem} {Q : Option sh_V → sh_Mem → Prop}   (k : (((i3 (mem 2 1)) ≤ (i3 (mem 2 3)) → sh_X g (d + 1) m_Tape_step 60 [(0, (sh_r 2))] [] mem (sh_K m_Tape_step Q)) ∧ (¬ (i3 (mem 2 1)) ≤ (i3 (mem 2 3)) → ((0 ≤ (mem 2 3) ∧ (mem 2 3) < 1000) ∧ (((i3 (mem 3 ((mem 2 3)).toNat)) = 10 → (∀ m1 : sh_Mem, m1 = ms mem 2 (ru (mem 2) 3 ((mem 2 3) + 1)) → sh_X g (d + 1) m_Tape_step 8 [(0, (sh_r 2))] [] m1 (sh_K m_Tape_step Q))) ∧ (¬ (i3 (mem 3 ((mem 2 3)).toNat)) = 10 → ((0 ≤ (mem 2 3) ∧ (mem 2 3) < 1000) ∧ ((¬ (i3 (mem 3 ((mem 2 3)).toNat)) = 32 → sh_X g (d + 1) m_Tape_step 60 [(0, (sh_r 2))] [] mem (sh_K m_Tape_step Q)) ∧ ((i3 (mem 3 ((mem 2 3)).toNat)) = 32 → (∀ m2 : sh_Mem, m2 = ms mem 2 (ru (mem 2) 3 ((mem 2 3) + 1)) → sh_X g (d + 1) m_Tape_step 8 [(0, (sh_r 2))] [] m2 (sh_K m_Tape_step Q))))))))))) : sh_X g (d + 1) m_Tape_step 8 [(0, (sh_r 2))] [] mem (sh_K m_Tape_step Q) := by
  refine xr_aload_n (n := 0) (i := 0) rfl (List.mem_of_getElem? (i := 0) rfl) (by decide +kernel) ?_
  refine xr_getI rfl fl_Tape_25 (by decide) (by decide +kernel) ?_
  refine xr_aload_n (n := 0) (i := 0) rfl (List.mem_of_getElem? (i := 0) rfl) (by decide +kernel) ?_
  refine xr_getI rfl fl_Tape_15 (by decide) (by decide +kernel) ?_
  refine xr_icmp_ge (a' := (i3 (mem 2 3))) (b' := (i3 (mem 2 1))) rfl rfl (off := 44) (tgt := 60) (by decide) (by decide +kernel) ⟨fun c1 => ?_, fun c1 => ?_⟩
  · have k := k.1 c1
    refine xr_sub (lo' := [(0, (sh_r 2))]) [0] rfl ?_
    exact k
  · have k := k.2 c1
    refine xr_aload_n (n := 0) (i := 0) rfl (List.mem_of_getElem? (i := 0) rfl) (by decide +kernel) ?_
    refine xr_getR (o := 1) rfl fl_Tape_9 rfl (by decide +kernel) ?_
    show sh_X g (d + 1) m_Tape_step _ _ ((sh_r 3) :: _) _ _
    refine xr_aload_n (n := 0) (i := 0) rfl (List.mem_of_getElem? (i := 0) rfl) (by decide +kernel) ?_
    refine xr_getI rfl fl_Tape_25 (by decide) (by decide +kernel) ?_
    obtain ⟨o, k⟩ := k
    refine xr_bald rfl o.1 o.2 (by decide +kernel) ?_
    refine xr_bipush (n := 10) (v := 10) (by decide) (by decide +kernel) ?_
    refine xr_icmp_eq (a' := (i3 (mem 3 ((mem 2 3)).toNat))) (b' := 10) rfl (by decide) (off := 17) (tgt := 47) (by decide) (by decide +kernel) ⟨fun c2 => ?_, fun c2 => ?_⟩
    · have k := k.1 c2
      refine xr_aload_n (n := 0) (i := 0) rfl (List.mem_of_getElem? (i := 0) rfl) (by decide +kernel) ?_
      refine xr_dupR (by decide +kernel) ?_
      refine xr_getI rfl fl_Tape_25 (by decide) (by decide +kernel) ?_
      refine xr_iconst (n := 1) (by decide +kernel) ?_
      refine xr_iadd (by decide +kernel) ?_
      show sh_X g (d + 1) m_Tape_step _ _ ((sh_i ((mem 2 3) + 1)) :: _) _ _
      refine xr_putI rfl pl_Tape_25 rfl (by decide +kernel) ?_
      have k := k _ rfl
      generalize hg_m1 : ms mem 2 (ru (mem 2) 3 ((mem 2 3) + 1)) = m1 at k ⊢
      refine xr_goto (off := (-49)) (tgt := 8) (by decide) (by decide +kernel) ?_
      refine xr_sub (lo' := [(0, (sh_r 2))]) [0] rfl ?_
      exact k
    · have k := k.2 c2
      refine xr_aload_n (n := 0) (i := 0) rfl (List.mem_of_getElem? (i := 0) rfl) (by decide +kernel) ?_
      refine xr_getR (o := 1) rfl fl_Tape_9 rfl (by decide +kernel) ?_
      show sh_X g (d + 1) m_Tape_step _ _ ((sh_r 3) :: _) _ _
      refine xr_aload_n (n := 0) (i := 0) rfl (List.mem_of_getElem? (i := 0) rfl) (by decide +kernel) ?_
      refine xr_getI rfl fl_Tape_25 (by decide) (by decide +kernel) ?_
      obtain ⟨o, k⟩ := k
      refine xr_bald rfl o.1 o.2 (by decide +kernel) ?_
      refine xr_bipush (n := 32) (v := 32) (by decide) (by decide +kernel) ?_
      refine xr_icmp_ne (a' := (i3 (mem 3 ((mem 2 3)).toNat))) (b' := 32) rfl (by decide) (off := 16) (tgt := 60) (by decide) (by decide +kernel) ⟨fun c3 => ?_, fun c3 => ?_⟩
      · have k := k.1 c3
        refine xr_sub (lo' := [(0, (sh_r 2))]) [0] rfl ?_
        exact k
      · have k := k.2 c3
        refine xr_aload_n (n := 0) (i := 0) rfl (List.mem_of_getElem? (i := 0) rfl) (by decide +kernel) ?_
        refine xr_dupR (by decide +kernel) ?_
        refine xr_getI rfl fl_Tape_25 (by decide) (by decide +kernel) ?_
        refine xr_iconst (n := 1) (by decide +kernel) ?_
        refine xr_iadd (by decide +kernel) ?_
        show sh_X g (d + 1) m_Tape_step _ _ ((sh_i ((mem 2 3) + 1)) :: _) _ _
        refine xr_putI rfl pl_Tape_25 rfl (by decide +kernel) ?_
        have k := k _ rfl
        generalize hg_m2 : ms mem 2 (ru (mem 2) 3 ((mem 2 3) + 1)) = m2 at k ⊢
        refine xr_goto (off := (-49)) (tgt := 8) (by decide) (by decide +kernel) ?_
        refine xr_sub (lo' := [(0, (sh_r 2))]) [0] rfl ?_
        exact k
theorem v_Tape_step_60 {g : sh_G} {d : Nat}   {mem : sh_Mem} {Q : Option sh_V → sh_Mem → Prop}   (k : (∀ m1 : sh_Mem, m1 = ms mem 2 (ru (mem 2) 4 (mem 2 3)) → (((i3 (m1 2 3)) < (i3 (m1 2 1)) → ((0 ≤ (m1 2 3) ∧ (m1 2 3) < 1000) ∧ (sh_Cal g d m_Tape_isLetter [(sh_i (m1 3 ((m1 2 3)).toNat))] m1 fun rv m2 => ∃ r1 : Int, rv = some (sh_i r1) ∧ (((i3 r1) = 0 → ((0 ≤ (m2 2 3) ∧ (m2 2 3) < 1000) ∧ (sh_Cal g d m_Tape_isDigit [(sh_i (m2 3 ((m2 2 3)).toNat))] m2 fun rv m3 => ∃ r2 : Int, rv = some (sh_i r2) ∧ (((i3 r2) = 0 → (∀ m4 : sh_Mem, m4 = ms m3 2 (ru (m3 2) 4 ((m3 2 3) + 1)) → ((0 ≤ (m4 2 3) ∧ (m4 2 3) < 1000) ∧ (sh_Cal g d m_Str_indexOf [(sh_r 1000), (sh_i (i_2c (m4 3 ((m4 2 3)).toNat)))] m4 fun rv m5 => ∃ r3 : Int, rv = some (sh_i r3) ∧ (((i3 r3) < 0 → (∀ m6 : sh_Mem, m6 = ms m5 2 (ru (m5 2) 2 0) → Q none m6)) ∧ (¬ (i3 r3) < 0 → ((0 ≤ (m5 2 3) ∧ (m5 2 3) < 1000) ∧ (∀ m7 : sh_Mem, m7 = ms m5 2 (ru (m5 2) 2 (m5 3 ((m5 2 3)).toNat)) → Q none m7)))))))) ∧ (¬ (i3 r2) = 0 → (sh_Cal g d m_Tape_readNumber [(sh_r 2)] m3 fun rv m8 => rv = none ∧ Q none m8)))))) ∧ (¬ (i3 r1) = 0 → (sh_Cal g d m_Tape_readWord [(sh_r 2)] m2 fun rv m9 => rv = none ∧ Q none m9)))))) ∧ (¬ (i3 (m1 2 3)) < (i3 (m1 2 1)) → (∀ m10 : sh_Mem, m10 = ms m1 2 (ru (m1 2) 2 3) → Q none m10))))) : sh_X g (d + 1) m_Tape_step 60 [(0, (sh_r 2))] [] mem (sh_K m_Tape_step Q) := by
  refine xr_aload_n (n := 0) (i := 0) rfl (List.mem_of_getElem? (i := 0) rfl) (by decide +kernel) ?_
  refine xr_aload_n (n := 0) (i := 0) rfl (List.mem_of_getElem? (i := 0) rfl) (by decide +kernel) ?_
  refine xr_getI rfl fl_Tape_25 (by decide) (by decide +kernel) ?_
  refine xr_putI rfl pl_Tape_19 rfl (by decide +kernel) ?_
  have k := k _ rfl
  generalize hg_m1 : ms mem 2 (ru (mem 2) 4 (mem 2 3)) = m1 at k ⊢
  refine xr_aload_n (n := 0) (i := 0) rfl (List.mem_of_getElem? (i := 0) rfl) (by decide +kernel) ?_
  refine xr_getI rfl fl_Tape_25 (by decide) (by decide +kernel) ?_
  refine xr_aload_n (n := 0) (i := 0) rfl (List.mem_of_getElem? (i := 0) rfl) (by decide +kernel) ?_
  refine xr_getI rfl fl_Tape_15 (by decide) (by decide +kernel) ?_
  refine xr_icmp_lt (a' := (i3 (m1 2 3))) (b' := (i3 (m1 2 1))) rfl rfl (off := 11) (tgt := 87) (by decide) (by decide +kernel) ⟨fun c1 => ?_, fun c1 => ?_⟩
  · have k := k.1 c1
    refine xr_aload_n (n := 0) (i := 0) rfl (List.mem_of_getElem? (i := 0) rfl) (by decide +kernel) ?_
    refine xr_getR (o := 1) rfl fl_Tape_9 rfl (by decide +kernel) ?_
    show sh_X g (d + 1) m_Tape_step _ _ ((sh_r 3) :: _) _ _
    refine xr_aload_n (n := 0) (i := 0) rfl (List.mem_of_getElem? (i := 0) rfl) (by decide +kernel) ?_
    refine xr_getI rfl fl_Tape_25 (by decide) (by decide +kernel) ?_
    obtain ⟨o, k⟩ := k
    refine xr_bald rfl o.1 o.2 (by decide +kernel) ?_
    refine xr_callS (av := [(sh_i (m1 3 ((m1 2 3)).toNat))]) mo_Tape_isLetter ml_Tape_31 sa_Tape_isLetter rfl (Nat.le_of_ble_eq_true rfl) (by decide +kernel) (sh_mono k ?_)
    rintro rv m2 ⟨r1, rfl, k⟩
    show sh_X g (d + 1) m_Tape_step _ _ [(sh_i r1)] _ _
    refine xr_if_eq (a' := (i3 r1)) rfl (off := 10) (tgt := 109) (by decide) (by decide +kernel) ⟨fun c2 => ?_, fun c2 => ?_⟩
    · have k := k.1 c2
      refine xr_aload_n (n := 0) (i := 0) rfl (List.mem_of_getElem? (i := 0) rfl) (by decide +kernel) ?_
      refine xr_getR (o := 1) rfl fl_Tape_9 rfl (by decide +kernel) ?_
      show sh_X g (d + 1) m_Tape_step _ _ ((sh_r 3) :: _) _ _
      refine xr_aload_n (n := 0) (i := 0) rfl (List.mem_of_getElem? (i := 0) rfl) (by decide +kernel) ?_
      refine xr_getI rfl fl_Tape_25 (by decide) (by decide +kernel) ?_
      obtain ⟨o, k⟩ := k
      refine xr_bald rfl o.1 o.2 (by decide +kernel) ?_
      refine xr_callS (av := [(sh_i (m2 3 ((m2 2 3)).toNat))]) mo_Tape_isDigit ml_Tape_38 sa_Tape_isDigit rfl (Nat.le_of_ble_eq_true rfl) (by decide +kernel) (sh_mono k ?_)
      rintro rv m3 ⟨r2, rfl, k⟩
      show sh_X g (d + 1) m_Tape_step _ _ [(sh_i r2)] _ _
      refine xr_if_eq (a' := (i3 r2)) rfl (off := 10) (tgt := 131) (by decide) (by decide +kernel) ⟨fun c3 => ?_, fun c3 => ?_⟩
      · have k := k.1 c3
        refine xr_aload_n (n := 0) (i := 0) rfl (List.mem_of_getElem? (i := 0) rfl) (by decide +kernel) ?_
        refine xr_aload_n (n := 0) (i := 0) rfl (List.mem_of_getElem? (i := 0) rfl) (by decide +kernel) ?_
        refine xr_getI rfl fl_Tape_25 (by decide) (by decide +kernel) ?_
        refine xr_iconst (n := 1) (by decide +kernel) ?_
        refine xr_iadd (by decide +kernel) ?_
        show sh_X g (d + 1) m_Tape_step _ _ ((sh_i ((m3 2 3) + 1)) :: _) _ _
        refine xr_putI rfl pl_Tape_19 rfl (by decide +kernel) ?_
        have k := k _ rfl
        generalize hg_m4 : ms m3 2 (ru (m3 2) 4 ((m3 2 3) + 1)) = m4 at k ⊢
        refine xr_aload_n (n := 0) (i := 0) rfl (List.mem_of_getElem? (i := 0) rfl) (by decide +kernel) ?_
        refine xr_ldcS (ix := 44) (i := 0) (by decide) rfl (by decide +kernel) ?_
        show sh_X g (d + 1) m_Tape_step _ _ ((sh_r 1000) :: _) _ _
        refine xr_aload_n (n := 0) (i := 0) rfl (List.mem_of_getElem? (i := 0) rfl) (by decide +kernel) ?_
        refine xr_getR (o := 1) rfl fl_Tape_9 rfl (by decide +kernel) ?_
        show sh_X g (d + 1) m_Tape_step _ _ ((sh_r 3) :: _) _ _
        refine xr_aload_n (n := 0) (i := 0) rfl (List.mem_of_getElem? (i := 0) rfl) (by decide +kernel) ?_
        refine xr_getI rfl fl_Tape_25 (by decide) (by decide +kernel) ?_
        obtain ⟨o, k⟩ := k
        refine xr_bald rfl o.1 o.2 (by decide +kernel) ?_
        refine xr_i2c (by decide +kernel) ?_
        show sh_X g (d + 1) m_Tape_step _ _ ((sh_i (i_2c (m4 3 ((m4 2 3)).toNat))) :: (sh_r (0 + 1000)) :: [(sh_r 2)]) _ _
        refine xr_callT (i := 0) (av := [(sh_i (i_2c (m4 3 ((m4 2 3)).toNat)))]) (by decide) rfl mo_Str_indexOf ml_Tape_46 im_Str_indexOf se_Str_indexOf rfl (Nat.le_of_ble_eq_true rfl) (by decide +kernel) (sh_mono k ?_)
        rintro rv m5 ⟨r3, rfl, k⟩
        show sh_X g (d + 1) m_Tape_step _ _ [(sh_i r3), (sh_r 2)] _ _
        refine xr_if_lt (a' := (i3 r3)) rfl (off := 15) (tgt := 172) (by decide) (by decide +kernel) ⟨fun c4 => ?_, fun c4 => ?_⟩
        · have k := k.1 c4
          refine xr_iconst (n := 0) (by decide +kernel) ?_
          refine xr_putI rfl pl_Tape_28 rfl (by decide +kernel) ?_
          have k := k _ rfl
          generalize hg_m6 : ms m5 2 (ru (m5 2) 2 0) = m6 at k ⊢
          exact xr_ret rfl (by decide +kernel) k
        · have k := k.2 c4
          refine xr_aload_n (n := 0) (i := 0) rfl (List.mem_of_getElem? (i := 0) rfl) (by decide +kernel) ?_
          refine xr_getR (o := 1) rfl fl_Tape_9 rfl (by decide +kernel) ?_
          show sh_X g (d + 1) m_Tape_step _ _ ((sh_r 3) :: _) _ _
          refine xr_aload_n (n := 0) (i := 0) rfl (List.mem_of_getElem? (i := 0) rfl) (by decide +kernel) ?_
          refine xr_getI rfl fl_Tape_25 (by decide) (by decide +kernel) ?_
          obtain ⟨o, k⟩ := k
          refine xr_bald rfl o.1 o.2 (by decide +kernel) ?_
          refine xr_goto (off := 4) (tgt := 173) (by decide) (by decide +kernel) ?_
          refine xr_putI rfl pl_Tape_28 rfl (by decide +kernel) ?_
          have k := k _ rfl
          generalize hg_m7 : ms m5 2 (ru (m5 2) 2 (m5 3 ((m5 2 3)).toNat)) = m7 at k ⊢
          exact xr_ret rfl (by decide +kernel) k
      · have k := k.2 c3
        refine xr_aload_n (n := 0) (i := 0) rfl (List.mem_of_getElem? (i := 0) rfl) (by decide +kernel) ?_
        refine xr_callV (av := []) rfl rfl rfl mo_Tape_readNumber ml_Tape_41 im_Tape_readNumber se_Tape_readNumber rfl (Nat.le_of_ble_eq_true rfl) (by decide +kernel) (sh_mono k ?_)
        rintro rv m8 ⟨rfl, k⟩
        show sh_X g (d + 1) m_Tape_step _ _ [] _ _
        refine xr_goto (off := 48) (tgt := 176) (by decide) (by decide +kernel) ?_
        exact xr_ret rfl (by decide +kernel) k
    · have k := k.2 c2
      refine xr_aload_n (n := 0) (i := 0) rfl (List.mem_of_getElem? (i := 0) rfl) (by decide +kernel) ?_
      refine xr_callV (av := []) rfl rfl rfl mo_Tape_readWord ml_Tape_35 im_Tape_readWord se_Tape_readWord rfl (Nat.le_of_ble_eq_true rfl) (by decide +kernel) (sh_mono k ?_)
      rintro rv m9 ⟨rfl, k⟩
      show sh_X g (d + 1) m_Tape_step _ _ [] _ _
      refine xr_goto (off := 70) (tgt := 176) (by decide) (by decide +kernel) ?_
      exact xr_ret rfl (by decide +kernel) k
  · have k := k.2 c1
    refine xr_aload_n (n := 0) (i := 0) rfl (List.mem_of_getElem? (i := 0) rfl) (by decide +kernel) ?_
    refine xr_iconst (n := 3) (by decide +kernel) ?_
    refine xr_putI rfl pl_Tape_28 rfl (by decide +kernel) ?_
    have k := k _ rfl
    generalize hg_m10 : ms m1 2 (ru (m1 2) 2 3) = m10 at k ⊢
    refine xr_goto (off := 92) (tgt := 176) (by decide) (by decide +kernel) ?_
    exact xr_ret rfl (by decide +kernel) k

theorem v_Tape_readWord {g : sh_G} {d : Nat}   {mem : sh_Mem} {Q : Option sh_V → sh_Mem → Prop}  (k : (∀ m1 : sh_Mem, m1 = ms mem 2 (ru (mem 2) 5 0) → sh_X g (d + 1) m_Tape_readWord 5 [(0, (sh_r 2))] [] m1 (sh_K m_Tape_readWord Q))) : sh_Cal g (d + 1) m_Tape_readWord [(sh_r 2)] mem Q := by
  refine sh_met (by decide +kernel) (Nat.le_of_ble_eq_true rfl) (lo := [(0, (sh_r 2))]) rfl ?_
  refine xr_aload_n (n := 0) (i := 0) rfl (List.mem_of_getElem? (i := 0) rfl) (by decide +kernel) ?_
  refine xr_lconst (n := 0) (v := 0) (by decide) (by decide +kernel) ?_
  refine xr_putL rfl pl_Tape_52 rfl (by decide +kernel) ?_
  have k := k _ rfl
  generalize hg_m1 : ms mem 2 (ru (mem 2) 5 0) = m1 at k ⊢
  refine xr_sub (lo' := [(0, (sh_r 2))]) [0] rfl ?_
  exact k
theorem v_Tape_readWord_5 {g : sh_G} {d : Nat}   {mem : sh_Mem} {Q : Option sh_V → sh_Mem → Prop}   (k : (((i3 (mem 2 1)) ≤ (i3 (mem 2 4)) → ((8 < (i3 ((mem 2 4) - (mem 2 3))) → (∀ m1 : sh_Mem, m1 = ms mem 2 (ru (mem 2) 2 0) → Q none m1)) ∧ (¬ 8 < (i3 ((mem 2 4) - (mem 2 3))) → (∀ m2 : sh_Mem, m2 = ms mem 2 (ru (mem 2) 2 1) → Q none m2)))) ∧ (¬ (i3 (mem 2 1)) ≤ (i3 (mem 2 4)) → ((0 ≤ (mem 2 4) ∧ (mem 2 4) < 1000) ∧ (sh_Cal g d m_Tape_isLetter [(sh_i (mem 3 ((mem 2 4)).toNat))] mem fun rv m3 => ∃ r1 : Int, rv = some (sh_i r1) ∧ (((i3 r1) = 0 → ((8 < (i3 ((m3 2 4) - (m3 2 3))) → (∀ m4 : sh_Mem, m4 = ms m3 2 (ru (m3 2) 2 0) → Q none m4)) ∧ (¬ 8 < (i3 ((m3 2 4) - (m3 2 3))) → (∀ m5 : sh_Mem, m5 = ms m3 2 (ru (m3 2) 2 1) → Q none m5)))) ∧ (¬ (i3 r1) = 0 → ((0 ≤ (m3 2 4) ∧ (m3 2 4) < 1000) ∧ (∀ m6 : sh_Mem, m6 = ms m3 2 (ru (m3 2) 5 (((m3 2 5) * 27) + (i_2l (((m3 3 ((m3 2 4)).toNat) - 97) + 1)))) → (∀ m7 : sh_Mem, m7 = ms m6 2 (ru (m6 2) 4 ((m6 2 4) + 1)) → sh_X g (d + 1) m_Tape_readWord 5 [(0, (sh_r 2))] [] m7 (sh_K m_Tape_readWord Q))))))))))) : sh_X g (d + 1) m_Tape_readWord 5 [(0, (sh_r 2))] [] mem (sh_K m_Tape_readWord Q) := by
  refine xr_aload_n (n := 0) (i := 0) rfl (List.mem_of_getElem? (i := 0) rfl) (by decide +kernel) ?_
  refine xr_getI rfl fl_Tape_19 (by decide) (by decide +kernel) ?_
  refine xr_aload_n (n := 0) (i := 0) rfl (List.mem_of_getElem? (i := 0) rfl) (by decide +kernel) ?_
  refine xr_getI rfl fl_Tape_15 (by decide) (by decide +kernel) ?_
  refine xr_icmp_ge (a' := (i3 (mem 2 4))) (b' := (i3 (mem 2 1))) rfl rfl (off := 59) (tgt := 72) (by decide) (by decide +kernel) ⟨fun c1 => ?_, fun c1 => ?_⟩
  · have k := k.1 c1
    refine xr_aload_n (n := 0) (i := 0) rfl (List.mem_of_getElem? (i := 0) rfl) (by decide +kernel) ?_
    refine xr_aload_n (n := 0) (i := 0) rfl (List.mem_of_getElem? (i := 0) rfl) (by decide +kernel) ?_
    refine xr_getI rfl fl_Tape_19 (by decide) (by decide +kernel) ?_
    refine xr_aload_n (n := 0) (i := 0) rfl (List.mem_of_getElem? (i := 0) rfl) (by decide +kernel) ?_
    refine xr_getI rfl fl_Tape_25 (by decide) (by decide +kernel) ?_
    refine xr_isub (by decide +kernel) ?_
    show sh_X g (d + 1) m_Tape_readWord _ _ ((sh_i ((mem 2 4) - (mem 2 3))) :: _) _ _
    refine xr_bipush (n := 8) (v := 8) (by decide) (by decide +kernel) ?_
    refine xr_icmp_gt (a' := (i3 ((mem 2 4) - (mem 2 3)))) (b' := 8) rfl (by decide) (off := 7) (tgt := 91) (by decide) (by decide +kernel) ⟨fun c2 => ?_, fun c2 => ?_⟩
    · have k := k.1 c2
      refine xr_iconst (n := 0) (by decide +kernel) ?_
      refine xr_putI rfl pl_Tape_28 rfl (by decide +kernel) ?_
      have k := k _ rfl
      generalize hg_m1 : ms mem 2 (ru (mem 2) 2 0) = m1 at k ⊢
      exact xr_ret rfl (by decide +kernel) k
    · have k := k.2 c2
      refine xr_iconst (n := 1) (by decide +kernel) ?_
      refine xr_goto (off := 4) (tgt := 92) (by decide) (by decide +kernel) ?_
      refine xr_putI rfl pl_Tape_28 rfl (by decide +kernel) ?_
      have k := k _ rfl
      generalize hg_m2 : ms mem 2 (ru (mem 2) 2 1) = m2 at k ⊢
      exact xr_ret rfl (by decide +kernel) k
  · have k := k.2 c1
    refine xr_aload_n (n := 0) (i := 0) rfl (List.mem_of_getElem? (i := 0) rfl) (by decide +kernel) ?_
    refine xr_getR (o := 1) rfl fl_Tape_9 rfl (by decide +kernel) ?_
    show sh_X g (d + 1) m_Tape_readWord _ _ ((sh_r 3) :: _) _ _
    refine xr_aload_n (n := 0) (i := 0) rfl (List.mem_of_getElem? (i := 0) rfl) (by decide +kernel) ?_
    refine xr_getI rfl fl_Tape_19 (by decide) (by decide +kernel) ?_
    obtain ⟨o, k⟩ := k
    refine xr_bald rfl o.1 o.2 (by decide +kernel) ?_
    refine xr_callS (av := [(sh_i (mem 3 ((mem 2 4)).toNat))]) mo_Tape_isLetter ml_Tape_31 sa_Tape_isLetter rfl (Nat.le_of_ble_eq_true rfl) (by decide +kernel) (sh_mono k ?_)
    rintro rv m3 ⟨r1, rfl, k⟩
    show sh_X g (d + 1) m_Tape_readWord _ _ [(sh_i r1)] _ _
    refine xr_if_eq (a' := (i3 r1)) rfl (off := 44) (tgt := 72) (by decide) (by decide +kernel) ⟨fun c3 => ?_, fun c3 => ?_⟩
    · have k := k.1 c3
      refine xr_aload_n (n := 0) (i := 0) rfl (List.mem_of_getElem? (i := 0) rfl) (by decide +kernel) ?_
      refine xr_aload_n (n := 0) (i := 0) rfl (List.mem_of_getElem? (i := 0) rfl) (by decide +kernel) ?_
      refine xr_getI rfl fl_Tape_19 (by decide) (by decide +kernel) ?_
      refine xr_aload_n (n := 0) (i := 0) rfl (List.mem_of_getElem? (i := 0) rfl) (by decide +kernel) ?_
      refine xr_getI rfl fl_Tape_25 (by decide) (by decide +kernel) ?_
      refine xr_isub (by decide +kernel) ?_
      show sh_X g (d + 1) m_Tape_readWord _ _ ((sh_i ((m3 2 4) - (m3 2 3))) :: _) _ _
      refine xr_bipush (n := 8) (v := 8) (by decide) (by decide +kernel) ?_
      refine xr_icmp_gt (a' := (i3 ((m3 2 4) - (m3 2 3)))) (b' := 8) rfl (by decide) (off := 7) (tgt := 91) (by decide) (by decide +kernel) ⟨fun c4 => ?_, fun c4 => ?_⟩
      · have k := k.1 c4
        refine xr_iconst (n := 0) (by decide +kernel) ?_
        refine xr_putI rfl pl_Tape_28 rfl (by decide +kernel) ?_
        have k := k _ rfl
        generalize hg_m4 : ms m3 2 (ru (m3 2) 2 0) = m4 at k ⊢
        exact xr_ret rfl (by decide +kernel) k
      · have k := k.2 c4
        refine xr_iconst (n := 1) (by decide +kernel) ?_
        refine xr_goto (off := 4) (tgt := 92) (by decide) (by decide +kernel) ?_
        refine xr_putI rfl pl_Tape_28 rfl (by decide +kernel) ?_
        have k := k _ rfl
        generalize hg_m5 : ms m3 2 (ru (m3 2) 2 1) = m5 at k ⊢
        exact xr_ret rfl (by decide +kernel) k
    · have k := k.2 c3
      refine xr_aload_n (n := 0) (i := 0) rfl (List.mem_of_getElem? (i := 0) rfl) (by decide +kernel) ?_
      refine xr_aload_n (n := 0) (i := 0) rfl (List.mem_of_getElem? (i := 0) rfl) (by decide +kernel) ?_
      refine xr_getL rfl fl_Tape_52 (by decide) (by decide +kernel) ?_
      refine xr_ldc2 (v := 27) (by decide) kl_Tape_56 (by decide +kernel) ?_
      refine xr_lmul (by decide +kernel) ?_
      show sh_X g (d + 1) m_Tape_readWord _ _ ((sh_l ((m3 2 5) * 27)) :: _) _ _
      refine xr_aload_n (n := 0) (i := 0) rfl (List.mem_of_getElem? (i := 0) rfl) (by decide +kernel) ?_
      refine xr_getR (o := 1) rfl fl_Tape_9 rfl (by decide +kernel) ?_
      show sh_X g (d + 1) m_Tape_readWord _ _ ((sh_r 3) :: _) _ _
      refine xr_aload_n (n := 0) (i := 0) rfl (List.mem_of_getElem? (i := 0) rfl) (by decide +kernel) ?_
      refine xr_getI rfl fl_Tape_19 (by decide) (by decide +kernel) ?_
      obtain ⟨o, k⟩ := k
      refine xr_bald rfl o.1 o.2 (by decide +kernel) ?_
      refine xr_bipush (n := 97) (v := 97) (by decide) (by decide +kernel) ?_
      refine xr_isub (by decide +kernel) ?_
      show sh_X g (d + 1) m_Tape_readWord _ _ ((sh_i ((m3 3 ((m3 2 4)).toNat) - 97)) :: _) _ _
      refine xr_iconst (n := 1) (by decide +kernel) ?_
      refine xr_iadd (by decide +kernel) ?_
      show sh_X g (d + 1) m_Tape_readWord _ _ ((sh_i (((m3 3 ((m3 2 4)).toNat) - 97) + 1)) :: _) _ _
      refine xr_i2l (by decide +kernel) ?_
      refine xr_ladd (by decide +kernel) ?_
      show sh_X g (d + 1) m_Tape_readWord _ _ ((sh_l (((m3 2 5) * 27) + (i_2l (((m3 3 ((m3 2 4)).toNat) - 97) + 1)))) :: _) _ _
      refine xr_putL rfl pl_Tape_52 rfl (by decide +kernel) ?_
      have k := k _ rfl
      generalize hg_m6 : ms m3 2 (ru (m3 2) 5 (((m3 2 5) * 27) + (i_2l (((m3 3 ((m3 2 4)).toNat) - 97) + 1)))) = m6 at k ⊢
      refine xr_aload_n (n := 0) (i := 0) rfl (List.mem_of_getElem? (i := 0) rfl) (by decide +kernel) ?_
      refine xr_dupR (by decide +kernel) ?_
      refine xr_getI rfl fl_Tape_19 (by decide) (by decide +kernel) ?_
      refine xr_iconst (n := 1) (by decide +kernel) ?_
      refine xr_iadd (by decide +kernel) ?_
      show sh_X g (d + 1) m_Tape_readWord _ _ ((sh_i ((m6 2 4) + 1)) :: _) _ _
      refine xr_putI rfl pl_Tape_19 rfl (by decide +kernel) ?_
      have k := k _ rfl
      generalize hg_m7 : ms m6 2 (ru (m6 2) 4 ((m6 2 4) + 1)) = m7 at k ⊢
      refine xr_goto (off := (-64)) (tgt := 5) (by decide) (by decide +kernel) ?_
      refine xr_sub (lo' := [(0, (sh_r 2))]) [0] rfl ?_
      exact k

theorem v_Tape_readNumber {g : sh_G} {d : Nat}   {mem : sh_Mem} {Q : Option sh_V → sh_Mem → Prop}  (k : (∀ m1 : sh_Mem, m1 = ms mem 2 (ru (mem 2) 6 0) → sh_X g (d + 1) m_Tape_readNumber 5 [(0, (sh_r 2))] [] m1 (sh_K m_Tape_readNumber Q))) : sh_Cal g (d + 1) m_Tape_readNumber [(sh_r 2)] mem Q := by
  refine sh_met (by decide +kernel) (Nat.le_of_ble_eq_true rfl) (lo := [(0, (sh_r 2))]) rfl ?_
  refine xr_aload_n (n := 0) (i := 0) rfl (List.mem_of_getElem? (i := 0) rfl) (by decide +kernel) ?_
  refine xr_iconst (n := 0) (by decide +kernel) ?_
  refine xr_putI rfl pl_Tape_58 rfl (by decide +kernel) ?_
  have k := k _ rfl
  generalize hg_m1 : ms mem 2 (ru (mem 2) 6 0) = m1 at k ⊢
  refine xr_sub (lo' := [(0, (sh_r 2))]) [0] rfl ?_
  exact k
theorem v_Tape_readNumber_5 {g : sh_G} {d : Nat}   {mem : sh_Mem} {Q : Option sh_V → sh_Mem → Prop}   (k : (((i3 (mem 2 1)) ≤ (i3 (mem 2 4)) → ((4 < (i3 ((mem 2 4) - (mem 2 3))) → (∀ m1 : sh_Mem, m1 = ms mem 2 (ru (mem 2) 2 0) → Q none m1)) ∧ (¬ 4 < (i3 ((mem 2 4) - (mem 2 3))) → (∀ m2 : sh_Mem, m2 = ms mem 2 (ru (mem 2) 2 2) → Q none m2)))) ∧ (¬ (i3 (mem 2 1)) ≤ (i3 (mem 2 4)) → ((0 ≤ (mem 2 4) ∧ (mem 2 4) < 1000) ∧ (sh_Cal g d m_Tape_isDigit [(sh_i (mem 3 ((mem 2 4)).toNat))] mem fun rv m3 => ∃ r1 : Int, rv = some (sh_i r1) ∧ (((i3 r1) = 0 → ((4 < (i3 ((m3 2 4) - (m3 2 3))) → (∀ m4 : sh_Mem, m4 = ms m3 2 (ru (m3 2) 2 0) → Q none m4)) ∧ (¬ 4 < (i3 ((m3 2 4) - (m3 2 3))) → (∀ m5 : sh_Mem, m5 = ms m3 2 (ru (m3 2) 2 2) → Q none m5)))) ∧ (¬ (i3 r1) = 0 → ((0 ≤ (m3 2 4) ∧ (m3 2 4) < 1000) ∧ (∀ m6 : sh_Mem, m6 = ms m3 2 (ru (m3 2) 6 (((m3 2 6) * 10) + ((m3 3 ((m3 2 4)).toNat) - 48))) → (∀ m7 : sh_Mem, m7 = ms m6 2 (ru (m6 2) 4 ((m6 2 4) + 1)) → sh_X g (d + 1) m_Tape_readNumber 5 [(0, (sh_r 2))] [] m7 (sh_K m_Tape_readNumber Q))))))))))) : sh_X g (d + 1) m_Tape_readNumber 5 [(0, (sh_r 2))] [] mem (sh_K m_Tape_readNumber Q) := by
  refine xr_aload_n (n := 0) (i := 0) rfl (List.mem_of_getElem? (i := 0) rfl) (by decide +kernel) ?_
  refine xr_getI rfl fl_Tape_19 (by decide) (by decide +kernel) ?_
  refine xr_aload_n (n := 0) (i := 0) rfl (List.mem_of_getElem? (i := 0) rfl) (by decide +kernel) ?_
  refine xr_getI rfl fl_Tape_15 (by decide) (by decide +kernel) ?_
  refine xr_icmp_ge (a' := (i3 (mem 2 4))) (b' := (i3 (mem 2 1))) rfl rfl (off := 55) (tgt := 68) (by decide) (by decide +kernel) ⟨fun c1 => ?_, fun c1 => ?_⟩
  · have k := k.1 c1
    refine xr_aload_n (n := 0) (i := 0) rfl (List.mem_of_getElem? (i := 0) rfl) (by decide +kernel) ?_
    refine xr_aload_n (n := 0) (i := 0) rfl (List.mem_of_getElem? (i := 0) rfl) (by decide +kernel) ?_
    refine xr_getI rfl fl_Tape_19 (by decide) (by decide +kernel) ?_
    refine xr_aload_n (n := 0) (i := 0) rfl (List.mem_of_getElem? (i := 0) rfl) (by decide +kernel) ?_
    refine xr_getI rfl fl_Tape_25 (by decide) (by decide +kernel) ?_
    refine xr_isub (by decide +kernel) ?_
    show sh_X g (d + 1) m_Tape_readNumber _ _ ((sh_i ((mem 2 4) - (mem 2 3))) :: _) _ _
    refine xr_iconst (n := 4) (by decide +kernel) ?_
    refine xr_icmp_gt (a' := (i3 ((mem 2 4) - (mem 2 3)))) (b' := 4) rfl (by decide) (off := 7) (tgt := 86) (by decide) (by decide +kernel) ⟨fun c2 => ?_, fun c2 => ?_⟩
    · have k := k.1 c2
      refine xr_iconst (n := 0) (by decide +kernel) ?_
      refine xr_putI rfl pl_Tape_28 rfl (by decide +kernel) ?_
      have k := k _ rfl
      generalize hg_m1 : ms mem 2 (ru (mem 2) 2 0) = m1 at k ⊢
      exact xr_ret rfl (by decide +kernel) k
    · have k := k.2 c2
      refine xr_iconst (n := 2) (by decide +kernel) ?_
      refine xr_goto (off := 4) (tgt := 87) (by decide) (by decide +kernel) ?_
      refine xr_putI rfl pl_Tape_28 rfl (by decide +kernel) ?_
      have k := k _ rfl
      generalize hg_m2 : ms mem 2 (ru (mem 2) 2 2) = m2 at k ⊢
      exact xr_ret rfl (by decide +kernel) k
  · have k := k.2 c1
    refine xr_aload_n (n := 0) (i := 0) rfl (List.mem_of_getElem? (i := 0) rfl) (by decide +kernel) ?_
    refine xr_getR (o := 1) rfl fl_Tape_9 rfl (by decide +kernel) ?_
    show sh_X g (d + 1) m_Tape_readNumber _ _ ((sh_r 3) :: _) _ _
    refine xr_aload_n (n := 0) (i := 0) rfl (List.mem_of_getElem? (i := 0) rfl) (by decide +kernel) ?_
    refine xr_getI rfl fl_Tape_19 (by decide) (by decide +kernel) ?_
    obtain ⟨o, k⟩ := k
    refine xr_bald rfl o.1 o.2 (by decide +kernel) ?_
    refine xr_callS (av := [(sh_i (mem 3 ((mem 2 4)).toNat))]) mo_Tape_isDigit ml_Tape_38 sa_Tape_isDigit rfl (Nat.le_of_ble_eq_true rfl) (by decide +kernel) (sh_mono k ?_)
    rintro rv m3 ⟨r1, rfl, k⟩
    show sh_X g (d + 1) m_Tape_readNumber _ _ [(sh_i r1)] _ _
    refine xr_if_eq (a' := (i3 r1)) rfl (off := 40) (tgt := 68) (by decide) (by decide +kernel) ⟨fun c3 => ?_, fun c3 => ?_⟩
    · have k := k.1 c3
      refine xr_aload_n (n := 0) (i := 0) rfl (List.mem_of_getElem? (i := 0) rfl) (by decide +kernel) ?_
      refine xr_aload_n (n := 0) (i := 0) rfl (List.mem_of_getElem? (i := 0) rfl) (by decide +kernel) ?_
      refine xr_getI rfl fl_Tape_19 (by decide) (by decide +kernel) ?_
      refine xr_aload_n (n := 0) (i := 0) rfl (List.mem_of_getElem? (i := 0) rfl) (by decide +kernel) ?_
      refine xr_getI rfl fl_Tape_25 (by decide) (by decide +kernel) ?_
      refine xr_isub (by decide +kernel) ?_
      show sh_X g (d + 1) m_Tape_readNumber _ _ ((sh_i ((m3 2 4) - (m3 2 3))) :: _) _ _
      refine xr_iconst (n := 4) (by decide +kernel) ?_
      refine xr_icmp_gt (a' := (i3 ((m3 2 4) - (m3 2 3)))) (b' := 4) rfl (by decide) (off := 7) (tgt := 86) (by decide) (by decide +kernel) ⟨fun c4 => ?_, fun c4 => ?_⟩
      · have k := k.1 c4
        refine xr_iconst (n := 0) (by decide +kernel) ?_
        refine xr_putI rfl pl_Tape_28 rfl (by decide +kernel) ?_
        have k := k _ rfl
        generalize hg_m4 : ms m3 2 (ru (m3 2) 2 0) = m4 at k ⊢
        exact xr_ret rfl (by decide +kernel) k
      · have k := k.2 c4
        refine xr_iconst (n := 2) (by decide +kernel) ?_
        refine xr_goto (off := 4) (tgt := 87) (by decide) (by decide +kernel) ?_
        refine xr_putI rfl pl_Tape_28 rfl (by decide +kernel) ?_
        have k := k _ rfl
        generalize hg_m5 : ms m3 2 (ru (m3 2) 2 2) = m5 at k ⊢
        exact xr_ret rfl (by decide +kernel) k
    · have k := k.2 c3
      refine xr_aload_n (n := 0) (i := 0) rfl (List.mem_of_getElem? (i := 0) rfl) (by decide +kernel) ?_
      refine xr_aload_n (n := 0) (i := 0) rfl (List.mem_of_getElem? (i := 0) rfl) (by decide +kernel) ?_
      refine xr_getI rfl fl_Tape_58 (by decide) (by decide +kernel) ?_
      refine xr_bipush (n := 10) (v := 10) (by decide) (by decide +kernel) ?_
      refine xr_imul (by decide +kernel) ?_
      show sh_X g (d + 1) m_Tape_readNumber _ _ ((sh_i ((m3 2 6) * 10)) :: _) _ _
      refine xr_aload_n (n := 0) (i := 0) rfl (List.mem_of_getElem? (i := 0) rfl) (by decide +kernel) ?_
      refine xr_getR (o := 1) rfl fl_Tape_9 rfl (by decide +kernel) ?_
      show sh_X g (d + 1) m_Tape_readNumber _ _ ((sh_r 3) :: _) _ _
      refine xr_aload_n (n := 0) (i := 0) rfl (List.mem_of_getElem? (i := 0) rfl) (by decide +kernel) ?_
      refine xr_getI rfl fl_Tape_19 (by decide) (by decide +kernel) ?_
      obtain ⟨o, k⟩ := k
      refine xr_bald rfl o.1 o.2 (by decide +kernel) ?_
      refine xr_bipush (n := 48) (v := 48) (by decide) (by decide +kernel) ?_
      refine xr_isub (by decide +kernel) ?_
      show sh_X g (d + 1) m_Tape_readNumber _ _ ((sh_i ((m3 3 ((m3 2 4)).toNat) - 48)) :: _) _ _
      refine xr_iadd (by decide +kernel) ?_
      show sh_X g (d + 1) m_Tape_readNumber _ _ ((sh_i (((m3 2 6) * 10) + ((m3 3 ((m3 2 4)).toNat) - 48))) :: _) _ _
      refine xr_putI rfl pl_Tape_58 rfl (by decide +kernel) ?_
      have k := k _ rfl
      generalize hg_m6 : ms m3 2 (ru (m3 2) 6 (((m3 2 6) * 10) + ((m3 3 ((m3 2 4)).toNat) - 48))) = m6 at k ⊢
      refine xr_aload_n (n := 0) (i := 0) rfl (List.mem_of_getElem? (i := 0) rfl) (by decide +kernel) ?_
      refine xr_dupR (by decide +kernel) ?_
      refine xr_getI rfl fl_Tape_19 (by decide) (by decide +kernel) ?_
      refine xr_iconst (n := 1) (by decide +kernel) ?_
      refine xr_iadd (by decide +kernel) ?_
      show sh_X g (d + 1) m_Tape_readNumber _ _ ((sh_i ((m6 2 4) + 1)) :: _) _ _
      refine xr_putI rfl pl_Tape_19 rfl (by decide +kernel) ?_
      have k := k _ rfl
      generalize hg_m7 : ms m6 2 (ru (m6 2) 4 ((m6 2 4) + 1)) = m7 at k ⊢
      refine xr_goto (off := (-60)) (tgt := 5) (by decide) (by decide +kernel) ?_
      refine xr_sub (lo' := [(0, (sh_r 2))]) [0] rfl ?_
      exact k

theorem v_Tape_isLetter {g : sh_G} {d : Nat} {sign : Int}  {mem : sh_Mem} {Q : Option sh_V → sh_Mem → Prop}  (k : (((i3 sign) < 97 → Q (some (sh_i 0)) mem) ∧ (¬ (i3 sign) < 97 → ((122 < (i3 sign) → Q (some (sh_i 0)) mem) ∧ (¬ 122 < (i3 sign) → Q (some (sh_i 1)) mem))))) : sh_Cal g d m_Tape_isLetter [(sh_i sign)] mem Q := by
  refine sh_met (by decide +kernel) (Nat.le_of_ble_eq_true rfl) (lo := [(0, (sh_i sign))]) rfl ?_
  refine xr_iload_n (n := 0) (i := 0) rfl (List.mem_of_getElem? (i := 0) rfl) (by decide +kernel) ?_
  refine xr_bipush (n := 97) (v := 97) (by decide) (by decide +kernel) ?_
  refine xr_icmp_lt (a' := (i3 sign)) (b' := 97) rfl (by decide) (off := 13) (tgt := 16) (by decide) (by decide +kernel) ⟨fun c1 => ?_, fun c1 => ?_⟩
  · have k := k.1 c1
    refine xr_iconst (n := 0) (by decide +kernel) ?_
    exact xr_zret rfl (by decide +kernel) (by decide) k
  · have k := k.2 c1
    refine xr_iload_n (n := 0) (i := 0) rfl (List.mem_of_getElem? (i := 0) rfl) (by decide +kernel) ?_
    refine xr_bipush (n := 122) (v := 122) (by decide) (by decide +kernel) ?_
    refine xr_icmp_gt (a' := (i3 sign)) (b' := 122) rfl (by decide) (off := 7) (tgt := 16) (by decide) (by decide +kernel) ⟨fun c2 => ?_, fun c2 => ?_⟩
    · have k := k.1 c2
      refine xr_iconst (n := 0) (by decide +kernel) ?_
      exact xr_zret rfl (by decide +kernel) (by decide) k
    · have k := k.2 c2
      refine xr_iconst (n := 1) (by decide +kernel) ?_
      refine xr_goto (off := 4) (tgt := 17) (by decide) (by decide +kernel) ?_
      exact xr_zret rfl (by decide +kernel) (by decide) k

theorem v_Tape_isDigit {g : sh_G} {d : Nat} {sign : Int}  {mem : sh_Mem} {Q : Option sh_V → sh_Mem → Prop}  (k : (((i3 sign) < 48 → Q (some (sh_i 0)) mem) ∧ (¬ (i3 sign) < 48 → ((57 < (i3 sign) → Q (some (sh_i 0)) mem) ∧ (¬ 57 < (i3 sign) → Q (some (sh_i 1)) mem))))) : sh_Cal g d m_Tape_isDigit [(sh_i sign)] mem Q := by
  refine sh_met (by decide +kernel) (Nat.le_of_ble_eq_true rfl) (lo := [(0, (sh_i sign))]) rfl ?_
  refine xr_iload_n (n := 0) (i := 0) rfl (List.mem_of_getElem? (i := 0) rfl) (by decide +kernel) ?_
  refine xr_bipush (n := 48) (v := 48) (by decide) (by decide +kernel) ?_
  refine xr_icmp_lt (a' := (i3 sign)) (b' := 48) rfl (by decide) (off := 13) (tgt := 16) (by decide) (by decide +kernel) ⟨fun c1 => ?_, fun c1 => ?_⟩
  · have k := k.1 c1
    refine xr_iconst (n := 0) (by decide +kernel) ?_
    exact xr_zret rfl (by decide +kernel) (by decide) k
  · have k := k.2 c1
    refine xr_iload_n (n := 0) (i := 0) rfl (List.mem_of_getElem? (i := 0) rfl) (by decide +kernel) ?_
    refine xr_bipush (n := 57) (v := 57) (by decide) (by decide +kernel) ?_
    refine xr_icmp_gt (a' := (i3 sign)) (b' := 57) rfl (by decide) (off := 7) (tgt := 16) (by decide) (by decide +kernel) ⟨fun c2 => ?_, fun c2 => ?_⟩
    · have k := k.1 c2
      refine xr_iconst (n := 0) (by decide +kernel) ?_
      exact xr_zret rfl (by decide +kernel) (by decide) k
    · have k := k.2 c2
      refine xr_iconst (n := 1) (by decide +kernel) ?_
      refine xr_goto (off := 4) (tgt := 17) (by decide) (by decide +kernel) ?_
      exact xr_zret rfl (by decide +kernel) (by decide) k

theorem v_Tape_isWord {g : sh_G} {d : Nat} {ww : Nat}  {mem : sh_Mem} {Q : Option sh_V → sh_Mem → Prop} (hstr_ww : ww < sh_nS) (k : ((¬ (i3 (mem 2 2)) = 1 → Q (some (sh_i 0)) mem) ∧ ((i3 (mem 2 2)) = 1 → (sh_Cal g d m_Str_length [(sh_r (ww + 1000))] mem fun rv m1 => ∃ r1 : Int, rv = some (sh_i r1) ∧ (sh_Cal g d m_Tape_spells [(sh_r 2), (sh_r (ww + 1000)), (sh_i 0), (sh_i r1)] m1 fun rv m2 => ∃ r2 : Int, rv = some (sh_i r2) ∧ (((i3 r2) = 0 → Q (some (sh_i 0)) m2) ∧ (¬ (i3 r2) = 0 → Q (some (sh_i 1)) m2))))))) : sh_Cal g (d + 1) m_Tape_isWord [(sh_r 2), (sh_r (ww + 1000))] mem Q := by
  refine sh_met (by decide +kernel) (Nat.le_of_ble_eq_true rfl) (lo := [(0, (sh_r 2)), (1, (sh_r (ww + 1000)))]) rfl ?_
  refine xr_aload_n (n := 0) (i := 0) rfl (List.mem_of_getElem? (i := 0) rfl) (by decide +kernel) ?_
  refine xr_getI rfl fl_Tape_28 (by decide) (by decide +kernel) ?_
  refine xr_iconst (n := 1) (by decide +kernel) ?_
  refine xr_icmp_ne (a' := (i3 (mem 2 2))) (b' := 1) rfl (by decide) (off := 20) (tgt := 25) (by decide) (by decide +kernel) ⟨fun c1 => ?_, fun c1 => ?_⟩
  · have k := k.1 c1
    refine xr_iconst (n := 0) (by decide +kernel) ?_
    exact xr_zret rfl (by decide +kernel) (by decide) k
  · have k := k.2 c1
    refine xr_aload_n (n := 0) (i := 0) rfl (List.mem_of_getElem? (i := 0) rfl) (by decide +kernel) ?_
    refine xr_aload_n (n := 1) (i := 1) rfl (List.mem_of_getElem? (i := 1) rfl) (by decide +kernel) ?_
    refine xr_iconst (n := 0) (by decide +kernel) ?_
    refine xr_aload_n (n := 1) (i := 1) rfl (List.mem_of_getElem? (i := 1) rfl) (by decide +kernel) ?_
    refine xr_callT (i := ww) (av := []) (hstr_ww) rfl mo_Str_length ml_Tape_61 im_Str_length se_Str_length rfl (Nat.le_of_ble_eq_true rfl) (by decide +kernel) (sh_mono k ?_)
    rintro rv m1 ⟨r1, rfl, k⟩
    show sh_X g (d + 1) m_Tape_isWord _ _ [(sh_i r1), (sh_i 0), (sh_r (ww + 1000)), (sh_r 2)] _ _
    refine xr_callV (av := [(sh_r (ww + 1000)), (sh_i 0), (sh_i r1)]) rfl rfl rfl mo_Tape_spells ml_Tape_64 im_Tape_spells se_Tape_spells rfl (Nat.le_of_ble_eq_true rfl) (by decide +kernel) (sh_mono k ?_)
    rintro rv m2 ⟨r2, rfl, k⟩
    show sh_X g (d + 1) m_Tape_isWord _ _ [(sh_i r2)] _ _
    refine xr_if_eq (a' := (i3 r2)) rfl (off := 7) (tgt := 25) (by decide) (by decide +kernel) ⟨fun c2 => ?_, fun c2 => ?_⟩
    · have k := k.1 c2
      refine xr_iconst (n := 0) (by decide +kernel) ?_
      exact xr_zret rfl (by decide +kernel) (by decide) k
    · have k := k.2 c2
      refine xr_iconst (n := 1) (by decide +kernel) ?_
      refine xr_goto (off := 4) (tgt := 26) (by decide) (by decide +kernel) ?_
      exact xr_zret rfl (by decide +kernel) (by decide) k

theorem v_Tape_isName {g : sh_G} {d : Nat}   {mem : sh_Mem} {Q : Option sh_V → sh_Mem → Prop}  (k : (((i3 (mem 2 2)) = 1 → sh_X g (d + 1) m_Tape_isName 14 [(0, (sh_r 2)), (1, (sh_i 0)), (2, (sh_i 0))] [] mem (sh_K m_Tape_isName Q)) ∧ (¬ (i3 (mem 2 2)) = 1 → Q (some (sh_i 0)) mem))) : sh_Cal g (d + 1) m_Tape_isName [(sh_r 2)] mem Q := by
  refine sh_met (by decide +kernel) (Nat.le_of_ble_eq_true rfl) (lo := [(0, (sh_r 2))]) rfl ?_
  refine xr_aload_n (n := 0) (i := 0) rfl (List.mem_of_getElem? (i := 0) rfl) (by decide +kernel) ?_
  refine xr_getI rfl fl_Tape_28 (by decide) (by decide +kernel) ?_
  refine xr_iconst (n := 1) (by decide +kernel) ?_
  refine xr_icmp_eq (a' := (i3 (mem 2 2))) (b' := 1) rfl (by decide) (off := 5) (tgt := 10) (by decide) (by decide +kernel) ⟨fun c1 => ?_, fun c1 => ?_⟩
  · have k := k.1 c1
    refine xr_iconst (n := 0) (by decide +kernel) ?_
    refine xr_istore_n (n := 1) (i := 1) rfl (by decide) rfl (by decide +kernel) ?_
    refine xr_iconst (n := 0) (by decide +kernel) ?_
    refine xr_istore_n (n := 2) (i := 2) rfl (by decide) rfl (by decide +kernel) ?_
    refine xr_sub (lo' := [(0, (sh_r 2)), (1, (sh_i 0)), (2, (sh_i 0))]) [2, 1, 0] rfl ?_
    exact k
  · have k := k.2 c1
    refine xr_iconst (n := 0) (by decide +kernel) ?_
    exact xr_zret rfl (by decide +kernel) (by decide) k
theorem v_Tape_isName_14 {g : sh_G} {d : Nat}   {mem : sh_Mem} {Q : Option sh_V → sh_Mem → Prop}  {x1 : Int} {x2 : Nat} (k : (sh_Cal g d m_Str_length [(sh_r 1002)] mem fun rv m1 => ∃ r1 : Int, rv = some (sh_i r1) ∧ (((i3 r1) ≤ (i3 (x2 : Int)) → Q (some (sh_i 1)) m1) ∧ (¬ (i3 r1) ≤ (i3 (x2 : Int)) → (sh_Cal g d m_Str_charAt [(sh_r 1002), (sh_i (x2 : Int))] m1 fun rv m2 => ∃ r2 : Int, rv = some (sh_i r2) ∧ ((¬ (i3 r2) = 32 → sh_X g (d + 1) m_Tape_isName 14 [(0, (sh_r 2)), (1, (sh_i x1)), (2, (sh_i (((x2 + 1) : Nat) : Int)))] [] m2 (sh_K m_Tape_isName Q)) ∧ ((i3 r2) = 32 → (sh_Cal g d m_Tape_spells [(sh_r 2), (sh_r 1002), (sh_i x1), (sh_i (x2 : Int))] m2 fun rv m3 => ∃ r3 : Int, rv = some (sh_i r3) ∧ (((i3 r3) = 0 → sh_X g (d + 1) m_Tape_isName 14 [(0, (sh_r 2)), (1, (sh_i (((x2 + 1) : Nat) : Int))), (2, (sh_i (((x2 + 1) : Nat) : Int)))] [] m3 (sh_K m_Tape_isName Q)) ∧ (¬ (i3 r3) = 0 → Q (some (sh_i 0)) m3)))))))))) : sh_X g (d + 1) m_Tape_isName 14 [(0, (sh_r 2)), (1, (sh_i x1)), (2, (sh_i (x2 : Int)))] [] mem (sh_K m_Tape_isName Q) := by
  refine xr_iload_n (n := 2) (i := 2) rfl (List.mem_of_getElem? (i := 2) rfl) (by decide +kernel) ?_
  refine xr_ldcS (ix := 68) (i := 2) (by decide) rfl (by decide +kernel) ?_
  show sh_X g (d + 1) m_Tape_isName _ _ ((sh_r 1002) :: _) _ _
  show sh_X g (d + 1) m_Tape_isName _ _ ((sh_r (2 + 1000)) :: [(sh_i (x2 : Int))]) _ _
  refine xr_callT (i := 2) (av := []) (by decide) rfl mo_Str_length ml_Tape_61 im_Str_length se_Str_length rfl (Nat.le_of_ble_eq_true rfl) (by decide +kernel) (sh_mono k ?_)
  rintro rv m1 ⟨r1, rfl, k⟩
  show sh_X g (d + 1) m_Tape_isName _ _ [(sh_i r1), (sh_i (x2 : Int))] _ _
  refine xr_icmp_ge (a' := (i3 (x2 : Int))) (b' := (i3 r1)) rfl rfl (off := 37) (tgt := 57) (by decide) (by decide +kernel) ⟨fun c1 => ?_, fun c1 => ?_⟩
  · have k := k.1 c1
    refine xr_iconst (n := 1) (by decide +kernel) ?_
    exact xr_zret rfl (by decide +kernel) (by decide) k
  · have k := k.2 c1
    refine xr_ldcS (ix := 68) (i := 2) (by decide) rfl (by decide +kernel) ?_
    show sh_X g (d + 1) m_Tape_isName _ _ ((sh_r 1002) :: _) _ _
    refine xr_iload_n (n := 2) (i := 2) rfl (List.mem_of_getElem? (i := 2) rfl) (by decide +kernel) ?_
    show sh_X g (d + 1) m_Tape_isName _ _ ((sh_i (x2 : Int)) :: (sh_r (2 + 1000)) :: []) _ _
    refine xr_callT (i := 2) (av := [(sh_i (x2 : Int))]) (by decide) rfl mo_Str_charAt ml_Tape_70 im_Str_charAt se_Str_charAt rfl (Nat.le_of_ble_eq_true rfl) (by decide +kernel) (sh_mono k ?_)
    rintro rv m2 ⟨r2, rfl, k⟩
    show sh_X g (d + 1) m_Tape_isName _ _ [(sh_i r2)] _ _
    refine xr_bipush (n := 32) (v := 32) (by decide) (by decide +kernel) ?_
    refine xr_icmp_ne (a' := (i3 r2)) (b' := 32) rfl (by decide) (off := 20) (tgt := 51) (by decide) (by decide +kernel) ⟨fun c2 => ?_, fun c2 => ?_⟩
    · have k := k.1 c2
      refine xr_iinc (n := 1) (lo' := [(2, (sh_i (((x2 + 1) : Nat) : Int))), (0, (sh_r 2)), (1, (sh_i x1))]) (List.mem_of_getElem? (i := 2) rfl) (by decide) rfl (by decide +kernel) ?_
      refine xr_goto (off := (-40)) (tgt := 14) (by decide) (by decide +kernel) ?_
      refine xr_sub (lo' := [(0, (sh_r 2)), (1, (sh_i x1)), (2, (sh_i (((x2 + 1) : Nat) : Int)))]) [1, 2, 0] rfl ?_
      exact k
    · have k := k.2 c2
      refine xr_aload_n (n := 0) (i := 0) rfl (List.mem_of_getElem? (i := 0) rfl) (by decide +kernel) ?_
      refine xr_ldcS (ix := 68) (i := 2) (by decide) rfl (by decide +kernel) ?_
      show sh_X g (d + 1) m_Tape_isName _ _ ((sh_r 1002) :: _) _ _
      refine xr_iload_n (n := 1) (i := 1) rfl (List.mem_of_getElem? (i := 1) rfl) (by decide +kernel) ?_
      refine xr_iload_n (n := 2) (i := 2) rfl (List.mem_of_getElem? (i := 2) rfl) (by decide +kernel) ?_
      refine xr_callV (av := [(sh_r 1002), (sh_i x1), (sh_i (x2 : Int))]) rfl rfl rfl mo_Tape_spells ml_Tape_64 im_Tape_spells se_Tape_spells rfl (Nat.le_of_ble_eq_true rfl) (by decide +kernel) (sh_mono k ?_)
      rintro rv m3 ⟨r3, rfl, k⟩
      show sh_X g (d + 1) m_Tape_isName _ _ [(sh_i r3)] _ _
      refine xr_if_eq (a' := (i3 r3)) rfl (off := 5) (tgt := 47) (by decide) (by decide +kernel) ⟨fun c3 => ?_, fun c3 => ?_⟩
      · have k := k.1 c3
        refine xr_iload_n (n := 2) (i := 2) rfl (List.mem_of_getElem? (i := 2) rfl) (by decide +kernel) ?_
        refine xr_iconst (n := 1) (by decide +kernel) ?_
        refine xr_iadd (by decide +kernel) ?_
        show sh_X g (d + 1) m_Tape_isName _ _ ((sh_i (((x2 + 1) : Nat) : Int)) :: _) _ _
        refine xr_istore_n (n := 1) (i := 1) rfl (by decide) rfl (by decide +kernel) ?_
        refine xr_iinc (n := 1) (lo' := [(2, (sh_i (((x2 + 1) : Nat) : Int))), (1, (sh_i (((x2 + 1) : Nat) : Int))), (0, (sh_r 2))]) (List.mem_of_getElem? (i := 2) rfl) (by decide) rfl (by decide +kernel) ?_
        refine xr_goto (off := (-40)) (tgt := 14) (by decide) (by decide +kernel) ?_
        refine xr_sub (lo' := [(0, (sh_r 2)), (1, (sh_i (((x2 + 1) : Nat) : Int))), (2, (sh_i (((x2 + 1) : Nat) : Int)))]) [2, 1, 0] rfl ?_
        exact k
      · have k := k.2 c3
        refine xr_iconst (n := 0) (by decide +kernel) ?_
        exact xr_zret rfl (by decide +kernel) (by decide) k

theorem v_Tape_spells {g : sh_G} {d : Nat} {ww : Nat} {fr : Int} {tt : Int}  {mem : sh_Mem} {Q : Option sh_V → sh_Mem → Prop} (hstr_ww : ww < sh_nS) (k : (((i3 (tt - fr)) = (i3 ((mem 2 4) - (mem 2 3))) → sh_X g (d + 1) m_Tape_spells 20 [(0, (sh_r 2)), (1, (sh_r (ww + 1000))), (2, (sh_i fr)), (3, (sh_i tt)), (4, (sh_i 0))] [] mem (sh_K m_Tape_spells Q)) ∧ (¬ (i3 (tt - fr)) = (i3 ((mem 2 4) - (mem 2 3))) → Q (some (sh_i 0)) mem))) : sh_Cal g (d + 1) m_Tape_spells [(sh_r 2), (sh_r (ww + 1000)), (sh_i fr), (sh_i tt)] mem Q := by
  refine sh_met (by decide +kernel) (Nat.le_of_ble_eq_true rfl) (lo := [(0, (sh_r 2)), (1, (sh_r (ww + 1000))), (2, (sh_i fr)), (3, (sh_i tt))]) rfl ?_
  refine xr_iload_n (n := 3) (i := 3) rfl (List.mem_of_getElem? (i := 3) rfl) (by decide +kernel) ?_
  refine xr_iload_n (n := 2) (i := 2) rfl (List.mem_of_getElem? (i := 2) rfl) (by decide +kernel) ?_
  refine xr_isub (by decide +kernel) ?_
  show sh_X g (d + 1) m_Tape_spells _ _ ((sh_i (tt - fr)) :: _) _ _
  refine xr_aload_n (n := 0) (i := 0) rfl (List.mem_of_getElem? (i := 0) rfl) (by decide +kernel) ?_
  refine xr_getI rfl fl_Tape_19 (by decide) (by decide +kernel) ?_
  refine xr_aload_n (n := 0) (i := 0) rfl (List.mem_of_getElem? (i := 0) rfl) (by decide +kernel) ?_
  refine xr_getI rfl fl_Tape_25 (by decide) (by decide +kernel) ?_
  refine xr_isub (by decide +kernel) ?_
  show sh_X g (d + 1) m_Tape_spells _ _ ((sh_i ((mem 2 4) - (mem 2 3))) :: _) _ _
  refine xr_icmp_eq (a' := (i3 (tt - fr))) (b' := (i3 ((mem 2 4) - (mem 2 3)))) rfl rfl (off := 5) (tgt := 17) (by decide) (by decide +kernel) ⟨fun c1 => ?_, fun c1 => ?_⟩
  · have k := k.1 c1
    refine xr_iconst (n := 0) (by decide +kernel) ?_
    refine xr_istore (i := 4) (by decide) rfl (by decide +kernel) ?_
    refine xr_sub (lo' := [(0, (sh_r 2)), (1, (sh_r (ww + 1000))), (2, (sh_i fr)), (3, (sh_i tt)), (4, (sh_i 0))]) [1, 2, 3, 4, 0] rfl ?_
    exact k
  · have k := k.2 c1
    refine xr_iconst (n := 0) (by decide +kernel) ?_
    exact xr_zret rfl (by decide +kernel) (by decide) k
theorem v_Tape_spells_20 {g : sh_G} {d : Nat} {ww : Nat} {fr : Int} {tt : Int}  {mem : sh_Mem} {Q : Option sh_V → sh_Mem → Prop} (hstr_ww : ww < sh_nS) {x4 : Nat} (k : (((i3 (tt - fr)) ≤ (i3 (x4 : Int)) → Q (some (sh_i 1)) mem) ∧ (¬ (i3 (tt - fr)) ≤ (i3 (x4 : Int)) → (sh_Cal g d m_Str_charAt [(sh_r (ww + 1000)), (sh_i (fr + (x4 : Int)))] mem fun rv m1 => ∃ r1 : Int, rv = some (sh_i r1) ∧ ((0 ≤ ((m1 2 3) + (x4 : Int)) ∧ ((m1 2 3) + (x4 : Int)) < 1000) ∧ (((i3 r1) = (i3 (m1 3 (((m1 2 3) + (x4 : Int))).toNat)) → sh_X g (d + 1) m_Tape_spells 20 [(0, (sh_r 2)), (1, (sh_r (ww + 1000))), (2, (sh_i fr)), (3, (sh_i tt)), (4, (sh_i (((x4 + 1) : Nat) : Int)))] [] m1 (sh_K m_Tape_spells Q)) ∧ (¬ (i3 r1) = (i3 (m1 3 (((m1 2 3) + (x4 : Int))).toNat)) → Q (some (sh_i 0)) m1))))))) : sh_X g (d + 1) m_Tape_spells 20 [(0, (sh_r 2)), (1, (sh_r (ww + 1000))), (2, (sh_i fr)), (3, (sh_i tt)), (4, (sh_i (x4 : Int)))] [] mem (sh_K m_Tape_spells Q) := by
  refine xr_iload (i := 4) (List.mem_of_getElem? (i := 4) rfl) (by decide +kernel) ?_
  refine xr_iload_n (n := 3) (i := 3) rfl (List.mem_of_getElem? (i := 3) rfl) (by decide +kernel) ?_
  refine xr_iload_n (n := 2) (i := 2) rfl (List.mem_of_getElem? (i := 2) rfl) (by decide +kernel) ?_
  refine xr_isub (by decide +kernel) ?_
  show sh_X g (d + 1) m_Tape_spells _ _ ((sh_i (tt - fr)) :: _) _ _
  refine xr_icmp_ge (a' := (i3 (x4 : Int))) (b' := (i3 (tt - fr))) rfl rfl (off := 34) (tgt := 59) (by decide) (by decide +kernel) ⟨fun c1 => ?_, fun c1 => ?_⟩
  · have k := k.1 c1
    refine xr_iconst (n := 1) (by decide +kernel) ?_
    exact xr_zret rfl (by decide +kernel) (by decide) k
  · have k := k.2 c1
    refine xr_aload_n (n := 1) (i := 1) rfl (List.mem_of_getElem? (i := 1) rfl) (by decide +kernel) ?_
    refine xr_iload_n (n := 2) (i := 2) rfl (List.mem_of_getElem? (i := 2) rfl) (by decide +kernel) ?_
    refine xr_iload (i := 4) (List.mem_of_getElem? (i := 4) rfl) (by decide +kernel) ?_
    refine xr_iadd (by decide +kernel) ?_
    show sh_X g (d + 1) m_Tape_spells _ _ ((sh_i (fr + (x4 : Int))) :: _) _ _
    refine xr_callT (i := ww) (av := [(sh_i (fr + (x4 : Int)))]) (hstr_ww) rfl mo_Str_charAt ml_Tape_70 im_Str_charAt se_Str_charAt rfl (Nat.le_of_ble_eq_true rfl) (by decide +kernel) (sh_mono k ?_)
    rintro rv m1 ⟨r1, rfl, k⟩
    show sh_X g (d + 1) m_Tape_spells _ _ [(sh_i r1)] _ _
    refine xr_aload_n (n := 0) (i := 0) rfl (List.mem_of_getElem? (i := 0) rfl) (by decide +kernel) ?_
    refine xr_getR (o := 1) rfl fl_Tape_9 rfl (by decide +kernel) ?_
    show sh_X g (d + 1) m_Tape_spells _ _ ((sh_r 3) :: _) _ _
    refine xr_aload_n (n := 0) (i := 0) rfl (List.mem_of_getElem? (i := 0) rfl) (by decide +kernel) ?_
    refine xr_getI rfl fl_Tape_25 (by decide) (by decide +kernel) ?_
    refine xr_iload (i := 4) (List.mem_of_getElem? (i := 4) rfl) (by decide +kernel) ?_
    refine xr_iadd (by decide +kernel) ?_
    show sh_X g (d + 1) m_Tape_spells _ _ ((sh_i ((m1 2 3) + (x4 : Int))) :: _) _ _
    obtain ⟨o, k⟩ := k
    refine xr_bald rfl o.1 o.2 (by decide +kernel) ?_
    refine xr_icmp_eq (a' := (i3 r1)) (b' := (i3 (m1 3 (((m1 2 3) + (x4 : Int))).toNat))) rfl rfl (off := 5) (tgt := 53) (by decide) (by decide +kernel) ⟨fun c2 => ?_, fun c2 => ?_⟩
    · have k := k.1 c2
      refine xr_iinc (n := 1) (lo' := [(4, (sh_i (((x4 + 1) : Nat) : Int))), (0, (sh_r 2)), (1, (sh_r (ww + 1000))), (2, (sh_i fr)), (3, (sh_i tt))]) (List.mem_of_getElem? (i := 4) rfl) (by decide) rfl (by decide +kernel) ?_
      refine xr_goto (off := (-36)) (tgt := 20) (by decide) (by decide +kernel) ?_
      refine xr_sub (lo' := [(0, (sh_r 2)), (1, (sh_r (ww + 1000))), (2, (sh_i fr)), (3, (sh_i tt)), (4, (sh_i (((x4 + 1) : Nat) : Int)))]) [1, 2, 3, 4, 0] rfl ?_
      exact k
    · have k := k.2 c2
      refine xr_iconst (n := 0) (by decide +kernel) ?_
      exact xr_zret rfl (by decide +kernel) (by decide) k

theorem v_Read_readAlmanac {g : sh_G} {d : Nat} {B : Nat}  {mem : sh_Mem} {Q : Option sh_V → sh_Mem → Prop} (hB : ob0 B) (k : (sh_Cal g d m_Alm_clear [(sh_r B)] mem fun rv m1 => rv = none ∧ (∀ m2 : sh_Mem, m2 = ms m1 4 (ru (m1 4) 1 0) → (sh_Cal g d m_Tape_rewind [(sh_r 2)] m2 fun rv m3 => rv = none ∧ sh_X g (d + 1) m_Read_readAlmanac 20 [(0, (sh_r 4)), (1, (sh_r B)), (2, (sh_i 1)), (3, (sh_i 0))] [] m3 (sh_K m_Read_readAlmanac Q))))) : sh_Cal g (d + 1) m_Read_readAlmanac [(sh_r 4), (sh_r B)] mem Q := by
  refine sh_met (by decide +kernel) (Nat.le_of_ble_eq_true rfl) (lo := [(0, (sh_r 4)), (1, (sh_r B))]) rfl ?_
  refine xr_aload_n (n := 1) (i := 1) rfl (List.mem_of_getElem? (i := 1) rfl) (by decide +kernel) ?_
  refine xr_callV (av := []) (ob0_0 hB) rfl rfl mo_Alm_clear ml_Read_15 im_Alm_clear se_Alm_clear rfl (Nat.le_of_ble_eq_true rfl) (by decide +kernel) (sh_mono k ?_)
  rintro rv m1 ⟨rfl, k⟩
  show sh_X g (d + 1) m_Read_readAlmanac _ _ [] _ _
  refine xr_aload_n (n := 0) (i := 0) rfl (List.mem_of_getElem? (i := 0) rfl) (by decide +kernel) ?_
  refine xr_iconst (n := 0) (by decide +kernel) ?_
  refine xr_putI rfl pl_Read_20 rfl (by decide +kernel) ?_
  have k := k _ rfl
  generalize hg_m2 : ms m1 4 (ru (m1 4) 1 0) = m2 at k ⊢
  refine xr_aload_n (n := 0) (i := 0) rfl (List.mem_of_getElem? (i := 0) rfl) (by decide +kernel) ?_
  refine xr_getT rfl fl_Read_9 rfl (by decide +kernel) ?_
  refine xr_callV (av := []) rfl rfl rfl mo_Tape_rewind ml_Read_24 im_Tape_rewind se_Tape_rewind rfl (Nat.le_of_ble_eq_true rfl) (by decide +kernel) (sh_mono k ?_)
  rintro rv m3 ⟨rfl, k⟩
  show sh_X g (d + 1) m_Read_readAlmanac _ _ [] _ _
  refine xr_iconst (n := 1) (by decide +kernel) ?_
  refine xr_istore_n (n := 2) (i := 2) rfl (by decide) rfl (by decide +kernel) ?_
  refine xr_iconst (n := 0) (by decide +kernel) ?_
  refine xr_istore_n (n := 3) (i := 3) rfl (by decide) rfl (by decide +kernel) ?_
  refine xr_sub (lo' := [(0, (sh_r 4)), (1, (sh_r B)), (2, (sh_i 1)), (3, (sh_i 0))]) [2, 3, 1, 0] rfl ?_
  exact k
theorem v_Read_readAlmanac_20 {g : sh_G} {d : Nat} {B : Nat}  {mem : sh_Mem} {Q : Option sh_V → sh_Mem → Prop} (hB : ob0 B) {x2 : Int} {x3 : Nat} (k : ((1000 ≤ (i3 (x3 : Int)) → (sh_Cal g d m_Tape_clear [(sh_r 2)] mem fun rv m1 => rv = none ∧ Q (some (sh_i (m1 4 1))) m1)) ∧ (¬ 1000 ≤ (i3 (x3 : Int)) → (((i3 x2) = 0 → (sh_Cal g d m_Tape_clear [(sh_r 2)] mem fun rv m2 => rv = none ∧ Q (some (sh_i (m2 4 1))) m2)) ∧ (¬ (i3 x2) = 0 → (((i3 (mem 2 2)) = 3 → (sh_Cal g d m_Tape_clear [(sh_r 2)] mem fun rv m3 => rv = none ∧ Q (some (sh_i (m3 4 1))) m3)) ∧ (¬ (i3 (mem 2 2)) = 3 → (sh_Cal g d m_Read_readAlmanacLine [(sh_r 4), (sh_r B)] mem fun rv m4 => ∃ r1 : Int, rv = some (sh_i r1) ∧ sh_X g (d + 1) m_Read_readAlmanac 20 [(0, (sh_r 4)), (1, (sh_r B)), (2, (sh_i r1)), (3, (sh_i (((x3 + 1) : Nat) : Int)))] [] m4 (sh_K m_Read_readAlmanac Q))))))))) : sh_X g (d + 1) m_Read_readAlmanac 20 [(0, (sh_r 4)), (1, (sh_r B)), (2, (sh_i x2)), (3, (sh_i (x3 : Int)))] [] mem (sh_K m_Read_readAlmanac Q) := by
  refine xr_iload_n (n := 3) (i := 3) rfl (List.mem_of_getElem? (i := 3) rfl) (by decide +kernel) ?_
  refine xr_sipush (n := 1000) (v := 1000) (by decide) (by decide +kernel) ?_
  refine xr_icmp_ge (a' := (i3 (x3 : Int))) (b' := 1000) rfl (by decide) (off := 30) (tgt := 54) (by decide) (by decide +kernel) ⟨fun c1 => ?_, fun c1 => ?_⟩
  · have k := k.1 c1
    refine xr_aload_n (n := 0) (i := 0) rfl (List.mem_of_getElem? (i := 0) rfl) (by decide +kernel) ?_
    refine xr_getT rfl fl_Read_9 rfl (by decide +kernel) ?_
    refine xr_callV (av := []) rfl rfl rfl mo_Tape_clear ml_Read_36 im_Tape_clear se_Tape_clear rfl (Nat.le_of_ble_eq_true rfl) (by decide +kernel) (sh_mono k ?_)
    rintro rv m1 ⟨rfl, k⟩
    show sh_X g (d + 1) m_Read_readAlmanac _ _ [] _ _
    refine xr_aload_n (n := 0) (i := 0) rfl (List.mem_of_getElem? (i := 0) rfl) (by decide +kernel) ?_
    refine xr_getI rfl fl_Read_20 (by decide) (by decide +kernel) ?_
    exact xr_iret rfl (by decide +kernel) k
  · have k := k.2 c1
    refine xr_iload_n (n := 2) (i := 2) rfl (List.mem_of_getElem? (i := 2) rfl) (by decide +kernel) ?_
    refine xr_if_eq (a' := (i3 x2)) rfl (off := 26) (tgt := 54) (by decide) (by decide +kernel) ⟨fun c2 => ?_, fun c2 => ?_⟩
    · have k := k.1 c2
      refine xr_aload_n (n := 0) (i := 0) rfl (List.mem_of_getElem? (i := 0) rfl) (by decide +kernel) ?_
      refine xr_getT rfl fl_Read_9 rfl (by decide +kernel) ?_
      refine xr_callV (av := []) rfl rfl rfl mo_Tape_clear ml_Read_36 im_Tape_clear se_Tape_clear rfl (Nat.le_of_ble_eq_true rfl) (by decide +kernel) (sh_mono k ?_)
      rintro rv m2 ⟨rfl, k⟩
      show sh_X g (d + 1) m_Read_readAlmanac _ _ [] _ _
      refine xr_aload_n (n := 0) (i := 0) rfl (List.mem_of_getElem? (i := 0) rfl) (by decide +kernel) ?_
      refine xr_getI rfl fl_Read_20 (by decide) (by decide +kernel) ?_
      exact xr_iret rfl (by decide +kernel) k
    · have k := k.2 c2
      refine xr_aload_n (n := 0) (i := 0) rfl (List.mem_of_getElem? (i := 0) rfl) (by decide +kernel) ?_
      refine xr_getT rfl fl_Read_9 rfl (by decide +kernel) ?_
      refine xr_getI rfl fl_Read_29 (by decide) (by decide +kernel) ?_
      refine xr_iconst (n := 3) (by decide +kernel) ?_
      refine xr_icmp_eq (a' := (i3 (mem 2 2))) (b' := 3) rfl (by decide) (off := 15) (tgt := 54) (by decide) (by decide +kernel) ⟨fun c3 => ?_, fun c3 => ?_⟩
      · have k := k.1 c3
        refine xr_aload_n (n := 0) (i := 0) rfl (List.mem_of_getElem? (i := 0) rfl) (by decide +kernel) ?_
        refine xr_getT rfl fl_Read_9 rfl (by decide +kernel) ?_
        refine xr_callV (av := []) rfl rfl rfl mo_Tape_clear ml_Read_36 im_Tape_clear se_Tape_clear rfl (Nat.le_of_ble_eq_true rfl) (by decide +kernel) (sh_mono k ?_)
        rintro rv m3 ⟨rfl, k⟩
        show sh_X g (d + 1) m_Read_readAlmanac _ _ [] _ _
        refine xr_aload_n (n := 0) (i := 0) rfl (List.mem_of_getElem? (i := 0) rfl) (by decide +kernel) ?_
        refine xr_getI rfl fl_Read_20 (by decide) (by decide +kernel) ?_
        exact xr_iret rfl (by decide +kernel) k
      · have k := k.2 c3
        refine xr_aload_n (n := 0) (i := 0) rfl (List.mem_of_getElem? (i := 0) rfl) (by decide +kernel) ?_
        refine xr_aload_n (n := 1) (i := 1) rfl (List.mem_of_getElem? (i := 1) rfl) (by decide +kernel) ?_
        refine xr_callV (av := [(sh_r B)]) rfl rfl rfl mo_Read_readAlmanacLine ml_Read_32 im_Read_readAlmanacLine se_Read_readAlmanacLine rfl (Nat.le_of_ble_eq_true rfl) (by decide +kernel) (sh_mono k ?_)
        rintro rv m4 ⟨r1, rfl, k⟩
        show sh_X g (d + 1) m_Read_readAlmanac _ _ [(sh_i r1)] _ _
        refine xr_istore_n (n := 2) (i := 2) rfl (by decide) rfl (by decide +kernel) ?_
        refine xr_iinc (n := 1) (lo' := [(3, (sh_i (((x3 + 1) : Nat) : Int))), (2, (sh_i r1)), (0, (sh_r 4)), (1, (sh_r B))]) (List.mem_of_getElem? (i := 3) rfl) (by decide) rfl (by decide +kernel) ?_
        refine xr_goto (off := (-31)) (tgt := 20) (by decide) (by decide +kernel) ?_
        refine xr_sub (lo' := [(0, (sh_r 4)), (1, (sh_r B)), (2, (sh_i r1)), (3, (sh_i (((x3 + 1) : Nat) : Int)))]) [2, 3, 1, 0] rfl ?_
        exact k

theorem v_Read_readYear {g : sh_G} {d : Nat} {Y : Nat} {B : Nat}  {mem : sh_Mem} {Q : Option sh_V → sh_Mem → Prop} (hY : ob10 Y) (hB : ob0 B) (k : (∀ m1 : sh_Mem, m1 = ms mem Y (ru (mem Y) 0 0) → (∀ m2 : sh_Mem, m2 = ms m1 4 (ru (m1 4) 1 0) → (sh_Cal g d m_Tape_rewind [(sh_r 2)] m2 fun rv m3 => rv = none ∧ sh_X g (d + 1) m_Read_readYear 22 [(0, (sh_r 4)), (1, (sh_r Y)), (2, (sh_r B)), (3, (sh_i 1)), (4, (sh_i 0))] [] m3 (sh_K m_Read_readYear Q))))) : sh_Cal g (d + 1) m_Read_readYear [(sh_r 4), (sh_r Y), (sh_r B)] mem Q := by
  refine sh_met (by decide +kernel) (Nat.le_of_ble_eq_true rfl) (lo := [(0, (sh_r 4)), (1, (sh_r Y)), (2, (sh_r B))]) rfl ?_
  refine xr_aload_n (n := 1) (i := 1) rfl (List.mem_of_getElem? (i := 1) rfl) (by decide +kernel) ?_
  refine xr_iconst (n := 0) (by decide +kernel) ?_
  refine xr_putI (ob10_0 hY) pl_Read_37 rfl (by decide +kernel) ?_
  have k := k _ rfl
  generalize hg_m1 : ms mem Y (ru (mem Y) 0 0) = m1 at k ⊢
  refine xr_aload_n (n := 0) (i := 0) rfl (List.mem_of_getElem? (i := 0) rfl) (by decide +kernel) ?_
  refine xr_iconst (n := 0) (by decide +kernel) ?_
  refine xr_putI rfl pl_Read_20 rfl (by decide +kernel) ?_
  have k := k _ rfl
  generalize hg_m2 : ms m1 4 (ru (m1 4) 1 0) = m2 at k ⊢
  refine xr_aload_n (n := 0) (i := 0) rfl (List.mem_of_getElem? (i := 0) rfl) (by decide +kernel) ?_
  refine xr_getT rfl fl_Read_9 rfl (by decide +kernel) ?_
  refine xr_callV (av := []) rfl rfl rfl mo_Tape_rewind ml_Read_24 im_Tape_rewind se_Tape_rewind rfl (Nat.le_of_ble_eq_true rfl) (by decide +kernel) (sh_mono k ?_)
  rintro rv m3 ⟨rfl, k⟩
  show sh_X g (d + 1) m_Read_readYear _ _ [] _ _
  refine xr_iconst (n := 1) (by decide +kernel) ?_
  refine xr_istore_n (n := 3) (i := 3) rfl (by decide) rfl (by decide +kernel) ?_
  refine xr_iconst (n := 0) (by decide +kernel) ?_
  refine xr_istore (i := 4) (by decide) rfl (by decide +kernel) ?_
  refine xr_sub (lo' := [(0, (sh_r 4)), (1, (sh_r Y)), (2, (sh_r B)), (3, (sh_i 1)), (4, (sh_i 0))]) [2, 3, 4, 1, 0] rfl ?_
  exact k
theorem v_Read_readYear_22 {g : sh_G} {d : Nat} {Y : Nat} {B : Nat}  {mem : sh_Mem} {Q : Option sh_V → sh_Mem → Prop} (hY : ob10 Y) (hB : ob0 B) {x3 : Int} {x4 : Nat} (k : ((1000 ≤ (i3 (x4 : Int)) → (sh_Cal g d m_Tape_clear [(sh_r 2)] mem fun rv m1 => rv = none ∧ Q (some (sh_i (m1 4 1))) m1)) ∧ (¬ 1000 ≤ (i3 (x4 : Int)) → (((i3 x3) = 0 → (sh_Cal g d m_Tape_clear [(sh_r 2)] mem fun rv m2 => rv = none ∧ Q (some (sh_i (m2 4 1))) m2)) ∧ (¬ (i3 x3) = 0 → (((i3 (mem 2 2)) = 3 → (sh_Cal g d m_Tape_clear [(sh_r 2)] mem fun rv m3 => rv = none ∧ Q (some (sh_i (m3 4 1))) m3)) ∧ (¬ (i3 (mem 2 2)) = 3 → (sh_Cal g d m_Read_readYearLine [(sh_r 4), (sh_r Y), (sh_r B)] mem fun rv m4 => ∃ r1 : Int, rv = some (sh_i r1) ∧ sh_X g (d + 1) m_Read_readYear 22 [(0, (sh_r 4)), (1, (sh_r Y)), (2, (sh_r B)), (3, (sh_i r1)), (4, (sh_i (((x4 + 1) : Nat) : Int)))] [] m4 (sh_K m_Read_readYear Q))))))))) : sh_X g (d + 1) m_Read_readYear 22 [(0, (sh_r 4)), (1, (sh_r Y)), (2, (sh_r B)), (3, (sh_i x3)), (4, (sh_i (x4 : Int)))] [] mem (sh_K m_Read_readYear Q) := by
  refine xr_iload (i := 4) (List.mem_of_getElem? (i := 4) rfl) (by decide +kernel) ?_
  refine xr_sipush (n := 1000) (v := 1000) (by decide) (by decide +kernel) ?_
  refine xr_icmp_ge (a' := (i3 (x4 : Int))) (b' := 1000) rfl (by decide) (off := 31) (tgt := 58) (by decide) (by decide +kernel) ⟨fun c1 => ?_, fun c1 => ?_⟩
  · have k := k.1 c1
    refine xr_aload_n (n := 0) (i := 0) rfl (List.mem_of_getElem? (i := 0) rfl) (by decide +kernel) ?_
    refine xr_getT rfl fl_Read_9 rfl (by decide +kernel) ?_
    refine xr_callV (av := []) rfl rfl rfl mo_Tape_clear ml_Read_36 im_Tape_clear se_Tape_clear rfl (Nat.le_of_ble_eq_true rfl) (by decide +kernel) (sh_mono k ?_)
    rintro rv m1 ⟨rfl, k⟩
    show sh_X g (d + 1) m_Read_readYear _ _ [] _ _
    refine xr_aload_n (n := 0) (i := 0) rfl (List.mem_of_getElem? (i := 0) rfl) (by decide +kernel) ?_
    refine xr_getI rfl fl_Read_20 (by decide) (by decide +kernel) ?_
    exact xr_iret rfl (by decide +kernel) k
  · have k := k.2 c1
    refine xr_iload_n (n := 3) (i := 3) rfl (List.mem_of_getElem? (i := 3) rfl) (by decide +kernel) ?_
    refine xr_if_eq (a' := (i3 x3)) rfl (off := 27) (tgt := 58) (by decide) (by decide +kernel) ⟨fun c2 => ?_, fun c2 => ?_⟩
    · have k := k.1 c2
      refine xr_aload_n (n := 0) (i := 0) rfl (List.mem_of_getElem? (i := 0) rfl) (by decide +kernel) ?_
      refine xr_getT rfl fl_Read_9 rfl (by decide +kernel) ?_
      refine xr_callV (av := []) rfl rfl rfl mo_Tape_clear ml_Read_36 im_Tape_clear se_Tape_clear rfl (Nat.le_of_ble_eq_true rfl) (by decide +kernel) (sh_mono k ?_)
      rintro rv m2 ⟨rfl, k⟩
      show sh_X g (d + 1) m_Read_readYear _ _ [] _ _
      refine xr_aload_n (n := 0) (i := 0) rfl (List.mem_of_getElem? (i := 0) rfl) (by decide +kernel) ?_
      refine xr_getI rfl fl_Read_20 (by decide) (by decide +kernel) ?_
      exact xr_iret rfl (by decide +kernel) k
    · have k := k.2 c2
      refine xr_aload_n (n := 0) (i := 0) rfl (List.mem_of_getElem? (i := 0) rfl) (by decide +kernel) ?_
      refine xr_getT rfl fl_Read_9 rfl (by decide +kernel) ?_
      refine xr_getI rfl fl_Read_29 (by decide) (by decide +kernel) ?_
      refine xr_iconst (n := 3) (by decide +kernel) ?_
      refine xr_icmp_eq (a' := (i3 (mem 2 2))) (b' := 3) rfl (by decide) (off := 16) (tgt := 58) (by decide) (by decide +kernel) ⟨fun c3 => ?_, fun c3 => ?_⟩
      · have k := k.1 c3
        refine xr_aload_n (n := 0) (i := 0) rfl (List.mem_of_getElem? (i := 0) rfl) (by decide +kernel) ?_
        refine xr_getT rfl fl_Read_9 rfl (by decide +kernel) ?_
        refine xr_callV (av := []) rfl rfl rfl mo_Tape_clear ml_Read_36 im_Tape_clear se_Tape_clear rfl (Nat.le_of_ble_eq_true rfl) (by decide +kernel) (sh_mono k ?_)
        rintro rv m3 ⟨rfl, k⟩
        show sh_X g (d + 1) m_Read_readYear _ _ [] _ _
        refine xr_aload_n (n := 0) (i := 0) rfl (List.mem_of_getElem? (i := 0) rfl) (by decide +kernel) ?_
        refine xr_getI rfl fl_Read_20 (by decide) (by decide +kernel) ?_
        exact xr_iret rfl (by decide +kernel) k
      · have k := k.2 c3
        refine xr_aload_n (n := 0) (i := 0) rfl (List.mem_of_getElem? (i := 0) rfl) (by decide +kernel) ?_
        refine xr_aload_n (n := 1) (i := 1) rfl (List.mem_of_getElem? (i := 1) rfl) (by decide +kernel) ?_
        refine xr_aload_n (n := 2) (i := 2) rfl (List.mem_of_getElem? (i := 2) rfl) (by decide +kernel) ?_
        refine xr_callV (av := [(sh_r Y), (sh_r B)]) rfl rfl rfl mo_Read_readYearLine ml_Read_42 im_Read_readYearLine se_Read_readYearLine rfl (Nat.le_of_ble_eq_true rfl) (by decide +kernel) (sh_mono k ?_)
        rintro rv m4 ⟨r1, rfl, k⟩
        show sh_X g (d + 1) m_Read_readYear _ _ [(sh_i r1)] _ _
        refine xr_istore_n (n := 3) (i := 3) rfl (by decide) rfl (by decide +kernel) ?_
        refine xr_iinc (n := 1) (lo' := [(4, (sh_i (((x4 + 1) : Nat) : Int))), (3, (sh_i r1)), (0, (sh_r 4)), (1, (sh_r Y)), (2, (sh_r B))]) (List.mem_of_getElem? (i := 4) rfl) (by decide) rfl (by decide +kernel) ?_
        refine xr_goto (off := (-33)) (tgt := 22) (by decide) (by decide +kernel) ?_
        refine xr_sub (lo' := [(0, (sh_r 4)), (1, (sh_r Y)), (2, (sh_r B)), (3, (sh_i r1)), (4, (sh_i (((x4 + 1) : Nat) : Int)))]) [2, 3, 4, 1, 0] rfl ?_
        exact k

theorem v_Read_readAlmanacLine {g : sh_G} {d : Nat} {B : Nat}  {mem : sh_Mem} {Q : Option sh_V → sh_Mem → Prop} (hB : ob0 B) (k : (sh_Cal g d m_Tape_isWord [(sh_r 2), (sh_r 1001)] mem fun rv m1 => ∃ r1 : Int, rv = some (sh_i r1) ∧ (((i3 r1) = 0 → (sh_Cal g d m_Tape_isWord [(sh_r 2), (sh_r 1009)] m1 fun rv m2 => ∃ r2 : Int, rv = some (sh_i r2) ∧ (((i3 r2) = 0 → (sh_Cal g d m_Tape_isWord [(sh_r 2), (sh_r 1012)] m2 fun rv m3 => ∃ r3 : Int, rv = some (sh_i r3) ∧ (((i3 r3) = 0 → (sh_Cal g d m_Read_refuse [(sh_r 4), (sh_i 1)] m3 fun rv m4 => ∃ r4 : Int, rv = some (sh_i r4) ∧ ((r4 = 0 ∨ r4 = 1) ∧ Q (some (sh_i r4)) m4))) ∧ (¬ (i3 r3) = 0 → (sh_Cal g d m_Read_readPays [(sh_r 4), (sh_r B)] m3 fun rv m5 => ∃ r5 : Int, rv = some (sh_i r5) ∧ ((r5 = 0 ∨ r5 = 1) ∧ Q (some (sh_i r5)) m5)))))) ∧ (¬ (i3 r2) = 0 → (sh_Cal g d m_Read_readThief [(sh_r 4), (sh_r B)] m2 fun rv m6 => ∃ r6 : Int, rv = some (sh_i r6) ∧ ((r6 = 0 ∨ r6 = 1) ∧ Q (some (sh_i r6)) m6)))))) ∧ (¬ (i3 r1) = 0 → (sh_Cal g d m_Read_readDay [(sh_r 4), (sh_r B)] m1 fun rv m7 => ∃ r7 : Int, rv = some (sh_i r7) ∧ ((r7 = 0 ∨ r7 = 1) ∧ Q (some (sh_i r7)) m7)))))) : sh_Cal g (d + 1) m_Read_readAlmanacLine [(sh_r 4), (sh_r B)] mem Q := by
  refine sh_met (by decide +kernel) (Nat.le_of_ble_eq_true rfl) (lo := [(0, (sh_r 4)), (1, (sh_r B))]) rfl ?_
  refine xr_aload_n (n := 0) (i := 0) rfl (List.mem_of_getElem? (i := 0) rfl) (by decide +kernel) ?_
  refine xr_getT rfl fl_Read_9 rfl (by decide +kernel) ?_
  refine xr_ldcS (ix := 46) (i := 1) (by decide) rfl (by decide +kernel) ?_
  show sh_X g (d + 1) m_Read_readAlmanacLine _ _ ((sh_r 1001) :: _) _ _
  refine xr_callV (av := [(sh_r 1001)]) rfl rfl rfl mo_Tape_isWord ml_Read_48 im_Tape_isWord se_Tape_isWord rfl (Nat.le_of_ble_eq_true rfl) (by decide +kernel) (sh_mono k ?_)
  rintro rv m1 ⟨r1, rfl, k⟩
  show sh_X g (d + 1) m_Read_readAlmanacLine _ _ [(sh_i r1)] _ _
  refine xr_if_eq (a' := (i3 r1)) rfl (off := 9) (tgt := 18) (by decide) (by decide +kernel) ⟨fun c1 => ?_, fun c1 => ?_⟩
  · have k := k.1 c1
    refine xr_aload_n (n := 0) (i := 0) rfl (List.mem_of_getElem? (i := 0) rfl) (by decide +kernel) ?_
    refine xr_getT rfl fl_Read_9 rfl (by decide +kernel) ?_
    refine xr_ldcS (ix := 55) (i := 9) (by decide) rfl (by decide +kernel) ?_
    show sh_X g (d + 1) m_Read_readAlmanacLine _ _ ((sh_r 1009) :: _) _ _
    refine xr_callV (av := [(sh_r 1009)]) rfl rfl rfl mo_Tape_isWord ml_Read_48 im_Tape_isWord se_Tape_isWord rfl (Nat.le_of_ble_eq_true rfl) (by decide +kernel) (sh_mono k ?_)
    rintro rv m2 ⟨r2, rfl, k⟩
    show sh_X g (d + 1) m_Read_readAlmanacLine _ _ [(sh_i r2)] _ _
    refine xr_if_eq (a' := (i3 r2)) rfl (off := 9) (tgt := 36) (by decide) (by decide +kernel) ⟨fun c2 => ?_, fun c2 => ?_⟩
    · have k := k.1 c2
      refine xr_aload_n (n := 0) (i := 0) rfl (List.mem_of_getElem? (i := 0) rfl) (by decide +kernel) ?_
      refine xr_getT rfl fl_Read_9 rfl (by decide +kernel) ?_
      refine xr_ldcS (ix := 60) (i := 12) (by decide) rfl (by decide +kernel) ?_
      show sh_X g (d + 1) m_Read_readAlmanacLine _ _ ((sh_r 1012) :: _) _ _
      refine xr_callV (av := [(sh_r 1012)]) rfl rfl rfl mo_Tape_isWord ml_Read_48 im_Tape_isWord se_Tape_isWord rfl (Nat.le_of_ble_eq_true rfl) (by decide +kernel) (sh_mono k ?_)
      rintro rv m3 ⟨r3, rfl, k⟩
      show sh_X g (d + 1) m_Read_readAlmanacLine _ _ [(sh_i r3)] _ _
      refine xr_if_eq (a' := (i3 r3)) rfl (off := 9) (tgt := 54) (by decide) (by decide +kernel) ⟨fun c3 => ?_, fun c3 => ?_⟩
      · have k := k.1 c3
        refine xr_aload_n (n := 0) (i := 0) rfl (List.mem_of_getElem? (i := 0) rfl) (by decide +kernel) ?_
        refine xr_iconst (n := 1) (by decide +kernel) ?_
        refine xr_callV (av := [(sh_i 1)]) rfl rfl rfl mo_Read_refuse ml_Read_65 im_Read_refuse se_Read_refuse rfl (Nat.le_of_ble_eq_true rfl) (by decide +kernel) (sh_mono k ?_)
        rintro rv m4 ⟨r4, rfl, k⟩
        show sh_X g (d + 1) m_Read_readAlmanacLine _ _ [(sh_i r4)] _ _
        exact xr_zret rfl (by decide +kernel) k.1 k.2
      · have k := k.2 c3
        refine xr_aload_n (n := 0) (i := 0) rfl (List.mem_of_getElem? (i := 0) rfl) (by decide +kernel) ?_
        refine xr_aload_n (n := 1) (i := 1) rfl (List.mem_of_getElem? (i := 1) rfl) (by decide +kernel) ?_
        refine xr_callV (av := [(sh_r B)]) rfl rfl rfl mo_Read_readPays ml_Read_62 im_Read_readPays se_Read_readPays rfl (Nat.le_of_ble_eq_true rfl) (by decide +kernel) (sh_mono k ?_)
        rintro rv m5 ⟨r5, rfl, k⟩
        show sh_X g (d + 1) m_Read_readAlmanacLine _ _ [(sh_i r5)] _ _
        exact xr_zret rfl (by decide +kernel) k.1 k.2
    · have k := k.2 c2
      refine xr_aload_n (n := 0) (i := 0) rfl (List.mem_of_getElem? (i := 0) rfl) (by decide +kernel) ?_
      refine xr_aload_n (n := 1) (i := 1) rfl (List.mem_of_getElem? (i := 1) rfl) (by decide +kernel) ?_
      refine xr_callV (av := [(sh_r B)]) rfl rfl rfl mo_Read_readThief ml_Read_57 im_Read_readThief se_Read_readThief rfl (Nat.le_of_ble_eq_true rfl) (by decide +kernel) (sh_mono k ?_)
      rintro rv m6 ⟨r6, rfl, k⟩
      show sh_X g (d + 1) m_Read_readAlmanacLine _ _ [(sh_i r6)] _ _
      exact xr_zret rfl (by decide +kernel) k.1 k.2
  · have k := k.2 c1
    refine xr_aload_n (n := 0) (i := 0) rfl (List.mem_of_getElem? (i := 0) rfl) (by decide +kernel) ?_
    refine xr_aload_n (n := 1) (i := 1) rfl (List.mem_of_getElem? (i := 1) rfl) (by decide +kernel) ?_
    refine xr_callV (av := [(sh_r B)]) rfl rfl rfl mo_Read_readDay ml_Read_52 im_Read_readDay se_Read_readDay rfl (Nat.le_of_ble_eq_true rfl) (by decide +kernel) (sh_mono k ?_)
    rintro rv m7 ⟨r7, rfl, k⟩
    show sh_X g (d + 1) m_Read_readAlmanacLine _ _ [(sh_i r7)] _ _
    exact xr_zret rfl (by decide +kernel) k.1 k.2

theorem v_Read_readDay {g : sh_G} {d : Nat} {B : Nat}  {mem : sh_Mem} {Q : Option sh_V → sh_Mem → Prop} (hB : ob0 B) (k : (((i3 (mem B 0)) < 8 → (sh_Cal g d m_Tape_step [(sh_r 2)] mem fun rv m1 => rv = none ∧ (sh_Cal g d m_Read_isNewName [(sh_r 4), (sh_r B)] m1 fun rv m2 => ∃ r1 : Int, rv = some (sh_i r1) ∧ ((¬ (i3 r1) = 0 → ((0 ≤ (mem B 0) ∧ (mem B 0) < 8) ∧ (∀ m3 : sh_Mem, m3 = ms m2 (B + 1) (ru (m2 (B + 1)) ((mem B 0)).toNat (m2 2 5)) → (sh_Cal g d m_Tape_step [(sh_r 2)] m3 fun rv m4 => rv = none ∧ (sh_Cal g d m_Read_kindTold [(sh_r 4)] m4 fun rv m5 => ∃ r2 : Int, rv = some (sh_i r2) ∧ ((¬ (i3 r2) = (-1) → ((0 ≤ (mem B 0) ∧ (mem B 0) < 8) ∧ (∀ m6 : sh_Mem, m6 = ms m5 (B + 2) (ru (m5 (B + 2)) ((mem B 0)).toNat r2) → (sh_Cal g d m_Tape_step [(sh_r 2)] m6 fun rv m7 => rv = none ∧ (sh_Cal g d m_Read_takeWord [(sh_r 4), (sh_r 1007)] m7 fun rv m8 => ∃ r3 : Int, rv = some (sh_i r3) ∧ (((i3 r3) = 0 → Q (some (sh_i 0)) m8) ∧ (¬ (i3 r3) = 0 → (sh_Cal g d m_Read_takeNumber [(sh_r 4), (sh_i 1), (sh_i 24)] m8 fun rv m9 => ∃ r4 : Int, rv = some (sh_i r4) ∧ ((¬ (i3 r4) = 0 → ((0 ≤ (mem B 0) ∧ (mem B 0) < 8) ∧ (∀ m10 : sh_Mem, m10 = ms m9 (B + 3) (ru (m9 (B + 3)) ((mem B 0)).toNat (m9 4 2)) → (sh_Cal g d m_Read_takeWord [(sh_r 4), (sh_r 1008)] m10 fun rv m11 => ∃ r5 : Int, rv = some (sh_i r5) ∧ (((i3 r5) = 0 → Q (some (sh_i 0)) m11) ∧ (¬ (i3 r5) = 0 → (sh_Cal g d m_Read_takeNumber [(sh_r 4), (sh_i 0), (sh_i 9)] m11 fun rv m12 => ∃ r6 : Int, rv = some (sh_i r6) ∧ ((¬ (i3 r6) = 0 → ((0 ≤ (mem B 0) ∧ (mem B 0) < 8) ∧ (∀ m13 : sh_Mem, m13 = ms m12 (B + 4) (ru (m12 (B + 4)) ((mem B 0)).toNat (m12 4 2)) → (∀ m14 : sh_Mem, m14 = ms m13 B (ru (m13 B) 0 ((m13 B 0) + 1)) → (sh_Cal g d m_Read_takeSign [(sh_r 4), (sh_i 59)] m14 fun rv m15 => ∃ r7 : Int, rv = some (sh_i r7) ∧ ((r7 = 0 ∨ r7 = 1) ∧ Q (some (sh_i r7)) m15)))))) ∧ ((i3 r6) = 0 → Q (some (sh_i 0)) m12))))))))) ∧ ((i3 r4) = 0 → Q (some (sh_i 0)) m9)))))))))) ∧ ((i3 r2) = (-1) → (sh_Cal g d m_Read_refuse [(sh_r 4), (sh_i 1)] m5 fun rv m16 => ∃ r8 : Int, rv = some (sh_i r8) ∧ ((r8 = 0 ∨ r8 = 1) ∧ Q (some (sh_i r8)) m16))))))))) ∧ ((i3 r1) = 0 → Q (some (sh_i 0)) m2))))) ∧ (¬ (i3 (mem B 0)) < 8 → (sh_Cal g d m_Read_refuse [(sh_r 4), (sh_i 5)] mem fun rv m17 => ∃ r9 : Int, rv = some (sh_i r9) ∧ ((r9 = 0 ∨ r9 = 1) ∧ Q (some (sh_i r9)) m17))))) : sh_Cal g (d + 1) m_Read_readDay [(sh_r 4), (sh_r B)] mem Q := by
  refine sh_met (by decide +kernel) (Nat.le_of_ble_eq_true rfl) (lo := [(0, (sh_r 4)), (1, (sh_r B))]) rfl ?_
  refine xr_aload_n (n := 1) (i := 1) rfl (List.mem_of_getElem? (i := 1) rfl) (by decide +kernel) ?_
  refine xr_getI (ob0_0 hB) fl_Read_69 (by decide) (by decide +kernel) ?_
  refine xr_istore_n (n := 2) (i := 2) rfl (by decide) rfl (by decide +kernel) ?_
  refine xr_iload_n (n := 2) (i := 2) rfl (List.mem_of_getElem? (i := 0) rfl) (by decide +kernel) ?_
  refine xr_bipush (n := 8) (v := 8) (by decide) (by decide +kernel) ?_
  refine xr_icmp_lt (a' := (i3 (mem B 0))) (b' := 8) rfl (by decide) (off := 9) (tgt := 17) (by decide) (by decide +kernel) ⟨fun c1 => ?_, fun c1 => ?_⟩
  · have k := k.1 c1
    refine xr_aload_n (n := 0) (i := 0) rfl (List.mem_of_getElem? (i := 1) rfl) (by decide +kernel) ?_
    refine xr_getT rfl fl_Read_9 rfl (by decide +kernel) ?_
    refine xr_callV (av := []) rfl rfl rfl mo_Tape_step ml_Read_72 im_Tape_step se_Tape_step rfl (Nat.le_of_ble_eq_true rfl) (by decide +kernel) (sh_mono k ?_)
    rintro rv m1 ⟨rfl, k⟩
    show sh_X g (d + 1) m_Read_readDay _ _ [] _ _
    refine xr_aload_n (n := 0) (i := 0) rfl (List.mem_of_getElem? (i := 1) rfl) (by decide +kernel) ?_
    refine xr_aload_n (n := 1) (i := 1) rfl (List.mem_of_getElem? (i := 2) rfl) (by decide +kernel) ?_
    refine xr_callV (av := [(sh_r B)]) rfl rfl rfl mo_Read_isNewName ml_Read_75 im_Read_isNewName se_Read_isNewName rfl (Nat.le_of_ble_eq_true rfl) (by decide +kernel) (sh_mono k ?_)
    rintro rv m2 ⟨r1, rfl, k⟩
    show sh_X g (d + 1) m_Read_readDay _ _ [(sh_i r1)] _ _
    refine xr_if_ne (a' := (i3 r1)) rfl (off := 5) (tgt := 34) (by decide) (by decide +kernel) ⟨fun c2 => ?_, fun c2 => ?_⟩
    · have k := k.1 c2
      refine xr_aload_n (n := 1) (i := 1) rfl (List.mem_of_getElem? (i := 2) rfl) (by decide +kernel) ?_
      refine xr_getR (o := 1) (ob0_0 hB) fl_Read_78 rfl (by decide +kernel) ?_
      show sh_X g (d + 1) m_Read_readDay _ _ ((sh_r (B + 1)) :: _) _ _
      refine xr_iload_n (n := 2) (i := 2) rfl (List.mem_of_getElem? (i := 0) rfl) (by decide +kernel) ?_
      refine xr_aload_n (n := 0) (i := 0) rfl (List.mem_of_getElem? (i := 1) rfl) (by decide +kernel) ?_
      refine xr_getT rfl fl_Read_9 rfl (by decide +kernel) ?_
      refine xr_getL rfl fl_Read_82 (by decide) (by decide +kernel) ?_
      have o9 := True.intro
      obtain ⟨o, k⟩ := k
      refine xr_last (ob0_1 hB) o.1 o.2 (by decide +kernel) ?_
      have k := k _ rfl
      generalize hg_m3 : ms m2 (B + 1) (ru (m2 (B + 1)) ((mem B 0)).toNat (m2 2 5)) = m3 at k ⊢
      refine xr_aload_n (n := 0) (i := 0) rfl (List.mem_of_getElem? (i := 1) rfl) (by decide +kernel) ?_
      refine xr_getT rfl fl_Read_9 rfl (by decide +kernel) ?_
      refine xr_callV (av := []) rfl rfl rfl mo_Tape_step ml_Read_72 im_Tape_step se_Tape_step rfl (Nat.le_of_ble_eq_true rfl) (by decide +kernel) (sh_mono k ?_)
      rintro rv m4 ⟨rfl, k⟩
      show sh_X g (d + 1) m_Read_readDay _ _ [] _ _
      refine xr_aload_n (n := 0) (i := 0) rfl (List.mem_of_getElem? (i := 1) rfl) (by decide +kernel) ?_
      refine xr_callV (av := []) rfl rfl rfl mo_Read_kindTold ml_Read_86 im_Read_kindTold se_Read_kindTold rfl (Nat.le_of_ble_eq_true rfl) (by decide +kernel) (sh_mono k ?_)
      rintro rv m5 ⟨r2, rfl, k⟩
      show sh_X g (d + 1) m_Read_readDay _ _ [(sh_i r2)] _ _
      refine xr_istore_n (n := 3) (i := 3) rfl (by decide) rfl (by decide +kernel) ?_
      refine xr_iload_n (n := 3) (i := 3) rfl (List.mem_of_getElem? (i := 0) rfl) (by decide +kernel) ?_
      refine xr_iconst (n := (-1)) (by decide +kernel) ?_
      refine xr_icmp_ne (a' := (i3 r2)) (b' := (-1)) rfl (by decide) (off := 9) (tgt := 70) (by decide) (by decide +kernel) ⟨fun c3 => ?_, fun c3 => ?_⟩
      · have k := k.1 c3
        refine xr_aload_n (n := 1) (i := 1) rfl (List.mem_of_getElem? (i := 3) rfl) (by decide +kernel) ?_
        refine xr_getR (o := 2) (ob0_0 hB) fl_Read_90 rfl (by decide +kernel) ?_
        show sh_X g (d + 1) m_Read_readDay _ _ ((sh_r (B + 2)) :: _) _ _
        refine xr_iload_n (n := 2) (i := 2) rfl (List.mem_of_getElem? (i := 1) rfl) (by decide +kernel) ?_
        refine xr_iload_n (n := 3) (i := 3) rfl (List.mem_of_getElem? (i := 0) rfl) (by decide +kernel) ?_
        have o9 := True.intro
        obtain ⟨o, k⟩ := k
        refine xr_iast (ob0_2 hB) o.1 o.2 (by decide +kernel) ?_
        have k := k _ rfl
        generalize hg_m6 : ms m5 (B + 2) (ru (m5 (B + 2)) ((mem B 0)).toNat r2) = m6 at k ⊢
        refine xr_aload_n (n := 0) (i := 0) rfl (List.mem_of_getElem? (i := 2) rfl) (by decide +kernel) ?_
        refine xr_getT rfl fl_Read_9 rfl (by decide +kernel) ?_
        refine xr_callV (av := []) rfl rfl rfl mo_Tape_step ml_Read_72 im_Tape_step se_Tape_step rfl (Nat.le_of_ble_eq_true rfl) (by decide +kernel) (sh_mono k ?_)
        rintro rv m7 ⟨rfl, k⟩
        show sh_X g (d + 1) m_Read_readDay _ _ [] _ _
        refine xr_aload_n (n := 0) (i := 0) rfl (List.mem_of_getElem? (i := 2) rfl) (by decide +kernel) ?_
        refine xr_ldcS (ix := 94) (i := 7) (by decide) rfl (by decide +kernel) ?_
        show sh_X g (d + 1) m_Read_readDay _ _ ((sh_r 1007) :: _) _ _
        refine xr_callV (av := [(sh_r 1007)]) rfl rfl rfl mo_Read_takeWord ml_Read_96 im_Read_takeWord se_Read_takeWord rfl (Nat.le_of_ble_eq_true rfl) (by decide +kernel) (sh_mono k ?_)
        rintro rv m8 ⟨r3, rfl, k⟩
        show sh_X g (d + 1) m_Read_readDay _ _ [(sh_i r3)] _ _
        refine xr_if_eq (a' := (i3 r3)) rfl (off := 13) (tgt := 103) (by decide) (by decide +kernel) ⟨fun c4 => ?_, fun c4 => ?_⟩
        · have k := k.1 c4
          refine xr_iconst (n := 0) (by decide +kernel) ?_
          exact xr_zret rfl (by decide +kernel) (by decide) k
        · have k := k.2 c4
          refine xr_aload_n (n := 0) (i := 0) rfl (List.mem_of_getElem? (i := 2) rfl) (by decide +kernel) ?_
          refine xr_iconst (n := 1) (by decide +kernel) ?_
          refine xr_bipush (n := 24) (v := 24) (by decide) (by decide +kernel) ?_
          refine xr_callV (av := [(sh_i 1), (sh_i 24)]) rfl rfl rfl mo_Read_takeNumber ml_Read_99 im_Read_takeNumber se_Read_takeNumber rfl (Nat.le_of_ble_eq_true rfl) (by decide +kernel) (sh_mono k ?_)
          rintro rv m9 ⟨r4, rfl, k⟩
          show sh_X g (d + 1) m_Read_readDay _ _ [(sh_i r4)] _ _
          refine xr_if_ne (a' := (i3 r4)) rfl (off := 5) (tgt := 105) (by decide) (by decide +kernel) ⟨fun c5 => ?_, fun c5 => ?_⟩
          · have k := k.1 c5
            refine xr_aload_n (n := 1) (i := 1) rfl (List.mem_of_getElem? (i := 3) rfl) (by decide +kernel) ?_
            refine xr_getR (o := 3) (ob0_0 hB) fl_Read_103 rfl (by decide +kernel) ?_
            show sh_X g (d + 1) m_Read_readDay _ _ ((sh_r (B + 3)) :: _) _ _
            refine xr_iload_n (n := 2) (i := 2) rfl (List.mem_of_getElem? (i := 1) rfl) (by decide +kernel) ?_
            refine xr_aload_n (n := 0) (i := 0) rfl (List.mem_of_getElem? (i := 2) rfl) (by decide +kernel) ?_
            refine xr_getI rfl fl_Read_106 (by decide) (by decide +kernel) ?_
            have o9 := True.intro
            obtain ⟨o, k⟩ := k
            refine xr_iast (ob0_3 hB) o.1 o.2 (by decide +kernel) ?_
            have k := k _ rfl
            generalize hg_m10 : ms m9 (B + 3) (ru (m9 (B + 3)) ((mem B 0)).toNat (m9 4 2)) = m10 at k ⊢
            refine xr_aload_n (n := 0) (i := 0) rfl (List.mem_of_getElem? (i := 2) rfl) (by decide +kernel) ?_
            refine xr_ldcS (ix := 109) (i := 8) (by decide) rfl (by decide +kernel) ?_
            show sh_X g (d + 1) m_Read_readDay _ _ ((sh_r 1008) :: _) _ _
            refine xr_callV (av := [(sh_r 1008)]) rfl rfl rfl mo_Read_takeWord ml_Read_96 im_Read_takeWord se_Read_takeWord rfl (Nat.le_of_ble_eq_true rfl) (by decide +kernel) (sh_mono k ?_)
            rintro rv m11 ⟨r5, rfl, k⟩
            show sh_X g (d + 1) m_Read_readDay _ _ [(sh_i r5)] _ _
            refine xr_if_eq (a' := (i3 r5)) rfl (off := 13) (tgt := 134) (by decide) (by decide +kernel) ⟨fun c6 => ?_, fun c6 => ?_⟩
            · have k := k.1 c6
              refine xr_iconst (n := 0) (by decide +kernel) ?_
              exact xr_zret rfl (by decide +kernel) (by decide) k
            · have k := k.2 c6
              refine xr_aload_n (n := 0) (i := 0) rfl (List.mem_of_getElem? (i := 2) rfl) (by decide +kernel) ?_
              refine xr_iconst (n := 0) (by decide +kernel) ?_
              refine xr_bipush (n := 9) (v := 9) (by decide) (by decide +kernel) ?_
              refine xr_callV (av := [(sh_i 0), (sh_i 9)]) rfl rfl rfl mo_Read_takeNumber ml_Read_99 im_Read_takeNumber se_Read_takeNumber rfl (Nat.le_of_ble_eq_true rfl) (by decide +kernel) (sh_mono k ?_)
              rintro rv m12 ⟨r6, rfl, k⟩
              show sh_X g (d + 1) m_Read_readDay _ _ [(sh_i r6)] _ _
              refine xr_if_ne (a' := (i3 r6)) rfl (off := 5) (tgt := 136) (by decide) (by decide +kernel) ⟨fun c7 => ?_, fun c7 => ?_⟩
              · have k := k.1 c7
                refine xr_aload_n (n := 1) (i := 1) rfl (List.mem_of_getElem? (i := 3) rfl) (by decide +kernel) ?_
                refine xr_getR (o := 4) (ob0_0 hB) fl_Read_111 rfl (by decide +kernel) ?_
                show sh_X g (d + 1) m_Read_readDay _ _ ((sh_r (B + 4)) :: _) _ _
                refine xr_iload_n (n := 2) (i := 2) rfl (List.mem_of_getElem? (i := 1) rfl) (by decide +kernel) ?_
                refine xr_aload_n (n := 0) (i := 0) rfl (List.mem_of_getElem? (i := 2) rfl) (by decide +kernel) ?_
                refine xr_getI rfl fl_Read_106 (by decide) (by decide +kernel) ?_
                have o9 := True.intro
                obtain ⟨o, k⟩ := k
                refine xr_iast (ob0_4 hB) o.1 o.2 (by decide +kernel) ?_
                have k := k _ rfl
                generalize hg_m13 : ms m12 (B + 4) (ru (m12 (B + 4)) ((mem B 0)).toNat (m12 4 2)) = m13 at k ⊢
                refine xr_aload_n (n := 1) (i := 1) rfl (List.mem_of_getElem? (i := 3) rfl) (by decide +kernel) ?_
                refine xr_dupR (by decide +kernel) ?_
                refine xr_getI (ob0_0 hB) fl_Read_69 (by decide) (by decide +kernel) ?_
                refine xr_iconst (n := 1) (by decide +kernel) ?_
                refine xr_iadd (by decide +kernel) ?_
                show sh_X g (d + 1) m_Read_readDay _ _ ((sh_i ((m13 B 0) + 1)) :: _) _ _
                refine xr_putI (ob0_0 hB) pl_Read_69 rfl (by decide +kernel) ?_
                have k := k _ rfl
                generalize hg_m14 : ms m13 B (ru (m13 B) 0 ((m13 B 0) + 1)) = m14 at k ⊢
                refine xr_aload_n (n := 0) (i := 0) rfl (List.mem_of_getElem? (i := 2) rfl) (by decide +kernel) ?_
                refine xr_bipush (n := 59) (v := 59) (by decide) (by decide +kernel) ?_
                refine xr_callV (av := [(sh_i 59)]) rfl rfl rfl mo_Read_takeSign ml_Read_114 im_Read_takeSign se_Read_takeSign rfl (Nat.le_of_ble_eq_true rfl) (by decide +kernel) (sh_mono k ?_)
                rintro rv m15 ⟨r7, rfl, k⟩
                show sh_X g (d + 1) m_Read_readDay _ _ [(sh_i r7)] _ _
                exact xr_zret rfl (by decide +kernel) k.1 k.2
              · have k := k.2 c7
                refine xr_iconst (n := 0) (by decide +kernel) ?_
                exact xr_zret rfl (by decide +kernel) (by decide) k
          · have k := k.2 c5
            refine xr_iconst (n := 0) (by decide +kernel) ?_
            exact xr_zret rfl (by decide +kernel) (by decide) k
      · have k := k.2 c3
        refine xr_aload_n (n := 0) (i := 0) rfl (List.mem_of_getElem? (i := 2) rfl) (by decide +kernel) ?_
        refine xr_iconst (n := 1) (by decide +kernel) ?_
        refine xr_callV (av := [(sh_i 1)]) rfl rfl rfl mo_Read_refuse ml_Read_65 im_Read_refuse se_Read_refuse rfl (Nat.le_of_ble_eq_true rfl) (by decide +kernel) (sh_mono k ?_)
        rintro rv m16 ⟨r8, rfl, k⟩
        show sh_X g (d + 1) m_Read_readDay _ _ [(sh_i r8)] _ _
        exact xr_zret rfl (by decide +kernel) k.1 k.2
    · have k := k.2 c2
      refine xr_iconst (n := 0) (by decide +kernel) ?_
      exact xr_zret rfl (by decide +kernel) (by decide) k
  · have k := k.2 c1
    refine xr_aload_n (n := 0) (i := 0) rfl (List.mem_of_getElem? (i := 1) rfl) (by decide +kernel) ?_
    refine xr_iconst (n := 5) (by decide +kernel) ?_
    refine xr_callV (av := [(sh_i 5)]) rfl rfl rfl mo_Read_refuse ml_Read_65 im_Read_refuse se_Read_refuse rfl (Nat.le_of_ble_eq_true rfl) (by decide +kernel) (sh_mono k ?_)
    rintro rv m17 ⟨r9, rfl, k⟩
    show sh_X g (d + 1) m_Read_readDay _ _ [(sh_i r9)] _ _
    exact xr_zret rfl (by decide +kernel) k.1 k.2

theorem v_Read_readThief {g : sh_G} {d : Nat} {B : Nat}  {mem : sh_Mem} {Q : Option sh_V → sh_Mem → Prop} (hB : ob0 B) (k : (((i3 (mem B 1)) < 4 → (sh_Cal g d m_Tape_step [(sh_r 2)] mem fun rv m1 => rv = none ∧ (sh_Cal g d m_Read_isNewName [(sh_r 4), (sh_r B)] m1 fun rv m2 => ∃ r1 : Int, rv = some (sh_i r1) ∧ ((¬ (i3 r1) = 0 → ((0 ≤ (mem B 1) ∧ (mem B 1) < 4) ∧ (∀ m3 : sh_Mem, m3 = ms m2 (B + 5) (ru (m2 (B + 5)) ((mem B 1)).toNat (m2 2 5)) → (sh_Cal g d m_Tape_step [(sh_r 2)] m3 fun rv m4 => rv = none ∧ (sh_Cal g d m_Read_takeWord [(sh_r 4), (sh_r 1010)] m4 fun rv m5 => ∃ r2 : Int, rv = some (sh_i r2) ∧ (((i3 r2) = 0 → Q (some (sh_i 0)) m5) ∧ (¬ (i3 r2) = 0 → (sh_Cal g d m_Read_takeNumber [(sh_r 4), (sh_i 0), (sh_i 9)] m5 fun rv m6 => ∃ r3 : Int, rv = some (sh_i r3) ∧ ((¬ (i3 r3) = 0 → ((0 ≤ (mem B 1) ∧ (mem B 1) < 4) ∧ (∀ m7 : sh_Mem, m7 = ms m6 (B + 6) (ru (m6 (B + 6)) ((mem B 1)).toNat (m6 4 2)) → (sh_Cal g d m_Read_takeWord [(sh_r 4), (sh_r 1011)] m7 fun rv m8 => ∃ r4 : Int, rv = some (sh_i r4) ∧ (((i3 r4) = 0 → Q (some (sh_i 0)) m8) ∧ (¬ (i3 r4) = 0 → (sh_Cal g d m_Read_takeNumber [(sh_r 4), (sh_i 1), (sh_i 12)] m8 fun rv m9 => ∃ r5 : Int, rv = some (sh_i r5) ∧ ((¬ (i3 r5) = 0 → ((0 ≤ (mem B 1) ∧ (mem B 1) < 4) ∧ (∀ m10 : sh_Mem, m10 = ms m9 (B + 7) (ru (m9 (B + 7)) ((mem B 1)).toNat (m9 4 2)) → (∀ m11 : sh_Mem, m11 = ms m10 B (ru (m10 B) 1 ((m10 B 1) + 1)) → (sh_Cal g d m_Read_takeSign [(sh_r 4), (sh_i 59)] m11 fun rv m12 => ∃ r6 : Int, rv = some (sh_i r6) ∧ ((r6 = 0 ∨ r6 = 1) ∧ Q (some (sh_i r6)) m12)))))) ∧ ((i3 r5) = 0 → Q (some (sh_i 0)) m9))))))))) ∧ ((i3 r3) = 0 → Q (some (sh_i 0)) m6)))))))))) ∧ ((i3 r1) = 0 → Q (some (sh_i 0)) m2))))) ∧ (¬ (i3 (mem B 1)) < 4 → (sh_Cal g d m_Read_refuse [(sh_r 4), (sh_i 5)] mem fun rv m13 => ∃ r7 : Int, rv = some (sh_i r7) ∧ ((r7 = 0 ∨ r7 = 1) ∧ Q (some (sh_i r7)) m13))))) : sh_Cal g (d + 1) m_Read_readThief [(sh_r 4), (sh_r B)] mem Q := by
  refine sh_met (by decide +kernel) (Nat.le_of_ble_eq_true rfl) (lo := [(0, (sh_r 4)), (1, (sh_r B))]) rfl ?_
  refine xr_aload_n (n := 1) (i := 1) rfl (List.mem_of_getElem? (i := 1) rfl) (by decide +kernel) ?_
  refine xr_getI (ob0_0 hB) fl_Read_117 (by decide) (by decide +kernel) ?_
  refine xr_istore_n (n := 2) (i := 2) rfl (by decide) rfl (by decide +kernel) ?_
  refine xr_iload_n (n := 2) (i := 2) rfl (List.mem_of_getElem? (i := 0) rfl) (by decide +kernel) ?_
  refine xr_iconst (n := 4) (by decide +kernel) ?_
  refine xr_icmp_lt (a' := (i3 (mem B 1))) (b' := 4) rfl (by decide) (off := 9) (tgt := 16) (by decide) (by decide +kernel) ⟨fun c1 => ?_, fun c1 => ?_⟩
  · have k := k.1 c1
    refine xr_aload_n (n := 0) (i := 0) rfl (List.mem_of_getElem? (i := 1) rfl) (by decide +kernel) ?_
    refine xr_getT rfl fl_Read_9 rfl (by decide +kernel) ?_
    refine xr_callV (av := []) rfl rfl rfl mo_Tape_step ml_Read_72 im_Tape_step se_Tape_step rfl (Nat.le_of_ble_eq_true rfl) (by decide +kernel) (sh_mono k ?_)
    rintro rv m1 ⟨rfl, k⟩
    show sh_X g (d + 1) m_Read_readThief _ _ [] _ _
    refine xr_aload_n (n := 0) (i := 0) rfl (List.mem_of_getElem? (i := 1) rfl) (by decide +kernel) ?_
    refine xr_aload_n (n := 1) (i := 1) rfl (List.mem_of_getElem? (i := 2) rfl) (by decide +kernel) ?_
    refine xr_callV (av := [(sh_r B)]) rfl rfl rfl mo_Read_isNewName ml_Read_75 im_Read_isNewName se_Read_isNewName rfl (Nat.le_of_ble_eq_true rfl) (by decide +kernel) (sh_mono k ?_)
    rintro rv m2 ⟨r1, rfl, k⟩
    show sh_X g (d + 1) m_Read_readThief _ _ [(sh_i r1)] _ _
    refine xr_if_ne (a' := (i3 r1)) rfl (off := 5) (tgt := 33) (by decide) (by decide +kernel) ⟨fun c2 => ?_, fun c2 => ?_⟩
    · have k := k.1 c2
      refine xr_aload_n (n := 1) (i := 1) rfl (List.mem_of_getElem? (i := 2) rfl) (by decide +kernel) ?_
      refine xr_getR (o := 5) (ob0_0 hB) fl_Read_120 rfl (by decide +kernel) ?_
      show sh_X g (d + 1) m_Read_readThief _ _ ((sh_r (B + 5)) :: _) _ _
      refine xr_iload_n (n := 2) (i := 2) rfl (List.mem_of_getElem? (i := 0) rfl) (by decide +kernel) ?_
      refine xr_aload_n (n := 0) (i := 0) rfl (List.mem_of_getElem? (i := 1) rfl) (by decide +kernel) ?_
      refine xr_getT rfl fl_Read_9 rfl (by decide +kernel) ?_
      refine xr_getL rfl fl_Read_82 (by decide) (by decide +kernel) ?_
      have o9 := True.intro
      obtain ⟨o, k⟩ := k
      refine xr_last (ob0_5 hB) o.1 o.2 (by decide +kernel) ?_
      have k := k _ rfl
      generalize hg_m3 : ms m2 (B + 5) (ru (m2 (B + 5)) ((mem B 1)).toNat (m2 2 5)) = m3 at k ⊢
      refine xr_aload_n (n := 0) (i := 0) rfl (List.mem_of_getElem? (i := 1) rfl) (by decide +kernel) ?_
      refine xr_getT rfl fl_Read_9 rfl (by decide +kernel) ?_
      refine xr_callV (av := []) rfl rfl rfl mo_Tape_step ml_Read_72 im_Tape_step se_Tape_step rfl (Nat.le_of_ble_eq_true rfl) (by decide +kernel) (sh_mono k ?_)
      rintro rv m4 ⟨rfl, k⟩
      show sh_X g (d + 1) m_Read_readThief _ _ [] _ _
      refine xr_aload_n (n := 0) (i := 0) rfl (List.mem_of_getElem? (i := 1) rfl) (by decide +kernel) ?_
      refine xr_ldcS (ix := 123) (i := 10) (by decide) rfl (by decide +kernel) ?_
      show sh_X g (d + 1) m_Read_readThief _ _ ((sh_r 1010) :: _) _ _
      refine xr_callV (av := [(sh_r 1010)]) rfl rfl rfl mo_Read_takeWord ml_Read_96 im_Read_takeWord se_Read_takeWord rfl (Nat.le_of_ble_eq_true rfl) (by decide +kernel) (sh_mono k ?_)
      rintro rv m5 ⟨r2, rfl, k⟩
      show sh_X g (d + 1) m_Read_readThief _ _ [(sh_i r2)] _ _
      refine xr_if_eq (a' := (i3 r2)) rfl (off := 13) (tgt := 72) (by decide) (by decide +kernel) ⟨fun c3 => ?_, fun c3 => ?_⟩
      · have k := k.1 c3
        refine xr_iconst (n := 0) (by decide +kernel) ?_
        exact xr_zret rfl (by decide +kernel) (by decide) k
      · have k := k.2 c3
        refine xr_aload_n (n := 0) (i := 0) rfl (List.mem_of_getElem? (i := 1) rfl) (by decide +kernel) ?_
        refine xr_iconst (n := 0) (by decide +kernel) ?_
        refine xr_bipush (n := 9) (v := 9) (by decide) (by decide +kernel) ?_
        refine xr_callV (av := [(sh_i 0), (sh_i 9)]) rfl rfl rfl mo_Read_takeNumber ml_Read_99 im_Read_takeNumber se_Read_takeNumber rfl (Nat.le_of_ble_eq_true rfl) (by decide +kernel) (sh_mono k ?_)
        rintro rv m6 ⟨r3, rfl, k⟩
        show sh_X g (d + 1) m_Read_readThief _ _ [(sh_i r3)] _ _
        refine xr_if_ne (a' := (i3 r3)) rfl (off := 5) (tgt := 74) (by decide) (by decide +kernel) ⟨fun c4 => ?_, fun c4 => ?_⟩
        · have k := k.1 c4
          refine xr_aload_n (n := 1) (i := 1) rfl (List.mem_of_getElem? (i := 2) rfl) (by decide +kernel) ?_
          refine xr_getR (o := 6) (ob0_0 hB) fl_Read_125 rfl (by decide +kernel) ?_
          show sh_X g (d + 1) m_Read_readThief _ _ ((sh_r (B + 6)) :: _) _ _
          refine xr_iload_n (n := 2) (i := 2) rfl (List.mem_of_getElem? (i := 0) rfl) (by decide +kernel) ?_
          refine xr_aload_n (n := 0) (i := 0) rfl (List.mem_of_getElem? (i := 1) rfl) (by decide +kernel) ?_
          refine xr_getI rfl fl_Read_106 (by decide) (by decide +kernel) ?_
          have o9 := True.intro
          obtain ⟨o, k⟩ := k
          refine xr_iast (ob0_6 hB) o.1 o.2 (by decide +kernel) ?_
          have k := k _ rfl
          generalize hg_m7 : ms m6 (B + 6) (ru (m6 (B + 6)) ((mem B 1)).toNat (m6 4 2)) = m7 at k ⊢
          refine xr_aload_n (n := 0) (i := 0) rfl (List.mem_of_getElem? (i := 1) rfl) (by decide +kernel) ?_
          refine xr_ldcS (ix := 128) (i := 11) (by decide) rfl (by decide +kernel) ?_
          show sh_X g (d + 1) m_Read_readThief _ _ ((sh_r 1011) :: _) _ _
          refine xr_callV (av := [(sh_r 1011)]) rfl rfl rfl mo_Read_takeWord ml_Read_96 im_Read_takeWord se_Read_takeWord rfl (Nat.le_of_ble_eq_true rfl) (by decide +kernel) (sh_mono k ?_)
          rintro rv m8 ⟨r4, rfl, k⟩
          show sh_X g (d + 1) m_Read_readThief _ _ [(sh_i r4)] _ _
          refine xr_if_eq (a' := (i3 r4)) rfl (off := 13) (tgt := 103) (by decide) (by decide +kernel) ⟨fun c5 => ?_, fun c5 => ?_⟩
          · have k := k.1 c5
            refine xr_iconst (n := 0) (by decide +kernel) ?_
            exact xr_zret rfl (by decide +kernel) (by decide) k
          · have k := k.2 c5
            refine xr_aload_n (n := 0) (i := 0) rfl (List.mem_of_getElem? (i := 1) rfl) (by decide +kernel) ?_
            refine xr_iconst (n := 1) (by decide +kernel) ?_
            refine xr_bipush (n := 12) (v := 12) (by decide) (by decide +kernel) ?_
            refine xr_callV (av := [(sh_i 1), (sh_i 12)]) rfl rfl rfl mo_Read_takeNumber ml_Read_99 im_Read_takeNumber se_Read_takeNumber rfl (Nat.le_of_ble_eq_true rfl) (by decide +kernel) (sh_mono k ?_)
            rintro rv m9 ⟨r5, rfl, k⟩
            show sh_X g (d + 1) m_Read_readThief _ _ [(sh_i r5)] _ _
            refine xr_if_ne (a' := (i3 r5)) rfl (off := 5) (tgt := 105) (by decide) (by decide +kernel) ⟨fun c6 => ?_, fun c6 => ?_⟩
            · have k := k.1 c6
              refine xr_aload_n (n := 1) (i := 1) rfl (List.mem_of_getElem? (i := 2) rfl) (by decide +kernel) ?_
              refine xr_getR (o := 7) (ob0_0 hB) fl_Read_130 rfl (by decide +kernel) ?_
              show sh_X g (d + 1) m_Read_readThief _ _ ((sh_r (B + 7)) :: _) _ _
              refine xr_iload_n (n := 2) (i := 2) rfl (List.mem_of_getElem? (i := 0) rfl) (by decide +kernel) ?_
              refine xr_aload_n (n := 0) (i := 0) rfl (List.mem_of_getElem? (i := 1) rfl) (by decide +kernel) ?_
              refine xr_getI rfl fl_Read_106 (by decide) (by decide +kernel) ?_
              have o9 := True.intro
              obtain ⟨o, k⟩ := k
              refine xr_iast (ob0_7 hB) o.1 o.2 (by decide +kernel) ?_
              have k := k _ rfl
              generalize hg_m10 : ms m9 (B + 7) (ru (m9 (B + 7)) ((mem B 1)).toNat (m9 4 2)) = m10 at k ⊢
              refine xr_aload_n (n := 1) (i := 1) rfl (List.mem_of_getElem? (i := 2) rfl) (by decide +kernel) ?_
              refine xr_dupR (by decide +kernel) ?_
              refine xr_getI (ob0_0 hB) fl_Read_117 (by decide) (by decide +kernel) ?_
              refine xr_iconst (n := 1) (by decide +kernel) ?_
              refine xr_iadd (by decide +kernel) ?_
              show sh_X g (d + 1) m_Read_readThief _ _ ((sh_i ((m10 B 1) + 1)) :: _) _ _
              refine xr_putI (ob0_0 hB) pl_Read_117 rfl (by decide +kernel) ?_
              have k := k _ rfl
              generalize hg_m11 : ms m10 B (ru (m10 B) 1 ((m10 B 1) + 1)) = m11 at k ⊢
              refine xr_aload_n (n := 0) (i := 0) rfl (List.mem_of_getElem? (i := 1) rfl) (by decide +kernel) ?_
              refine xr_bipush (n := 59) (v := 59) (by decide) (by decide +kernel) ?_
              refine xr_callV (av := [(sh_i 59)]) rfl rfl rfl mo_Read_takeSign ml_Read_114 im_Read_takeSign se_Read_takeSign rfl (Nat.le_of_ble_eq_true rfl) (by decide +kernel) (sh_mono k ?_)
              rintro rv m12 ⟨r6, rfl, k⟩
              show sh_X g (d + 1) m_Read_readThief _ _ [(sh_i r6)] _ _
              exact xr_zret rfl (by decide +kernel) k.1 k.2
            · have k := k.2 c6
              refine xr_iconst (n := 0) (by decide +kernel) ?_
              exact xr_zret rfl (by decide +kernel) (by decide) k
        · have k := k.2 c4
          refine xr_iconst (n := 0) (by decide +kernel) ?_
          exact xr_zret rfl (by decide +kernel) (by decide) k
    · have k := k.2 c2
      refine xr_iconst (n := 0) (by decide +kernel) ?_
      exact xr_zret rfl (by decide +kernel) (by decide) k
  · have k := k.2 c1
    refine xr_aload_n (n := 0) (i := 0) rfl (List.mem_of_getElem? (i := 1) rfl) (by decide +kernel) ?_
    refine xr_iconst (n := 5) (by decide +kernel) ?_
    refine xr_callV (av := [(sh_i 5)]) rfl rfl rfl mo_Read_refuse ml_Read_65 im_Read_refuse se_Read_refuse rfl (Nat.le_of_ble_eq_true rfl) (by decide +kernel) (sh_mono k ?_)
    rintro rv m13 ⟨r7, rfl, k⟩
    show sh_X g (d + 1) m_Read_readThief _ _ [(sh_i r7)] _ _
    exact xr_zret rfl (by decide +kernel) k.1 k.2

theorem v_Read_readPays {g : sh_G} {d : Nat} {B : Nat}  {mem : sh_Mem} {Q : Option sh_V → sh_Mem → Prop} (hB : ob0 B) (k : (((i3 (mem B 2)) = 0 → (∀ m1 : sh_Mem, m1 = ms mem B (ru (mem B) 2 1) → (sh_Cal g d m_Law_clear [(sh_r (B + 8))] m1 fun rv m2 => rv = none ∧ (sh_Cal g d m_Tape_step [(sh_r 2)] m2 fun rv m3 => rv = none ∧ (sh_Cal g d m_Read_readE [(sh_r 4), (sh_r (B + 8)), (sh_i 0)] m3 fun rv m4 => ∃ r1 : Int, rv = some (sh_i r1) ∧ (((i3 r1) = 0 → Q (some (sh_i 0)) m4) ∧ (¬ (i3 r1) = 0 → (sh_Cal g d m_Read_takeSign [(sh_r 4), (sh_i 59)] m4 fun rv m5 => ∃ r2 : Int, rv = some (sh_i r2) ∧ (((i3 r2) = 0 → Q (some (sh_i 0)) m5) ∧ (¬ (i3 r2) = 0 → Q (some (sh_i 1)) m5)))))))))) ∧ (¬ (i3 (mem B 2)) = 0 → (sh_Cal g d m_Read_refuse [(sh_r 4), (sh_i 3)] mem fun rv m6 => ∃ r3 : Int, rv = some (sh_i r3) ∧ ((r3 = 0 ∨ r3 = 1) ∧ Q (some (sh_i r3)) m6))))) : sh_Cal g (d + 1) m_Read_readPays [(sh_r 4), (sh_r B)] mem Q := by
  refine sh_met (by decide +kernel) (Nat.le_of_ble_eq_true rfl) (lo := [(0, (sh_r 4)), (1, (sh_r B))]) rfl ?_
  refine xr_aload_n (n := 1) (i := 1) rfl (List.mem_of_getElem? (i := 1) rfl) (by decide +kernel) ?_
  refine xr_getI (ob0_0 hB) fl_Read_133 (by decide) (by decide +kernel) ?_
  refine xr_if_eq (a' := (i3 (mem B 2))) rfl (off := 9) (tgt := 13) (by decide) (by decide +kernel) ⟨fun c1 => ?_, fun c1 => ?_⟩
  · have k := k.1 c1
    refine xr_aload_n (n := 1) (i := 1) rfl (List.mem_of_getElem? (i := 1) rfl) (by decide +kernel) ?_
    refine xr_iconst (n := 1) (by decide +kernel) ?_
    refine xr_putZ (by decide) (ob0_0 hB) pl_Read_133 rfl (by decide +kernel) ?_
    have k := k _ rfl
    generalize hg_m1 : ms mem B (ru (mem B) 2 1) = m1 at k ⊢
    refine xr_aload_n (n := 1) (i := 1) rfl (List.mem_of_getElem? (i := 1) rfl) (by decide +kernel) ?_
    refine xr_getR (o := 8) (ob0_0 hB) fl_Read_137 rfl (by decide +kernel) ?_
    show sh_X g (d + 1) m_Read_readPays _ _ ((sh_r (B + 8)) :: _) _ _
    refine xr_callV (av := []) (ob0_8 hB) rfl rfl mo_Law_clear ml_Read_141 im_Law_clear se_Law_clear rfl (Nat.le_of_ble_eq_true rfl) (by decide +kernel) (sh_mono k ?_)
    rintro rv m2 ⟨rfl, k⟩
    show sh_X g (d + 1) m_Read_readPays _ _ [] _ _
    refine xr_aload_n (n := 0) (i := 0) rfl (List.mem_of_getElem? (i := 0) rfl) (by decide +kernel) ?_
    refine xr_getT rfl fl_Read_9 rfl (by decide +kernel) ?_
    refine xr_callV (av := []) rfl rfl rfl mo_Tape_step ml_Read_72 im_Tape_step se_Tape_step rfl (Nat.le_of_ble_eq_true rfl) (by decide +kernel) (sh_mono k ?_)
    rintro rv m3 ⟨rfl, k⟩
    show sh_X g (d + 1) m_Read_readPays _ _ [] _ _
    refine xr_aload_n (n := 0) (i := 0) rfl (List.mem_of_getElem? (i := 0) rfl) (by decide +kernel) ?_
    refine xr_aload_n (n := 1) (i := 1) rfl (List.mem_of_getElem? (i := 1) rfl) (by decide +kernel) ?_
    refine xr_getR (o := 8) (ob0_0 hB) fl_Read_137 rfl (by decide +kernel) ?_
    show sh_X g (d + 1) m_Read_readPays _ _ ((sh_r (B + 8)) :: _) _ _
    refine xr_iconst (n := 0) (by decide +kernel) ?_
    refine xr_callV (av := [(sh_r (B + 8)), (sh_i 0)]) rfl rfl rfl mo_Read_readE ml_Read_144 im_Read_readE se_Read_readE rfl (Nat.le_of_ble_eq_true rfl) (by decide +kernel) (sh_mono k ?_)
    rintro rv m4 ⟨r1, rfl, k⟩
    show sh_X g (d + 1) m_Read_readPays _ _ [(sh_i r1)] _ _
    refine xr_if_eq (a' := (i3 r1)) rfl (off := 16) (tgt := 57) (by decide) (by decide +kernel) ⟨fun c2 => ?_, fun c2 => ?_⟩
    · have k := k.1 c2
      refine xr_iconst (n := 0) (by decide +kernel) ?_
      exact xr_zret rfl (by decide +kernel) (by decide) k
    · have k := k.2 c2
      refine xr_aload_n (n := 0) (i := 0) rfl (List.mem_of_getElem? (i := 0) rfl) (by decide +kernel) ?_
      refine xr_bipush (n := 59) (v := 59) (by decide) (by decide +kernel) ?_
      refine xr_callV (av := [(sh_i 59)]) rfl rfl rfl mo_Read_takeSign ml_Read_114 im_Read_takeSign se_Read_takeSign rfl (Nat.le_of_ble_eq_true rfl) (by decide +kernel) (sh_mono k ?_)
      rintro rv m5 ⟨r2, rfl, k⟩
      show sh_X g (d + 1) m_Read_readPays _ _ [(sh_i r2)] _ _
      refine xr_if_eq (a' := (i3 r2)) rfl (off := 7) (tgt := 57) (by decide) (by decide +kernel) ⟨fun c3 => ?_, fun c3 => ?_⟩
      · have k := k.1 c3
        refine xr_iconst (n := 0) (by decide +kernel) ?_
        exact xr_zret rfl (by decide +kernel) (by decide) k
      · have k := k.2 c3
        refine xr_iconst (n := 1) (by decide +kernel) ?_
        refine xr_goto (off := 4) (tgt := 58) (by decide) (by decide +kernel) ?_
        exact xr_zret rfl (by decide +kernel) (by decide) k
  · have k := k.2 c1
    refine xr_aload_n (n := 0) (i := 0) rfl (List.mem_of_getElem? (i := 0) rfl) (by decide +kernel) ?_
    refine xr_iconst (n := 3) (by decide +kernel) ?_
    refine xr_callV (av := [(sh_i 3)]) rfl rfl rfl mo_Read_refuse ml_Read_65 im_Read_refuse se_Read_refuse rfl (Nat.le_of_ble_eq_true rfl) (by decide +kernel) (sh_mono k ?_)
    rintro rv m6 ⟨r3, rfl, k⟩
    show sh_X g (d + 1) m_Read_readPays _ _ [(sh_i r3)] _ _
    exact xr_zret rfl (by decide +kernel) k.1 k.2

theorem v_Read_readE {g : sh_G} {d : Nat} {L : Nat} {depth : Int}  {mem : sh_Mem} {Q : Option sh_V → sh_Mem → Prop} (hL : ob2 L) (k : (sh_Cal g d m_Read_readTest [(sh_r 4), (sh_r L), (sh_i depth)] mem fun rv m1 => ∃ r1 : Int, rv = some (sh_i r1) ∧ sh_X g (d + 1) m_Read_readE 10 [(0, (sh_r 4)), (1, (sh_r L)), (2, (sh_i depth)), (3, (sh_i r1)), (4, (sh_i 0))] [] m1 (sh_K m_Read_readE Q))) : sh_Cal g (d + 1) m_Read_readE [(sh_r 4), (sh_r L), (sh_i depth)] mem Q := by
  refine sh_met (by decide +kernel) (Nat.le_of_ble_eq_true rfl) (lo := [(0, (sh_r 4)), (1, (sh_r L)), (2, (sh_i depth))]) rfl ?_
  refine xr_aload_n (n := 0) (i := 0) rfl (List.mem_of_getElem? (i := 0) rfl) (by decide +kernel) ?_
  refine xr_aload_n (n := 1) (i := 1) rfl (List.mem_of_getElem? (i := 1) rfl) (by decide +kernel) ?_
  refine xr_iload_n (n := 2) (i := 2) rfl (List.mem_of_getElem? (i := 2) rfl) (by decide +kernel) ?_
  refine xr_callV (av := [(sh_r L), (sh_i depth)]) rfl rfl rfl mo_Read_readTest ml_Read_148 im_Read_readTest se_Read_readTest rfl (Nat.le_of_ble_eq_true rfl) (by decide +kernel) (sh_mono k ?_)
  rintro rv m1 ⟨r1, rfl, k⟩
  show sh_X g (d + 1) m_Read_readE _ _ [(sh_i r1)] _ _
  refine xr_istore_n (n := 3) (i := 3) rfl (by decide) rfl (by decide +kernel) ?_
  refine xr_iconst (n := 0) (by decide +kernel) ?_
  refine xr_istore (i := 4) (by decide) rfl (by decide +kernel) ?_
  refine xr_sub (lo' := [(0, (sh_r 4)), (1, (sh_r L)), (2, (sh_i depth)), (3, (sh_i r1)), (4, (sh_i 0))]) [2, 3, 4, 1, 0] rfl ?_
  exact k
theorem v_Read_readE_10 {g : sh_G} {d : Nat} {L : Nat} {depth : Int}  {mem : sh_Mem} {Q : Option sh_V → sh_Mem → Prop} (hL : ob2 L) {x3 : Int} {x4 : Nat} (k : ((1000 ≤ (i3 (x4 : Int)) → ((x3 = 0 ∨ x3 = 1) ∧ Q (some (sh_i x3)) mem)) ∧ (¬ 1000 ≤ (i3 (x4 : Int)) → (((i3 x3) = 0 → ((x3 = 0 ∨ x3 = 1) ∧ Q (some (sh_i x3)) mem)) ∧ (¬ (i3 x3) = 0 → (sh_Cal g d m_Tape_isWord [(sh_r 2), (sh_r 1018)] mem fun rv m1 => ∃ r1 : Int, rv = some (sh_i r1) ∧ ((¬ (i3 r1) = 0 → sh_X g (d + 1) m_Read_readE 46 [(0, (sh_r 4)), (1, (sh_r L)), (2, (sh_i depth)), (3, (sh_i x3)), (4, (sh_i (x4 : Int)))] [] m1 (sh_K m_Read_readE Q)) ∧ ((i3 r1) = 0 → (sh_Cal g d m_Tape_isWord [(sh_r 2), (sh_r 1019)] m1 fun rv m2 => ∃ r2 : Int, rv = some (sh_i r2) ∧ (((i3 r2) = 0 → ((x3 = 0 ∨ x3 = 1) ∧ Q (some (sh_i x3)) m2)) ∧ (¬ (i3 r2) = 0 → sh_X g (d + 1) m_Read_readE 46 [(0, (sh_r 4)), (1, (sh_r L)), (2, (sh_i depth)), (3, (sh_i x3)), (4, (sh_i (x4 : Int)))] [] m2 (sh_K m_Read_readE Q)))))))))))) : sh_X g (d + 1) m_Read_readE 10 [(0, (sh_r 4)), (1, (sh_r L)), (2, (sh_i depth)), (3, (sh_i x3)), (4, (sh_i (x4 : Int)))] [] mem (sh_K m_Read_readE Q) := by
  refine xr_iload (i := 4) (List.mem_of_getElem? (i := 4) rfl) (by decide +kernel) ?_
  refine xr_sipush (n := 1000) (v := 1000) (by decide) (by decide +kernel) ?_
  refine xr_icmp_ge (a' := (i3 (x4 : Int))) (b' := 1000) rfl (by decide) (off := 78) (tgt := 93) (by decide) (by decide +kernel) ⟨fun c1 => ?_, fun c1 => ?_⟩
  · have k := k.1 c1
    refine xr_iload_n (n := 3) (i := 3) rfl (List.mem_of_getElem? (i := 3) rfl) (by decide +kernel) ?_
    exact xr_zret rfl (by decide +kernel) k.1 k.2
  · have k := k.2 c1
    refine xr_iload_n (n := 3) (i := 3) rfl (List.mem_of_getElem? (i := 3) rfl) (by decide +kernel) ?_
    refine xr_if_eq (a' := (i3 x3)) rfl (off := 74) (tgt := 93) (by decide) (by decide +kernel) ⟨fun c2 => ?_, fun c2 => ?_⟩
    · have k := k.1 c2
      refine xr_iload_n (n := 3) (i := 3) rfl (List.mem_of_getElem? (i := 3) rfl) (by decide +kernel) ?_
      exact xr_zret rfl (by decide +kernel) k.1 k.2
    · have k := k.2 c2
      refine xr_aload_n (n := 0) (i := 0) rfl (List.mem_of_getElem? (i := 0) rfl) (by decide +kernel) ?_
      refine xr_getT rfl fl_Read_9 rfl (by decide +kernel) ?_
      refine xr_ldcS (ix := 151) (i := 18) (by decide) rfl (by decide +kernel) ?_
      show sh_X g (d + 1) m_Read_readE _ _ ((sh_r 1018) :: _) _ _
      refine xr_callV (av := [(sh_r 1018)]) rfl rfl rfl mo_Tape_isWord ml_Read_48 im_Tape_isWord se_Tape_isWord rfl (Nat.le_of_ble_eq_true rfl) (by decide +kernel) (sh_mono k ?_)
      rintro rv m1 ⟨r1, rfl, k⟩
      show sh_X g (d + 1) m_Read_readE _ _ [(sh_i r1)] _ _
      refine xr_if_ne (a' := (i3 r1)) rfl (off := 15) (tgt := 46) (by decide) (by decide +kernel) ⟨fun c3 => ?_, fun c3 => ?_⟩
      · have k := k.1 c3
        refine xr_sub (lo' := [(0, (sh_r 4)), (1, (sh_r L)), (2, (sh_i depth)), (3, (sh_i x3)), (4, (sh_i (x4 : Int)))]) [0, 1, 2, 3, 4] rfl ?_
        exact k
      · have k := k.2 c3
        refine xr_aload_n (n := 0) (i := 0) rfl (List.mem_of_getElem? (i := 0) rfl) (by decide +kernel) ?_
        refine xr_getT rfl fl_Read_9 rfl (by decide +kernel) ?_
        refine xr_ldcS (ix := 153) (i := 19) (by decide) rfl (by decide +kernel) ?_
        show sh_X g (d + 1) m_Read_readE _ _ ((sh_r 1019) :: _) _ _
        refine xr_callV (av := [(sh_r 1019)]) rfl rfl rfl mo_Tape_isWord ml_Read_48 im_Tape_isWord se_Tape_isWord rfl (Nat.le_of_ble_eq_true rfl) (by decide +kernel) (sh_mono k ?_)
        rintro rv m2 ⟨r2, rfl, k⟩
        show sh_X g (d + 1) m_Read_readE _ _ [(sh_i r2)] _ _
        refine xr_if_eq (a' := (i3 r2)) rfl (off := 50) (tgt := 93) (by decide) (by decide +kernel) ⟨fun c4 => ?_, fun c4 => ?_⟩
        · have k := k.1 c4
          refine xr_iload_n (n := 3) (i := 3) rfl (List.mem_of_getElem? (i := 3) rfl) (by decide +kernel) ?_
          exact xr_zret rfl (by decide +kernel) k.1 k.2
        · have k := k.2 c4
          refine xr_sub (lo' := [(0, (sh_r 4)), (1, (sh_r L)), (2, (sh_i depth)), (3, (sh_i x3)), (4, (sh_i (x4 : Int)))]) [0, 1, 2, 3, 4] rfl ?_
          exact k
theorem v_Read_readE_46 {g : sh_G} {d : Nat} {L : Nat} {depth : Int}  {mem : sh_Mem} {Q : Option sh_V → sh_Mem → Prop} (hL : ob2 L) {x3 : Int} {x4 : Nat} (k : (sh_Cal g d m_Tape_isWord [(sh_r 2), (sh_r 1018)] mem fun rv m1 => ∃ r1 : Int, rv = some (sh_i r1) ∧ (((i3 r1) = 0 → (sh_Cal g d m_Tape_step [(sh_r 2)] m1 fun rv m2 => rv = none ∧ (sh_Cal g d m_Read_readTest [(sh_r 4), (sh_r L), (sh_i depth)] m2 fun rv m3 => ∃ r2 : Int, rv = some (sh_i r2) ∧ (sh_Cal g d m_Law_put [(sh_r L), (sh_i (-7))] m3 fun rv m4 => rv = none ∧ sh_X g (d + 1) m_Read_readE 10 [(0, (sh_r 4)), (1, (sh_r L)), (2, (sh_i depth)), (3, (sh_i r2)), (4, (sh_i (((x4 + 1) : Nat) : Int)))] [] m4 (sh_K m_Read_readE Q))))) ∧ (¬ (i3 r1) = 0 → (sh_Cal g d m_Tape_step [(sh_r 2)] m1 fun rv m5 => rv = none ∧ (sh_Cal g d m_Read_readTest [(sh_r 4), (sh_r L), (sh_i depth)] m5 fun rv m6 => ∃ r3 : Int, rv = some (sh_i r3) ∧ (sh_Cal g d m_Law_put [(sh_r L), (sh_i (-6))] m6 fun rv m7 => rv = none ∧ sh_X g (d + 1) m_Read_readE 10 [(0, (sh_r 4)), (1, (sh_r L)), (2, (sh_i depth)), (3, (sh_i r3)), (4, (sh_i (((x4 + 1) : Nat) : Int)))] [] m7 (sh_K m_Read_readE Q)))))))) : sh_X g (d + 1) m_Read_readE 46 [(0, (sh_r 4)), (1, (sh_r L)), (2, (sh_i depth)), (3, (sh_i x3)), (4, (sh_i (x4 : Int)))] [] mem (sh_K m_Read_readE Q) := by
  refine xr_aload_n (n := 0) (i := 0) rfl (List.mem_of_getElem? (i := 0) rfl) (by decide +kernel) ?_
  refine xr_getT rfl fl_Read_9 rfl (by decide +kernel) ?_
  refine xr_ldcS (ix := 151) (i := 18) (by decide) rfl (by decide +kernel) ?_
  show sh_X g (d + 1) m_Read_readE _ _ ((sh_r 1018) :: _) _ _
  refine xr_callV (av := [(sh_r 1018)]) rfl rfl rfl mo_Tape_isWord ml_Read_48 im_Tape_isWord se_Tape_isWord rfl (Nat.le_of_ble_eq_true rfl) (by decide +kernel) (sh_mono k ?_)
  rintro rv m1 ⟨r1, rfl, k⟩
  show sh_X g (d + 1) m_Read_readE _ _ [(sh_i r1)] _ _
  refine xr_if_eq (a' := (i3 r1)) rfl (off := 8) (tgt := 63) (by decide) (by decide +kernel) ⟨fun c1 => ?_, fun c1 => ?_⟩
  · have k := k.1 c1
    refine xr_bipush (n := (-7)) (v := (-7)) (by decide) (by decide +kernel) ?_
    refine xr_istore (i := 5) (by decide) rfl (by decide +kernel) ?_
    refine xr_aload_n (n := 0) (i := 0) rfl (List.mem_of_getElem? (i := 1) rfl) (by decide +kernel) ?_
    refine xr_getT rfl fl_Read_9 rfl (by decide +kernel) ?_
    refine xr_callV (av := []) rfl rfl rfl mo_Tape_step ml_Read_72 im_Tape_step se_Tape_step rfl (Nat.le_of_ble_eq_true rfl) (by decide +kernel) (sh_mono k ?_)
    rintro rv m2 ⟨rfl, k⟩
    show sh_X g (d + 1) m_Read_readE _ _ [] _ _
    refine xr_aload_n (n := 0) (i := 0) rfl (List.mem_of_getElem? (i := 1) rfl) (by decide +kernel) ?_
    refine xr_aload_n (n := 1) (i := 1) rfl (List.mem_of_getElem? (i := 2) rfl) (by decide +kernel) ?_
    refine xr_iload_n (n := 2) (i := 2) rfl (List.mem_of_getElem? (i := 3) rfl) (by decide +kernel) ?_
    refine xr_callV (av := [(sh_r L), (sh_i depth)]) rfl rfl rfl mo_Read_readTest ml_Read_148 im_Read_readTest se_Read_readTest rfl (Nat.le_of_ble_eq_true rfl) (by decide +kernel) (sh_mono k ?_)
    rintro rv m3 ⟨r2, rfl, k⟩
    show sh_X g (d + 1) m_Read_readE _ _ [(sh_i r2)] _ _
    refine xr_istore_n (n := 3) (i := 3) rfl (by decide) rfl (by decide +kernel) ?_
    refine xr_aload_n (n := 1) (i := 1) rfl (List.mem_of_getElem? (i := 3) rfl) (by decide +kernel) ?_
    refine xr_iload (i := 5) (List.mem_of_getElem? (i := 1) rfl) (by decide +kernel) ?_
    refine xr_callV (av := [(sh_i (-7))]) (ob2_0 hL) rfl rfl mo_Law_put ml_Read_155 im_Law_put se_Law_put rfl (Nat.le_of_ble_eq_true rfl) (by decide +kernel) (sh_mono k ?_)
    rintro rv m4 ⟨rfl, k⟩
    show sh_X g (d + 1) m_Read_readE _ _ [] _ _
    refine xr_iinc (n := 1) (lo' := [(4, (sh_i (((x4 + 1) : Nat) : Int))), (3, (sh_i r2)), (5, (sh_i (-7))), (0, (sh_r 4)), (1, (sh_r L)), (2, (sh_i depth))]) (List.mem_of_getElem? (i := 5) rfl) (by decide) rfl (by decide +kernel) ?_
    refine xr_goto (off := (-80)) (tgt := 10) (by decide) (by decide +kernel) ?_
    refine xr_sub (lo' := [(0, (sh_r 4)), (1, (sh_r L)), (2, (sh_i depth)), (3, (sh_i r2)), (4, (sh_i (((x4 + 1) : Nat) : Int)))]) [3, 4, 5, 1, 0] rfl ?_
    exact k
  · have k := k.2 c1
    refine xr_bipush (n := (-6)) (v := (-6)) (by decide) (by decide +kernel) ?_
    refine xr_goto (off := 5) (tgt := 65) (by decide) (by decide +kernel) ?_
    refine xr_istore (i := 5) (by decide) rfl (by decide +kernel) ?_
    refine xr_aload_n (n := 0) (i := 0) rfl (List.mem_of_getElem? (i := 1) rfl) (by decide +kernel) ?_
    refine xr_getT rfl fl_Read_9 rfl (by decide +kernel) ?_
    refine xr_callV (av := []) rfl rfl rfl mo_Tape_step ml_Read_72 im_Tape_step se_Tape_step rfl (Nat.le_of_ble_eq_true rfl) (by decide +kernel) (sh_mono k ?_)
    rintro rv m5 ⟨rfl, k⟩
    show sh_X g (d + 1) m_Read_readE _ _ [] _ _
    refine xr_aload_n (n := 0) (i := 0) rfl (List.mem_of_getElem? (i := 1) rfl) (by decide +kernel) ?_
    refine xr_aload_n (n := 1) (i := 1) rfl (List.mem_of_getElem? (i := 2) rfl) (by decide +kernel) ?_
    refine xr_iload_n (n := 2) (i := 2) rfl (List.mem_of_getElem? (i := 3) rfl) (by decide +kernel) ?_
    refine xr_callV (av := [(sh_r L), (sh_i depth)]) rfl rfl rfl mo_Read_readTest ml_Read_148 im_Read_readTest se_Read_readTest rfl (Nat.le_of_ble_eq_true rfl) (by decide +kernel) (sh_mono k ?_)
    rintro rv m6 ⟨r3, rfl, k⟩
    show sh_X g (d + 1) m_Read_readE _ _ [(sh_i r3)] _ _
    refine xr_istore_n (n := 3) (i := 3) rfl (by decide) rfl (by decide +kernel) ?_
    refine xr_aload_n (n := 1) (i := 1) rfl (List.mem_of_getElem? (i := 3) rfl) (by decide +kernel) ?_
    refine xr_iload (i := 5) (List.mem_of_getElem? (i := 1) rfl) (by decide +kernel) ?_
    refine xr_callV (av := [(sh_i (-6))]) (ob2_0 hL) rfl rfl mo_Law_put ml_Read_155 im_Law_put se_Law_put rfl (Nat.le_of_ble_eq_true rfl) (by decide +kernel) (sh_mono k ?_)
    rintro rv m7 ⟨rfl, k⟩
    show sh_X g (d + 1) m_Read_readE _ _ [] _ _
    refine xr_iinc (n := 1) (lo' := [(4, (sh_i (((x4 + 1) : Nat) : Int))), (3, (sh_i r3)), (5, (sh_i (-6))), (0, (sh_r 4)), (1, (sh_r L)), (2, (sh_i depth))]) (List.mem_of_getElem? (i := 5) rfl) (by decide) rfl (by decide +kernel) ?_
    refine xr_goto (off := (-80)) (tgt := 10) (by decide) (by decide +kernel) ?_
    refine xr_sub (lo' := [(0, (sh_r 4)), (1, (sh_r L)), (2, (sh_i depth)), (3, (sh_i r3)), (4, (sh_i (((x4 + 1) : Nat) : Int)))]) [3, 4, 5, 1, 0] rfl ?_
    exact k

theorem v_Read_readTest {g : sh_G} {d : Nat} {L : Nat} {depth : Int}  {mem : sh_Mem} {Q : Option sh_V → sh_Mem → Prop} (hL : ob2 L) (k : (sh_Cal g d m_Read_readSum [(sh_r 4), (sh_r L), (sh_i depth)] mem fun rv m1 => ∃ r1 : Int, rv = some (sh_i r1) ∧ ((¬ (i3 r1) = 0 → (((i3 (m1 2 2)) = 60 → sh_X g (d + 1) m_Read_readTest 37 [(0, (sh_r 4)), (1, (sh_r L)), (2, (sh_i depth))] [] m1 (sh_K m_Read_readTest Q)) ∧ (¬ (i3 (m1 2 2)) = 60 → (((i3 (m1 2 2)) = 61 → sh_X g (d + 1) m_Read_readTest 37 [(0, (sh_r 4)), (1, (sh_r L)), (2, (sh_i depth))] [] m1 (sh_K m_Read_readTest Q)) ∧ (¬ (i3 (m1 2 2)) = 61 → Q (some (sh_i 1)) m1))))) ∧ ((i3 r1) = 0 → Q (some (sh_i 0)) m1)))) : sh_Cal g (d + 1) m_Read_readTest [(sh_r 4), (sh_r L), (sh_i depth)] mem Q := by
  refine sh_met (by decide +kernel) (Nat.le_of_ble_eq_true rfl) (lo := [(0, (sh_r 4)), (1, (sh_r L)), (2, (sh_i depth))]) rfl ?_
  refine xr_aload_n (n := 0) (i := 0) rfl (List.mem_of_getElem? (i := 0) rfl) (by decide +kernel) ?_
  refine xr_aload_n (n := 1) (i := 1) rfl (List.mem_of_getElem? (i := 1) rfl) (by decide +kernel) ?_
  refine xr_iload_n (n := 2) (i := 2) rfl (List.mem_of_getElem? (i := 2) rfl) (by decide +kernel) ?_
  refine xr_callV (av := [(sh_r L), (sh_i depth)]) rfl rfl rfl mo_Read_readSum ml_Read_159 im_Read_readSum se_Read_readSum rfl (Nat.le_of_ble_eq_true rfl) (by decide +kernel) (sh_mono k ?_)
  rintro rv m1 ⟨r1, rfl, k⟩
  show sh_X g (d + 1) m_Read_readTest _ _ [(sh_i r1)] _ _
  refine xr_if_ne (a' := (i3 r1)) rfl (off := 5) (tgt := 11) (by decide) (by decide +kernel) ⟨fun c1 => ?_, fun c1 => ?_⟩
  · have k := k.1 c1
    refine xr_aload_n (n := 0) (i := 0) rfl (List.mem_of_getElem? (i := 0) rfl) (by decide +kernel) ?_
    refine xr_getT rfl fl_Read_9 rfl (by decide +kernel) ?_
    refine xr_getI rfl fl_Read_29 (by decide) (by decide +kernel) ?_
    refine xr_bipush (n := 60) (v := 60) (by decide) (by decide +kernel) ?_
    refine xr_icmp_eq (a' := (i3 (m1 2 2))) (b' := 60) rfl (by decide) (off := 17) (tgt := 37) (by decide) (by decide +kernel) ⟨fun c2 => ?_, fun c2 => ?_⟩
    · have k := k.1 c2
      refine xr_sub (lo' := [(0, (sh_r 4)), (1, (sh_r L)), (2, (sh_i depth))]) [0, 1, 2] rfl ?_
      exact k
    · have k := k.2 c2
      refine xr_aload_n (n := 0) (i := 0) rfl (List.mem_of_getElem? (i := 0) rfl) (by decide +kernel) ?_
      refine xr_getT rfl fl_Read_9 rfl (by decide +kernel) ?_
      refine xr_getI rfl fl_Read_29 (by decide) (by decide +kernel) ?_
      refine xr_bipush (n := 61) (v := 61) (by decide) (by decide +kernel) ?_
      refine xr_icmp_eq (a' := (i3 (m1 2 2))) (b' := 61) rfl (by decide) (off := 5) (tgt := 37) (by decide) (by decide +kernel) ⟨fun c3 => ?_, fun c3 => ?_⟩
      · have k := k.1 c3
        refine xr_sub (lo' := [(0, (sh_r 4)), (1, (sh_r L)), (2, (sh_i depth))]) [0, 1, 2] rfl ?_
        exact k
      · have k := k.2 c3
        refine xr_iconst (n := 1) (by decide +kernel) ?_
        exact xr_zret rfl (by decide +kernel) (by decide) k
  · have k := k.2 c1
    refine xr_iconst (n := 0) (by decide +kernel) ?_
    exact xr_zret rfl (by decide +kernel) (by decide) k
theorem v_Read_readTest_37 {g : sh_G} {d : Nat} {L : Nat} {depth : Int}  {mem : sh_Mem} {Q : Option sh_V → sh_Mem → Prop} (hL : ob2 L)  (k : ((¬ (i3 (mem 2 2)) = 60 → (sh_Cal g d m_Tape_step [(sh_r 2)] mem fun rv m1 => rv = none ∧ (sh_Cal g d m_Read_readSum [(sh_r 4), (sh_r L), (sh_i depth)] m1 fun rv m2 => ∃ r1 : Int, rv = some (sh_i r1) ∧ (sh_Cal g d m_Law_put [(sh_r L), (sh_i (-9))] m2 fun rv m3 => rv = none ∧ ((r1 = 0 ∨ r1 = 1) ∧ Q (some (sh_i r1)) m3))))) ∧ ((i3 (mem 2 2)) = 60 → (sh_Cal g d m_Tape_step [(sh_r 2)] mem fun rv m4 => rv = none ∧ (sh_Cal g d m_Read_readSum [(sh_r 4), (sh_r L), (sh_i depth)] m4 fun rv m5 => ∃ r2 : Int, rv = some (sh_i r2) ∧ (sh_Cal g d m_Law_put [(sh_r L), (sh_i (-8))] m5 fun rv m6 => rv = none ∧ ((r2 = 0 ∨ r2 = 1) ∧ Q (some (sh_i r2)) m6))))))) : sh_X g (d + 1) m_Read_readTest 37 [(0, (sh_r 4)), (1, (sh_r L)), (2, (sh_i depth))] [] mem (sh_K m_Read_readTest Q) := by
  refine xr_aload_n (n := 0) (i := 0) rfl (List.mem_of_getElem? (i := 0) rfl) (by decide +kernel) ?_
  refine xr_getT rfl fl_Read_9 rfl (by decide +kernel) ?_
  refine xr_getI rfl fl_Read_29 (by decide) (by decide +kernel) ?_
  refine xr_bipush (n := 60) (v := 60) (by decide) (by decide +kernel) ?_
  refine xr_icmp_ne (a' := (i3 (mem 2 2))) (b' := 60) rfl (by decide) (off := 8) (tgt := 54) (by decide) (by decide +kernel) ⟨fun c1 => ?_, fun c1 => ?_⟩
  · have k := k.1 c1
    refine xr_bipush (n := (-9)) (v := (-9)) (by decide) (by decide +kernel) ?_
    refine xr_istore_n (n := 3) (i := 3) rfl (by decide) rfl (by decide +kernel) ?_
    refine xr_aload_n (n := 0) (i := 0) rfl (List.mem_of_getElem? (i := 1) rfl) (by decide +kernel) ?_
    refine xr_getT rfl fl_Read_9 rfl (by decide +kernel) ?_
    refine xr_callV (av := []) rfl rfl rfl mo_Tape_step ml_Read_72 im_Tape_step se_Tape_step rfl (Nat.le_of_ble_eq_true rfl) (by decide +kernel) (sh_mono k ?_)
    rintro rv m1 ⟨rfl, k⟩
    show sh_X g (d + 1) m_Read_readTest _ _ [] _ _
    refine xr_aload_n (n := 0) (i := 0) rfl (List.mem_of_getElem? (i := 1) rfl) (by decide +kernel) ?_
    refine xr_aload_n (n := 1) (i := 1) rfl (List.mem_of_getElem? (i := 2) rfl) (by decide +kernel) ?_
    refine xr_iload_n (n := 2) (i := 2) rfl (List.mem_of_getElem? (i := 3) rfl) (by decide +kernel) ?_
    refine xr_callV (av := [(sh_r L), (sh_i depth)]) rfl rfl rfl mo_Read_readSum ml_Read_159 im_Read_readSum se_Read_readSum rfl (Nat.le_of_ble_eq_true rfl) (by decide +kernel) (sh_mono k ?_)
    rintro rv m2 ⟨r1, rfl, k⟩
    show sh_X g (d + 1) m_Read_readTest _ _ [(sh_i r1)] _ _
    refine xr_istore (i := 4) (by decide) rfl (by decide +kernel) ?_
    refine xr_aload_n (n := 1) (i := 1) rfl (List.mem_of_getElem? (i := 3) rfl) (by decide +kernel) ?_
    refine xr_iload_n (n := 3) (i := 3) rfl (List.mem_of_getElem? (i := 1) rfl) (by decide +kernel) ?_
    refine xr_callV (av := [(sh_i (-9))]) (ob2_0 hL) rfl rfl mo_Law_put ml_Read_155 im_Law_put se_Law_put rfl (Nat.le_of_ble_eq_true rfl) (by decide +kernel) (sh_mono k ?_)
    rintro rv m3 ⟨rfl, k⟩
    show sh_X g (d + 1) m_Read_readTest _ _ [] _ _
    refine xr_iload (i := 4) (List.mem_of_getElem? (i := 0) rfl) (by decide +kernel) ?_
    exact xr_zret rfl (by decide +kernel) k.1 k.2
  · have k := k.2 c1
    refine xr_bipush (n := (-8)) (v := (-8)) (by decide) (by decide +kernel) ?_
    refine xr_goto (off := 5) (tgt := 56) (by decide) (by decide +kernel) ?_
    refine xr_istore_n (n := 3) (i := 3) rfl (by decide) rfl (by decide +kernel) ?_
    refine xr_aload_n (n := 0) (i := 0) rfl (List.mem_of_getElem? (i := 1) rfl) (by decide +kernel) ?_
    refine xr_getT rfl fl_Read_9 rfl (by decide +kernel) ?_
    refine xr_callV (av := []) rfl rfl rfl mo_Tape_step ml_Read_72 im_Tape_step se_Tape_step rfl (Nat.le_of_ble_eq_true rfl) (by decide +kernel) (sh_mono k ?_)
    rintro rv m4 ⟨rfl, k⟩
    show sh_X g (d + 1) m_Read_readTest _ _ [] _ _
    refine xr_aload_n (n := 0) (i := 0) rfl (List.mem_of_getElem? (i := 1) rfl) (by decide +kernel) ?_
    refine xr_aload_n (n := 1) (i := 1) rfl (List.mem_of_getElem? (i := 2) rfl) (by decide +kernel) ?_
    refine xr_iload_n (n := 2) (i := 2) rfl (List.mem_of_getElem? (i := 3) rfl) (by decide +kernel) ?_
    refine xr_callV (av := [(sh_r L), (sh_i depth)]) rfl rfl rfl mo_Read_readSum ml_Read_159 im_Read_readSum se_Read_readSum rfl (Nat.le_of_ble_eq_true rfl) (by decide +kernel) (sh_mono k ?_)
    rintro rv m5 ⟨r2, rfl, k⟩
    show sh_X g (d + 1) m_Read_readTest _ _ [(sh_i r2)] _ _
    refine xr_istore (i := 4) (by decide) rfl (by decide +kernel) ?_
    refine xr_aload_n (n := 1) (i := 1) rfl (List.mem_of_getElem? (i := 3) rfl) (by decide +kernel) ?_
    refine xr_iload_n (n := 3) (i := 3) rfl (List.mem_of_getElem? (i := 1) rfl) (by decide +kernel) ?_
    refine xr_callV (av := [(sh_i (-8))]) (ob2_0 hL) rfl rfl mo_Law_put ml_Read_155 im_Law_put se_Law_put rfl (Nat.le_of_ble_eq_true rfl) (by decide +kernel) (sh_mono k ?_)
    rintro rv m6 ⟨rfl, k⟩
    show sh_X g (d + 1) m_Read_readTest _ _ [] _ _
    refine xr_iload (i := 4) (List.mem_of_getElem? (i := 0) rfl) (by decide +kernel) ?_
    exact xr_zret rfl (by decide +kernel) k.1 k.2

theorem v_Read_readSum {g : sh_G} {d : Nat} {L : Nat} {depth : Int}  {mem : sh_Mem} {Q : Option sh_V → sh_Mem → Prop} (hL : ob2 L) (k : (sh_Cal g d m_Read_readProduct [(sh_r 4), (sh_r L), (sh_i depth)] mem fun rv m1 => ∃ r1 : Int, rv = some (sh_i r1) ∧ sh_X g (d + 1) m_Read_readSum 10 [(0, (sh_r 4)), (1, (sh_r L)), (2, (sh_i depth)), (3, (sh_i r1)), (4, (sh_i 0))] [] m1 (sh_K m_Read_readSum Q))) : sh_Cal g (d + 1) m_Read_readSum [(sh_r 4), (sh_r L), (sh_i depth)] mem Q := by
  refine sh_met (by decide +kernel) (Nat.le_of_ble_eq_true rfl) (lo := [(0, (sh_r 4)), (1, (sh_r L)), (2, (sh_i depth))]) rfl ?_
  refine xr_aload_n (n := 0) (i := 0) rfl (List.mem_of_getElem? (i := 0) rfl) (by decide +kernel) ?_
  refine xr_aload_n (n := 1) (i := 1) rfl (List.mem_of_getElem? (i := 1) rfl) (by decide +kernel) ?_
  refine xr_iload_n (n := 2) (i := 2) rfl (List.mem_of_getElem? (i := 2) rfl) (by decide +kernel) ?_
  refine xr_callV (av := [(sh_r L), (sh_i depth)]) rfl rfl rfl mo_Read_readProduct ml_Read_162 im_Read_readProduct se_Read_readProduct rfl (Nat.le_of_ble_eq_true rfl) (by decide +kernel) (sh_mono k ?_)
  rintro rv m1 ⟨r1, rfl, k⟩
  show sh_X g (d + 1) m_Read_readSum _ _ [(sh_i r1)] _ _
  refine xr_istore_n (n := 3) (i := 3) rfl (by decide) rfl (by decide +kernel) ?_
  refine xr_iconst (n := 0) (by decide +kernel) ?_
  refine xr_istore (i := 4) (by decide) rfl (by decide +kernel) ?_
  refine xr_sub (lo' := [(0, (sh_r 4)), (1, (sh_r L)), (2, (sh_i depth)), (3, (sh_i r1)), (4, (sh_i 0))]) [2, 3, 4, 1, 0] rfl ?_
  exact k
theorem v_Read_readSum_10 {g : sh_G} {d : Nat} {L : Nat} {depth : Int}  {mem : sh_Mem} {Q : Option sh_V → sh_Mem → Prop} (hL : ob2 L) {x3 : Int} {x4 : Nat} (k : ((1000 ≤ (i3 (x4 : Int)) → ((x3 = 0 ∨ x3 = 1) ∧ Q (some (sh_i x3)) mem)) ∧ (¬ 1000 ≤ (i3 (x4 : Int)) → (((i3 x3) = 0 → ((x3 = 0 ∨ x3 = 1) ∧ Q (some (sh_i x3)) mem)) ∧ (¬ (i3 x3) = 0 → (((i3 (mem 2 2)) = 43 → sh_X g (d + 1) m_Read_readSum 46 [(0, (sh_r 4)), (1, (sh_r L)), (2, (sh_i depth)), (3, (sh_i x3)), (4, (sh_i (x4 : Int)))] [] mem (sh_K m_Read_readSum Q)) ∧ (¬ (i3 (mem 2 2)) = 43 → ((¬ (i3 (mem 2 2)) = 45 → ((x3 = 0 ∨ x3 = 1) ∧ Q (some (sh_i x3)) mem)) ∧ ((i3 (mem 2 2)) = 45 → sh_X g (d + 1) m_Read_readSum 46 [(0, (sh_r 4)), (1, (sh_r L)), (2, (sh_i depth)), (3, (sh_i x3)), (4, (sh_i (x4 : Int)))] [] mem (sh_K m_Read_readSum Q)))))))))) : sh_X g (d + 1) m_Read_readSum 10 [(0, (sh_r 4)), (1, (sh_r L)), (2, (sh_i depth)), (3, (sh_i x3)), (4, (sh_i (x4 : Int)))] [] mem (sh_K m_Read_readSum Q) := by
  refine xr_iload (i := 4) (List.mem_of_getElem? (i := 4) rfl) (by decide +kernel) ?_
  refine xr_sipush (n := 1000) (v := 1000) (by decide) (by decide +kernel) ?_
  refine xr_icmp_ge (a' := (i3 (x4 : Int))) (b' := 1000) rfl (by decide) (off := 78) (tgt := 93) (by decide) (by decide +kernel) ⟨fun c1 => ?_, fun c1 => ?_⟩
  · have k := k.1 c1
    refine xr_iload_n (n := 3) (i := 3) rfl (List.mem_of_getElem? (i := 3) rfl) (by decide +kernel) ?_
    exact xr_zret rfl (by decide +kernel) k.1 k.2
  · have k := k.2 c1
    refine xr_iload_n (n := 3) (i := 3) rfl (List.mem_of_getElem? (i := 3) rfl) (by decide +kernel) ?_
    refine xr_if_eq (a' := (i3 x3)) rfl (off := 74) (tgt := 93) (by decide) (by decide +kernel) ⟨fun c2 => ?_, fun c2 => ?_⟩
    · have k := k.1 c2
      refine xr_iload_n (n := 3) (i := 3) rfl (List.mem_of_getElem? (i := 3) rfl) (by decide +kernel) ?_
      exact xr_zret rfl (by decide +kernel) k.1 k.2
    · have k := k.2 c2
      refine xr_aload_n (n := 0) (i := 0) rfl (List.mem_of_getElem? (i := 0) rfl) (by decide +kernel) ?_
      refine xr_getT rfl fl_Read_9 rfl (by decide +kernel) ?_
      refine xr_getI rfl fl_Read_29 (by decide) (by decide +kernel) ?_
      refine xr_bipush (n := 43) (v := 43) (by decide) (by decide +kernel) ?_
      refine xr_icmp_eq (a' := (i3 (mem 2 2))) (b' := 43) rfl (by decide) (off := 15) (tgt := 46) (by decide) (by decide +kernel) ⟨fun c3 => ?_, fun c3 => ?_⟩
      · have k := k.1 c3
        refine xr_sub (lo' := [(0, (sh_r 4)), (1, (sh_r L)), (2, (sh_i depth)), (3, (sh_i x3)), (4, (sh_i (x4 : Int)))]) [0, 1, 2, 3, 4] rfl ?_
        exact k
      · have k := k.2 c3
        refine xr_aload_n (n := 0) (i := 0) rfl (List.mem_of_getElem? (i := 0) rfl) (by decide +kernel) ?_
        refine xr_getT rfl fl_Read_9 rfl (by decide +kernel) ?_
        refine xr_getI rfl fl_Read_29 (by decide) (by decide +kernel) ?_
        refine xr_bipush (n := 45) (v := 45) (by decide) (by decide +kernel) ?_
        refine xr_icmp_ne (a' := (i3 (mem 2 2))) (b' := 45) rfl (by decide) (off := 50) (tgt := 93) (by decide) (by decide +kernel) ⟨fun c4 => ?_, fun c4 => ?_⟩
        · have k := k.1 c4
          refine xr_iload_n (n := 3) (i := 3) rfl (List.mem_of_getElem? (i := 3) rfl) (by decide +kernel) ?_
          exact xr_zret rfl (by decide +kernel) k.1 k.2
        · have k := k.2 c4
          refine xr_sub (lo' := [(0, (sh_r 4)), (1, (sh_r L)), (2, (sh_i depth)), (3, (sh_i x3)), (4, (sh_i (x4 : Int)))]) [0, 1, 2, 3, 4] rfl ?_
          exact k
theorem v_Read_readSum_46 {g : sh_G} {d : Nat} {L : Nat} {depth : Int}  {mem : sh_Mem} {Q : Option sh_V → sh_Mem → Prop} (hL : ob2 L) {x3 : Int} {x4 : Nat} (k : ((¬ (i3 (mem 2 2)) = 43 → (sh_Cal g d m_Tape_step [(sh_r 2)] mem fun rv m1 => rv = none ∧ (sh_Cal g d m_Read_readProduct [(sh_r 4), (sh_r L), (sh_i depth)] m1 fun rv m2 => ∃ r1 : Int, rv = some (sh_i r1) ∧ (sh_Cal g d m_Law_put [(sh_r L), (sh_i (-11))] m2 fun rv m3 => rv = none ∧ sh_X g (d + 1) m_Read_readSum 10 [(0, (sh_r 4)), (1, (sh_r L)), (2, (sh_i depth)), (3, (sh_i r1)), (4, (sh_i (((x4 + 1) : Nat) : Int)))] [] m3 (sh_K m_Read_readSum Q))))) ∧ ((i3 (mem 2 2)) = 43 → (sh_Cal g d m_Tape_step [(sh_r 2)] mem fun rv m4 => rv = none ∧ (sh_Cal g d m_Read_readProduct [(sh_r 4), (sh_r L), (sh_i depth)] m4 fun rv m5 => ∃ r2 : Int, rv = some (sh_i r2) ∧ (sh_Cal g d m_Law_put [(sh_r L), (sh_i (-10))] m5 fun rv m6 => rv = none ∧ sh_X g (d + 1) m_Read_readSum 10 [(0, (sh_r 4)), (1, (sh_r L)), (2, (sh_i depth)), (3, (sh_i r2)), (4, (sh_i (((x4 + 1) : Nat) : Int)))] [] m6 (sh_K m_Read_readSum Q))))))) : sh_X g (d + 1) m_Read_readSum 46 [(0, (sh_r 4)), (1, (sh_r L)), (2, (sh_i depth)), (3, (sh_i x3)), (4, (sh_i (x4 : Int)))] [] mem (sh_K m_Read_readSum Q) := by
  refine xr_aload_n (n := 0) (i := 0) rfl (List.mem_of_getElem? (i := 0) rfl) (by decide +kernel) ?_
  refine xr_getT rfl fl_Read_9 rfl (by decide +kernel) ?_
  refine xr_getI rfl fl_Read_29 (by decide) (by decide +kernel) ?_
  refine xr_bipush (n := 43) (v := 43) (by decide) (by decide +kernel) ?_
  refine xr_icmp_ne (a' := (i3 (mem 2 2))) (b' := 43) rfl (by decide) (off := 8) (tgt := 63) (by decide) (by decide +kernel) ⟨fun c1 => ?_, fun c1 => ?_⟩
  · have k := k.1 c1
    refine xr_bipush (n := (-11)) (v := (-11)) (by decide) (by decide +kernel) ?_
    refine xr_istore (i := 5) (by decide) rfl (by decide +kernel) ?_
    refine xr_aload_n (n := 0) (i := 0) rfl (List.mem_of_getElem? (i := 1) rfl) (by decide +kernel) ?_
    refine xr_getT rfl fl_Read_9 rfl (by decide +kernel) ?_
    refine xr_callV (av := []) rfl rfl rfl mo_Tape_step ml_Read_72 im_Tape_step se_Tape_step rfl (Nat.le_of_ble_eq_true rfl) (by decide +kernel) (sh_mono k ?_)
    rintro rv m1 ⟨rfl, k⟩
    show sh_X g (d + 1) m_Read_readSum _ _ [] _ _
    refine xr_aload_n (n := 0) (i := 0) rfl (List.mem_of_getElem? (i := 1) rfl) (by decide +kernel) ?_
    refine xr_aload_n (n := 1) (i := 1) rfl (List.mem_of_getElem? (i := 2) rfl) (by decide +kernel) ?_
    refine xr_iload_n (n := 2) (i := 2) rfl (List.mem_of_getElem? (i := 3) rfl) (by decide +kernel) ?_
    refine xr_callV (av := [(sh_r L), (sh_i depth)]) rfl rfl rfl mo_Read_readProduct ml_Read_162 im_Read_readProduct se_Read_readProduct rfl (Nat.le_of_ble_eq_true rfl) (by decide +kernel) (sh_mono k ?_)
    rintro rv m2 ⟨r1, rfl, k⟩
    show sh_X g (d + 1) m_Read_readSum _ _ [(sh_i r1)] _ _
    refine xr_istore_n (n := 3) (i := 3) rfl (by decide) rfl (by decide +kernel) ?_
    refine xr_aload_n (n := 1) (i := 1) rfl (List.mem_of_getElem? (i := 3) rfl) (by decide +kernel) ?_
    refine xr_iload (i := 5) (List.mem_of_getElem? (i := 1) rfl) (by decide +kernel) ?_
    refine xr_callV (av := [(sh_i (-11))]) (ob2_0 hL) rfl rfl mo_Law_put ml_Read_155 im_Law_put se_Law_put rfl (Nat.le_of_ble_eq_true rfl) (by decide +kernel) (sh_mono k ?_)
    rintro rv m3 ⟨rfl, k⟩
    show sh_X g (d + 1) m_Read_readSum _ _ [] _ _
    refine xr_iinc (n := 1) (lo' := [(4, (sh_i (((x4 + 1) : Nat) : Int))), (3, (sh_i r1)), (5, (sh_i (-11))), (0, (sh_r 4)), (1, (sh_r L)), (2, (sh_i depth))]) (List.mem_of_getElem? (i := 5) rfl) (by decide) rfl (by decide +kernel) ?_
    refine xr_goto (off := (-80)) (tgt := 10) (by decide) (by decide +kernel) ?_
    refine xr_sub (lo' := [(0, (sh_r 4)), (1, (sh_r L)), (2, (sh_i depth)), (3, (sh_i r1)), (4, (sh_i (((x4 + 1) : Nat) : Int)))]) [3, 4, 5, 1, 0] rfl ?_
    exact k
  · have k := k.2 c1
    refine xr_bipush (n := (-10)) (v := (-10)) (by decide) (by decide +kernel) ?_
    refine xr_goto (off := 5) (tgt := 65) (by decide) (by decide +kernel) ?_
    refine xr_istore (i := 5) (by decide) rfl (by decide +kernel) ?_
    refine xr_aload_n (n := 0) (i := 0) rfl (List.mem_of_getElem? (i := 1) rfl) (by decide +kernel) ?_
    refine xr_getT rfl fl_Read_9 rfl (by decide +kernel) ?_
    refine xr_callV (av := []) rfl rfl rfl mo_Tape_step ml_Read_72 im_Tape_step se_Tape_step rfl (Nat.le_of_ble_eq_true rfl) (by decide +kernel) (sh_mono k ?_)
    rintro rv m4 ⟨rfl, k⟩
    show sh_X g (d + 1) m_Read_readSum _ _ [] _ _
    refine xr_aload_n (n := 0) (i := 0) rfl (List.mem_of_getElem? (i := 1) rfl) (by decide +kernel) ?_
    refine xr_aload_n (n := 1) (i := 1) rfl (List.mem_of_getElem? (i := 2) rfl) (by decide +kernel) ?_
    refine xr_iload_n (n := 2) (i := 2) rfl (List.mem_of_getElem? (i := 3) rfl) (by decide +kernel) ?_
    refine xr_callV (av := [(sh_r L), (sh_i depth)]) rfl rfl rfl mo_Read_readProduct ml_Read_162 im_Read_readProduct se_Read_readProduct rfl (Nat.le_of_ble_eq_true rfl) (by decide +kernel) (sh_mono k ?_)
    rintro rv m5 ⟨r2, rfl, k⟩
    show sh_X g (d + 1) m_Read_readSum _ _ [(sh_i r2)] _ _
    refine xr_istore_n (n := 3) (i := 3) rfl (by decide) rfl (by decide +kernel) ?_
    refine xr_aload_n (n := 1) (i := 1) rfl (List.mem_of_getElem? (i := 3) rfl) (by decide +kernel) ?_
    refine xr_iload (i := 5) (List.mem_of_getElem? (i := 1) rfl) (by decide +kernel) ?_
    refine xr_callV (av := [(sh_i (-10))]) (ob2_0 hL) rfl rfl mo_Law_put ml_Read_155 im_Law_put se_Law_put rfl (Nat.le_of_ble_eq_true rfl) (by decide +kernel) (sh_mono k ?_)
    rintro rv m6 ⟨rfl, k⟩
    show sh_X g (d + 1) m_Read_readSum _ _ [] _ _
    refine xr_iinc (n := 1) (lo' := [(4, (sh_i (((x4 + 1) : Nat) : Int))), (3, (sh_i r2)), (5, (sh_i (-10))), (0, (sh_r 4)), (1, (sh_r L)), (2, (sh_i depth))]) (List.mem_of_getElem? (i := 5) rfl) (by decide) rfl (by decide +kernel) ?_
    refine xr_goto (off := (-80)) (tgt := 10) (by decide) (by decide +kernel) ?_
    refine xr_sub (lo' := [(0, (sh_r 4)), (1, (sh_r L)), (2, (sh_i depth)), (3, (sh_i r2)), (4, (sh_i (((x4 + 1) : Nat) : Int)))]) [3, 4, 5, 1, 0] rfl ?_
    exact k

theorem v_Read_readProduct {g : sh_G} {d : Nat} {L : Nat} {depth : Int}  {mem : sh_Mem} {Q : Option sh_V → sh_Mem → Prop} (hL : ob2 L) (k : (sh_Cal g d m_Read_readPart [(sh_r 4), (sh_r L), (sh_i depth)] mem fun rv m1 => ∃ r1 : Int, rv = some (sh_i r1) ∧ sh_X g (d + 1) m_Read_readProduct 10 [(0, (sh_r 4)), (1, (sh_r L)), (2, (sh_i depth)), (3, (sh_i r1)), (4, (sh_i 0))] [] m1 (sh_K m_Read_readProduct Q))) : sh_Cal g (d + 1) m_Read_readProduct [(sh_r 4), (sh_r L), (sh_i depth)] mem Q := by
  refine sh_met (by decide +kernel) (Nat.le_of_ble_eq_true rfl) (lo := [(0, (sh_r 4)), (1, (sh_r L)), (2, (sh_i depth))]) rfl ?_
  refine xr_aload_n (n := 0) (i := 0) rfl (List.mem_of_getElem? (i := 0) rfl) (by decide +kernel) ?_
  refine xr_aload_n (n := 1) (i := 1) rfl (List.mem_of_getElem? (i := 1) rfl) (by decide +kernel) ?_
  refine xr_iload_n (n := 2) (i := 2) rfl (List.mem_of_getElem? (i := 2) rfl) (by decide +kernel) ?_
  refine xr_callV (av := [(sh_r L), (sh_i depth)]) rfl rfl rfl mo_Read_readPart ml_Read_165 im_Read_readPart se_Read_readPart rfl (Nat.le_of_ble_eq_true rfl) (by decide +kernel) (sh_mono k ?_)
  rintro rv m1 ⟨r1, rfl, k⟩
  show sh_X g (d + 1) m_Read_readProduct _ _ [(sh_i r1)] _ _
  refine xr_istore_n (n := 3) (i := 3) rfl (by decide) rfl (by decide +kernel) ?_
  refine xr_iconst (n := 0) (by decide +kernel) ?_
  refine xr_istore (i := 4) (by decide) rfl (by decide +kernel) ?_
  refine xr_sub (lo' := [(0, (sh_r 4)), (1, (sh_r L)), (2, (sh_i depth)), (3, (sh_i r1)), (4, (sh_i 0))]) [2, 3, 4, 1, 0] rfl ?_
  exact k
theorem v_Read_readProduct_10 {g : sh_G} {d : Nat} {L : Nat} {depth : Int}  {mem : sh_Mem} {Q : Option sh_V → sh_Mem → Prop} (hL : ob2 L) {x3 : Int} {x4 : Nat} (k : ((1000 ≤ (i3 (x4 : Int)) → ((x3 = 0 ∨ x3 = 1) ∧ Q (some (sh_i x3)) mem)) ∧ (¬ 1000 ≤ (i3 (x4 : Int)) → (((i3 x3) = 0 → ((x3 = 0 ∨ x3 = 1) ∧ Q (some (sh_i x3)) mem)) ∧ (¬ (i3 x3) = 0 → ((¬ (i3 (mem 2 2)) = 42 → ((x3 = 0 ∨ x3 = 1) ∧ Q (some (sh_i x3)) mem)) ∧ ((i3 (mem 2 2)) = 42 → (sh_Cal g d m_Tape_step [(sh_r 2)] mem fun rv m1 => rv = none ∧ (sh_Cal g d m_Read_readPart [(sh_r 4), (sh_r L), (sh_i depth)] m1 fun rv m2 => ∃ r1 : Int, rv = some (sh_i r1) ∧ (sh_Cal g d m_Law_put [(sh_r L), (sh_i (-12))] m2 fun rv m3 => rv = none ∧ sh_X g (d + 1) m_Read_readProduct 10 [(0, (sh_r 4)), (1, (sh_r L)), (2, (sh_i depth)), (3, (sh_i r1)), (4, (sh_i (((x4 + 1) : Nat) : Int)))] [] m3 (sh_K m_Read_readProduct Q))))))))))) : sh_X g (d + 1) m_Read_readProduct 10 [(0, (sh_r 4)), (1, (sh_r L)), (2, (sh_i depth)), (3, (sh_i x3)), (4, (sh_i (x4 : Int)))] [] mem (sh_K m_Read_readProduct Q) := by
  refine xr_iload (i := 4) (List.mem_of_getElem? (i := 4) rfl) (by decide +kernel) ?_
  refine xr_sipush (n := 1000) (v := 1000) (by decide) (by decide +kernel) ?_
  refine xr_icmp_ge (a' := (i3 (x4 : Int))) (b' := 1000) rfl (by decide) (off := 45) (tgt := 60) (by decide) (by decide +kernel) ⟨fun c1 => ?_, fun c1 => ?_⟩
  · have k := k.1 c1
    refine xr_iload_n (n := 3) (i := 3) rfl (List.mem_of_getElem? (i := 3) rfl) (by decide +kernel) ?_
    exact xr_zret rfl (by decide +kernel) k.1 k.2
  · have k := k.2 c1
    refine xr_iload_n (n := 3) (i := 3) rfl (List.mem_of_getElem? (i := 3) rfl) (by decide +kernel) ?_
    refine xr_if_eq (a' := (i3 x3)) rfl (off := 41) (tgt := 60) (by decide) (by decide +kernel) ⟨fun c2 => ?_, fun c2 => ?_⟩
    · have k := k.1 c2
      refine xr_iload_n (n := 3) (i := 3) rfl (List.mem_of_getElem? (i := 3) rfl) (by decide +kernel) ?_
      exact xr_zret rfl (by decide +kernel) k.1 k.2
    · have k := k.2 c2
      refine xr_aload_n (n := 0) (i := 0) rfl (List.mem_of_getElem? (i := 0) rfl) (by decide +kernel) ?_
      refine xr_getT rfl fl_Read_9 rfl (by decide +kernel) ?_
      refine xr_getI rfl fl_Read_29 (by decide) (by decide +kernel) ?_
      refine xr_bipush (n := 42) (v := 42) (by decide) (by decide +kernel) ?_
      refine xr_icmp_ne (a' := (i3 (mem 2 2))) (b' := 42) rfl (by decide) (off := 29) (tgt := 60) (by decide) (by decide +kernel) ⟨fun c3 => ?_, fun c3 => ?_⟩
      · have k := k.1 c3
        refine xr_iload_n (n := 3) (i := 3) rfl (List.mem_of_getElem? (i := 3) rfl) (by decide +kernel) ?_
        exact xr_zret rfl (by decide +kernel) k.1 k.2
      · have k := k.2 c3
        refine xr_aload_n (n := 0) (i := 0) rfl (List.mem_of_getElem? (i := 0) rfl) (by decide +kernel) ?_
        refine xr_getT rfl fl_Read_9 rfl (by decide +kernel) ?_
        refine xr_callV (av := []) rfl rfl rfl mo_Tape_step ml_Read_72 im_Tape_step se_Tape_step rfl (Nat.le_of_ble_eq_true rfl) (by decide +kernel) (sh_mono k ?_)
        rintro rv m1 ⟨rfl, k⟩
        show sh_X g (d + 1) m_Read_readProduct _ _ [] _ _
        refine xr_aload_n (n := 0) (i := 0) rfl (List.mem_of_getElem? (i := 0) rfl) (by decide +kernel) ?_
        refine xr_aload_n (n := 1) (i := 1) rfl (List.mem_of_getElem? (i := 1) rfl) (by decide +kernel) ?_
        refine xr_iload_n (n := 2) (i := 2) rfl (List.mem_of_getElem? (i := 2) rfl) (by decide +kernel) ?_
        refine xr_callV (av := [(sh_r L), (sh_i depth)]) rfl rfl rfl mo_Read_readPart ml_Read_165 im_Read_readPart se_Read_readPart rfl (Nat.le_of_ble_eq_true rfl) (by decide +kernel) (sh_mono k ?_)
        rintro rv m2 ⟨r1, rfl, k⟩
        show sh_X g (d + 1) m_Read_readProduct _ _ [(sh_i r1)] _ _
        refine xr_istore_n (n := 3) (i := 3) rfl (by decide) rfl (by decide +kernel) ?_
        refine xr_aload_n (n := 1) (i := 1) rfl (List.mem_of_getElem? (i := 2) rfl) (by decide +kernel) ?_
        refine xr_bipush (n := (-12)) (v := (-12)) (by decide) (by decide +kernel) ?_
        refine xr_callV (av := [(sh_i (-12))]) (ob2_0 hL) rfl rfl mo_Law_put ml_Read_155 im_Law_put se_Law_put rfl (Nat.le_of_ble_eq_true rfl) (by decide +kernel) (sh_mono k ?_)
        rintro rv m3 ⟨rfl, k⟩
        show sh_X g (d + 1) m_Read_readProduct _ _ [] _ _
        refine xr_iinc (n := 1) (lo' := [(4, (sh_i (((x4 + 1) : Nat) : Int))), (3, (sh_i r1)), (0, (sh_r 4)), (1, (sh_r L)), (2, (sh_i depth))]) (List.mem_of_getElem? (i := 4) rfl) (by decide) rfl (by decide +kernel) ?_
        refine xr_goto (off := (-47)) (tgt := 10) (by decide) (by decide +kernel) ?_
        refine xr_sub (lo' := [(0, (sh_r 4)), (1, (sh_r L)), (2, (sh_i depth)), (3, (sh_i r1)), (4, (sh_i (((x4 + 1) : Nat) : Int)))]) [2, 3, 4, 1, 0] rfl ?_
        exact k

theorem v_Read_readPart {g : sh_G} {d : Nat} {L : Nat} {depth : Int}  {mem : sh_Mem} {Q : Option sh_V → sh_Mem → Prop} (hL : ob2 L) (k : (sh_Cal g d m_Tape_isWord [(sh_r 2), (sh_r 1013)] mem fun rv m1 => ∃ r1 : Int, rv = some (sh_i r1) ∧ ((¬ (i3 (m1 2 2)) = 2 → sh_X g (d + 1) m_Read_readPart 26 [(0, (sh_r 4)), (1, (sh_r L)), (2, (sh_i depth)), (3, (sh_i r1))] [(sh_i 0)] m1 (sh_K m_Read_readPart Q)) ∧ ((i3 (m1 2 2)) = 2 → sh_X g (d + 1) m_Read_readPart 26 [(0, (sh_r 4)), (1, (sh_r L)), (2, (sh_i depth)), (3, (sh_i r1))] [(sh_i 1)] m1 (sh_K m_Read_readPart Q))))) : sh_Cal g (d + 1) m_Read_readPart [(sh_r 4), (sh_r L), (sh_i depth)] mem Q := by
  refine sh_met (by decide +kernel) (Nat.le_of_ble_eq_true rfl) (lo := [(0, (sh_r 4)), (1, (sh_r L)), (2, (sh_i depth))]) rfl ?_
  refine xr_aload_n (n := 0) (i := 0) rfl (List.mem_of_getElem? (i := 0) rfl) (by decide +kernel) ?_
  refine xr_getT rfl fl_Read_9 rfl (by decide +kernel) ?_
  refine xr_ldcS (ix := 168) (i := 13) (by decide) rfl (by decide +kernel) ?_
  show sh_X g (d + 1) m_Read_readPart _ _ ((sh_r 1013) :: _) _ _
  refine xr_callV (av := [(sh_r 1013)]) rfl rfl rfl mo_Tape_isWord ml_Read_48 im_Tape_isWord se_Tape_isWord rfl (Nat.le_of_ble_eq_true rfl) (by decide +kernel) (sh_mono k ?_)
  rintro rv m1 ⟨r1, rfl, k⟩
  show sh_X g (d + 1) m_Read_readPart _ _ [(sh_i r1)] _ _
  refine xr_istore_n (n := 3) (i := 3) rfl (by decide) rfl (by decide +kernel) ?_
  refine xr_aload_n (n := 0) (i := 0) rfl (List.mem_of_getElem? (i := 1) rfl) (by decide +kernel) ?_
  refine xr_getT rfl fl_Read_9 rfl (by decide +kernel) ?_
  refine xr_getI rfl fl_Read_29 (by decide) (by decide +kernel) ?_
  refine xr_iconst (n := 2) (by decide +kernel) ?_
  refine xr_icmp_ne (a' := (i3 (m1 2 2))) (b' := 2) rfl (by decide) (off := 7) (tgt := 25) (by decide) (by decide +kernel) ⟨fun c1 => ?_, fun c1 => ?_⟩
  · have k := k.1 c1
    refine xr_iconst (n := 0) (by decide +kernel) ?_
    refine xr_sub (lo' := [(0, (sh_r 4)), (1, (sh_r L)), (2, (sh_i depth)), (3, (sh_i r1))]) [1, 2, 3, 0] rfl ?_
    exact k
  · have k := k.2 c1
    refine xr_iconst (n := 1) (by decide +kernel) ?_
    refine xr_goto (off := 4) (tgt := 26) (by decide) (by decide +kernel) ?_
    refine xr_sub (lo' := [(0, (sh_r 4)), (1, (sh_r L)), (2, (sh_i depth)), (3, (sh_i r1))]) [1, 2, 3, 0] rfl ?_
    exact k
theorem v_Read_readPart_26 {g : sh_G} {d : Nat} {L : Nat} {depth : Int}  {mem : sh_Mem} {Q : Option sh_V → sh_Mem → Prop} (hL : ob2 L) {x3 : Int} {y0 : Int} (k : ((¬ (i3 (mem 2 2)) = 40 → sh_X g (d + 1) m_Read_readPart 45 [(0, (sh_r 4)), (1, (sh_r L)), (2, (sh_i depth)), (3, (sh_i x3)), (4, (sh_i y0))] [(sh_i 0)] mem (sh_K m_Read_readPart Q)) ∧ ((i3 (mem 2 2)) = 40 → sh_X g (d + 1) m_Read_readPart 45 [(0, (sh_r 4)), (1, (sh_r L)), (2, (sh_i depth)), (3, (sh_i x3)), (4, (sh_i y0))] [(sh_i 1)] mem (sh_K m_Read_readPart Q)))) : sh_X g (d + 1) m_Read_readPart 26 [(0, (sh_r 4)), (1, (sh_r L)), (2, (sh_i depth)), (3, (sh_i x3))] [(sh_i y0)] mem (sh_K m_Read_readPart Q) := by
  refine xr_istore (i := 4) (by decide) rfl (by decide +kernel) ?_
  refine xr_aload_n (n := 0) (i := 0) rfl (List.mem_of_getElem? (i := 1) rfl) (by decide +kernel) ?_
  refine xr_getT rfl fl_Read_9 rfl (by decide +kernel) ?_
  refine xr_getI rfl fl_Read_29 (by decide) (by decide +kernel) ?_
  refine xr_bipush (n := 40) (v := 40) (by decide) (by decide +kernel) ?_
  refine xr_icmp_ne (a' := (i3 (mem 2 2))) (b' := 40) rfl (by decide) (off := 7) (tgt := 44) (by decide) (by decide +kernel) ⟨fun c1 => ?_, fun c1 => ?_⟩
  · have k := k.1 c1
    refine xr_iconst (n := 0) (by decide +kernel) ?_
    refine xr_sub (lo' := [(0, (sh_r 4)), (1, (sh_r L)), (2, (sh_i depth)), (3, (sh_i x3)), (4, (sh_i y0))]) [1, 2, 3, 4, 0] rfl ?_
    exact k
  · have k := k.2 c1
    refine xr_iconst (n := 1) (by decide +kernel) ?_
    refine xr_goto (off := 4) (tgt := 45) (by decide) (by decide +kernel) ?_
    refine xr_sub (lo' := [(0, (sh_r 4)), (1, (sh_r L)), (2, (sh_i depth)), (3, (sh_i x3)), (4, (sh_i y0))]) [1, 2, 3, 4, 0] rfl ?_
    exact k
theorem v_Read_readPart_45 {g : sh_G} {d : Nat} {L : Nat} {depth : Int}  {mem : sh_Mem} {Q : Option sh_V → sh_Mem → Prop} (hL : ob2 L) {x3 : Int} {x4 : Int} {y0 : Int} (k : (sh_Cal g d m_Read_factTold [(sh_r 4)] mem fun rv m1 => ∃ r1 : Int, rv = some (sh_i r1) ∧ ((¬ (i3 x3) = 0 → sh_X g (d + 1) m_Read_readPart 78 [(0, (sh_r 4)), (1, (sh_r L)), (2, (sh_i depth)), (3, (sh_i x3)), (4, (sh_i x4)), (5, (sh_i y0)), (6, (sh_i r1))] [] m1 (sh_K m_Read_readPart Q)) ∧ ((i3 x3) = 0 → ((¬ (i3 x4) = 0 → sh_X g (d + 1) m_Read_readPart 78 [(0, (sh_r 4)), (1, (sh_r L)), (2, (sh_i depth)), (3, (sh_i x3)), (4, (sh_i x4)), (5, (sh_i y0)), (6, (sh_i r1))] [] m1 (sh_K m_Read_readPart Q)) ∧ ((i3 x4) = 0 → ((¬ (i3 y0) = 0 → sh_X g (d + 1) m_Read_readPart 78 [(0, (sh_r 4)), (1, (sh_r L)), (2, (sh_i depth)), (3, (sh_i x3)), (4, (sh_i x4)), (5, (sh_i y0)), (6, (sh_i r1))] [] m1 (sh_K m_Read_readPart Q)) ∧ ((i3 y0) = 0 → ((¬ (i3 r1) = 0 → sh_X g (d + 1) m_Read_readPart 78 [(0, (sh_r 4)), (1, (sh_r L)), (2, (sh_i depth)), (3, (sh_i x3)), (4, (sh_i x4)), (5, (sh_i y0)), (6, (sh_i r1))] [] m1 (sh_K m_Read_readPart Q)) ∧ ((i3 r1) = 0 → (sh_Cal g d m_Read_refuse [(sh_r 4), (sh_i 1)] m1 fun rv m2 => ∃ r2 : Int, rv = some (sh_i r2) ∧ ((r2 = 0 ∨ r2 = 1) ∧ Q (some (sh_i r2)) m2)))))))))))) : sh_X g (d + 1) m_Read_readPart 45 [(0, (sh_r 4)), (1, (sh_r L)), (2, (sh_i depth)), (3, (sh_i x3)), (4, (sh_i x4))] [(sh_i y0)] mem (sh_K m_Read_readPart Q) := by
  refine xr_istore (i := 5) (by decide) rfl (by decide +kernel) ?_
  refine xr_aload_n (n := 0) (i := 0) rfl (List.mem_of_getElem? (i := 1) rfl) (by decide +kernel) ?_
  refine xr_callV (av := []) rfl rfl rfl mo_Read_factTold ml_Read_170 im_Read_factTold se_Read_factTold rfl (Nat.le_of_ble_eq_true rfl) (by decide +kernel) (sh_mono k ?_)
  rintro rv m1 ⟨r1, rfl, k⟩
  show sh_X g (d + 1) m_Read_readPart _ _ [(sh_i r1)] _ _
  refine xr_istore (i := 6) (by decide) rfl (by decide +kernel) ?_
  refine xr_iload_n (n := 3) (i := 3) rfl (List.mem_of_getElem? (i := 5) rfl) (by decide +kernel) ?_
  refine xr_if_ne (a' := (i3 x3)) rfl (off := 24) (tgt := 78) (by decide) (by decide +kernel) ⟨fun c1 => ?_, fun c1 => ?_⟩
  · have k := k.1 c1
    refine xr_sub (lo' := [(0, (sh_r 4)), (1, (sh_r L)), (2, (sh_i depth)), (3, (sh_i x3)), (4, (sh_i x4)), (5, (sh_i y0)), (6, (sh_i r1))]) [2, 3, 4, 5, 6, 1, 0] rfl ?_
    exact k
  · have k := k.2 c1
    refine xr_iload (i := 4) (List.mem_of_getElem? (i := 6) rfl) (by decide +kernel) ?_
    refine xr_if_ne (a' := (i3 x4)) rfl (off := 19) (tgt := 78) (by decide) (by decide +kernel) ⟨fun c2 => ?_, fun c2 => ?_⟩
    · have k := k.1 c2
      refine xr_sub (lo' := [(0, (sh_r 4)), (1, (sh_r L)), (2, (sh_i depth)), (3, (sh_i x3)), (4, (sh_i x4)), (5, (sh_i y0)), (6, (sh_i r1))]) [2, 3, 4, 5, 6, 1, 0] rfl ?_
      exact k
    · have k := k.2 c2
      refine xr_iload (i := 5) (List.mem_of_getElem? (i := 1) rfl) (by decide +kernel) ?_
      refine xr_if_ne (a' := (i3 y0)) rfl (off := 14) (tgt := 78) (by decide) (by decide +kernel) ⟨fun c3 => ?_, fun c3 => ?_⟩
      · have k := k.1 c3
        refine xr_sub (lo' := [(0, (sh_r 4)), (1, (sh_r L)), (2, (sh_i depth)), (3, (sh_i x3)), (4, (sh_i x4)), (5, (sh_i y0)), (6, (sh_i r1))]) [2, 3, 4, 5, 6, 1, 0] rfl ?_
        exact k
      · have k := k.2 c3
        refine xr_iload (i := 6) (List.mem_of_getElem? (i := 0) rfl) (by decide +kernel) ?_
        refine xr_if_ne (a' := (i3 r1)) rfl (off := 9) (tgt := 78) (by decide) (by decide +kernel) ⟨fun c4 => ?_, fun c4 => ?_⟩
        · have k := k.1 c4
          refine xr_sub (lo' := [(0, (sh_r 4)), (1, (sh_r L)), (2, (sh_i depth)), (3, (sh_i x3)), (4, (sh_i x4)), (5, (sh_i y0)), (6, (sh_i r1))]) [2, 3, 4, 5, 6, 1, 0] rfl ?_
          exact k
        · have k := k.2 c4
          refine xr_aload_n (n := 0) (i := 0) rfl (List.mem_of_getElem? (i := 2) rfl) (by decide +kernel) ?_
          refine xr_iconst (n := 1) (by decide +kernel) ?_
          refine xr_callV (av := [(sh_i 1)]) rfl rfl rfl mo_Read_refuse ml_Read_65 im_Read_refuse se_Read_refuse rfl (Nat.le_of_ble_eq_true rfl) (by decide +kernel) (sh_mono k ?_)
          rintro rv m2 ⟨r2, rfl, k⟩
          show sh_X g (d + 1) m_Read_readPart _ _ [(sh_i r2)] _ _
          exact xr_zret rfl (by decide +kernel) k.1 k.2
theorem v_Read_readPart_78 {g : sh_G} {d : Nat} {L : Nat} {depth : Int}  {mem : sh_Mem} {Q : Option sh_V → sh_Mem → Prop} (hL : ob2 L) {x3 : Int} {x4 : Int} {x5 : Int} {x6 : Int} (k : (((i3 depth) < 5 → (((i3 x4) = 0 → (((i3 x6) = 0 → sh_X g (d + 1) m_Read_readPart 119 [(0, (sh_r 4)), (1, (sh_r L)), (2, (sh_i depth)), (3, (sh_i x3)), (4, (sh_i x4)), (5, (sh_i x5)), (6, (sh_i x6))] [] mem (sh_K m_Read_readPart Q)) ∧ (¬ (i3 x6) = 0 → (sh_Cal g d m_Law_put [(sh_r L), (sh_i x6)] mem fun rv m1 => rv = none ∧ sh_X g (d + 1) m_Read_readPart 119 [(0, (sh_r 4)), (1, (sh_r L)), (2, (sh_i depth)), (3, (sh_i x3)), (4, (sh_i x4)), (5, (sh_i x5)), (6, (sh_i x6))] [] m1 (sh_K m_Read_readPart Q))))) ∧ (¬ (i3 x4) = 0 → (sh_Cal g d m_Law_put [(sh_r L), (sh_i (mem 2 6))] mem fun rv m2 => rv = none ∧ sh_X g (d + 1) m_Read_readPart 119 [(0, (sh_r 4)), (1, (sh_r L)), (2, (sh_i depth)), (3, (sh_i x3)), (4, (sh_i x4)), (5, (sh_i x5)), (6, (sh_i x6))] [] m2 (sh_K m_Read_readPart Q))))) ∧ (¬ (i3 depth) < 5 → (sh_Cal g d m_Read_refuse [(sh_r 4), (sh_i 5)] mem fun rv m3 => ∃ r1 : Int, rv = some (sh_i r1) ∧ ((r1 = 0 ∨ r1 = 1) ∧ Q (some (sh_i r1)) m3))))) : sh_X g (d + 1) m_Read_readPart 78 [(0, (sh_r 4)), (1, (sh_r L)), (2, (sh_i depth)), (3, (sh_i x3)), (4, (sh_i x4)), (5, (sh_i x5)), (6, (sh_i x6))] [] mem (sh_K m_Read_readPart Q) := by
  refine xr_iload_n (n := 2) (i := 2) rfl (List.mem_of_getElem? (i := 2) rfl) (by decide +kernel) ?_
  refine xr_iconst (n := 5) (by decide +kernel) ?_
  refine xr_icmp_lt (a' := (i3 depth)) (b' := 5) rfl (by decide) (off := 9) (tgt := 89) (by decide) (by decide +kernel) ⟨fun c1 => ?_, fun c1 => ?_⟩
  · have k := k.1 c1
    refine xr_iload (i := 4) (List.mem_of_getElem? (i := 4) rfl) (by decide +kernel) ?_
    refine xr_if_eq (a' := (i3 x4)) rfl (off := 17) (tgt := 108) (by decide) (by decide +kernel) ⟨fun c2 => ?_, fun c2 => ?_⟩
    · have k := k.1 c2
      refine xr_iload (i := 6) (List.mem_of_getElem? (i := 6) rfl) (by decide +kernel) ?_
      refine xr_if_eq (a' := (i3 x6)) rfl (off := 9) (tgt := 119) (by decide) (by decide +kernel) ⟨fun c3 => ?_, fun c3 => ?_⟩
      · have k := k.1 c3
        refine xr_sub (lo' := [(0, (sh_r 4)), (1, (sh_r L)), (2, (sh_i depth)), (3, (sh_i x3)), (4, (sh_i x4)), (5, (sh_i x5)), (6, (sh_i x6))]) [0, 1, 2, 3, 4, 5, 6] rfl ?_
        exact k
      · have k := k.2 c3
        refine xr_aload_n (n := 1) (i := 1) rfl (List.mem_of_getElem? (i := 1) rfl) (by decide +kernel) ?_
        refine xr_iload (i := 6) (List.mem_of_getElem? (i := 6) rfl) (by decide +kernel) ?_
        refine xr_callV (av := [(sh_i x6)]) (ob2_0 hL) rfl rfl mo_Law_put ml_Read_155 im_Law_put se_Law_put rfl (Nat.le_of_ble_eq_true rfl) (by decide +kernel) (sh_mono k ?_)
        rintro rv m1 ⟨rfl, k⟩
        show sh_X g (d + 1) m_Read_readPart _ _ [] _ _
        refine xr_sub (lo' := [(0, (sh_r 4)), (1, (sh_r L)), (2, (sh_i depth)), (3, (sh_i x3)), (4, (sh_i x4)), (5, (sh_i x5)), (6, (sh_i x6))]) [0, 1, 2, 3, 4, 5, 6] rfl ?_
        exact k
    · have k := k.2 c2
      refine xr_aload_n (n := 1) (i := 1) rfl (List.mem_of_getElem? (i := 1) rfl) (by decide +kernel) ?_
      refine xr_aload_n (n := 0) (i := 0) rfl (List.mem_of_getElem? (i := 0) rfl) (by decide +kernel) ?_
      refine xr_getT rfl fl_Read_9 rfl (by decide +kernel) ?_
      refine xr_getI rfl fl_Read_173 (by decide) (by decide +kernel) ?_
      refine xr_callV (av := [(sh_i (mem 2 6))]) (ob2_0 hL) rfl rfl mo_Law_put ml_Read_155 im_Law_put se_Law_put rfl (Nat.le_of_ble_eq_true rfl) (by decide +kernel) (sh_mono k ?_)
      rintro rv m2 ⟨rfl, k⟩
      show sh_X g (d + 1) m_Read_readPart _ _ [] _ _
      refine xr_goto (off := 14) (tgt := 119) (by decide) (by decide +kernel) ?_
      refine xr_sub (lo' := [(0, (sh_r 4)), (1, (sh_r L)), (2, (sh_i depth)), (3, (sh_i x3)), (4, (sh_i x4)), (5, (sh_i x5)), (6, (sh_i x6))]) [0, 1, 2, 3, 4, 5, 6] rfl ?_
      exact k
  · have k := k.2 c1
    refine xr_aload_n (n := 0) (i := 0) rfl (List.mem_of_getElem? (i := 0) rfl) (by decide +kernel) ?_
    refine xr_iconst (n := 5) (by decide +kernel) ?_
    refine xr_callV (av := [(sh_i 5)]) rfl rfl rfl mo_Read_refuse ml_Read_65 im_Read_refuse se_Read_refuse rfl (Nat.le_of_ble_eq_true rfl) (by decide +kernel) (sh_mono k ?_)
    rintro rv m3 ⟨r1, rfl, k⟩
    show sh_X g (d + 1) m_Read_readPart _ _ [(sh_i r1)] _ _
    exact xr_zret rfl (by decide +kernel) k.1 k.2
theorem v_Read_readPart_119 {g : sh_G} {d : Nat} {L : Nat} {depth : Int}  {mem : sh_Mem} {Q : Option sh_V → sh_Mem → Prop} (hL : ob2 L) {x3 : Int} {x4 : Int} {x5 : Int} {x6 : Int} (k : (sh_Cal g d m_Tape_step [(sh_r 2)] mem fun rv m1 => rv = none ∧ (((i3 x3) = 0 → (((i3 x5) = 0 → Q (some (sh_i 1)) m1) ∧ (¬ (i3 x5) = 0 → (sh_Cal g d m_Read_readE [(sh_r 4), (sh_r L), (sh_i (depth + 1))] m1 fun rv m2 => ∃ r1 : Int, rv = some (sh_i r1) ∧ (((i3 r1) = 0 → Q (some (sh_i 0)) m2) ∧ (¬ (i3 r1) = 0 → (sh_Cal g d m_Read_takeSign [(sh_r 4), (sh_i 41)] m2 fun rv m3 => ∃ r2 : Int, rv = some (sh_i r2) ∧ (((i3 r2) = 0 → Q (some (sh_i 0)) m3) ∧ (¬ (i3 r2) = 0 → Q (some (sh_i 1)) m3))))))))) ∧ (¬ (i3 x3) = 0 → (sh_Cal g d m_Read_readPart [(sh_r 4), (sh_r L), (sh_i (depth + 1))] m1 fun rv m4 => ∃ r3 : Int, rv = some (sh_i r3) ∧ (sh_Cal g d m_Law_put [(sh_r L), (sh_i (-5))] m4 fun rv m5 => rv = none ∧ ((r3 = 0 ∨ r3 = 1) ∧ Q (some (sh_i r3)) m5))))))) : sh_X g (d + 1) m_Read_readPart 119 [(0, (sh_r 4)), (1, (sh_r L)), (2, (sh_i depth)), (3, (sh_i x3)), (4, (sh_i x4)), (5, (sh_i x5)), (6, (sh_i x6))] [] mem (sh_K m_Read_readPart Q) := by
  refine xr_aload_n (n := 0) (i := 0) rfl (List.mem_of_getElem? (i := 0) rfl) (by decide +kernel) ?_
  refine xr_getT rfl fl_Read_9 rfl (by decide +kernel) ?_
  refine xr_callV (av := []) rfl rfl rfl mo_Tape_step ml_Read_72 im_Tape_step se_Tape_step rfl (Nat.le_of_ble_eq_true rfl) (by decide +kernel) (sh_mono k ?_)
  rintro rv m1 ⟨rfl, k⟩
  show sh_X g (d + 1) m_Read_readPart _ _ [] _ _
  refine xr_iload_n (n := 3) (i := 3) rfl (List.mem_of_getElem? (i := 3) rfl) (by decide +kernel) ?_
  refine xr_if_eq (a' := (i3 x3)) rfl (off := 22) (tgt := 149) (by decide) (by decide +kernel) ⟨fun c1 => ?_, fun c1 => ?_⟩
  · have k := k.1 c1
    refine xr_iload (i := 5) (List.mem_of_getElem? (i := 5) rfl) (by decide +kernel) ?_
    refine xr_if_eq (a' := (i3 x5)) rfl (off := 23) (tgt := 174) (by decide) (by decide +kernel) ⟨fun c2 => ?_, fun c2 => ?_⟩
    · have k := k.1 c2
      refine xr_iconst (n := 1) (by decide +kernel) ?_
      refine xr_goto (off := 4) (tgt := 179) (by decide) (by decide +kernel) ?_
      exact xr_zret rfl (by decide +kernel) (by decide) k
    · have k := k.2 c2
      refine xr_aload_n (n := 0) (i := 0) rfl (List.mem_of_getElem? (i := 0) rfl) (by decide +kernel) ?_
      refine xr_aload_n (n := 1) (i := 1) rfl (List.mem_of_getElem? (i := 1) rfl) (by decide +kernel) ?_
      refine xr_iload_n (n := 2) (i := 2) rfl (List.mem_of_getElem? (i := 2) rfl) (by decide +kernel) ?_
      refine xr_iconst (n := 1) (by decide +kernel) ?_
      refine xr_iadd (by decide +kernel) ?_
      show sh_X g (d + 1) m_Read_readPart _ _ ((sh_i (depth + 1)) :: _) _ _
      refine xr_callV (av := [(sh_r L), (sh_i (depth + 1))]) rfl rfl rfl mo_Read_readE ml_Read_144 im_Read_readE se_Read_readE rfl (Nat.le_of_ble_eq_true rfl) (by decide +kernel) (sh_mono k ?_)
      rintro rv m2 ⟨r1, rfl, k⟩
      show sh_X g (d + 1) m_Read_readPart _ _ [(sh_i r1)] _ _
      refine xr_if_eq (a' := (i3 r1)) rfl (off := 16) (tgt := 178) (by decide) (by decide +kernel) ⟨fun c3 => ?_, fun c3 => ?_⟩
      · have k := k.1 c3
        refine xr_iconst (n := 0) (by decide +kernel) ?_
        exact xr_zret rfl (by decide +kernel) (by decide) k
      · have k := k.2 c3
        refine xr_aload_n (n := 0) (i := 0) rfl (List.mem_of_getElem? (i := 0) rfl) (by decide +kernel) ?_
        refine xr_bipush (n := 41) (v := 41) (by decide) (by decide +kernel) ?_
        refine xr_callV (av := [(sh_i 41)]) rfl rfl rfl mo_Read_takeSign ml_Read_114 im_Read_takeSign se_Read_takeSign rfl (Nat.le_of_ble_eq_true rfl) (by decide +kernel) (sh_mono k ?_)
        rintro rv m3 ⟨r2, rfl, k⟩
        show sh_X g (d + 1) m_Read_readPart _ _ [(sh_i r2)] _ _
        refine xr_if_eq (a' := (i3 r2)) rfl (off := 7) (tgt := 178) (by decide) (by decide +kernel) ⟨fun c4 => ?_, fun c4 => ?_⟩
        · have k := k.1 c4
          refine xr_iconst (n := 0) (by decide +kernel) ?_
          exact xr_zret rfl (by decide +kernel) (by decide) k
        · have k := k.2 c4
          refine xr_iconst (n := 1) (by decide +kernel) ?_
          refine xr_goto (off := 4) (tgt := 179) (by decide) (by decide +kernel) ?_
          exact xr_zret rfl (by decide +kernel) (by decide) k
  · have k := k.2 c1
    refine xr_aload_n (n := 0) (i := 0) rfl (List.mem_of_getElem? (i := 0) rfl) (by decide +kernel) ?_
    refine xr_aload_n (n := 1) (i := 1) rfl (List.mem_of_getElem? (i := 1) rfl) (by decide +kernel) ?_
    refine xr_iload_n (n := 2) (i := 2) rfl (List.mem_of_getElem? (i := 2) rfl) (by decide +kernel) ?_
    refine xr_iconst (n := 1) (by decide +kernel) ?_
    refine xr_iadd (by decide +kernel) ?_
    show sh_X g (d + 1) m_Read_readPart _ _ ((sh_i (depth + 1)) :: _) _ _
    refine xr_callV (av := [(sh_r L), (sh_i (depth + 1))]) rfl rfl rfl mo_Read_readPart ml_Read_165 im_Read_readPart se_Read_readPart rfl (Nat.le_of_ble_eq_true rfl) (by decide +kernel) (sh_mono k ?_)
    rintro rv m4 ⟨r3, rfl, k⟩
    show sh_X g (d + 1) m_Read_readPart _ _ [(sh_i r3)] _ _
    refine xr_istore (i := 7) (by decide) rfl (by decide +kernel) ?_
    refine xr_aload_n (n := 1) (i := 1) rfl (List.mem_of_getElem? (i := 2) rfl) (by decide +kernel) ?_
    refine xr_bipush (n := (-5)) (v := (-5)) (by decide) (by decide +kernel) ?_
    refine xr_callV (av := [(sh_i (-5))]) (ob2_0 hL) rfl rfl mo_Law_put ml_Read_155 im_Law_put se_Law_put rfl (Nat.le_of_ble_eq_true rfl) (by decide +kernel) (sh_mono k ?_)
    rintro rv m5 ⟨rfl, k⟩
    show sh_X g (d + 1) m_Read_readPart _ _ [] _ _
    refine xr_iload (i := 7) (List.mem_of_getElem? (i := 0) rfl) (by decide +kernel) ?_
    exact xr_zret rfl (by decide +kernel) k.1 k.2

theorem v_Read_factTold {g : sh_G} {d : Nat}   {mem : sh_Mem} {Q : Option sh_V → sh_Mem → Prop}  (k : (sh_Cal g d m_Tape_isWord [(sh_r 2), (sh_r 1014)] mem fun rv m1 => ∃ r1 : Int, rv = some (sh_i r1) ∧ (((i3 r1) = 0 → (sh_Cal g d m_Tape_isWord [(sh_r 2), (sh_r 1015)] m1 fun rv m2 => ∃ r2 : Int, rv = some (sh_i r2) ∧ (((i3 r2) = 0 → (sh_Cal g d m_Tape_isWord [(sh_r 2), (sh_r 1016)] m2 fun rv m3 => ∃ r3 : Int, rv = some (sh_i r3) ∧ (((i3 r3) = 0 → (sh_Cal g d m_Tape_isWord [(sh_r 2), (sh_r 1017)] m3 fun rv m4 => ∃ r4 : Int, rv = some (sh_i r4) ∧ (((i3 r4) = 0 → Q (some (sh_i 0)) m4) ∧ (¬ (i3 r4) = 0 → Q (some (sh_i (-4))) m4)))) ∧ (¬ (i3 r3) = 0 → Q (some (sh_i (-3))) m3)))) ∧ (¬ (i3 r2) = 0 → Q (some (sh_i (-2))) m2)))) ∧ (¬ (i3 r1) = 0 → Q (some (sh_i (-1))) m1)))) : sh_Cal g (d + 1) m_Read_factTold [(sh_r 4)] mem Q := by
  refine sh_met (by decide +kernel) (Nat.le_of_ble_eq_true rfl) (lo := [(0, (sh_r 4))]) rfl ?_
  refine xr_aload_n (n := 0) (i := 0) rfl (List.mem_of_getElem? (i := 0) rfl) (by decide +kernel) ?_
  refine xr_getT rfl fl_Read_9 rfl (by decide +kernel) ?_
  refine xr_ldcS (ix := 176) (i := 14) (by decide) rfl (by decide +kernel) ?_
  show sh_X g (d + 1) m_Read_factTold _ _ ((sh_r 1014) :: _) _ _
  refine xr_callV (av := [(sh_r 1014)]) rfl rfl rfl mo_Tape_isWord ml_Read_48 im_Tape_isWord se_Tape_isWord rfl (Nat.le_of_ble_eq_true rfl) (by decide +kernel) (sh_mono k ?_)
  rintro rv m1 ⟨r1, rfl, k⟩
  show sh_X g (d + 1) m_Read_factTold _ _ [(sh_i r1)] _ _
  refine xr_if_eq (a' := (i3 r1)) rfl (off := 5) (tgt := 14) (by decide) (by decide +kernel) ⟨fun c1 => ?_, fun c1 => ?_⟩
  · have k := k.1 c1
    refine xr_aload_n (n := 0) (i := 0) rfl (List.mem_of_getElem? (i := 0) rfl) (by decide +kernel) ?_
    refine xr_getT rfl fl_Read_9 rfl (by decide +kernel) ?_
    refine xr_ldcS (ix := 178) (i := 15) (by decide) rfl (by decide +kernel) ?_
    show sh_X g (d + 1) m_Read_factTold _ _ ((sh_r 1015) :: _) _ _
    refine xr_callV (av := [(sh_r 1015)]) rfl rfl rfl mo_Tape_isWord ml_Read_48 im_Tape_isWord se_Tape_isWord rfl (Nat.le_of_ble_eq_true rfl) (by decide +kernel) (sh_mono k ?_)
    rintro rv m2 ⟨r2, rfl, k⟩
    show sh_X g (d + 1) m_Read_factTold _ _ [(sh_i r2)] _ _
    refine xr_if_eq (a' := (i3 r2)) rfl (off := 6) (tgt := 29) (by decide) (by decide +kernel) ⟨fun c2 => ?_, fun c2 => ?_⟩
    · have k := k.1 c2
      refine xr_aload_n (n := 0) (i := 0) rfl (List.mem_of_getElem? (i := 0) rfl) (by decide +kernel) ?_
      refine xr_getT rfl fl_Read_9 rfl (by decide +kernel) ?_
      refine xr_ldcS (ix := 180) (i := 16) (by decide) rfl (by decide +kernel) ?_
      show sh_X g (d + 1) m_Read_factTold _ _ ((sh_r 1016) :: _) _ _
      refine xr_callV (av := [(sh_r 1016)]) rfl rfl rfl mo_Tape_isWord ml_Read_48 im_Tape_isWord se_Tape_isWord rfl (Nat.le_of_ble_eq_true rfl) (by decide +kernel) (sh_mono k ?_)
      rintro rv m3 ⟨r3, rfl, k⟩
      show sh_X g (d + 1) m_Read_factTold _ _ [(sh_i r3)] _ _
      refine xr_if_eq (a' := (i3 r3)) rfl (off := 6) (tgt := 44) (by decide) (by decide +kernel) ⟨fun c3 => ?_, fun c3 => ?_⟩
      · have k := k.1 c3
        refine xr_aload_n (n := 0) (i := 0) rfl (List.mem_of_getElem? (i := 0) rfl) (by decide +kernel) ?_
        refine xr_getT rfl fl_Read_9 rfl (by decide +kernel) ?_
        refine xr_ldcS (ix := 182) (i := 17) (by decide) rfl (by decide +kernel) ?_
        show sh_X g (d + 1) m_Read_factTold _ _ ((sh_r 1017) :: _) _ _
        refine xr_callV (av := [(sh_r 1017)]) rfl rfl rfl mo_Tape_isWord ml_Read_48 im_Tape_isWord se_Tape_isWord rfl (Nat.le_of_ble_eq_true rfl) (by decide +kernel) (sh_mono k ?_)
        rintro rv m4 ⟨r4, rfl, k⟩
        show sh_X g (d + 1) m_Read_factTold _ _ [(sh_i r4)] _ _
        refine xr_if_eq (a' := (i3 r4)) rfl (off := 8) (tgt := 61) (by decide) (by decide +kernel) ⟨fun c4 => ?_, fun c4 => ?_⟩
        · have k := k.1 c4
          refine xr_iconst (n := 0) (by decide +kernel) ?_
          exact xr_iret rfl (by decide +kernel) k
        · have k := k.2 c4
          refine xr_bipush (n := (-4)) (v := (-4)) (by decide) (by decide +kernel) ?_
          refine xr_goto (off := 4) (tgt := 62) (by decide) (by decide +kernel) ?_
          exact xr_iret rfl (by decide +kernel) k
      · have k := k.2 c3
        refine xr_bipush (n := (-3)) (v := (-3)) (by decide) (by decide +kernel) ?_
        exact xr_iret rfl (by decide +kernel) k
    · have k := k.2 c2
      refine xr_bipush (n := (-2)) (v := (-2)) (by decide) (by decide +kernel) ?_
      exact xr_iret rfl (by decide +kernel) k
  · have k := k.2 c1
    refine xr_iconst (n := (-1)) (by decide +kernel) ?_
    exact xr_iret rfl (by decide +kernel) k

theorem v_Read_kindTold {g : sh_G} {d : Nat}   {mem : sh_Mem} {Q : Option sh_V → sh_Mem → Prop}  (k : (sh_Cal g d m_Tape_isWord [(sh_r 2), (sh_r 1003)] mem fun rv m1 => ∃ r1 : Int, rv = some (sh_i r1) ∧ (((i3 r1) = 0 → (sh_Cal g d m_Tape_isWord [(sh_r 2), (sh_r 1004)] m1 fun rv m2 => ∃ r2 : Int, rv = some (sh_i r2) ∧ (((i3 r2) = 0 → (sh_Cal g d m_Tape_isWord [(sh_r 2), (sh_r 1005)] m2 fun rv m3 => ∃ r3 : Int, rv = some (sh_i r3) ∧ (((i3 r3) = 0 → (sh_Cal g d m_Tape_isWord [(sh_r 2), (sh_r 1006)] m3 fun rv m4 => ∃ r4 : Int, rv = some (sh_i r4) ∧ (((i3 r4) = 0 → Q (some (sh_i (-1))) m4) ∧ (¬ (i3 r4) = 0 → Q (some (sh_i 3)) m4)))) ∧ (¬ (i3 r3) = 0 → Q (some (sh_i 2)) m3)))) ∧ (¬ (i3 r2) = 0 → Q (some (sh_i 1)) m2)))) ∧ (¬ (i3 r1) = 0 → Q (some (sh_i 0)) m1)))) : sh_Cal g (d + 1) m_Read_kindTold [(sh_r 4)] mem Q := by
  refine sh_met (by decide +kernel) (Nat.le_of_ble_eq_true rfl) (lo := [(0, (sh_r 4))]) rfl ?_
  refine xr_aload_n (n := 0) (i := 0) rfl (List.mem_of_getElem? (i := 0) rfl) (by decide +kernel) ?_
  refine xr_getT rfl fl_Read_9 rfl (by decide +kernel) ?_
  refine xr_ldcS (ix := 184) (i := 3) (by decide) rfl (by decide +kernel) ?_
  show sh_X g (d + 1) m_Read_kindTold _ _ ((sh_r 1003) :: _) _ _
  refine xr_callV (av := [(sh_r 1003)]) rfl rfl rfl mo_Tape_isWord ml_Read_48 im_Tape_isWord se_Tape_isWord rfl (Nat.le_of_ble_eq_true rfl) (by decide +kernel) (sh_mono k ?_)
  rintro rv m1 ⟨r1, rfl, k⟩
  show sh_X g (d + 1) m_Read_kindTold _ _ [(sh_i r1)] _ _
  refine xr_if_eq (a' := (i3 r1)) rfl (off := 5) (tgt := 14) (by decide) (by decide +kernel) ⟨fun c1 => ?_, fun c1 => ?_⟩
  · have k := k.1 c1
    refine xr_aload_n (n := 0) (i := 0) rfl (List.mem_of_getElem? (i := 0) rfl) (by decide +kernel) ?_
    refine xr_getT rfl fl_Read_9 rfl (by decide +kernel) ?_
    refine xr_ldcS (ix := 186) (i := 4) (by decide) rfl (by decide +kernel) ?_
    show sh_X g (d + 1) m_Read_kindTold _ _ ((sh_r 1004) :: _) _ _
    refine xr_callV (av := [(sh_r 1004)]) rfl rfl rfl mo_Tape_isWord ml_Read_48 im_Tape_isWord se_Tape_isWord rfl (Nat.le_of_ble_eq_true rfl) (by decide +kernel) (sh_mono k ?_)
    rintro rv m2 ⟨r2, rfl, k⟩
    show sh_X g (d + 1) m_Read_kindTold _ _ [(sh_i r2)] _ _
    refine xr_if_eq (a' := (i3 r2)) rfl (off := 5) (tgt := 28) (by decide) (by decide +kernel) ⟨fun c2 => ?_, fun c2 => ?_⟩
    · have k := k.1 c2
      refine xr_aload_n (n := 0) (i := 0) rfl (List.mem_of_getElem? (i := 0) rfl) (by decide +kernel) ?_
      refine xr_getT rfl fl_Read_9 rfl (by decide +kernel) ?_
      refine xr_ldcS (ix := 188) (i := 5) (by decide) rfl (by decide +kernel) ?_
      show sh_X g (d + 1) m_Read_kindTold _ _ ((sh_r 1005) :: _) _ _
      refine xr_callV (av := [(sh_r 1005)]) rfl rfl rfl mo_Tape_isWord ml_Read_48 im_Tape_isWord se_Tape_isWord rfl (Nat.le_of_ble_eq_true rfl) (by decide +kernel) (sh_mono k ?_)
      rintro rv m3 ⟨r3, rfl, k⟩
      show sh_X g (d + 1) m_Read_kindTold _ _ [(sh_i r3)] _ _
      refine xr_if_eq (a' := (i3 r3)) rfl (off := 5) (tgt := 42) (by decide) (by decide +kernel) ⟨fun c3 => ?_, fun c3 => ?_⟩
      · have k := k.1 c3
        refine xr_aload_n (n := 0) (i := 0) rfl (List.mem_of_getElem? (i := 0) rfl) (by decide +kernel) ?_
        refine xr_getT rfl fl_Read_9 rfl (by decide +kernel) ?_
        refine xr_ldcS (ix := 190) (i := 6) (by decide) rfl (by decide +kernel) ?_
        show sh_X g (d + 1) m_Read_kindTold _ _ ((sh_r 1006) :: _) _ _
        refine xr_callV (av := [(sh_r 1006)]) rfl rfl rfl mo_Tape_isWord ml_Read_48 im_Tape_isWord se_Tape_isWord rfl (Nat.le_of_ble_eq_true rfl) (by decide +kernel) (sh_mono k ?_)
        rintro rv m4 ⟨r4, rfl, k⟩
        show sh_X g (d + 1) m_Read_kindTold _ _ [(sh_i r4)] _ _
        refine xr_if_eq (a' := (i3 r4)) rfl (off := 7) (tgt := 58) (by decide) (by decide +kernel) ⟨fun c4 => ?_, fun c4 => ?_⟩
        · have k := k.1 c4
          refine xr_iconst (n := (-1)) (by decide +kernel) ?_
          exact xr_iret rfl (by decide +kernel) k
        · have k := k.2 c4
          refine xr_iconst (n := 3) (by decide +kernel) ?_
          refine xr_goto (off := 4) (tgt := 59) (by decide) (by decide +kernel) ?_
          exact xr_iret rfl (by decide +kernel) k
      · have k := k.2 c3
        refine xr_iconst (n := 2) (by decide +kernel) ?_
        exact xr_iret rfl (by decide +kernel) k
    · have k := k.2 c2
      refine xr_iconst (n := 1) (by decide +kernel) ?_
      exact xr_iret rfl (by decide +kernel) k
  · have k := k.2 c1
    refine xr_iconst (n := 0) (by decide +kernel) ?_
    exact xr_iret rfl (by decide +kernel) k

theorem v_Read_readYearLine {g : sh_G} {d : Nat} {Y : Nat} {B : Nat}  {mem : sh_Mem} {Q : Option sh_V → sh_Mem → Prop} (hY : ob10 Y) (hB : ob0 B) (k : (sh_Cal g d m_Read_doingTold [(sh_r 4)] mem fun rv m1 => ∃ r1 : Int, rv = some (sh_i r1) ∧ ((¬ (i3 r1) = (-1) → (((i3 (m1 Y 0)) < 40 → (sh_Cal g d m_Tape_step [(sh_r 2)] m1 fun rv m2 => rv = none ∧ (((i3 r1) = 0 → sh_X g (d + 1) m_Read_readYearLine 64 [(0, (sh_r 4)), (1, (sh_r Y)), (2, (sh_r B)), (3, (sh_i r1)), (4, (sh_i (-1))), (5, (sh_i (-1)))] [] m2 (sh_K m_Read_readYearLine Q)) ∧ (¬ (i3 r1) = 0 → (sh_Cal g d m_Read_takeThief [(sh_r 4), (sh_r B)] m2 fun rv m3 => ∃ r2 : Int, rv = some (sh_i r2) ∧ ((¬ (i3 r2) = 0 → sh_X g (d + 1) m_Read_readYearLine 64 [(0, (sh_r 4)), (1, (sh_r Y)), (2, (sh_r B)), (3, (sh_i r1)), (4, (sh_i (m3 4 2))), (5, (sh_i (-1)))] [] m3 (sh_K m_Read_readYearLine Q)) ∧ ((i3 r2) = 0 → Q (some (sh_i 0)) m3))))))) ∧ (¬ (i3 (m1 Y 0)) < 40 → (sh_Cal g d m_Read_refuse [(sh_r 4), (sh_i 5)] m1 fun rv m4 => ∃ r3 : Int, rv = some (sh_i r3) ∧ ((r3 = 0 ∨ r3 = 1) ∧ Q (some (sh_i r3)) m4))))) ∧ ((i3 r1) = (-1) → (sh_Cal g d m_Read_refuse [(sh_r 4), (sh_i 1)] m1 fun rv m5 => ∃ r4 : Int, rv = some (sh_i r4) ∧ ((r4 = 0 ∨ r4 = 1) ∧ Q (some (sh_i r4)) m5)))))) : sh_Cal g (d + 1) m_Read_readYearLine [(sh_r 4), (sh_r Y), (sh_r B)] mem Q := by
  refine sh_met (by decide +kernel) (Nat.le_of_ble_eq_true rfl) (lo := [(0, (sh_r 4)), (1, (sh_r Y)), (2, (sh_r B))]) rfl ?_
  refine xr_aload_n (n := 0) (i := 0) rfl (List.mem_of_getElem? (i := 0) rfl) (by decide +kernel) ?_
  refine xr_callV (av := []) rfl rfl rfl mo_Read_doingTold ml_Read_192 im_Read_doingTold se_Read_doingTold rfl (Nat.le_of_ble_eq_true rfl) (by decide +kernel) (sh_mono k ?_)
  rintro rv m1 ⟨r1, rfl, k⟩
  show sh_X g (d + 1) m_Read_readYearLine _ _ [(sh_i r1)] _ _
  refine xr_istore_n (n := 3) (i := 3) rfl (by decide) rfl (by decide +kernel) ?_
  refine xr_iload_n (n := 3) (i := 3) rfl (List.mem_of_getElem? (i := 0) rfl) (by decide +kernel) ?_
  refine xr_iconst (n := (-1)) (by decide +kernel) ?_
  refine xr_icmp_ne (a' := (i3 r1)) (b' := (-1)) rfl (by decide) (off := 9) (tgt := 16) (by decide) (by decide +kernel) ⟨fun c1 => ?_, fun c1 => ?_⟩
  · have k := k.1 c1
    refine xr_aload_n (n := 1) (i := 1) rfl (List.mem_of_getElem? (i := 2) rfl) (by decide +kernel) ?_
    refine xr_getI (ob10_0 hY) fl_Read_37 (by decide) (by decide +kernel) ?_
    refine xr_bipush (n := 40) (v := 40) (by decide) (by decide +kernel) ?_
    refine xr_icmp_lt (a' := (i3 (m1 Y 0))) (b' := 40) rfl (by decide) (off := 9) (tgt := 31) (by decide) (by decide +kernel) ⟨fun c2 => ?_, fun c2 => ?_⟩
    · have k := k.1 c2
      refine xr_aload_n (n := 0) (i := 0) rfl (List.mem_of_getElem? (i := 1) rfl) (by decide +kernel) ?_
      refine xr_getT rfl fl_Read_9 rfl (by decide +kernel) ?_
      refine xr_callV (av := []) rfl rfl rfl mo_Tape_step ml_Read_72 im_Tape_step se_Tape_step rfl (Nat.le_of_ble_eq_true rfl) (by decide +kernel) (sh_mono k ?_)
      rintro rv m2 ⟨rfl, k⟩
      show sh_X g (d + 1) m_Read_readYearLine _ _ [] _ _
      refine xr_iconst (n := (-1)) (by decide +kernel) ?_
      refine xr_istore (i := 4) (by decide) rfl (by decide +kernel) ?_
      refine xr_iconst (n := (-1)) (by decide +kernel) ?_
      refine xr_istore (i := 5) (by decide) rfl (by decide +kernel) ?_
      refine xr_iload_n (n := 3) (i := 3) rfl (List.mem_of_getElem? (i := 2) rfl) (by decide +kernel) ?_
      refine xr_if_eq (a' := (i3 r1)) rfl (off := 19) (tgt := 64) (by decide) (by decide +kernel) ⟨fun c3 => ?_, fun c3 => ?_⟩
      · have k := k.1 c3
        refine xr_sub (lo' := [(0, (sh_r 4)), (1, (sh_r Y)), (2, (sh_r B)), (3, (sh_i r1)), (4, (sh_i (-1))), (5, (sh_i (-1)))]) [3, 4, 5, 2, 1, 0] rfl ?_
        exact k
      · have k := k.2 c3
        refine xr_aload_n (n := 0) (i := 0) rfl (List.mem_of_getElem? (i := 3) rfl) (by decide +kernel) ?_
        refine xr_aload_n (n := 2) (i := 2) rfl (List.mem_of_getElem? (i := 5) rfl) (by decide +kernel) ?_
        refine xr_callV (av := [(sh_r B)]) rfl rfl rfl mo_Read_takeThief ml_Read_195 im_Read_takeThief se_Read_takeThief rfl (Nat.le_of_ble_eq_true rfl) (by decide +kernel) (sh_mono k ?_)
        rintro rv m3 ⟨r2, rfl, k⟩
        show sh_X g (d + 1) m_Read_readYearLine _ _ [(sh_i r2)] _ _
        refine xr_if_ne (a' := (i3 r2)) rfl (off := 5) (tgt := 58) (by decide) (by decide +kernel) ⟨fun c4 => ?_, fun c4 => ?_⟩
        · have k := k.1 c4
          refine xr_aload_n (n := 0) (i := 0) rfl (List.mem_of_getElem? (i := 3) rfl) (by decide +kernel) ?_
          refine xr_getI rfl fl_Read_106 (by decide) (by decide +kernel) ?_
          refine xr_istore (i := 4) (by decide) rfl (by decide +kernel) ?_
          refine xr_sub (lo' := [(0, (sh_r 4)), (1, (sh_r Y)), (2, (sh_r B)), (3, (sh_i r1)), (4, (sh_i (m3 4 2))), (5, (sh_i (-1)))]) [3, 4, 5, 2, 0, 1] rfl ?_
          exact k
        · have k := k.2 c4
          refine xr_iconst (n := 0) (by decide +kernel) ?_
          exact xr_zret rfl (by decide +kernel) (by decide) k
    · have k := k.2 c2
      refine xr_aload_n (n := 0) (i := 0) rfl (List.mem_of_getElem? (i := 1) rfl) (by decide +kernel) ?_
      refine xr_iconst (n := 5) (by decide +kernel) ?_
      refine xr_callV (av := [(sh_i 5)]) rfl rfl rfl mo_Read_refuse ml_Read_65 im_Read_refuse se_Read_refuse rfl (Nat.le_of_ble_eq_true rfl) (by decide +kernel) (sh_mono k ?_)
      rintro rv m4 ⟨r3, rfl, k⟩
      show sh_X g (d + 1) m_Read_readYearLine _ _ [(sh_i r3)] _ _
      exact xr_zret rfl (by decide +kernel) k.1 k.2
  · have k := k.2 c1
    refine xr_aload_n (n := 0) (i := 0) rfl (List.mem_of_getElem? (i := 1) rfl) (by decide +kernel) ?_
    refine xr_iconst (n := 1) (by decide +kernel) ?_
    refine xr_callV (av := [(sh_i 1)]) rfl rfl rfl mo_Read_refuse ml_Read_65 im_Read_refuse se_Read_refuse rfl (Nat.le_of_ble_eq_true rfl) (by decide +kernel) (sh_mono k ?_)
    rintro rv m5 ⟨r4, rfl, k⟩
    show sh_X g (d + 1) m_Read_readYearLine _ _ [(sh_i r4)] _ _
    exact xr_zret rfl (by decide +kernel) k.1 k.2
theorem v_Read_readYearLine_64 {g : sh_G} {d : Nat} {Y : Nat} {B : Nat}  {mem : sh_Mem} {Q : Option sh_V → sh_Mem → Prop} (hY : ob10 Y) (hB : ob0 B) {x3 : Int} {x4 : Int} {x5 : Int} (k : (((i3 x3) = 1 → sh_X g (d + 1) m_Read_readYearLine 74 [(0, (sh_r 4)), (1, (sh_r Y)), (2, (sh_r B)), (3, (sh_i x3)), (4, (sh_i x4)), (5, (sh_i x5))] [] mem (sh_K m_Read_readYearLine Q)) ∧ (¬ (i3 x3) = 1 → ((¬ (i3 x3) = 4 → (sh_Cal g d m_Year_add [(sh_r Y), (sh_i x3), (sh_i x4), (sh_i x5)] mem fun rv m1 => rv = none ∧ (sh_Cal g d m_Read_takeSign [(sh_r 4), (sh_i 59)] m1 fun rv m2 => ∃ r1 : Int, rv = some (sh_i r1) ∧ ((r1 = 0 ∨ r1 = 1) ∧ Q (some (sh_i r1)) m2)))) ∧ ((i3 x3) = 4 → sh_X g (d + 1) m_Read_readYearLine 74 [(0, (sh_r 4)), (1, (sh_r Y)), (2, (sh_r B)), (3, (sh_i x3)), (4, (sh_i x4)), (5, (sh_i x5))] [] mem (sh_K m_Read_readYearLine Q)))))) : sh_X g (d + 1) m_Read_readYearLine 64 [(0, (sh_r 4)), (1, (sh_r Y)), (2, (sh_r B)), (3, (sh_i x3)), (4, (sh_i x4)), (5, (sh_i x5))] [] mem (sh_K m_Read_readYearLine Q) := by
  refine xr_iload_n (n := 3) (i := 3) rfl (List.mem_of_getElem? (i := 3) rfl) (by decide +kernel) ?_
  refine xr_iconst (n := 1) (by decide +kernel) ?_
  refine xr_icmp_eq (a' := (i3 x3)) (b' := 1) rfl (by decide) (off := 8) (tgt := 74) (by decide) (by decide +kernel) ⟨fun c1 => ?_, fun c1 => ?_⟩
  · have k := k.1 c1
    refine xr_sub (lo' := [(0, (sh_r 4)), (1, (sh_r Y)), (2, (sh_r B)), (3, (sh_i x3)), (4, (sh_i x4)), (5, (sh_i x5))]) [0, 1, 2, 3, 4, 5] rfl ?_
    exact k
  · have k := k.2 c1
    refine xr_iload_n (n := 3) (i := 3) rfl (List.mem_of_getElem? (i := 3) rfl) (by decide +kernel) ?_
    refine xr_iconst (n := 4) (by decide +kernel) ?_
    refine xr_icmp_ne (a' := (i3 x3)) (b' := 4) rfl (by decide) (off := 38) (tgt := 109) (by decide) (by decide +kernel) ⟨fun c2 => ?_, fun c2 => ?_⟩
    · have k := k.1 c2
      refine xr_aload_n (n := 1) (i := 1) rfl (List.mem_of_getElem? (i := 1) rfl) (by decide +kernel) ?_
      refine xr_iload_n (n := 3) (i := 3) rfl (List.mem_of_getElem? (i := 3) rfl) (by decide +kernel) ?_
      refine xr_iload (i := 4) (List.mem_of_getElem? (i := 4) rfl) (by decide +kernel) ?_
      refine xr_iload (i := 5) (List.mem_of_getElem? (i := 5) rfl) (by decide +kernel) ?_
      refine xr_callV (av := [(sh_i x3), (sh_i x4), (sh_i x5)]) (ob10_0 hY) rfl rfl mo_Year_add ml_Read_205 im_Year_add se_Year_add rfl (Nat.le_of_ble_eq_true rfl) (by decide +kernel) (sh_mono k ?_)
      rintro rv m1 ⟨rfl, k⟩
      show sh_X g (d + 1) m_Read_readYearLine _ _ [] _ _
      refine xr_aload_n (n := 0) (i := 0) rfl (List.mem_of_getElem? (i := 0) rfl) (by decide +kernel) ?_
      refine xr_bipush (n := 59) (v := 59) (by decide) (by decide +kernel) ?_
      refine xr_callV (av := [(sh_i 59)]) rfl rfl rfl mo_Read_takeSign ml_Read_114 im_Read_takeSign se_Read_takeSign rfl (Nat.le_of_ble_eq_true rfl) (by decide +kernel) (sh_mono k ?_)
      rintro rv m2 ⟨r1, rfl, k⟩
      show sh_X g (d + 1) m_Read_readYearLine _ _ [(sh_i r1)] _ _
      exact xr_zret rfl (by decide +kernel) k.1 k.2
    · have k := k.2 c2
      refine xr_sub (lo' := [(0, (sh_r 4)), (1, (sh_r Y)), (2, (sh_r B)), (3, (sh_i x3)), (4, (sh_i x4)), (5, (sh_i x5))]) [0, 1, 2, 3, 4, 5] rfl ?_
      exact k
theorem v_Read_readYearLine_74 {g : sh_G} {d : Nat} {Y : Nat} {B : Nat}  {mem : sh_Mem} {Q : Option sh_V → sh_Mem → Prop} (hY : ob10 Y) (hB : ob0 B) {x3 : Int} {x4 : Int} {x5 : Int} (k : ((¬ (i3 x3) = 1 → (sh_Cal g d m_Read_takeOtherThief [(sh_r 4), (sh_r B), (sh_i x4)] mem fun rv m1 => ∃ r1 : Int, rv = some (sh_i r1) ∧ sh_X g (d + 1) m_Read_readYearLine 94 [(0, (sh_r 4)), (1, (sh_r Y)), (2, (sh_r B)), (3, (sh_i x3)), (4, (sh_i x4)), (5, (sh_i x5))] [(sh_i r1)] m1 (sh_K m_Read_readYearLine Q))) ∧ ((i3 x3) = 1 → (sh_Cal g d m_Read_takeDay [(sh_r 4), (sh_r B)] mem fun rv m2 => ∃ r2 : Int, rv = some (sh_i r2) ∧ sh_X g (d + 1) m_Read_readYearLine 94 [(0, (sh_r 4)), (1, (sh_r Y)), (2, (sh_r B)), (3, (sh_i x3)), (4, (sh_i x4)), (5, (sh_i x5))] [(sh_i r2)] m2 (sh_K m_Read_readYearLine Q))))) : sh_X g (d + 1) m_Read_readYearLine 74 [(0, (sh_r 4)), (1, (sh_r Y)), (2, (sh_r B)), (3, (sh_i x3)), (4, (sh_i x4)), (5, (sh_i x5))] [] mem (sh_K m_Read_readYearLine Q) := by
  refine xr_iload_n (n := 3) (i := 3) rfl (List.mem_of_getElem? (i := 3) rfl) (by decide +kernel) ?_
  refine xr_iconst (n := 1) (by decide +kernel) ?_
  refine xr_icmp_ne (a' := (i3 x3)) (b' := 1) rfl (by decide) (off := 11) (tgt := 87) (by decide) (by decide +kernel) ⟨fun c1 => ?_, fun c1 => ?_⟩
  · have k := k.1 c1
    refine xr_aload_n (n := 0) (i := 0) rfl (List.mem_of_getElem? (i := 0) rfl) (by decide +kernel) ?_
    refine xr_aload_n (n := 2) (i := 2) rfl (List.mem_of_getElem? (i := 2) rfl) (by decide +kernel) ?_
    refine xr_iload (i := 4) (List.mem_of_getElem? (i := 4) rfl) (by decide +kernel) ?_
    refine xr_callV (av := [(sh_r B), (sh_i x4)]) rfl rfl rfl mo_Read_takeOtherThief ml_Read_201 im_Read_takeOtherThief se_Read_takeOtherThief rfl (Nat.le_of_ble_eq_true rfl) (by decide +kernel) (sh_mono k ?_)
    rintro rv m1 ⟨r1, rfl, k⟩
    show sh_X g (d + 1) m_Read_readYearLine _ _ [(sh_i r1)] _ _
    refine xr_sub (lo' := [(0, (sh_r 4)), (1, (sh_r Y)), (2, (sh_r B)), (3, (sh_i x3)), (4, (sh_i x4)), (5, (sh_i x5))]) [0, 1, 2, 3, 4, 5] rfl ?_
    exact k
  · have k := k.2 c1
    refine xr_aload_n (n := 0) (i := 0) rfl (List.mem_of_getElem? (i := 0) rfl) (by decide +kernel) ?_
    refine xr_aload_n (n := 2) (i := 2) rfl (List.mem_of_getElem? (i := 2) rfl) (by decide +kernel) ?_
    refine xr_callV (av := [(sh_r B)]) rfl rfl rfl mo_Read_takeDay ml_Read_198 im_Read_takeDay se_Read_takeDay rfl (Nat.le_of_ble_eq_true rfl) (by decide +kernel) (sh_mono k ?_)
    rintro rv m2 ⟨r2, rfl, k⟩
    show sh_X g (d + 1) m_Read_readYearLine _ _ [(sh_i r2)] _ _
    refine xr_goto (off := 10) (tgt := 94) (by decide) (by decide +kernel) ?_
    refine xr_sub (lo' := [(0, (sh_r 4)), (1, (sh_r Y)), (2, (sh_r B)), (3, (sh_i x3)), (4, (sh_i x4)), (5, (sh_i x5))]) [0, 1, 2, 3, 4, 5] rfl ?_
    exact k
theorem v_Read_readYearLine_94 {g : sh_G} {d : Nat} {Y : Nat} {B : Nat}  {mem : sh_Mem} {Q : Option sh_V → sh_Mem → Prop} (hY : ob10 Y) (hB : ob0 B) {x3 : Int} {x4 : Int} {x5 : Int} {y0 : Int} (k : ((¬ (i3 y0) = 0 → (sh_Cal g d m_Year_add [(sh_r Y), (sh_i x3), (sh_i x4), (sh_i (mem 4 2))] mem fun rv m1 => rv = none ∧ (sh_Cal g d m_Read_takeSign [(sh_r 4), (sh_i 59)] m1 fun rv m2 => ∃ r1 : Int, rv = some (sh_i r1) ∧ ((r1 = 0 ∨ r1 = 1) ∧ Q (some (sh_i r1)) m2)))) ∧ ((i3 y0) = 0 → Q (some (sh_i 0)) mem))) : sh_X g (d + 1) m_Read_readYearLine 94 [(0, (sh_r 4)), (1, (sh_r Y)), (2, (sh_r B)), (3, (sh_i x3)), (4, (sh_i x4)), (5, (sh_i x5))] [(sh_i y0)] mem (sh_K m_Read_readYearLine Q) := by
  refine xr_istore (i := 6) (by decide) rfl (by decide +kernel) ?_
  refine xr_iload (i := 6) (List.mem_of_getElem? (i := 0) rfl) (by decide +kernel) ?_
  refine xr_if_ne (a' := (i3 y0)) rfl (off := 5) (tgt := 103) (by decide) (by decide +kernel) ⟨fun c1 => ?_, fun c1 => ?_⟩
  · have k := k.1 c1
    refine xr_aload_n (n := 0) (i := 0) rfl (List.mem_of_getElem? (i := 1) rfl) (by decide +kernel) ?_
    refine xr_getI rfl fl_Read_106 (by decide) (by decide +kernel) ?_
    refine xr_istore (i := 5) (by decide) rfl (by decide +kernel) ?_
    refine xr_aload_n (n := 1) (i := 1) rfl (List.mem_of_getElem? (i := 3) rfl) (by decide +kernel) ?_
    refine xr_iload_n (n := 3) (i := 3) rfl (List.mem_of_getElem? (i := 5) rfl) (by decide +kernel) ?_
    refine xr_iload (i := 4) (List.mem_of_getElem? (i := 6) rfl) (by decide +kernel) ?_
    refine xr_iload (i := 5) (List.mem_of_getElem? (i := 0) rfl) (by decide +kernel) ?_
    refine xr_callV (av := [(sh_i x3), (sh_i x4), (sh_i (mem 4 2))]) (ob10_0 hY) rfl rfl mo_Year_add ml_Read_205 im_Year_add se_Year_add rfl (Nat.le_of_ble_eq_true rfl) (by decide +kernel) (sh_mono k ?_)
    rintro rv m1 ⟨rfl, k⟩
    show sh_X g (d + 1) m_Read_readYearLine _ _ [] _ _
    refine xr_aload_n (n := 0) (i := 0) rfl (List.mem_of_getElem? (i := 2) rfl) (by decide +kernel) ?_
    refine xr_bipush (n := 59) (v := 59) (by decide) (by decide +kernel) ?_
    refine xr_callV (av := [(sh_i 59)]) rfl rfl rfl mo_Read_takeSign ml_Read_114 im_Read_takeSign se_Read_takeSign rfl (Nat.le_of_ble_eq_true rfl) (by decide +kernel) (sh_mono k ?_)
    rintro rv m2 ⟨r1, rfl, k⟩
    show sh_X g (d + 1) m_Read_readYearLine _ _ [(sh_i r1)] _ _
    exact xr_zret rfl (by decide +kernel) k.1 k.2
  · have k := k.2 c1
    refine xr_iconst (n := 0) (by decide +kernel) ?_
    exact xr_zret rfl (by decide +kernel) (by decide) k

theorem v_Read_doingTold {g : sh_G} {d : Nat}   {mem : sh_Mem} {Q : Option sh_V → sh_Mem → Prop}  (k : (sh_Cal g d m_Tape_isWord [(sh_r 2), (sh_r 1020)] mem fun rv m1 => ∃ r1 : Int, rv = some (sh_i r1) ∧ (((i3 r1) = 0 → (sh_Cal g d m_Tape_isWord [(sh_r 2), (sh_r 1021)] m1 fun rv m2 => ∃ r2 : Int, rv = some (sh_i r2) ∧ (((i3 r2) = 0 → (sh_Cal g d m_Tape_isWord [(sh_r 2), (sh_r 1022)] m2 fun rv m3 => ∃ r3 : Int, rv = some (sh_i r3) ∧ (((i3 r3) = 0 → (sh_Cal g d m_Tape_isWord [(sh_r 2), (sh_r 1023)] m3 fun rv m4 => ∃ r4 : Int, rv = some (sh_i r4) ∧ (((i3 r4) = 0 → (sh_Cal g d m_Tape_isWord [(sh_r 2), (sh_r 1024)] m4 fun rv m5 => ∃ r5 : Int, rv = some (sh_i r5) ∧ (((i3 r5) = 0 → Q (some (sh_i (-1))) m5) ∧ (¬ (i3 r5) = 0 → Q (some (sh_i 4)) m5)))) ∧ (¬ (i3 r4) = 0 → Q (some (sh_i 3)) m4)))) ∧ (¬ (i3 r3) = 0 → Q (some (sh_i 2)) m3)))) ∧ (¬ (i3 r2) = 0 → Q (some (sh_i 1)) m2)))) ∧ (¬ (i3 r1) = 0 → Q (some (sh_i 0)) m1)))) : sh_Cal g (d + 1) m_Read_doingTold [(sh_r 4)] mem Q := by
  refine sh_met (by decide +kernel) (Nat.le_of_ble_eq_true rfl) (lo := [(0, (sh_r 4))]) rfl ?_
  refine xr_aload_n (n := 0) (i := 0) rfl (List.mem_of_getElem? (i := 0) rfl) (by decide +kernel) ?_
  refine xr_getT rfl fl_Read_9 rfl (by decide +kernel) ?_
  refine xr_ldcS (ix := 209) (i := 20) (by decide) rfl (by decide +kernel) ?_
  show sh_X g (d + 1) m_Read_doingTold _ _ ((sh_r 1020) :: _) _ _
  refine xr_callV (av := [(sh_r 1020)]) rfl rfl rfl mo_Tape_isWord ml_Read_48 im_Tape_isWord se_Tape_isWord rfl (Nat.le_of_ble_eq_true rfl) (by decide +kernel) (sh_mono k ?_)
  rintro rv m1 ⟨r1, rfl, k⟩
  show sh_X g (d + 1) m_Read_doingTold _ _ [(sh_i r1)] _ _
  refine xr_if_eq (a' := (i3 r1)) rfl (off := 5) (tgt := 14) (by decide) (by decide +kernel) ⟨fun c1 => ?_, fun c1 => ?_⟩
  · have k := k.1 c1
    refine xr_aload_n (n := 0) (i := 0) rfl (List.mem_of_getElem? (i := 0) rfl) (by decide +kernel) ?_
    refine xr_getT rfl fl_Read_9 rfl (by decide +kernel) ?_
    refine xr_ldcS (ix := 211) (i := 21) (by decide) rfl (by decide +kernel) ?_
    show sh_X g (d + 1) m_Read_doingTold _ _ ((sh_r 1021) :: _) _ _
    refine xr_callV (av := [(sh_r 1021)]) rfl rfl rfl mo_Tape_isWord ml_Read_48 im_Tape_isWord se_Tape_isWord rfl (Nat.le_of_ble_eq_true rfl) (by decide +kernel) (sh_mono k ?_)
    rintro rv m2 ⟨r2, rfl, k⟩
    show sh_X g (d + 1) m_Read_doingTold _ _ [(sh_i r2)] _ _
    refine xr_if_eq (a' := (i3 r2)) rfl (off := 5) (tgt := 28) (by decide) (by decide +kernel) ⟨fun c2 => ?_, fun c2 => ?_⟩
    · have k := k.1 c2
      refine xr_aload_n (n := 0) (i := 0) rfl (List.mem_of_getElem? (i := 0) rfl) (by decide +kernel) ?_
      refine xr_getT rfl fl_Read_9 rfl (by decide +kernel) ?_
      refine xr_ldcS (ix := 213) (i := 22) (by decide) rfl (by decide +kernel) ?_
      show sh_X g (d + 1) m_Read_doingTold _ _ ((sh_r 1022) :: _) _ _
      refine xr_callV (av := [(sh_r 1022)]) rfl rfl rfl mo_Tape_isWord ml_Read_48 im_Tape_isWord se_Tape_isWord rfl (Nat.le_of_ble_eq_true rfl) (by decide +kernel) (sh_mono k ?_)
      rintro rv m3 ⟨r3, rfl, k⟩
      show sh_X g (d + 1) m_Read_doingTold _ _ [(sh_i r3)] _ _
      refine xr_if_eq (a' := (i3 r3)) rfl (off := 5) (tgt := 42) (by decide) (by decide +kernel) ⟨fun c3 => ?_, fun c3 => ?_⟩
      · have k := k.1 c3
        refine xr_aload_n (n := 0) (i := 0) rfl (List.mem_of_getElem? (i := 0) rfl) (by decide +kernel) ?_
        refine xr_getT rfl fl_Read_9 rfl (by decide +kernel) ?_
        refine xr_ldcS (ix := 215) (i := 23) (by decide) rfl (by decide +kernel) ?_
        show sh_X g (d + 1) m_Read_doingTold _ _ ((sh_r 1023) :: _) _ _
        refine xr_callV (av := [(sh_r 1023)]) rfl rfl rfl mo_Tape_isWord ml_Read_48 im_Tape_isWord se_Tape_isWord rfl (Nat.le_of_ble_eq_true rfl) (by decide +kernel) (sh_mono k ?_)
        rintro rv m4 ⟨r4, rfl, k⟩
        show sh_X g (d + 1) m_Read_doingTold _ _ [(sh_i r4)] _ _
        refine xr_if_eq (a' := (i3 r4)) rfl (off := 5) (tgt := 56) (by decide) (by decide +kernel) ⟨fun c4 => ?_, fun c4 => ?_⟩
        · have k := k.1 c4
          refine xr_aload_n (n := 0) (i := 0) rfl (List.mem_of_getElem? (i := 0) rfl) (by decide +kernel) ?_
          refine xr_getT rfl fl_Read_9 rfl (by decide +kernel) ?_
          refine xr_ldcS (ix := 217) (i := 24) (by decide) rfl (by decide +kernel) ?_
          show sh_X g (d + 1) m_Read_doingTold _ _ ((sh_r 1024) :: _) _ _
          refine xr_callV (av := [(sh_r 1024)]) rfl rfl rfl mo_Tape_isWord ml_Read_48 im_Tape_isWord se_Tape_isWord rfl (Nat.le_of_ble_eq_true rfl) (by decide +kernel) (sh_mono k ?_)
          rintro rv m5 ⟨r5, rfl, k⟩
          show sh_X g (d + 1) m_Read_doingTold _ _ [(sh_i r5)] _ _
          refine xr_if_eq (a' := (i3 r5)) rfl (off := 7) (tgt := 72) (by decide) (by decide +kernel) ⟨fun c5 => ?_, fun c5 => ?_⟩
          · have k := k.1 c5
            refine xr_iconst (n := (-1)) (by decide +kernel) ?_
            exact xr_iret rfl (by decide +kernel) k
          · have k := k.2 c5
            refine xr_iconst (n := 4) (by decide +kernel) ?_
            refine xr_goto (off := 4) (tgt := 73) (by decide) (by decide +kernel) ?_
            exact xr_iret rfl (by decide +kernel) k
        · have k := k.2 c4
          refine xr_iconst (n := 3) (by decide +kernel) ?_
          exact xr_iret rfl (by decide +kernel) k
      · have k := k.2 c3
        refine xr_iconst (n := 2) (by decide +kernel) ?_
        exact xr_iret rfl (by decide +kernel) k
    · have k := k.2 c2
      refine xr_iconst (n := 1) (by decide +kernel) ?_
      exact xr_iret rfl (by decide +kernel) k
  · have k := k.2 c1
    refine xr_iconst (n := 0) (by decide +kernel) ?_
    exact xr_iret rfl (by decide +kernel) k

theorem v_Read_takeThief {g : sh_G} {d : Nat} {B : Nat}  {mem : sh_Mem} {Q : Option sh_V → sh_Mem → Prop} (hB : ob0 B) (k : (sh_Cal g d m_Tape_isName [(sh_r 2)] mem fun rv m1 => ∃ r1 : Int, rv = some (sh_i r1) ∧ ((¬ (i3 r1) = 0 → (sh_Cal g d m_Alm_thiefNamed [(sh_r B), (sh_l (m1 2 5))] m1 fun rv m2 => ∃ r2 : Int, rv = some (sh_i r2) ∧ (∀ m3 : sh_Mem, m3 = ms m2 4 (ru (m2 4) 2 r2) → ((¬ (i3 (m3 4 2)) = (-1) → (sh_Cal g d m_Tape_step [(sh_r 2)] m3 fun rv m4 => rv = none ∧ Q (some (sh_i 1)) m4)) ∧ ((i3 (m3 4 2)) = (-1) → (sh_Cal g d m_Read_refuse [(sh_r 4), (sh_i 2)] m3 fun rv m5 => ∃ r3 : Int, rv = some (sh_i r3) ∧ ((r3 = 0 ∨ r3 = 1) ∧ Q (some (sh_i r3)) m5))))))) ∧ ((i3 r1) = 0 → (sh_Cal g d m_Read_refuse [(sh_r 4), (sh_i 1)] m1 fun rv m6 => ∃ r4 : Int, rv = some (sh_i r4) ∧ ((r4 = 0 ∨ r4 = 1) ∧ Q (some (sh_i r4)) m6)))))) : sh_Cal g (d + 1) m_Read_takeThief [(sh_r 4), (sh_r B)] mem Q := by
  refine sh_met (by decide +kernel) (Nat.le_of_ble_eq_true rfl) (lo := [(0, (sh_r 4)), (1, (sh_r B))]) rfl ?_
  refine xr_aload_n (n := 0) (i := 0) rfl (List.mem_of_getElem? (i := 0) rfl) (by decide +kernel) ?_
  refine xr_getT rfl fl_Read_9 rfl (by decide +kernel) ?_
  refine xr_callV (av := []) rfl rfl rfl mo_Tape_isName ml_Read_219 im_Tape_isName se_Tape_isName rfl (Nat.le_of_ble_eq_true rfl) (by decide +kernel) (sh_mono k ?_)
  rintro rv m1 ⟨r1, rfl, k⟩
  show sh_X g (d + 1) m_Read_takeThief _ _ [(sh_i r1)] _ _
  refine xr_if_ne (a' := (i3 r1)) rfl (off := 9) (tgt := 16) (by decide) (by decide +kernel) ⟨fun c1 => ?_, fun c1 => ?_⟩
  · have k := k.1 c1
    refine xr_aload_n (n := 0) (i := 0) rfl (List.mem_of_getElem? (i := 0) rfl) (by decide +kernel) ?_
    refine xr_aload_n (n := 1) (i := 1) rfl (List.mem_of_getElem? (i := 1) rfl) (by decide +kernel) ?_
    refine xr_aload_n (n := 0) (i := 0) rfl (List.mem_of_getElem? (i := 0) rfl) (by decide +kernel) ?_
    refine xr_getT rfl fl_Read_9 rfl (by decide +kernel) ?_
    refine xr_getL rfl fl_Read_82 (by decide) (by decide +kernel) ?_
    refine xr_callV (av := [(sh_l (m1 2 5))]) (ob0_0 hB) rfl rfl mo_Alm_thiefNamed ml_Read_223 im_Alm_thiefNamed se_Alm_thiefNamed rfl (Nat.le_of_ble_eq_true rfl) (by decide +kernel) (sh_mono k ?_)
    rintro rv m2 ⟨r2, rfl, k⟩
    show sh_X g (d + 1) m_Read_takeThief _ _ [(sh_i r2), (sh_r 4)] _ _
    refine xr_putI rfl pl_Read_106 rfl (by decide +kernel) ?_
    have k := k _ rfl
    generalize hg_m3 : ms m2 4 (ru (m2 4) 2 r2) = m3 at k ⊢
    refine xr_aload_n (n := 0) (i := 0) rfl (List.mem_of_getElem? (i := 0) rfl) (by decide +kernel) ?_
    refine xr_getI rfl fl_Read_106 (by decide) (by decide +kernel) ?_
    refine xr_iconst (n := (-1)) (by decide +kernel) ?_
    refine xr_icmp_ne (a' := (i3 (m3 4 2))) (b' := (-1)) rfl (by decide) (off := 9) (tgt := 45) (by decide) (by decide +kernel) ⟨fun c2 => ?_, fun c2 => ?_⟩
    · have k := k.1 c2
      refine xr_aload_n (n := 0) (i := 0) rfl (List.mem_of_getElem? (i := 0) rfl) (by decide +kernel) ?_
      refine xr_getT rfl fl_Read_9 rfl (by decide +kernel) ?_
      refine xr_callV (av := []) rfl rfl rfl mo_Tape_step ml_Read_72 im_Tape_step se_Tape_step rfl (Nat.le_of_ble_eq_true rfl) (by decide +kernel) (sh_mono k ?_)
      rintro rv m4 ⟨rfl, k⟩
      show sh_X g (d + 1) m_Read_takeThief _ _ [] _ _
      refine xr_iconst (n := 1) (by decide +kernel) ?_
      exact xr_zret rfl (by decide +kernel) (by decide) k
    · have k := k.2 c2
      refine xr_aload_n (n := 0) (i := 0) rfl (List.mem_of_getElem? (i := 0) rfl) (by decide +kernel) ?_
      refine xr_iconst (n := 2) (by decide +kernel) ?_
      refine xr_callV (av := [(sh_i 2)]) rfl rfl rfl mo_Read_refuse ml_Read_65 im_Read_refuse se_Read_refuse rfl (Nat.le_of_ble_eq_true rfl) (by decide +kernel) (sh_mono k ?_)
      rintro rv m5 ⟨r3, rfl, k⟩
      show sh_X g (d + 1) m_Read_takeThief _ _ [(sh_i r3)] _ _
      exact xr_zret rfl (by decide +kernel) k.1 k.2
  · have k := k.2 c1
    refine xr_aload_n (n := 0) (i := 0) rfl (List.mem_of_getElem? (i := 0) rfl) (by decide +kernel) ?_
    refine xr_iconst (n := 1) (by decide +kernel) ?_
    refine xr_callV (av := [(sh_i 1)]) rfl rfl rfl mo_Read_refuse ml_Read_65 im_Read_refuse se_Read_refuse rfl (Nat.le_of_ble_eq_true rfl) (by decide +kernel) (sh_mono k ?_)
    rintro rv m6 ⟨r4, rfl, k⟩
    show sh_X g (d + 1) m_Read_takeThief _ _ [(sh_i r4)] _ _
    exact xr_zret rfl (by decide +kernel) k.1 k.2

theorem v_Read_takeOtherThief {g : sh_G} {d : Nat} {B : Nat} {first : Int}  {mem : sh_Mem} {Q : Option sh_V → sh_Mem → Prop} (hB : ob0 B) (k : (sh_Cal g d m_Tape_isName [(sh_r 2)] mem fun rv m1 => ∃ r1 : Int, rv = some (sh_i r1) ∧ (((i3 r1) = 0 → (sh_Cal g d m_Read_takeThief [(sh_r 4), (sh_r B)] m1 fun rv m2 => ∃ r2 : Int, rv = some (sh_i r2) ∧ ((r2 = 0 ∨ r2 = 1) ∧ Q (some (sh_i r2)) m2))) ∧ (¬ (i3 r1) = 0 → (sh_Cal g d m_Alm_thiefNamed [(sh_r B), (sh_l (m1 2 5))] m1 fun rv m3 => ∃ r3 : Int, rv = some (sh_i r3) ∧ ((¬ (i3 r3) = (i3 first) → (sh_Cal g d m_Read_takeThief [(sh_r 4), (sh_r B)] m3 fun rv m4 => ∃ r4 : Int, rv = some (sh_i r4) ∧ ((r4 = 0 ∨ r4 = 1) ∧ Q (some (sh_i r4)) m4))) ∧ ((i3 r3) = (i3 first) → (sh_Cal g d m_Read_refuse [(sh_r 4), (sh_i 3)] m3 fun rv m5 => ∃ r5 : Int, rv = some (sh_i r5) ∧ ((r5 = 0 ∨ r5 = 1) ∧ Q (some (sh_i r5)) m5))))))))) : sh_Cal g (d + 1) m_Read_takeOtherThief [(sh_r 4), (sh_r B), (sh_i first)] mem Q := by
  refine sh_met (by decide +kernel) (Nat.le_of_ble_eq_true rfl) (lo := [(0, (sh_r 4)), (1, (sh_r B)), (2, (sh_i first))]) rfl ?_
  refine xr_aload_n (n := 0) (i := 0) rfl (List.mem_of_getElem? (i := 0) rfl) (by decide +kernel) ?_
  refine xr_getT rfl fl_Read_9 rfl (by decide +kernel) ?_
  refine xr_callV (av := []) rfl rfl rfl mo_Tape_isName ml_Read_219 im_Tape_isName se_Tape_isName rfl (Nat.le_of_ble_eq_true rfl) (by decide +kernel) (sh_mono k ?_)
  rintro rv m1 ⟨r1, rfl, k⟩
  show sh_X g (d + 1) m_Read_takeOtherThief _ _ [(sh_i r1)] _ _
  refine xr_if_eq (a' := (i3 r1)) rfl (off := 24) (tgt := 31) (by decide) (by decide +kernel) ⟨fun c1 => ?_, fun c1 => ?_⟩
  · have k := k.1 c1
    refine xr_aload_n (n := 0) (i := 0) rfl (List.mem_of_getElem? (i := 0) rfl) (by decide +kernel) ?_
    refine xr_aload_n (n := 1) (i := 1) rfl (List.mem_of_getElem? (i := 1) rfl) (by decide +kernel) ?_
    refine xr_callV (av := [(sh_r B)]) rfl rfl rfl mo_Read_takeThief ml_Read_195 im_Read_takeThief se_Read_takeThief rfl (Nat.le_of_ble_eq_true rfl) (by decide +kernel) (sh_mono k ?_)
    rintro rv m2 ⟨r2, rfl, k⟩
    show sh_X g (d + 1) m_Read_takeOtherThief _ _ [(sh_i r2)] _ _
    exact xr_zret rfl (by decide +kernel) k.1 k.2
  · have k := k.2 c1
    refine xr_aload_n (n := 1) (i := 1) rfl (List.mem_of_getElem? (i := 1) rfl) (by decide +kernel) ?_
    refine xr_aload_n (n := 0) (i := 0) rfl (List.mem_of_getElem? (i := 0) rfl) (by decide +kernel) ?_
    refine xr_getT rfl fl_Read_9 rfl (by decide +kernel) ?_
    refine xr_getL rfl fl_Read_82 (by decide) (by decide +kernel) ?_
    refine xr_callV (av := [(sh_l (m1 2 5))]) (ob0_0 hB) rfl rfl mo_Alm_thiefNamed ml_Read_223 im_Alm_thiefNamed se_Alm_thiefNamed rfl (Nat.le_of_ble_eq_true rfl) (by decide +kernel) (sh_mono k ?_)
    rintro rv m3 ⟨r3, rfl, k⟩
    show sh_X g (d + 1) m_Read_takeOtherThief _ _ [(sh_i r3)] _ _
    refine xr_iload_n (n := 2) (i := 2) rfl (List.mem_of_getElem? (i := 2) rfl) (by decide +kernel) ?_
    refine xr_icmp_ne (a' := (i3 r3)) (b' := (i3 first)) rfl rfl (off := 9) (tgt := 31) (by decide) (by decide +kernel) ⟨fun c2 => ?_, fun c2 => ?_⟩
    · have k := k.1 c2
      refine xr_aload_n (n := 0) (i := 0) rfl (List.mem_of_getElem? (i := 0) rfl) (by decide +kernel) ?_
      refine xr_aload_n (n := 1) (i := 1) rfl (List.mem_of_getElem? (i := 1) rfl) (by decide +kernel) ?_
      refine xr_callV (av := [(sh_r B)]) rfl rfl rfl mo_Read_takeThief ml_Read_195 im_Read_takeThief se_Read_takeThief rfl (Nat.le_of_ble_eq_true rfl) (by decide +kernel) (sh_mono k ?_)
      rintro rv m4 ⟨r4, rfl, k⟩
      show sh_X g (d + 1) m_Read_takeOtherThief _ _ [(sh_i r4)] _ _
      exact xr_zret rfl (by decide +kernel) k.1 k.2
    · have k := k.2 c2
      refine xr_aload_n (n := 0) (i := 0) rfl (List.mem_of_getElem? (i := 0) rfl) (by decide +kernel) ?_
      refine xr_iconst (n := 3) (by decide +kernel) ?_
      refine xr_callV (av := [(sh_i 3)]) rfl rfl rfl mo_Read_refuse ml_Read_65 im_Read_refuse se_Read_refuse rfl (Nat.le_of_ble_eq_true rfl) (by decide +kernel) (sh_mono k ?_)
      rintro rv m5 ⟨r5, rfl, k⟩
      show sh_X g (d + 1) m_Read_takeOtherThief _ _ [(sh_i r5)] _ _
      exact xr_zret rfl (by decide +kernel) k.1 k.2

theorem v_Read_takeDay {g : sh_G} {d : Nat} {B : Nat}  {mem : sh_Mem} {Q : Option sh_V → sh_Mem → Prop} (hB : ob0 B) (k : (sh_Cal g d m_Tape_isName [(sh_r 2)] mem fun rv m1 => ∃ r1 : Int, rv = some (sh_i r1) ∧ ((¬ (i3 r1) = 0 → (sh_Cal g d m_Alm_dayNamed [(sh_r B), (sh_l (m1 2 5))] m1 fun rv m2 => ∃ r2 : Int, rv = some (sh_i r2) ∧ (∀ m3 : sh_Mem, m3 = ms m2 4 (ru (m2 4) 2 r2) → ((¬ (i3 (m3 4 2)) = (-1) → (sh_Cal g d m_Tape_step [(sh_r 2)] m3 fun rv m4 => rv = none ∧ Q (some (sh_i 1)) m4)) ∧ ((i3 (m3 4 2)) = (-1) → (sh_Cal g d m_Read_refuse [(sh_r 4), (sh_i 2)] m3 fun rv m5 => ∃ r3 : Int, rv = some (sh_i r3) ∧ ((r3 = 0 ∨ r3 = 1) ∧ Q (some (sh_i r3)) m5))))))) ∧ ((i3 r1) = 0 → (sh_Cal g d m_Read_refuse [(sh_r 4), (sh_i 1)] m1 fun rv m6 => ∃ r4 : Int, rv = some (sh_i r4) ∧ ((r4 = 0 ∨ r4 = 1) ∧ Q (some (sh_i r4)) m6)))))) : sh_Cal g (d + 1) m_Read_takeDay [(sh_r 4), (sh_r B)] mem Q := by
  refine sh_met (by decide +kernel) (Nat.le_of_ble_eq_true rfl) (lo := [(0, (sh_r 4)), (1, (sh_r B))]) rfl ?_
  refine xr_aload_n (n := 0) (i := 0) rfl (List.mem_of_getElem? (i := 0) rfl) (by decide +kernel) ?_
  refine xr_getT rfl fl_Read_9 rfl (by decide +kernel) ?_
  refine xr_callV (av := []) rfl rfl rfl mo_Tape_isName ml_Read_219 im_Tape_isName se_Tape_isName rfl (Nat.le_of_ble_eq_true rfl) (by decide +kernel) (sh_mono k ?_)
  rintro rv m1 ⟨r1, rfl, k⟩
  show sh_X g (d + 1) m_Read_takeDay _ _ [(sh_i r1)] _ _
  refine xr_if_ne (a' := (i3 r1)) rfl (off := 9) (tgt := 16) (by decide) (by decide +kernel) ⟨fun c1 => ?_, fun c1 => ?_⟩
  · have k := k.1 c1
    refine xr_aload_n (n := 0) (i := 0) rfl (List.mem_of_getElem? (i := 0) rfl) (by decide +kernel) ?_
    refine xr_aload_n (n := 1) (i := 1) rfl (List.mem_of_getElem? (i := 1) rfl) (by decide +kernel) ?_
    refine xr_aload_n (n := 0) (i := 0) rfl (List.mem_of_getElem? (i := 0) rfl) (by decide +kernel) ?_
    refine xr_getT rfl fl_Read_9 rfl (by decide +kernel) ?_
    refine xr_getL rfl fl_Read_82 (by decide) (by decide +kernel) ?_
    refine xr_callV (av := [(sh_l (m1 2 5))]) (ob0_0 hB) rfl rfl mo_Alm_dayNamed ml_Read_227 im_Alm_dayNamed se_Alm_dayNamed rfl (Nat.le_of_ble_eq_true rfl) (by decide +kernel) (sh_mono k ?_)
    rintro rv m2 ⟨r2, rfl, k⟩
    show sh_X g (d + 1) m_Read_takeDay _ _ [(sh_i r2), (sh_r 4)] _ _
    refine xr_putI rfl pl_Read_106 rfl (by decide +kernel) ?_
    have k := k _ rfl
    generalize hg_m3 : ms m2 4 (ru (m2 4) 2 r2) = m3 at k ⊢
    refine xr_aload_n (n := 0) (i := 0) rfl (List.mem_of_getElem? (i := 0) rfl) (by decide +kernel) ?_
    refine xr_getI rfl fl_Read_106 (by decide) (by decide +kernel) ?_
    refine xr_iconst (n := (-1)) (by decide +kernel) ?_
    refine xr_icmp_ne (a' := (i3 (m3 4 2))) (b' := (-1)) rfl (by decide) (off := 9) (tgt := 45) (by decide) (by decide +kernel) ⟨fun c2 => ?_, fun c2 => ?_⟩
    · have k := k.1 c2
      refine xr_aload_n (n := 0) (i := 0) rfl (List.mem_of_getElem? (i := 0) rfl) (by decide +kernel) ?_
      refine xr_getT rfl fl_Read_9 rfl (by decide +kernel) ?_
      refine xr_callV (av := []) rfl rfl rfl mo_Tape_step ml_Read_72 im_Tape_step se_Tape_step rfl (Nat.le_of_ble_eq_true rfl) (by decide +kernel) (sh_mono k ?_)
      rintro rv m4 ⟨rfl, k⟩
      show sh_X g (d + 1) m_Read_takeDay _ _ [] _ _
      refine xr_iconst (n := 1) (by decide +kernel) ?_
      exact xr_zret rfl (by decide +kernel) (by decide) k
    · have k := k.2 c2
      refine xr_aload_n (n := 0) (i := 0) rfl (List.mem_of_getElem? (i := 0) rfl) (by decide +kernel) ?_
      refine xr_iconst (n := 2) (by decide +kernel) ?_
      refine xr_callV (av := [(sh_i 2)]) rfl rfl rfl mo_Read_refuse ml_Read_65 im_Read_refuse se_Read_refuse rfl (Nat.le_of_ble_eq_true rfl) (by decide +kernel) (sh_mono k ?_)
      rintro rv m5 ⟨r3, rfl, k⟩
      show sh_X g (d + 1) m_Read_takeDay _ _ [(sh_i r3)] _ _
      exact xr_zret rfl (by decide +kernel) k.1 k.2
  · have k := k.2 c1
    refine xr_aload_n (n := 0) (i := 0) rfl (List.mem_of_getElem? (i := 0) rfl) (by decide +kernel) ?_
    refine xr_iconst (n := 1) (by decide +kernel) ?_
    refine xr_callV (av := [(sh_i 1)]) rfl rfl rfl mo_Read_refuse ml_Read_65 im_Read_refuse se_Read_refuse rfl (Nat.le_of_ble_eq_true rfl) (by decide +kernel) (sh_mono k ?_)
    rintro rv m6 ⟨r4, rfl, k⟩
    show sh_X g (d + 1) m_Read_takeDay _ _ [(sh_i r4)] _ _
    exact xr_zret rfl (by decide +kernel) k.1 k.2

theorem v_Read_isNewName {g : sh_G} {d : Nat} {B : Nat}  {mem : sh_Mem} {Q : Option sh_V → sh_Mem → Prop} (hB : ob0 B) (k : (sh_Cal g d m_Tape_isName [(sh_r 2)] mem fun rv m1 => ∃ r1 : Int, rv = some (sh_i r1) ∧ ((¬ (i3 r1) = 0 → (sh_Cal g d m_Alm_dayNamed [(sh_r B), (sh_l (m1 2 5))] m1 fun rv m2 => ∃ r2 : Int, rv = some (sh_i r2) ∧ ((¬ (i3 r2) = (-1) → (sh_Cal g d m_Read_refuse [(sh_r 4), (sh_i 3)] m2 fun rv m3 => ∃ r3 : Int, rv = some (sh_i r3) ∧ (((i3 r3) = 0 → Q (some (sh_i 0)) m3) ∧ (¬ (i3 r3) = 0 → Q (some (sh_i 1)) m3)))) ∧ ((i3 r2) = (-1) → (sh_Cal g d m_Alm_thiefNamed [(sh_r B), (sh_l (m2 2 5))] m2 fun rv m4 => ∃ r4 : Int, rv = some (sh_i r4) ∧ (((i3 r4) = (-1) → Q (some (sh_i 1)) m4) ∧ (¬ (i3 r4) = (-1) → (sh_Cal g d m_Read_refuse [(sh_r 4), (sh_i 3)] m4 fun rv m5 => ∃ r5 : Int, rv = some (sh_i r5) ∧ (((i3 r5) = 0 → Q (some (sh_i 0)) m5) ∧ (¬ (i3 r5) = 0 → Q (some (sh_i 1)) m5)))))))))) ∧ ((i3 r1) = 0 → (sh_Cal g d m_Read_refuse [(sh_r 4), (sh_i 1)] m1 fun rv m6 => ∃ r6 : Int, rv = some (sh_i r6) ∧ ((r6 = 0 ∨ r6 = 1) ∧ Q (some (sh_i r6)) m6)))))) : sh_Cal g (d + 1) m_Read_isNewName [(sh_r 4), (sh_r B)] mem Q := by
  refine sh_met (by decide +kernel) (Nat.le_of_ble_eq_true rfl) (lo := [(0, (sh_r 4)), (1, (sh_r B))]) rfl ?_
  refine xr_aload_n (n := 0) (i := 0) rfl (List.mem_of_getElem? (i := 0) rfl) (by decide +kernel) ?_
  refine xr_getT rfl fl_Read_9 rfl (by decide +kernel) ?_
  refine xr_callV (av := []) rfl rfl rfl mo_Tape_isName ml_Read_219 im_Tape_isName se_Tape_isName rfl (Nat.le_of_ble_eq_true rfl) (by decide +kernel) (sh_mono k ?_)
  rintro rv m1 ⟨r1, rfl, k⟩
  show sh_X g (d + 1) m_Read_isNewName _ _ [(sh_i r1)] _ _
  refine xr_if_ne (a' := (i3 r1)) rfl (off := 9) (tgt := 16) (by decide) (by decide +kernel) ⟨fun c1 => ?_, fun c1 => ?_⟩
  · have k := k.1 c1
    refine xr_aload_n (n := 1) (i := 1) rfl (List.mem_of_getElem? (i := 1) rfl) (by decide +kernel) ?_
    refine xr_aload_n (n := 0) (i := 0) rfl (List.mem_of_getElem? (i := 0) rfl) (by decide +kernel) ?_
    refine xr_getT rfl fl_Read_9 rfl (by decide +kernel) ?_
    refine xr_getL rfl fl_Read_82 (by decide) (by decide +kernel) ?_
    refine xr_callV (av := [(sh_l (m1 2 5))]) (ob0_0 hB) rfl rfl mo_Alm_dayNamed ml_Read_227 im_Alm_dayNamed se_Alm_dayNamed rfl (Nat.le_of_ble_eq_true rfl) (by decide +kernel) (sh_mono k ?_)
    rintro rv m2 ⟨r2, rfl, k⟩
    show sh_X g (d + 1) m_Read_isNewName _ _ [(sh_i r2)] _ _
    refine xr_iconst (n := (-1)) (by decide +kernel) ?_
    refine xr_icmp_ne (a' := (i3 r2)) (b' := (-1)) rfl (by decide) (off := 18) (tgt := 46) (by decide) (by decide +kernel) ⟨fun c2 => ?_, fun c2 => ?_⟩
    · have k := k.1 c2
      refine xr_iconst (n := 1) (by decide +kernel) ?_
      refine xr_goto (off := 4) (tgt := 51) (by decide) (by decide +kernel) ?_
      refine xr_istore_n (n := 2) (i := 2) rfl (by decide) rfl (by decide +kernel) ?_
      refine xr_iload_n (n := 2) (i := 2) rfl (List.mem_of_getElem? (i := 0) rfl) (by decide +kernel) ?_
      refine xr_if_eq (a' := 1) (by decide) (off := 11) (tgt := 64) (by decide) (by decide +kernel) ⟨fun c3 => ?_, fun c3 => ?_⟩
      · exact absurd c3 (by decide)
      · refine xr_aload_n (n := 0) (i := 0) rfl (List.mem_of_getElem? (i := 1) rfl) (by decide +kernel) ?_
        refine xr_iconst (n := 3) (by decide +kernel) ?_
        refine xr_callV (av := [(sh_i 3)]) rfl rfl rfl mo_Read_refuse ml_Read_65 im_Read_refuse se_Read_refuse rfl (Nat.le_of_ble_eq_true rfl) (by decide +kernel) (sh_mono k ?_)
        rintro rv m3 ⟨r3, rfl, k⟩
        show sh_X g (d + 1) m_Read_isNewName _ _ [(sh_i r3)] _ _
        refine xr_if_eq (a' := (i3 r3)) rfl (off := 7) (tgt := 68) (by decide) (by decide +kernel) ⟨fun c4 => ?_, fun c4 => ?_⟩
        · have k := k.1 c4
          refine xr_iconst (n := 0) (by decide +kernel) ?_
          exact xr_zret rfl (by decide +kernel) (by decide) k
        · have k := k.2 c4
          refine xr_iconst (n := 1) (by decide +kernel) ?_
          refine xr_goto (off := 4) (tgt := 69) (by decide) (by decide +kernel) ?_
          exact xr_zret rfl (by decide +kernel) (by decide) k
    · have k := k.2 c2
      refine xr_aload_n (n := 1) (i := 1) rfl (List.mem_of_getElem? (i := 1) rfl) (by decide +kernel) ?_
      refine xr_aload_n (n := 0) (i := 0) rfl (List.mem_of_getElem? (i := 0) rfl) (by decide +kernel) ?_
      refine xr_getT rfl fl_Read_9 rfl (by decide +kernel) ?_
      refine xr_getL rfl fl_Read_82 (by decide) (by decide +kernel) ?_
      refine xr_callV (av := [(sh_l (m2 2 5))]) (ob0_0 hB) rfl rfl mo_Alm_thiefNamed ml_Read_223 im_Alm_thiefNamed se_Alm_thiefNamed rfl (Nat.le_of_ble_eq_true rfl) (by decide +kernel) (sh_mono k ?_)
      rintro rv m4 ⟨r4, rfl, k⟩
      show sh_X g (d + 1) m_Read_isNewName _ _ [(sh_i r4)] _ _
      refine xr_iconst (n := (-1)) (by decide +kernel) ?_
      refine xr_icmp_eq (a' := (i3 r4)) (b' := (-1)) rfl (by decide) (off := 7) (tgt := 50) (by decide) (by decide +kernel) ⟨fun c5 => ?_, fun c5 => ?_⟩
      · have k := k.1 c5
        refine xr_iconst (n := 0) (by decide +kernel) ?_
        refine xr_istore_n (n := 2) (i := 2) rfl (by decide) rfl (by decide +kernel) ?_
        refine xr_iload_n (n := 2) (i := 2) rfl (List.mem_of_getElem? (i := 0) rfl) (by decide +kernel) ?_
        refine xr_if_eq (a' := 0) (by decide) (off := 11) (tgt := 64) (by decide) (by decide +kernel) ⟨fun c6 => ?_, fun c6 => ?_⟩
        · refine xr_iconst (n := 1) (by decide +kernel) ?_
          refine xr_goto (off := 4) (tgt := 69) (by decide) (by decide +kernel) ?_
          exact xr_zret rfl (by decide +kernel) (by decide) k
        · exact absurd (by decide) c6
      · have k := k.2 c5
        refine xr_iconst (n := 1) (by decide +kernel) ?_
        refine xr_goto (off := 4) (tgt := 51) (by decide) (by decide +kernel) ?_
        refine xr_istore_n (n := 2) (i := 2) rfl (by decide) rfl (by decide +kernel) ?_
        refine xr_iload_n (n := 2) (i := 2) rfl (List.mem_of_getElem? (i := 0) rfl) (by decide +kernel) ?_
        refine xr_if_eq (a' := 1) (by decide) (off := 11) (tgt := 64) (by decide) (by decide +kernel) ⟨fun c7 => ?_, fun c7 => ?_⟩
        · exact absurd c7 (by decide)
        · refine xr_aload_n (n := 0) (i := 0) rfl (List.mem_of_getElem? (i := 1) rfl) (by decide +kernel) ?_
          refine xr_iconst (n := 3) (by decide +kernel) ?_
          refine xr_callV (av := [(sh_i 3)]) rfl rfl rfl mo_Read_refuse ml_Read_65 im_Read_refuse se_Read_refuse rfl (Nat.le_of_ble_eq_true rfl) (by decide +kernel) (sh_mono k ?_)
          rintro rv m5 ⟨r5, rfl, k⟩
          show sh_X g (d + 1) m_Read_isNewName _ _ [(sh_i r5)] _ _
          refine xr_if_eq (a' := (i3 r5)) rfl (off := 7) (tgt := 68) (by decide) (by decide +kernel) ⟨fun c8 => ?_, fun c8 => ?_⟩
          · have k := k.1 c8
            refine xr_iconst (n := 0) (by decide +kernel) ?_
            exact xr_zret rfl (by decide +kernel) (by decide) k
          · have k := k.2 c8
            refine xr_iconst (n := 1) (by decide +kernel) ?_
            refine xr_goto (off := 4) (tgt := 69) (by decide) (by decide +kernel) ?_
            exact xr_zret rfl (by decide +kernel) (by decide) k
  · have k := k.2 c1
    refine xr_aload_n (n := 0) (i := 0) rfl (List.mem_of_getElem? (i := 0) rfl) (by decide +kernel) ?_
    refine xr_iconst (n := 1) (by decide +kernel) ?_
    refine xr_callV (av := [(sh_i 1)]) rfl rfl rfl mo_Read_refuse ml_Read_65 im_Read_refuse se_Read_refuse rfl (Nat.le_of_ble_eq_true rfl) (by decide +kernel) (sh_mono k ?_)
    rintro rv m6 ⟨r6, rfl, k⟩
    show sh_X g (d + 1) m_Read_isNewName _ _ [(sh_i r6)] _ _
    exact xr_zret rfl (by decide +kernel) k.1 k.2

theorem v_Read_takeNumber {g : sh_G} {d : Nat} {least : Int} {most : Int}  {mem : sh_Mem} {Q : Option sh_V → sh_Mem → Prop}  (k : (((i3 (mem 2 2)) = 2 → (sh_Cal g d m_Sto_isWithin [(sh_i (mem 2 6)), (sh_i least), (sh_i most)] mem fun rv m1 => ∃ r1 : Int, rv = some (sh_i r1) ∧ ((¬ (i3 r1) = 0 → (∀ m2 : sh_Mem, m2 = ms m1 4 (ru (m1 4) 2 (m1 2 6)) → (sh_Cal g d m_Tape_step [(sh_r 2)] m2 fun rv m3 => rv = none ∧ Q (some (sh_i 1)) m3))) ∧ ((i3 r1) = 0 → (sh_Cal g d m_Read_refuse [(sh_r 4), (sh_i 4)] m1 fun rv m4 => ∃ r2 : Int, rv = some (sh_i r2) ∧ ((r2 = 0 ∨ r2 = 1) ∧ Q (some (sh_i r2)) m4)))))) ∧ (¬ (i3 (mem 2 2)) = 2 → (sh_Cal g d m_Read_refuse [(sh_r 4), (sh_i 1)] mem fun rv m5 => ∃ r3 : Int, rv = some (sh_i r3) ∧ ((r3 = 0 ∨ r3 = 1) ∧ Q (some (sh_i r3)) m5))))) : sh_Cal g (d + 1) m_Read_takeNumber [(sh_r 4), (sh_i least), (sh_i most)] mem Q := by
  refine sh_met (by decide +kernel) (Nat.le_of_ble_eq_true rfl) (lo := [(0, (sh_r 4)), (1, (sh_i least)), (2, (sh_i most))]) rfl ?_
  refine xr_aload_n (n := 0) (i := 0) rfl (List.mem_of_getElem? (i := 0) rfl) (by decide +kernel) ?_
  refine xr_getT rfl fl_Read_9 rfl (by decide +kernel) ?_
  refine xr_getI rfl fl_Read_29 (by decide) (by decide +kernel) ?_
  refine xr_iconst (n := 2) (by decide +kernel) ?_
  refine xr_icmp_eq (a' := (i3 (mem 2 2))) (b' := 2) rfl (by decide) (off := 9) (tgt := 17) (by decide) (by decide +kernel) ⟨fun c1 => ?_, fun c1 => ?_⟩
  · have k := k.1 c1
    refine xr_aload_n (n := 0) (i := 0) rfl (List.mem_of_getElem? (i := 0) rfl) (by decide +kernel) ?_
    refine xr_getT rfl fl_Read_9 rfl (by decide +kernel) ?_
    refine xr_getI rfl fl_Read_173 (by decide) (by decide +kernel) ?_
    refine xr_iload_n (n := 1) (i := 1) rfl (List.mem_of_getElem? (i := 1) rfl) (by decide +kernel) ?_
    refine xr_iload_n (n := 2) (i := 2) rfl (List.mem_of_getElem? (i := 2) rfl) (by decide +kernel) ?_
    refine xr_callN (av := [(sh_i (mem 2 6)), (sh_i least), (sh_i most)]) mo_Sto_isWithin rfl rfl sa_Sto_isWithin rfl (Nat.le_of_ble_eq_true rfl) (by decide +kernel) (sh_mono k ?_)
    rintro rv m1 ⟨r1, rfl, k⟩
    show sh_X g (d + 1) m_Read_takeNumber _ _ [(sh_i r1)] _ _
    refine xr_if_ne (a' := (i3 r1)) rfl (off := 9) (tgt := 38) (by decide) (by decide +kernel) ⟨fun c2 => ?_, fun c2 => ?_⟩
    · have k := k.1 c2
      refine xr_aload_n (n := 0) (i := 0) rfl (List.mem_of_getElem? (i := 0) rfl) (by decide +kernel) ?_
      refine xr_aload_n (n := 0) (i := 0) rfl (List.mem_of_getElem? (i := 0) rfl) (by decide +kernel) ?_
      refine xr_getT rfl fl_Read_9 rfl (by decide +kernel) ?_
      refine xr_getI rfl fl_Read_173 (by decide) (by decide +kernel) ?_
      refine xr_putI rfl pl_Read_106 rfl (by decide +kernel) ?_
      have k := k _ rfl
      generalize hg_m2 : ms m1 4 (ru (m1 4) 2 (m1 2 6)) = m2 at k ⊢
      refine xr_aload_n (n := 0) (i := 0) rfl (List.mem_of_getElem? (i := 0) rfl) (by decide +kernel) ?_
      refine xr_getT rfl fl_Read_9 rfl (by decide +kernel) ?_
      refine xr_callV (av := []) rfl rfl rfl mo_Tape_step ml_Read_72 im_Tape_step se_Tape_step rfl (Nat.le_of_ble_eq_true rfl) (by decide +kernel) (sh_mono k ?_)
      rintro rv m3 ⟨rfl, k⟩
      show sh_X g (d + 1) m_Read_takeNumber _ _ [] _ _
      refine xr_iconst (n := 1) (by decide +kernel) ?_
      exact xr_zret rfl (by decide +kernel) (by decide) k
    · have k := k.2 c2
      refine xr_aload_n (n := 0) (i := 0) rfl (List.mem_of_getElem? (i := 0) rfl) (by decide +kernel) ?_
      refine xr_iconst (n := 4) (by decide +kernel) ?_
      refine xr_callV (av := [(sh_i 4)]) rfl rfl rfl mo_Read_refuse ml_Read_65 im_Read_refuse se_Read_refuse rfl (Nat.le_of_ble_eq_true rfl) (by decide +kernel) (sh_mono k ?_)
      rintro rv m4 ⟨r2, rfl, k⟩
      show sh_X g (d + 1) m_Read_takeNumber _ _ [(sh_i r2)] _ _
      exact xr_zret rfl (by decide +kernel) k.1 k.2
  · have k := k.2 c1
    refine xr_aload_n (n := 0) (i := 0) rfl (List.mem_of_getElem? (i := 0) rfl) (by decide +kernel) ?_
    refine xr_iconst (n := 1) (by decide +kernel) ?_
    refine xr_callV (av := [(sh_i 1)]) rfl rfl rfl mo_Read_refuse ml_Read_65 im_Read_refuse se_Read_refuse rfl (Nat.le_of_ble_eq_true rfl) (by decide +kernel) (sh_mono k ?_)
    rintro rv m5 ⟨r3, rfl, k⟩
    show sh_X g (d + 1) m_Read_takeNumber _ _ [(sh_i r3)] _ _
    exact xr_zret rfl (by decide +kernel) k.1 k.2

theorem v_Read_takeWord {g : sh_G} {d : Nat} {ww : Nat}  {mem : sh_Mem} {Q : Option sh_V → sh_Mem → Prop} (hstr_ww : ww < sh_nS) (k : (sh_Cal g d m_Tape_isWord [(sh_r 2), (sh_r (ww + 1000))] mem fun rv m1 => ∃ r1 : Int, rv = some (sh_i r1) ∧ ((¬ (i3 r1) = 0 → (sh_Cal g d m_Tape_step [(sh_r 2)] m1 fun rv m2 => rv = none ∧ Q (some (sh_i 1)) m2)) ∧ ((i3 r1) = 0 → (sh_Cal g d m_Read_refuse [(sh_r 4), (sh_i 1)] m1 fun rv m3 => ∃ r2 : Int, rv = some (sh_i r2) ∧ ((r2 = 0 ∨ r2 = 1) ∧ Q (some (sh_i r2)) m3)))))) : sh_Cal g (d + 1) m_Read_takeWord [(sh_r 4), (sh_r (ww + 1000))] mem Q := by
  refine sh_met (by decide +kernel) (Nat.le_of_ble_eq_true rfl) (lo := [(0, (sh_r 4)), (1, (sh_r (ww + 1000)))]) rfl ?_
  refine xr_aload_n (n := 0) (i := 0) rfl (List.mem_of_getElem? (i := 0) rfl) (by decide +kernel) ?_
  refine xr_getT rfl fl_Read_9 rfl (by decide +kernel) ?_
  refine xr_aload_n (n := 1) (i := 1) rfl (List.mem_of_getElem? (i := 1) rfl) (by decide +kernel) ?_
  refine xr_callV (av := [(sh_r (ww + 1000))]) rfl rfl rfl mo_Tape_isWord ml_Read_48 im_Tape_isWord se_Tape_isWord rfl (Nat.le_of_ble_eq_true rfl) (by decide +kernel) (sh_mono k ?_)
  rintro rv m1 ⟨r1, rfl, k⟩
  show sh_X g (d + 1) m_Read_takeWord _ _ [(sh_i r1)] _ _
  refine xr_if_ne (a' := (i3 r1)) rfl (off := 9) (tgt := 17) (by decide) (by decide +kernel) ⟨fun c1 => ?_, fun c1 => ?_⟩
  · have k := k.1 c1
    refine xr_aload_n (n := 0) (i := 0) rfl (List.mem_of_getElem? (i := 0) rfl) (by decide +kernel) ?_
    refine xr_getT rfl fl_Read_9 rfl (by decide +kernel) ?_
    refine xr_callV (av := []) rfl rfl rfl mo_Tape_step ml_Read_72 im_Tape_step se_Tape_step rfl (Nat.le_of_ble_eq_true rfl) (by decide +kernel) (sh_mono k ?_)
    rintro rv m2 ⟨rfl, k⟩
    show sh_X g (d + 1) m_Read_takeWord _ _ [] _ _
    refine xr_iconst (n := 1) (by decide +kernel) ?_
    exact xr_zret rfl (by decide +kernel) (by decide) k
  · have k := k.2 c1
    refine xr_aload_n (n := 0) (i := 0) rfl (List.mem_of_getElem? (i := 0) rfl) (by decide +kernel) ?_
    refine xr_iconst (n := 1) (by decide +kernel) ?_
    refine xr_callV (av := [(sh_i 1)]) rfl rfl rfl mo_Read_refuse ml_Read_65 im_Read_refuse se_Read_refuse rfl (Nat.le_of_ble_eq_true rfl) (by decide +kernel) (sh_mono k ?_)
    rintro rv m3 ⟨r2, rfl, k⟩
    show sh_X g (d + 1) m_Read_takeWord _ _ [(sh_i r2)] _ _
    exact xr_zret rfl (by decide +kernel) k.1 k.2

theorem v_Read_takeSign {g : sh_G} {d : Nat} {sign : Int}  {mem : sh_Mem} {Q : Option sh_V → sh_Mem → Prop}  (k : (((i3 (mem 2 2)) = (i3 sign) → (sh_Cal g d m_Tape_step [(sh_r 2)] mem fun rv m1 => rv = none ∧ Q (some (sh_i 1)) m1)) ∧ (¬ (i3 (mem 2 2)) = (i3 sign) → (sh_Cal g d m_Read_refuse [(sh_r 4), (sh_i 1)] mem fun rv m2 => ∃ r1 : Int, rv = some (sh_i r1) ∧ ((r1 = 0 ∨ r1 = 1) ∧ Q (some (sh_i r1)) m2))))) : sh_Cal g (d + 1) m_Read_takeSign [(sh_r 4), (sh_i sign)] mem Q := by
  refine sh_met (by decide +kernel) (Nat.le_of_ble_eq_true rfl) (lo := [(0, (sh_r 4)), (1, (sh_i sign))]) rfl ?_
  refine xr_aload_n (n := 0) (i := 0) rfl (List.mem_of_getElem? (i := 0) rfl) (by decide +kernel) ?_
  refine xr_getT rfl fl_Read_9 rfl (by decide +kernel) ?_
  refine xr_getI rfl fl_Read_29 (by decide) (by decide +kernel) ?_
  refine xr_iload_n (n := 1) (i := 1) rfl (List.mem_of_getElem? (i := 1) rfl) (by decide +kernel) ?_
  refine xr_icmp_eq (a' := (i3 (mem 2 2))) (b' := (i3 sign)) rfl rfl (off := 9) (tgt := 17) (by decide) (by decide +kernel) ⟨fun c1 => ?_, fun c1 => ?_⟩
  · have k := k.1 c1
    refine xr_aload_n (n := 0) (i := 0) rfl (List.mem_of_getElem? (i := 0) rfl) (by decide +kernel) ?_
    refine xr_getT rfl fl_Read_9 rfl (by decide +kernel) ?_
    refine xr_callV (av := []) rfl rfl rfl mo_Tape_step ml_Read_72 im_Tape_step se_Tape_step rfl (Nat.le_of_ble_eq_true rfl) (by decide +kernel) (sh_mono k ?_)
    rintro rv m1 ⟨rfl, k⟩
    show sh_X g (d + 1) m_Read_takeSign _ _ [] _ _
    refine xr_iconst (n := 1) (by decide +kernel) ?_
    exact xr_zret rfl (by decide +kernel) (by decide) k
  · have k := k.2 c1
    refine xr_aload_n (n := 0) (i := 0) rfl (List.mem_of_getElem? (i := 0) rfl) (by decide +kernel) ?_
    refine xr_iconst (n := 1) (by decide +kernel) ?_
    refine xr_callV (av := [(sh_i 1)]) rfl rfl rfl mo_Read_refuse ml_Read_65 im_Read_refuse se_Read_refuse rfl (Nat.le_of_ble_eq_true rfl) (by decide +kernel) (sh_mono k ?_)
    rintro rv m2 ⟨r1, rfl, k⟩
    show sh_X g (d + 1) m_Read_takeSign _ _ [(sh_i r1)] _ _
    exact xr_zret rfl (by decide +kernel) k.1 k.2

theorem v_Read_refuse {g : sh_G} {d : Nat} {kind : Int}  {mem : sh_Mem} {Q : Option sh_V → sh_Mem → Prop}  (k : (∀ m1 : sh_Mem, m1 = ms mem 4 (ru (mem 4) 1 (kind + (16 * (mem 2 3)))) → Q (some (sh_i 0)) m1)) : sh_Cal g d m_Read_refuse [(sh_r 4), (sh_i kind)] mem Q := by
  refine sh_met (by decide +kernel) (Nat.le_of_ble_eq_true rfl) (lo := [(0, (sh_r 4)), (1, (sh_i kind))]) rfl ?_
  refine xr_aload_n (n := 0) (i := 0) rfl (List.mem_of_getElem? (i := 0) rfl) (by decide +kernel) ?_
  refine xr_iload_n (n := 1) (i := 1) rfl (List.mem_of_getElem? (i := 1) rfl) (by decide +kernel) ?_
  refine xr_bipush (n := 16) (v := 16) (by decide) (by decide +kernel) ?_
  refine xr_aload_n (n := 0) (i := 0) rfl (List.mem_of_getElem? (i := 0) rfl) (by decide +kernel) ?_
  refine xr_getT rfl fl_Read_9 rfl (by decide +kernel) ?_
  refine xr_getI rfl fl_Read_234 (by decide) (by decide +kernel) ?_
  refine xr_imul (by decide +kernel) ?_
  show sh_X g d m_Read_refuse _ _ ((sh_i (16 * (mem 2 3))) :: _) _ _
  refine xr_iadd (by decide +kernel) ?_
  show sh_X g d m_Read_refuse _ _ ((sh_i (kind + (16 * (mem 2 3)))) :: _) _ _
  refine xr_putI rfl pl_Read_20 rfl (by decide +kernel) ?_
  have k := k _ rfl
  generalize hg_m1 : ms mem 4 (ru (mem 4) 1 (kind + (16 * (mem 2 3)))) = m1 at k ⊢
  refine xr_iconst (n := 0) (by decide +kernel) ?_
  exact xr_zret rfl (by decide +kernel) (by decide) k
