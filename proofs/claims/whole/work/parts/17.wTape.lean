theorem v_Tape_put {g : sh_G} {d : Nat} {bytes : Int}  {mem : sh_Mem} {Q : Option sh_V → sh_Mem → Prop}  (k : sh_X g d m_Tape_put 3 [(0, (sh_r 2)), (1, (sh_l bytes)), (3, (sh_i 56))] [] mem (sh_K m_Tape_put Q)) : sh_Cal g d m_Tape_put [(sh_r 2), (sh_l bytes)] mem Q := by
  refine sh_met (by decide +kernel) (Nat.le_of_ble_eq_true rfl) (lo := [(0, (sh_r 2)), (1, (sh_l bytes))]) rfl ?_
  refine xr_bipush (n := 56) (v := 56) (by decide) (by decide +kernel) ?_
  refine xr_istore_n (n := 3) (i := 3) rfl (by decide) rfl (by decide +kernel) ?_
  refine xr_sub (lo' := [(0, (sh_r 2)), (1, (sh_l bytes)), (3, (sh_i 56))]) [1, 2, 0] rfl ?_
  exact k
theorem v_Tape_put_3 {g : sh_G} {d : Nat} {bytes : Int}  {mem : sh_Mem} {Q : Option sh_V → sh_Mem → Prop}  {x3 : Int} (k : (((i3 x3) < 0 → Q none mem) ∧ (¬ (i3 x3) < 0 → (((i_and (l_2i (l_ushr bytes x3)) 255) = 10 → sh_X g d m_Tape_put 38 [(0, (sh_r 2)), (1, (sh_l bytes)), (3, (sh_i x3)), (4, (sh_i (i_and (l_2i (l_ushr bytes x3)) 255)))] [] mem (sh_K m_Tape_put Q)) ∧ (¬ (i_and (l_2i (l_ushr bytes x3)) 255) = 10 → (((i_and (l_2i (l_ushr bytes x3)) 255) < 32 → sh_X g d m_Tape_put 42 [(0, (sh_r 2)), (1, (sh_l bytes)), (3, (sh_i x3)), (4, (sh_i (i_and (l_2i (l_ushr bytes x3)) 255)))] [] mem (sh_K m_Tape_put Q)) ∧ (¬ (i_and (l_2i (l_ushr bytes x3)) 255) < 32 → ((126 < (i_and (l_2i (l_ushr bytes x3)) 255) → sh_X g d m_Tape_put 42 [(0, (sh_r 2)), (1, (sh_l bytes)), (3, (sh_i x3)), (4, (sh_i (i_and (l_2i (l_ushr bytes x3)) 255)))] [] mem (sh_K m_Tape_put Q)) ∧ (¬ 126 < (i_and (l_2i (l_ushr bytes x3)) 255) → sh_X g d m_Tape_put 38 [(0, (sh_r 2)), (1, (sh_l bytes)), (3, (sh_i x3)), (4, (sh_i (i_and (l_2i (l_ushr bytes x3)) 255)))] [] mem (sh_K m_Tape_put Q)))))))))) : sh_X g d m_Tape_put 3 [(0, (sh_r 2)), (1, (sh_l bytes)), (3, (sh_i x3))] [] mem (sh_K m_Tape_put Q) := by
  refine xr_iload_n (n := 3) (i := 3) rfl (List.mem_of_getElem? (i := 2) rfl) (by decide +kernel) ?_
  refine xr_if_lt (a' := (i3 x3)) rfl (off := 84) (tgt := 88) (by decide) (by decide +kernel) ⟨fun c1 => ?_, fun c1 => ?_⟩
  · have k := k.1 c1
    exact xr_ret rfl (by decide +kernel) k
  · have k := k.2 c1
    refine xr_lload_n (n := 1) (i := 1) rfl (List.mem_of_getElem? (i := 1) rfl) (by decide +kernel) ?_
    refine xr_iload_n (n := 3) (i := 3) rfl (List.mem_of_getElem? (i := 2) rfl) (by decide +kernel) ?_
    refine xr_lushr (by decide +kernel) ?_
    refine xr_l2i (by decide +kernel) ?_
    refine xr_sipush (n := 255) (v := 255) (by decide) (by decide +kernel) ?_
    refine xr_iand (by decide +kernel) ?_
    refine xr_istore (i := 4) (by decide) rfl (by decide +kernel) ?_
    refine xr_iload (i := 4) (List.mem_of_getElem? (i := 0) rfl) (by decide +kernel) ?_
    refine xr_bipush (n := 10) (v := 10) (by decide) (by decide +kernel) ?_
    refine xr_icmp_eq (a' := (i_and (l_2i (l_ushr bytes x3)) 255)) (b' := 10) (i3_nrm _) (by decide) (off := 17) (tgt := 38) (by decide) (by decide +kernel) ⟨fun c2 => ?_, fun c2 => ?_⟩
    · have k := k.1 c2
      refine xr_sub (lo' := [(0, (sh_r 2)), (1, (sh_l bytes)), (3, (sh_i x3)), (4, (sh_i (i_and (l_2i (l_ushr bytes x3)) 255)))]) [1, 2, 3, 0] rfl ?_
      exact k
    · have k := k.2 c2
      refine xr_iload (i := 4) (List.mem_of_getElem? (i := 0) rfl) (by decide +kernel) ?_
      refine xr_bipush (n := 32) (v := 32) (by decide) (by decide +kernel) ?_
      refine xr_icmp_lt (a' := (i_and (l_2i (l_ushr bytes x3)) 255)) (b' := 32) (i3_nrm _) (by decide) (off := 14) (tgt := 42) (by decide) (by decide +kernel) ⟨fun c3 => ?_, fun c3 => ?_⟩
      · have k := k.1 c3
        refine xr_sub (lo' := [(0, (sh_r 2)), (1, (sh_l bytes)), (3, (sh_i x3)), (4, (sh_i (i_and (l_2i (l_ushr bytes x3)) 255)))]) [1, 2, 3, 0] rfl ?_
        exact k
      · have k := k.2 c3
        refine xr_iload (i := 4) (List.mem_of_getElem? (i := 0) rfl) (by decide +kernel) ?_
        refine xr_bipush (n := 126) (v := 126) (by decide) (by decide +kernel) ?_
        refine xr_icmp_gt (a' := (i_and (l_2i (l_ushr bytes x3)) 255)) (b' := 126) (i3_nrm _) (by decide) (off := 7) (tgt := 42) (by decide) (by decide +kernel) ⟨fun c4 => ?_, fun c4 => ?_⟩
        · have k := k.1 c4
          refine xr_sub (lo' := [(0, (sh_r 2)), (1, (sh_l bytes)), (3, (sh_i x3)), (4, (sh_i (i_and (l_2i (l_ushr bytes x3)) 255)))]) [1, 2, 3, 0] rfl ?_
          exact k
        · have k := k.2 c4
          refine xr_sub (lo' := [(0, (sh_r 2)), (1, (sh_l bytes)), (3, (sh_i x3)), (4, (sh_i (i_and (l_2i (l_ushr bytes x3)) 255)))]) [1, 2, 3, 0] rfl ?_
          exact k
theorem v_Tape_put_38 {g : sh_G} {d : Nat} {bytes : Int}  {mem : sh_Mem} {Q : Option sh_V → sh_Mem → Prop}  {x3 : Int} {x4 : Int} (k : sh_X g d m_Tape_put 43 [(0, (sh_r 2)), (1, (sh_l bytes)), (3, (sh_i x3)), (4, (sh_i x4))] [(sh_i 1)] mem (sh_K m_Tape_put Q)) : sh_X g d m_Tape_put 38 [(0, (sh_r 2)), (1, (sh_l bytes)), (3, (sh_i x3)), (4, (sh_i x4))] [] mem (sh_K m_Tape_put Q) := by
  refine xr_iconst (n := 1) (by decide +kernel) ?_
  refine xr_goto (off := 4) (tgt := 43) (by decide) (by decide +kernel) ?_
  refine xr_sub (lo' := [(0, (sh_r 2)), (1, (sh_l bytes)), (3, (sh_i x3)), (4, (sh_i x4))]) [0, 1, 2, 3] rfl ?_
  exact k
theorem v_Tape_put_42 {g : sh_G} {d : Nat} {bytes : Int}  {mem : sh_Mem} {Q : Option sh_V → sh_Mem → Prop}  {x3 : Int} {x4 : Int} (k : sh_X g d m_Tape_put 43 [(0, (sh_r 2)), (1, (sh_l bytes)), (3, (sh_i x3)), (4, (sh_i x4))] [(sh_i 0)] mem (sh_K m_Tape_put Q)) : sh_X g d m_Tape_put 42 [(0, (sh_r 2)), (1, (sh_l bytes)), (3, (sh_i x3)), (4, (sh_i x4))] [] mem (sh_K m_Tape_put Q) := by
  refine xr_iconst (n := 0) (by decide +kernel) ?_
  refine xr_sub (lo' := [(0, (sh_r 2)), (1, (sh_l bytes)), (3, (sh_i x3)), (4, (sh_i x4))]) [0, 1, 2, 3] rfl ?_
  exact k
theorem v_Tape_put_43 {g : sh_G} {d : Nat} {bytes : Int}  {mem : sh_Mem} {Q : Option sh_V → sh_Mem → Prop}  {x3 : Int} {x4 : Int} {y0 : Int} (k : (((i3 y0) = 0 → sh_X g d m_Tape_put 3 [(0, (sh_r 2)), (1, (sh_l bytes)), (3, (sh_i (x3 + (-8))))] [] mem (sh_K m_Tape_put Q)) ∧ (¬ (i3 y0) = 0 → ((1000 ≤ (i3 (mem 2 1)) → sh_X g d m_Tape_put 3 [(0, (sh_r 2)), (1, (sh_l bytes)), (3, (sh_i (x3 + (-8))))] [] mem (sh_K m_Tape_put Q)) ∧ (¬ 1000 ≤ (i3 (mem 2 1)) → ((-128 ≤ (i_2b x4) ∧ (i_2b x4) < 128) ∧ ((0 ≤ (mem 2 1) ∧ (mem 2 1) < 1000) ∧ (∀ m1 : sh_Mem, m1 = ms mem 3 (ru (mem 3) ((mem 2 1)).toNat (i_2b x4)) → (∀ m2 : sh_Mem, m2 = ms m1 2 (ru (m1 2) 1 ((m1 2 1) + 1)) → sh_X g d m_Tape_put 3 [(0, (sh_r 2)), (1, (sh_l bytes)), (3, (sh_i (x3 + (-8))))] [] m2 (sh_K m_Tape_put Q)))))))))) : sh_X g d m_Tape_put 43 [(0, (sh_r 2)), (1, (sh_l bytes)), (3, (sh_i x3)), (4, (sh_i x4))] [(sh_i y0)] mem (sh_K m_Tape_put Q) := by
  refine xr_istore (i := 5) (by decide) rfl (by decide +kernel) ?_
  refine xr_iload (i := 5) (List.mem_of_getElem? (i := 0) rfl) (by decide +kernel) ?_
  refine xr_if_eq (a' := (i3 y0)) rfl (off := 35) (tgt := 82) (by decide) (by decide +kernel) ⟨fun c1 => ?_, fun c1 => ?_⟩
  · have k := k.1 c1
    refine xr_iinc (n := (-8)) (lo' := [(3, (sh_i (x3 + (-8)))), (5, (sh_i y0)), (0, (sh_r 2)), (1, (sh_l bytes)), (4, (sh_i x4))]) (List.mem_of_getElem? (i := 3) rfl) (by decide) rfl (by decide +kernel) ?_
    refine xr_goto (off := (-82)) (tgt := 3) (by decide) (by decide +kernel) ?_
    refine xr_sub (lo' := [(0, (sh_r 2)), (1, (sh_l bytes)), (3, (sh_i (x3 + (-8))))]) [2, 3, 0] rfl ?_
    exact k
  · have k := k.2 c1
    refine xr_aload_n (n := 0) (i := 0) rfl (List.mem_of_getElem? (i := 1) rfl) (by decide +kernel) ?_
    refine xr_getI rfl fl_Tape_15 (by decide) (by decide +kernel) ?_
    refine xr_sipush (n := 1000) (v := 1000) (by decide) (by decide +kernel) ?_
    refine xr_icmp_ge (a' := (i3 (mem 2 1))) (b' := 1000) rfl (by decide) (off := 25) (tgt := 82) (by decide) (by decide +kernel) ⟨fun c2 => ?_, fun c2 => ?_⟩
    · have k := k.1 c2
      refine xr_iinc (n := (-8)) (lo' := [(3, (sh_i (x3 + (-8)))), (5, (sh_i y0)), (0, (sh_r 2)), (1, (sh_l bytes)), (4, (sh_i x4))]) (List.mem_of_getElem? (i := 3) rfl) (by decide) rfl (by decide +kernel) ?_
      refine xr_goto (off := (-82)) (tgt := 3) (by decide) (by decide +kernel) ?_
      refine xr_sub (lo' := [(0, (sh_r 2)), (1, (sh_l bytes)), (3, (sh_i (x3 + (-8))))]) [2, 3, 0] rfl ?_
      exact k
    · have k := k.2 c2
      refine xr_aload_n (n := 0) (i := 0) rfl (List.mem_of_getElem? (i := 1) rfl) (by decide +kernel) ?_
      refine xr_getR (o := 1) rfl fl_Tape_9 rfl (by decide +kernel) ?_
      show sh_X g d m_Tape_put _ _ ((sh_r 3) :: _) _ _
      refine xr_aload_n (n := 0) (i := 0) rfl (List.mem_of_getElem? (i := 1) rfl) (by decide +kernel) ?_
      refine xr_getI rfl fl_Tape_15 (by decide) (by decide +kernel) ?_
      refine xr_iload (i := 4) (List.mem_of_getElem? (i := 4) rfl) (by decide +kernel) ?_
      refine xr_i2b (by decide +kernel) ?_
      obtain ⟨o, k⟩ := k
      have o9 := o
      obtain ⟨o, k⟩ := k
      refine xr_bast o9 rfl o.1 o.2 (by decide +kernel) ?_
      have k := k _ rfl
      generalize hg_m1 : ms mem 3 (ru (mem 3) ((mem 2 1)).toNat (i_2b x4)) = m1 at k ⊢
      refine xr_aload_n (n := 0) (i := 0) rfl (List.mem_of_getElem? (i := 1) rfl) (by decide +kernel) ?_
      refine xr_dupR (by decide +kernel) ?_
      refine xr_getI rfl fl_Tape_15 (by decide) (by decide +kernel) ?_
      refine xr_iconst (n := 1) (by decide +kernel) ?_
      refine xr_iadd (by decide +kernel) ?_
      show sh_X g d m_Tape_put _ _ ((sh_i ((m1 2 1) + 1)) :: _) _ _
      refine xr_putI rfl pl_Tape_15 rfl (by decide +kernel) ?_
      have k := k _ rfl
      generalize hg_m2 : ms m1 2 (ru (m1 2) 1 ((m1 2 1) + 1)) = m2 at k ⊢
      refine xr_iinc (n := (-8)) (lo' := [(3, (sh_i (x3 + (-8)))), (5, (sh_i y0)), (0, (sh_r 2)), (1, (sh_l bytes)), (4, (sh_i x4))]) (List.mem_of_getElem? (i := 3) rfl) (by decide) rfl (by decide +kernel) ?_
      refine xr_goto (off := (-82)) (tgt := 3) (by decide) (by decide +kernel) ?_
      refine xr_sub (lo' := [(0, (sh_r 2)), (1, (sh_l bytes)), (3, (sh_i (x3 + (-8))))]) [2, 3, 0] rfl ?_
      exact k

theorem v_Tape_clear {g : sh_G} {d : Nat}   {mem : sh_Mem} {Q : Option sh_V → sh_Mem → Prop}  (k : (∀ m1 : sh_Mem, m1 = ms mem 2 (ru (mem 2) 1 0) → Q none m1)) : sh_Cal g d m_Tape_clear [(sh_r 2)] mem Q := by
  refine sh_met (by decide +kernel) (Nat.le_of_ble_eq_true rfl) (lo := [(0, (sh_r 2))]) rfl ?_
  refine xr_aload_n (n := 0) (i := 0) rfl (List.mem_of_getElem? (i := 0) rfl) (by decide +kernel) ?_
  refine xr_iconst (n := 0) (by decide +kernel) ?_
  refine xr_putI rfl pl_Tape_15 rfl (by decide +kernel) ?_
  have k := k _ rfl
  generalize hg_m1 : ms mem 2 (ru (mem 2) 1 0) = m1 at k ⊢
  exact xr_ret rfl (by decide +kernel) k

theorem v_Tape_rewind {g : sh_G} {d : Nat}   {mem : sh_Mem} {Q : Option sh_V → sh_Mem → Prop}  (k : (∀ m1 : sh_Mem, m1 = ms mem 2 (ru (mem 2) 4 0) → (sh_Cal g d m_Tape_step [(sh_r 2)] m1 fun rv m2 => rv = none ∧ Q none m2))) : sh_Cal g (d + 1) m_Tape_rewind [(sh_r 2)] mem Q := by
  refine sh_met (by decide +kernel) (Nat.le_of_ble_eq_true rfl) (lo := [(0, (sh_r 2))]) rfl ?_
  refine xr_aload_n (n := 0) (i := 0) rfl (List.mem_of_getElem? (i := 0) rfl) (by decide +kernel) ?_
  refine xr_iconst (n := 0) (by decide +kernel) ?_
  refine xr_putI rfl pl_Tape_19 rfl (by decide +kernel) ?_
  have k := k _ rfl
  generalize hg_m1 : ms mem 2 (ru (mem 2) 4 0) = m1 at k ⊢
  refine xr_aload_n (n := 0) (i := 0) rfl (List.mem_of_getElem? (i := 0) rfl) (by decide +kernel) ?_
  refine xr_callV (av := []) rfl rfl rfl mo_Tape_step ml_Tape_22 im_Tape_step se_Tape_step rfl (Nat.le_of_ble_eq_true rfl) (by decide +kernel) (sh_mono k ?_)
  rintro rv m2 ⟨rfl, k⟩
  show sh_X g (d + 1) m_Tape_rewind _ _ [] _ _
  exact xr_ret rfl (by decide +kernel) k

theorem v_Tape_step {g : sh_G} {d : Nat}   {mem : sh_Mem} {Q : Option sh_V → sh_Mem → Prop}  (k : (∀ m1 : sh_Mem, m1 = ms mem 2 (ru (mem 2) 3 (mem 2 4)) → sh_X g (d + 1) m_Tape_step 8 [(0, (sh_r 2))] [] m1 (sh_K m_Tape_step Q))) : sh_Cal g (d + 1) m_Tape_step [(sh_r 2)] mem Q := by
  refine sh_met (by decide +kernel) (Nat.le_of_ble_eq_true rfl) (lo := [(0, (sh_r 2))]) rfl ?_
  refine xr_aload_n (n := 0) (i := 0) rfl (List.mem_of_getElem? (i := 0) rfl) (by decide +kernel) ?_
  refine xr_aload_n (n := 0) (i := 0) rfl (List.mem_of_getElem? (i := 0) rfl) (by decide +kernel) ?_
  refine xr_getI rfl fl_Tape_19 (by decide) (by decide +kernel) ?_
  refine xr_putI rfl pl_Tape_25 rfl (by decide +kernel) ?_
  have k := k _ rfl
  generalize hg_m1 : ms mem 2 (ru (mem 2) 3 (mem 2 4)) = m1 at k ⊢
  refine xr_sub (lo' := [(0, (sh_r 2))]) [0] rfl ?_
  exact k
theorem v_Tape_step_8 {g : sh_G} {d : Nat}   {mem : sh_Mem} {Q : Option sh_V → sh_Mem → Prop}   (k : (((i3 (mem 2 1)) ≤ (i3 (mem 2 3)) → sh_X g (d + 1) m_Tape_step 60 [(0, (sh_r 2))] [] mem (sh_K m_Tape_step Q)) ∧ (¬ (i3 (mem 2 1)) ≤ (i3 (mem 2 3)) → ((0 ≤ (mem 2 3) ∧ (mem 2 3) < 1000) ∧ (((i3 (mem 3 ((mem 2 3)).toNat)) = 10 → (∀ m1 : sh_Mem, m1 = ms mem 2 (ru (mem 2) 3 ((mem 2 3) + 1)) → sh_X g (d + 1) m_Tape_step 8 [(0, (sh_r 2))] [] m1 (sh_K m_Tape_step Q))) ∧ (¬ (i3 (mem 3 ((mem 2 3)).toNat)) = 10 → ((0 ≤ (mem 2 3) ∧ (mem 2 3) < 1000) ∧ ((¬ (i3 (mem 3 ((mem 2 3)).toNat)) = 32 → sh_X g (d + 1) m_Tape_step 60 [(0, (sh_r 2))] [] mem (sh_K m_Tape_step Q)) ∧ ((i3 (mem 3 ((mem 2 3)).toNat)) = 32 → (∀ m2 : sh_Mem, m2 = ms mem 2 (ru (mem 2) 3 ((mem 2 3) + 1)) → sh_X g (d + 1) m_Tape_step 8 [(0, (sh_r 2))] [] m2 (sh_K m_Tape_step Q))))))))))) : sh_X g (d + 1) m_Tape_step 8 [(0, (sh_r 2))] [] mem (sh_K m_Tape_step Q) := by
  refine xr_aload_n (n := 0) (i := 0) rfl (List.mem_of_getElem? (i := 0) rfl) (by decide +kernel) ?_
  refine xr_getI rfl fl_Tape_25 (by decide) (by decide +kernel) ?_
  refine xr_aload_n (n := 0) (i := 0) rfl (List.mem_of_getElem? (i := 0) rfl) (by decide +kernel) ?_
  refine xr_getI rfl fl_Tape_15 (by decide) (by decide +kernel) ?_
  refine xr_icmp_ge (a' := (i3 (mem 2 3))) (b' := (i3 (mem 2 1))) rfl rfl (off := 44) (tgt := 60) (by decide) (by decide +kernel) ⟨fun c1 => ?_, fun c1 => ?_⟩
  · have k := k.1 c1
    refine xr_sub (lo' := [(0, (sh_r 2))]) [0] rfl ?_
    exact k
  · have k := k.2 c1
    refine xr_aload_n (n := 0) (i := 0) rfl (List.mem_of_getElem? (i := 0) rfl) (by decide +kernel) ?_
    refine xr_getR (o := 1) rfl fl_Tape_9 rfl (by decide +kernel) ?_
    show sh_X g (d + 1) m_Tape_step _ _ ((sh_r 3) :: _) _ _
    refine xr_aload_n (n := 0) (i := 0) rfl (List.mem_of_getElem? (i := 0) rfl) (by decide +kernel) ?_
    refine xr_getI rfl fl_Tape_25 (by decide) (by decide +kernel) ?_
    obtain ⟨o, k⟩ := k
    refine xr_bald rfl o.1 o.2 (by decide +kernel) ?_
    refine xr_bipush (n := 10) (v := 10) (by decide) (by decide +kernel) ?_
    refine xr_icmp_eq (a' := (i3 (mem 3 ((mem 2 3)).toNat))) (b' := 10) rfl (by decide) (off := 17) (tgt := 47) (by decide) (by decide +kernel) ⟨fun c2 => ?_, fun c2 => ?_⟩
    · have k := k.1 c2
      refine xr_aload_n (n := 0) (i := 0) rfl (List.mem_of_getElem? (i := 0) rfl) (by decide +kernel) ?_
      refine xr_dupR (by decide +kernel) ?_
      refine xr_getI rfl fl_Tape_25 (by decide) (by decide +kernel) ?_
      refine xr_iconst (n := 1) (by decide +kernel) ?_
      refine xr_iadd (by decide +kernel) ?_
      show sh_X g (d + 1) m_Tape_step _ _ ((sh_i ((mem 2 3) + 1)) :: _) _ _
      refine xr_putI rfl pl_Tape_25 rfl (by decide +kernel) ?_
      have k := k _ rfl
      generalize hg_m1 : ms mem 2 (ru (mem 2) 3 ((mem 2 3) + 1)) = m1 at k ⊢
      refine xr_goto (off := (-49)) (tgt := 8) (by decide) (by decide +kernel) ?_
      refine xr_sub (lo' := [(0, (sh_r 2))]) [0] rfl ?_
      exact k
    · have k := k.2 c2
      refine xr_aload_n (n := 0) (i := 0) rfl (List.mem_of_getElem? (i := 0) rfl) (by decide +kernel) ?_
      refine xr_getR (o := 1) rfl fl_Tape_9 rfl (by decide +kernel) ?_
      show sh_X g (d + 1) m_Tape_step _ _ ((sh_r 3) :: _) _ _
      refine xr_aload_n (n := 0) (i := 0) rfl (List.mem_of_getElem? (i := 0) rfl) (by decide +kernel) ?_
      refine xr_getI rfl fl_Tape_25 (by decide) (by decide +kernel) ?_
      obtain ⟨o, k⟩ := k
      refine xr_bald rfl o.1 o.2 (by decide +kernel) ?_
      refine xr_bipush (n := 32) (v := 32) (by decide) (by decide +kernel) ?_
      refine xr_icmp_ne (a' := (i3 (mem 3 ((mem 2 3)).toNat))) (b' := 32) rfl (by decide) (off := 16) (tgt := 60) (by decide) (by decide +kernel) ⟨fun c3 => ?_, fun c3 => ?_⟩
      · have k := k.1 c3
        refine xr_sub (lo' := [(0, (sh_r 2))]) [0] rfl ?_
        exact k
      · have k := k.2 c3
        refine xr_aload_n (n := 0) (i := 0) rfl (List.mem_of_getElem? (i := 0) rfl) (by decide +kernel) ?_
        refine xr_dupR (by decide +kernel) ?_
        refine xr_getI rfl fl_Tape_25 (by decide) (by decide +kernel) ?_
        refine xr_iconst (n := 1) (by decide +kernel) ?_
        refine xr_iadd (by decide +kernel) ?_
        show sh_X g (d + 1) m_Tape_step _ _ ((sh_i ((mem 2 3) + 1)) :: _) _ _
        refine xr_putI rfl pl_Tape_25 rfl (by decide +kernel) ?_
        have k := k _ rfl
        generalize hg_m2 : ms mem 2 (ru (mem 2) 3 ((mem 2 3) + 1)) = m2 at k ⊢
        refine xr_goto (off := (-49)) (tgt := 8) (by decide) (by decide +kernel) ?_
        refine xr_sub (lo' := [(0, (sh_r 2))]) [0] rfl ?_
        exact k
theorem v_Tape_step_60 {g : sh_G} {d : Nat}   {mem : sh_Mem} {Q : Option sh_V → sh_Mem → Prop}   (k : (sh_Cal g d m_Tape_signsWithin [(sh_r 2), (sh_i 97), (sh_i 122)] mem fun rv m1 => ∃ r1 : Int, rv = some (sh_i r1) ∧ (sh_Cal g d m_Tape_signsWithin [(sh_r 2), (sh_i 48), (sh_i 57)] m1 fun rv m2 => ∃ r2 : Int, rv = some (sh_i r2) ∧ (((i3 r1) ≤ 0 → (((i3 r2) ≤ 0 → (sh_Cal g d m_Tape_readSign [(sh_r 2)] m2 fun rv m3 => rv = none ∧ sh_X g (d + 1) m_Tape_step 106 [(0, (sh_r 2)), (1, (sh_i r1)), (2, (sh_i r2))] [] m3 (sh_K m_Tape_step Q))) ∧ (¬ (i3 r2) ≤ 0 → (sh_Cal g d m_Tape_readNumber [(sh_r 2), (sh_i r2)] m2 fun rv m4 => rv = none ∧ sh_X g (d + 1) m_Tape_step 106 [(0, (sh_r 2)), (1, (sh_i r1)), (2, (sh_i r2))] [] m4 (sh_K m_Tape_step Q))))) ∧ (¬ (i3 r1) ≤ 0 → (sh_Cal g d m_Tape_readWord [(sh_r 2), (sh_i r1)] m2 fun rv m5 => rv = none ∧ sh_X g (d + 1) m_Tape_step 106 [(0, (sh_r 2)), (1, (sh_i r1)), (2, (sh_i r2))] [] m5 (sh_K m_Tape_step Q))))))) : sh_X g (d + 1) m_Tape_step 60 [(0, (sh_r 2))] [] mem (sh_K m_Tape_step Q) := by
  refine xr_aload_n (n := 0) (i := 0) rfl (List.mem_of_getElem? (i := 0) rfl) (by decide +kernel) ?_
  refine xr_bipush (n := 97) (v := 97) (by decide) (by decide +kernel) ?_
  refine xr_bipush (n := 122) (v := 122) (by decide) (by decide +kernel) ?_
  refine xr_callV (av := [(sh_i 97), (sh_i 122)]) rfl rfl rfl mo_Tape_signsWithin ml_Tape_28 im_Tape_signsWithin se_Tape_signsWithin rfl (Nat.le_of_ble_eq_true rfl) (by decide +kernel) (sh_mono k ?_)
  rintro rv m1 ⟨r1, rfl, k⟩
  show sh_X g (d + 1) m_Tape_step _ _ [(sh_i r1)] _ _
  refine xr_istore_n (n := 1) (i := 1) rfl (by decide) rfl (by decide +kernel) ?_
  refine xr_aload_n (n := 0) (i := 0) rfl (List.mem_of_getElem? (i := 1) rfl) (by decide +kernel) ?_
  refine xr_bipush (n := 48) (v := 48) (by decide) (by decide +kernel) ?_
  refine xr_bipush (n := 57) (v := 57) (by decide) (by decide +kernel) ?_
  refine xr_callV (av := [(sh_i 48), (sh_i 57)]) rfl rfl rfl mo_Tape_signsWithin ml_Tape_28 im_Tape_signsWithin se_Tape_signsWithin rfl (Nat.le_of_ble_eq_true rfl) (by decide +kernel) (sh_mono k ?_)
  rintro rv m2 ⟨r2, rfl, k⟩
  show sh_X g (d + 1) m_Tape_step _ _ [(sh_i r2)] _ _
  refine xr_istore_n (n := 2) (i := 2) rfl (by decide) rfl (by decide +kernel) ?_
  refine xr_iload_n (n := 1) (i := 1) rfl (List.mem_of_getElem? (i := 1) rfl) (by decide +kernel) ?_
  refine xr_if_le (a' := (i3 r1)) rfl (off := 11) (tgt := 90) (by decide) (by decide +kernel) ⟨fun c1 => ?_, fun c1 => ?_⟩
  · have k := k.1 c1
    refine xr_iload_n (n := 2) (i := 2) rfl (List.mem_of_getElem? (i := 0) rfl) (by decide +kernel) ?_
    refine xr_if_le (a' := (i3 r2)) rfl (off := 11) (tgt := 102) (by decide) (by decide +kernel) ⟨fun c2 => ?_, fun c2 => ?_⟩
    · have k := k.1 c2
      refine xr_aload_n (n := 0) (i := 0) rfl (List.mem_of_getElem? (i := 2) rfl) (by decide +kernel) ?_
      refine xr_callV (av := []) rfl rfl rfl mo_Tape_readSign ml_Tape_39 im_Tape_readSign se_Tape_readSign rfl (Nat.le_of_ble_eq_true rfl) (by decide +kernel) (sh_mono k ?_)
      rintro rv m3 ⟨rfl, k⟩
      show sh_X g (d + 1) m_Tape_step _ _ [] _ _
      refine xr_sub (lo' := [(0, (sh_r 2)), (1, (sh_i r1)), (2, (sh_i r2))]) [2, 1, 0] rfl ?_
      exact k
    · have k := k.2 c2
      refine xr_aload_n (n := 0) (i := 0) rfl (List.mem_of_getElem? (i := 2) rfl) (by decide +kernel) ?_
      refine xr_iload_n (n := 2) (i := 2) rfl (List.mem_of_getElem? (i := 0) rfl) (by decide +kernel) ?_
      refine xr_callV (av := [(sh_i r2)]) rfl rfl rfl mo_Tape_readNumber ml_Tape_36 im_Tape_readNumber se_Tape_readNumber rfl (Nat.le_of_ble_eq_true rfl) (by decide +kernel) (sh_mono k ?_)
      rintro rv m4 ⟨rfl, k⟩
      show sh_X g (d + 1) m_Tape_step _ _ [] _ _
      refine xr_goto (off := 7) (tgt := 106) (by decide) (by decide +kernel) ?_
      refine xr_sub (lo' := [(0, (sh_r 2)), (1, (sh_i r1)), (2, (sh_i r2))]) [2, 1, 0] rfl ?_
      exact k
  · have k := k.2 c1
    refine xr_aload_n (n := 0) (i := 0) rfl (List.mem_of_getElem? (i := 2) rfl) (by decide +kernel) ?_
    refine xr_iload_n (n := 1) (i := 1) rfl (List.mem_of_getElem? (i := 1) rfl) (by decide +kernel) ?_
    refine xr_callV (av := [(sh_i r1)]) rfl rfl rfl mo_Tape_readWord ml_Tape_32 im_Tape_readWord se_Tape_readWord rfl (Nat.le_of_ble_eq_true rfl) (by decide +kernel) (sh_mono k ?_)
    rintro rv m5 ⟨rfl, k⟩
    show sh_X g (d + 1) m_Tape_step _ _ [] _ _
    refine xr_goto (off := 19) (tgt := 106) (by decide) (by decide +kernel) ?_
    refine xr_sub (lo' := [(0, (sh_r 2)), (1, (sh_i r1)), (2, (sh_i r2))]) [2, 1, 0] rfl ?_
    exact k
theorem v_Tape_step_106 {g : sh_G} {d : Nat}   {mem : sh_Mem} {Q : Option sh_V → sh_Mem → Prop}  {x1 : Int} {x2 : Int} (k : ((¬ (i3 (mem 2 2)) = 1 → sh_X g (d + 1) m_Tape_step 119 [(0, (sh_r 2)), (1, (sh_i x1)), (2, (sh_i x2))] [(sh_i 0)] mem (sh_K m_Tape_step Q)) ∧ ((i3 (mem 2 2)) = 1 → sh_X g (d + 1) m_Tape_step 119 [(0, (sh_r 2)), (1, (sh_i x1)), (2, (sh_i x2))] [(sh_i 1)] mem (sh_K m_Tape_step Q)))) : sh_X g (d + 1) m_Tape_step 106 [(0, (sh_r 2)), (1, (sh_i x1)), (2, (sh_i x2))] [] mem (sh_K m_Tape_step Q) := by
  refine xr_aload_n (n := 0) (i := 0) rfl (List.mem_of_getElem? (i := 0) rfl) (by decide +kernel) ?_
  refine xr_getI rfl fl_Tape_42 (by decide) (by decide +kernel) ?_
  refine xr_iconst (n := 1) (by decide +kernel) ?_
  refine xr_icmp_ne (a' := (i3 (mem 2 2))) (b' := 1) rfl (by decide) (off := 7) (tgt := 118) (by decide) (by decide +kernel) ⟨fun c1 => ?_, fun c1 => ?_⟩
  · have k := k.1 c1
    refine xr_iconst (n := 0) (by decide +kernel) ?_
    refine xr_sub (lo' := [(0, (sh_r 2)), (1, (sh_i x1)), (2, (sh_i x2))]) [0, 1, 2] rfl ?_
    exact k
  · have k := k.2 c1
    refine xr_iconst (n := 1) (by decide +kernel) ?_
    refine xr_goto (off := 4) (tgt := 119) (by decide) (by decide +kernel) ?_
    refine xr_sub (lo' := [(0, (sh_r 2)), (1, (sh_i x1)), (2, (sh_i x2))]) [0, 1, 2] rfl ?_
    exact k
theorem v_Tape_step_119 {g : sh_G} {d : Nat}   {mem : sh_Mem} {Q : Option sh_V → sh_Mem → Prop}  {x1 : Int} {x2 : Int} {y0 : Int} (k : (((i3 y0) = 0 → (∀ m1 : sh_Mem, m1 = ms mem 2 (ru (mem 2) 5 (-1)) → (((i3 y0) = 0 → (∀ m2 : sh_Mem, m2 = ms m1 2 (ru (m1 2) 6 (-1)) → Q none m2)) ∧ (¬ (i3 y0) = 0 → (sh_Cal g d m_Tape_numberAmong [(sh_r 2), (sh_r 1002)] m1 fun rv m3 => ∃ r1 : Int, rv = some (sh_i r1) ∧ (∀ m4 : sh_Mem, m4 = ms m3 2 (ru (m3 2) 6 r1) → Q none m4)))))) ∧ (¬ (i3 y0) = 0 → (sh_Cal g d m_Tape_numberAmong [(sh_r 2), (sh_r 1001)] mem fun rv m5 => ∃ r2 : Int, rv = some (sh_i r2) ∧ (∀ m6 : sh_Mem, m6 = ms m5 2 (ru (m5 2) 5 r2) → (((i3 y0) = 0 → (∀ m7 : sh_Mem, m7 = ms m6 2 (ru (m6 2) 6 (-1)) → Q none m7)) ∧ (¬ (i3 y0) = 0 → (sh_Cal g d m_Tape_numberAmong [(sh_r 2), (sh_r 1002)] m6 fun rv m8 => ∃ r3 : Int, rv = some (sh_i r3) ∧ (∀ m9 : sh_Mem, m9 = ms m8 2 (ru (m8 2) 6 r3) → Q none m9))))))))) : sh_X g (d + 1) m_Tape_step 119 [(0, (sh_r 2)), (1, (sh_i x1)), (2, (sh_i x2))] [(sh_i y0)] mem (sh_K m_Tape_step Q) := by
  refine xr_istore_n (n := 3) (i := 3) rfl (by decide) rfl (by decide +kernel) ?_
  refine xr_aload_n (n := 0) (i := 0) rfl (List.mem_of_getElem? (i := 1) rfl) (by decide +kernel) ?_
  refine xr_iload_n (n := 3) (i := 3) rfl (List.mem_of_getElem? (i := 0) rfl) (by decide +kernel) ?_
  refine xr_if_eq (a' := (i3 y0)) rfl (off := 12) (tgt := 134) (by decide) (by decide +kernel) ⟨fun c1 => ?_, fun c1 => ?_⟩
  · have k := k.1 c1
    refine xr_iconst (n := (-1)) (by decide +kernel) ?_
    refine xr_putI rfl pl_Tape_51 rfl (by decide +kernel) ?_
    have k := k _ rfl
    generalize hg_m1 : ms mem 2 (ru (mem 2) 5 (-1)) = m1 at k ⊢
    refine xr_aload_n (n := 0) (i := 0) rfl (List.mem_of_getElem? (i := 1) rfl) (by decide +kernel) ?_
    refine xr_iload_n (n := 3) (i := 3) rfl (List.mem_of_getElem? (i := 0) rfl) (by decide +kernel) ?_
    refine xr_if_eq (a' := (i3 y0)) rfl (off := 12) (tgt := 152) (by decide) (by decide +kernel) ⟨fun c2 => ?_, fun c2 => ?_⟩
    · have k := k.1 c2
      refine xr_iconst (n := (-1)) (by decide +kernel) ?_
      refine xr_putI rfl pl_Tape_56 rfl (by decide +kernel) ?_
      have k := k _ rfl
      generalize hg_m2 : ms m1 2 (ru (m1 2) 6 (-1)) = m2 at k ⊢
      exact xr_ret rfl (by decide +kernel) k
    · have k := k.2 c2
      refine xr_aload_n (n := 0) (i := 0) rfl (List.mem_of_getElem? (i := 1) rfl) (by decide +kernel) ?_
      refine xr_ldcS (ix := 54) (i := 2) (by decide) rfl (by decide +kernel) ?_
      show sh_X g (d + 1) m_Tape_step _ _ ((sh_r 1002) :: _) _ _
      refine xr_callV (av := [(sh_r 1002)]) rfl rfl rfl mo_Tape_numberAmong ml_Tape_47 im_Tape_numberAmong se_Tape_numberAmong rfl (Nat.le_of_ble_eq_true rfl) (by decide +kernel) (sh_mono k ?_)
      rintro rv m3 ⟨r1, rfl, k⟩
      show sh_X g (d + 1) m_Tape_step _ _ [(sh_i r1), (sh_r 2)] _ _
      refine xr_goto (off := 4) (tgt := 153) (by decide) (by decide +kernel) ?_
      refine xr_putI rfl pl_Tape_56 rfl (by decide +kernel) ?_
      have k := k _ rfl
      generalize hg_m4 : ms m3 2 (ru (m3 2) 6 r1) = m4 at k ⊢
      exact xr_ret rfl (by decide +kernel) k
  · have k := k.2 c1
    refine xr_aload_n (n := 0) (i := 0) rfl (List.mem_of_getElem? (i := 1) rfl) (by decide +kernel) ?_
    refine xr_ldcS (ix := 45) (i := 1) (by decide) rfl (by decide +kernel) ?_
    show sh_X g (d + 1) m_Tape_step _ _ ((sh_r 1001) :: _) _ _
    refine xr_callV (av := [(sh_r 1001)]) rfl rfl rfl mo_Tape_numberAmong ml_Tape_47 im_Tape_numberAmong se_Tape_numberAmong rfl (Nat.le_of_ble_eq_true rfl) (by decide +kernel) (sh_mono k ?_)
    rintro rv m5 ⟨r2, rfl, k⟩
    show sh_X g (d + 1) m_Tape_step _ _ [(sh_i r2), (sh_r 2)] _ _
    refine xr_goto (off := 4) (tgt := 135) (by decide) (by decide +kernel) ?_
    refine xr_putI rfl pl_Tape_51 rfl (by decide +kernel) ?_
    have k := k _ rfl
    generalize hg_m6 : ms m5 2 (ru (m5 2) 5 r2) = m6 at k ⊢
    refine xr_aload_n (n := 0) (i := 0) rfl (List.mem_of_getElem? (i := 1) rfl) (by decide +kernel) ?_
    refine xr_iload_n (n := 3) (i := 3) rfl (List.mem_of_getElem? (i := 0) rfl) (by decide +kernel) ?_
    refine xr_if_eq (a' := (i3 y0)) rfl (off := 12) (tgt := 152) (by decide) (by decide +kernel) ⟨fun c3 => ?_, fun c3 => ?_⟩
    · have k := k.1 c3
      refine xr_iconst (n := (-1)) (by decide +kernel) ?_
      refine xr_putI rfl pl_Tape_56 rfl (by decide +kernel) ?_
      have k := k _ rfl
      generalize hg_m7 : ms m6 2 (ru (m6 2) 6 (-1)) = m7 at k ⊢
      exact xr_ret rfl (by decide +kernel) k
    · have k := k.2 c3
      refine xr_aload_n (n := 0) (i := 0) rfl (List.mem_of_getElem? (i := 1) rfl) (by decide +kernel) ?_
      refine xr_ldcS (ix := 54) (i := 2) (by decide) rfl (by decide +kernel) ?_
      show sh_X g (d + 1) m_Tape_step _ _ ((sh_r 1002) :: _) _ _
      refine xr_callV (av := [(sh_r 1002)]) rfl rfl rfl mo_Tape_numberAmong ml_Tape_47 im_Tape_numberAmong se_Tape_numberAmong rfl (Nat.le_of_ble_eq_true rfl) (by decide +kernel) (sh_mono k ?_)
      rintro rv m8 ⟨r3, rfl, k⟩
      show sh_X g (d + 1) m_Tape_step _ _ [(sh_i r3), (sh_r 2)] _ _
      refine xr_goto (off := 4) (tgt := 153) (by decide) (by decide +kernel) ?_
      refine xr_putI rfl pl_Tape_56 rfl (by decide +kernel) ?_
      have k := k _ rfl
      generalize hg_m9 : ms m8 2 (ru (m8 2) 6 r3) = m9 at k ⊢
      exact xr_ret rfl (by decide +kernel) k

theorem v_Tape_signsWithin {g : sh_G} {d : Nat} {least : Int} {most : Int}  {mem : sh_Mem} {Q : Option sh_V → sh_Mem → Prop}  (k : sh_X g d m_Tape_signsWithin 5 [(0, (sh_r 2)), (1, (sh_i least)), (2, (sh_i most)), (3, (sh_i (mem 2 3)))] [] mem (sh_K m_Tape_signsWithin Q)) : sh_Cal g d m_Tape_signsWithin [(sh_r 2), (sh_i least), (sh_i most)] mem Q := by
  refine sh_met (by decide +kernel) (Nat.le_of_ble_eq_true rfl) (lo := [(0, (sh_r 2)), (1, (sh_i least)), (2, (sh_i most))]) rfl ?_
  refine xr_aload_n (n := 0) (i := 0) rfl (List.mem_of_getElem? (i := 0) rfl) (by decide +kernel) ?_
  refine xr_getI rfl fl_Tape_25 (by decide) (by decide +kernel) ?_
  refine xr_istore_n (n := 3) (i := 3) rfl (by decide) rfl (by decide +kernel) ?_
  refine xr_sub (lo' := [(0, (sh_r 2)), (1, (sh_i least)), (2, (sh_i most)), (3, (sh_i (mem 2 3)))]) [1, 2, 3, 0] rfl ?_
  exact k
theorem v_Tape_signsWithin_5 {g : sh_G} {d : Nat} {least : Int} {most : Int}  {mem : sh_Mem} {Q : Option sh_V → sh_Mem → Prop}  {x3 : Int} (k : (((i3 (mem 2 1)) ≤ (i3 x3) → Q (some (sh_i (x3 - (mem 2 3)))) mem) ∧ (¬ (i3 (mem 2 1)) ≤ (i3 x3) → ((0 ≤ x3 ∧ x3 < 1000) ∧ (((i3 (mem 3 (x3).toNat)) < (i3 least) → Q (some (sh_i (x3 - (mem 2 3)))) mem) ∧ (¬ (i3 (mem 3 (x3).toNat)) < (i3 least) → ((0 ≤ x3 ∧ x3 < 1000) ∧ (((i3 most) < (i3 (mem 3 (x3).toNat)) → Q (some (sh_i (x3 - (mem 2 3)))) mem) ∧ (¬ (i3 most) < (i3 (mem 3 (x3).toNat)) → sh_X g d m_Tape_signsWithin 5 [(0, (sh_r 2)), (1, (sh_i least)), (2, (sh_i most)), (3, (sh_i (x3 + 1)))] [] mem (sh_K m_Tape_signsWithin Q)))))))))) : sh_X g d m_Tape_signsWithin 5 [(0, (sh_r 2)), (1, (sh_i least)), (2, (sh_i most)), (3, (sh_i x3))] [] mem (sh_K m_Tape_signsWithin Q) := by
  refine xr_iload_n (n := 3) (i := 3) rfl (List.mem_of_getElem? (i := 3) rfl) (by decide +kernel) ?_
  refine xr_aload_n (n := 0) (i := 0) rfl (List.mem_of_getElem? (i := 0) rfl) (by decide +kernel) ?_
  refine xr_getI rfl fl_Tape_15 (by decide) (by decide +kernel) ?_
  refine xr_icmp_ge (a' := (i3 x3)) (b' := (i3 (mem 2 1))) rfl rfl (off := 29) (tgt := 39) (by decide) (by decide +kernel) ⟨fun c1 => ?_, fun c1 => ?_⟩
  · have k := k.1 c1
    refine xr_iload_n (n := 3) (i := 3) rfl (List.mem_of_getElem? (i := 3) rfl) (by decide +kernel) ?_
    refine xr_aload_n (n := 0) (i := 0) rfl (List.mem_of_getElem? (i := 0) rfl) (by decide +kernel) ?_
    refine xr_getI rfl fl_Tape_25 (by decide) (by decide +kernel) ?_
    refine xr_isub (by decide +kernel) ?_
    show sh_X g d m_Tape_signsWithin _ _ ((sh_i (x3 - (mem 2 3))) :: _) _ _
    exact xr_iret rfl (by decide +kernel) k
  · have k := k.2 c1
    refine xr_aload_n (n := 0) (i := 0) rfl (List.mem_of_getElem? (i := 0) rfl) (by decide +kernel) ?_
    refine xr_getR (o := 1) rfl fl_Tape_9 rfl (by decide +kernel) ?_
    show sh_X g d m_Tape_signsWithin _ _ ((sh_r 3) :: _) _ _
    refine xr_iload_n (n := 3) (i := 3) rfl (List.mem_of_getElem? (i := 3) rfl) (by decide +kernel) ?_
    obtain ⟨o, k⟩ := k
    refine xr_bald rfl o.1 o.2 (by decide +kernel) ?_
    refine xr_iload_n (n := 1) (i := 1) rfl (List.mem_of_getElem? (i := 1) rfl) (by decide +kernel) ?_
    refine xr_icmp_lt (a' := (i3 (mem 3 (x3).toNat))) (b' := (i3 least)) rfl rfl (off := 19) (tgt := 39) (by decide) (by decide +kernel) ⟨fun c2 => ?_, fun c2 => ?_⟩
    · have k := k.1 c2
      refine xr_iload_n (n := 3) (i := 3) rfl (List.mem_of_getElem? (i := 3) rfl) (by decide +kernel) ?_
      refine xr_aload_n (n := 0) (i := 0) rfl (List.mem_of_getElem? (i := 0) rfl) (by decide +kernel) ?_
      refine xr_getI rfl fl_Tape_25 (by decide) (by decide +kernel) ?_
      refine xr_isub (by decide +kernel) ?_
      show sh_X g d m_Tape_signsWithin _ _ ((sh_i (x3 - (mem 2 3))) :: _) _ _
      exact xr_iret rfl (by decide +kernel) k
    · have k := k.2 c2
      refine xr_aload_n (n := 0) (i := 0) rfl (List.mem_of_getElem? (i := 0) rfl) (by decide +kernel) ?_
      refine xr_getR (o := 1) rfl fl_Tape_9 rfl (by decide +kernel) ?_
      show sh_X g d m_Tape_signsWithin _ _ ((sh_r 3) :: _) _ _
      refine xr_iload_n (n := 3) (i := 3) rfl (List.mem_of_getElem? (i := 3) rfl) (by decide +kernel) ?_
      obtain ⟨o, k⟩ := k
      refine xr_bald rfl o.1 o.2 (by decide +kernel) ?_
      refine xr_iload_n (n := 2) (i := 2) rfl (List.mem_of_getElem? (i := 2) rfl) (by decide +kernel) ?_
      refine xr_icmp_gt (a' := (i3 (mem 3 (x3).toNat))) (b' := (i3 most)) rfl rfl (off := 9) (tgt := 39) (by decide) (by decide +kernel) ⟨fun c3 => ?_, fun c3 => ?_⟩
      · have k := k.1 c3
        refine xr_iload_n (n := 3) (i := 3) rfl (List.mem_of_getElem? (i := 3) rfl) (by decide +kernel) ?_
        refine xr_aload_n (n := 0) (i := 0) rfl (List.mem_of_getElem? (i := 0) rfl) (by decide +kernel) ?_
        refine xr_getI rfl fl_Tape_25 (by decide) (by decide +kernel) ?_
        refine xr_isub (by decide +kernel) ?_
        show sh_X g d m_Tape_signsWithin _ _ ((sh_i (x3 - (mem 2 3))) :: _) _ _
        exact xr_iret rfl (by decide +kernel) k
      · have k := k.2 c3
        refine xr_iinc (n := 1) (lo' := [(3, (sh_i (x3 + 1))), (0, (sh_r 2)), (1, (sh_i least)), (2, (sh_i most))]) (List.mem_of_getElem? (i := 3) rfl) (by decide) rfl (by decide +kernel) ?_
        refine xr_goto (off := (-31)) (tgt := 5) (by decide) (by decide +kernel) ?_
        refine xr_sub (lo' := [(0, (sh_r 2)), (1, (sh_i least)), (2, (sh_i most)), (3, (sh_i (x3 + 1)))]) [1, 2, 3, 0] rfl ?_
        exact k

theorem v_Tape_readWord {g : sh_G} {d : Nat} {letters : Int}  {mem : sh_Mem} {Q : Option sh_V → sh_Mem → Prop}  (k : (∀ m1 : sh_Mem, m1 = ms mem 2 (ru (mem 2) 4 ((mem 2 3) + letters)) → (((i3 letters) ≤ 8 → (∀ m2 : sh_Mem, m2 = ms m1 2 (ru (m1 2) 2 1) → (∀ m3 : sh_Mem, m3 = ms m2 2 (ru (m2 2) 7 0) → sh_X g d m_Tape_readWord 37 [(0, (sh_r 2)), (1, (sh_i letters)), (2, (sh_i (m3 2 3)))] [] m3 (sh_K m_Tape_readWord Q)))) ∧ (¬ (i3 letters) ≤ 8 → (∀ m4 : sh_Mem, m4 = ms m1 2 (ru (m1 2) 2 0) → Q none m4))))) : sh_Cal g d m_Tape_readWord [(sh_r 2), (sh_i letters)] mem Q := by
  refine sh_met (by decide +kernel) (Nat.le_of_ble_eq_true rfl) (lo := [(0, (sh_r 2)), (1, (sh_i letters))]) rfl ?_
  refine xr_aload_n (n := 0) (i := 0) rfl (List.mem_of_getElem? (i := 0) rfl) (by decide +kernel) ?_
  refine xr_aload_n (n := 0) (i := 0) rfl (List.mem_of_getElem? (i := 0) rfl) (by decide +kernel) ?_
  refine xr_getI rfl fl_Tape_25 (by decide) (by decide +kernel) ?_
  refine xr_iload_n (n := 1) (i := 1) rfl (List.mem_of_getElem? (i := 1) rfl) (by decide +kernel) ?_
  refine xr_iadd (by decide +kernel) ?_
  show sh_X g d m_Tape_readWord _ _ ((sh_i ((mem 2 3) + letters)) :: _) _ _
  refine xr_putI rfl pl_Tape_19 rfl (by decide +kernel) ?_
  have k := k _ rfl
  generalize hg_m1 : ms mem 2 (ru (mem 2) 4 ((mem 2 3) + letters)) = m1 at k ⊢
  refine xr_iload_n (n := 1) (i := 1) rfl (List.mem_of_getElem? (i := 1) rfl) (by decide +kernel) ?_
  refine xr_bipush (n := 8) (v := 8) (by decide) (by decide +kernel) ?_
  refine xr_icmp_le (a' := (i3 letters)) (b' := 8) rfl (by decide) (off := 9) (tgt := 22) (by decide) (by decide +kernel) ⟨fun c1 => ?_, fun c1 => ?_⟩
  · have k := k.1 c1
    refine xr_aload_n (n := 0) (i := 0) rfl (List.mem_of_getElem? (i := 0) rfl) (by decide +kernel) ?_
    refine xr_iconst (n := 1) (by decide +kernel) ?_
    refine xr_putI rfl pl_Tape_42 rfl (by decide +kernel) ?_
    have k := k _ rfl
    generalize hg_m2 : ms m1 2 (ru (m1 2) 2 1) = m2 at k ⊢
    refine xr_aload_n (n := 0) (i := 0) rfl (List.mem_of_getElem? (i := 0) rfl) (by decide +kernel) ?_
    refine xr_lconst (n := 0) (v := 0) (by decide) (by decide +kernel) ?_
    refine xr_putL rfl pl_Tape_59 rfl (by decide +kernel) ?_
    have k := k _ rfl
    generalize hg_m3 : ms m2 2 (ru (m2 2) 7 0) = m3 at k ⊢
    refine xr_aload_n (n := 0) (i := 0) rfl (List.mem_of_getElem? (i := 0) rfl) (by decide +kernel) ?_
    refine xr_getI rfl fl_Tape_25 (by decide) (by decide +kernel) ?_
    refine xr_istore_n (n := 2) (i := 2) rfl (by decide) rfl (by decide +kernel) ?_
    refine xr_sub (lo' := [(0, (sh_r 2)), (1, (sh_i letters)), (2, (sh_i (m3 2 3)))]) [1, 2, 0] rfl ?_
    exact k
  · have k := k.2 c1
    refine xr_aload_n (n := 0) (i := 0) rfl (List.mem_of_getElem? (i := 0) rfl) (by decide +kernel) ?_
    refine xr_iconst (n := 0) (by decide +kernel) ?_
    refine xr_putI rfl pl_Tape_42 rfl (by decide +kernel) ?_
    have k := k _ rfl
    generalize hg_m4 : ms m1 2 (ru (m1 2) 2 0) = m4 at k ⊢
    exact xr_ret rfl (by decide +kernel) k
theorem v_Tape_readWord_37 {g : sh_G} {d : Nat} {letters : Int}  {mem : sh_Mem} {Q : Option sh_V → sh_Mem → Prop}  {x2 : Int} (k : (((i3 (mem 2 4)) ≤ (i3 x2) → Q none mem) ∧ (¬ (i3 (mem 2 4)) ≤ (i3 x2) → ((0 ≤ x2 ∧ x2 < 1000) ∧ (∀ m1 : sh_Mem, m1 = ms mem 2 (ru (mem 2) 7 (((mem 2 7) * 27) + (i_2l (((mem 3 (x2).toNat) - 97) + 1)))) → sh_X g d m_Tape_readWord 37 [(0, (sh_r 2)), (1, (sh_i letters)), (2, (sh_i (x2 + 1)))] [] m1 (sh_K m_Tape_readWord Q)))))) : sh_X g d m_Tape_readWord 37 [(0, (sh_r 2)), (1, (sh_i letters)), (2, (sh_i x2))] [] mem (sh_K m_Tape_readWord Q) := by
  refine xr_iload_n (n := 2) (i := 2) rfl (List.mem_of_getElem? (i := 2) rfl) (by decide +kernel) ?_
  refine xr_aload_n (n := 0) (i := 0) rfl (List.mem_of_getElem? (i := 0) rfl) (by decide +kernel) ?_
  refine xr_getI rfl fl_Tape_19 (by decide) (by decide +kernel) ?_
  refine xr_icmp_ge (a' := (i3 x2)) (b' := (i3 (mem 2 4))) rfl rfl (off := 34) (tgt := 76) (by decide) (by decide +kernel) ⟨fun c1 => ?_, fun c1 => ?_⟩
  · have k := k.1 c1
    exact xr_ret rfl (by decide +kernel) k
  · have k := k.2 c1
    refine xr_aload_n (n := 0) (i := 0) rfl (List.mem_of_getElem? (i := 0) rfl) (by decide +kernel) ?_
    refine xr_aload_n (n := 0) (i := 0) rfl (List.mem_of_getElem? (i := 0) rfl) (by decide +kernel) ?_
    refine xr_getL rfl fl_Tape_59 (by decide) (by decide +kernel) ?_
    refine xr_ldc2 (v := 27) (by decide) kl_Tape_63 (by decide +kernel) ?_
    refine xr_lmul (by decide +kernel) ?_
    show sh_X g d m_Tape_readWord _ _ ((sh_l ((mem 2 7) * 27)) :: _) _ _
    refine xr_aload_n (n := 0) (i := 0) rfl (List.mem_of_getElem? (i := 0) rfl) (by decide +kernel) ?_
    refine xr_getR (o := 1) rfl fl_Tape_9 rfl (by decide +kernel) ?_
    show sh_X g d m_Tape_readWord _ _ ((sh_r 3) :: _) _ _
    refine xr_iload_n (n := 2) (i := 2) rfl (List.mem_of_getElem? (i := 2) rfl) (by decide +kernel) ?_
    obtain ⟨o, k⟩ := k
    refine xr_bald rfl o.1 o.2 (by decide +kernel) ?_
    refine xr_bipush (n := 97) (v := 97) (by decide) (by decide +kernel) ?_
    refine xr_isub (by decide +kernel) ?_
    show sh_X g d m_Tape_readWord _ _ ((sh_i ((mem 3 (x2).toNat) - 97)) :: _) _ _
    refine xr_iconst (n := 1) (by decide +kernel) ?_
    refine xr_iadd (by decide +kernel) ?_
    show sh_X g d m_Tape_readWord _ _ ((sh_i (((mem 3 (x2).toNat) - 97) + 1)) :: _) _ _
    refine xr_i2l (by decide +kernel) ?_
    refine xr_ladd (by decide +kernel) ?_
    show sh_X g d m_Tape_readWord _ _ ((sh_l (((mem 2 7) * 27) + (i_2l (((mem 3 (x2).toNat) - 97) + 1)))) :: _) _ _
    refine xr_putL rfl pl_Tape_59 rfl (by decide +kernel) ?_
    have k := k _ rfl
    generalize hg_m1 : ms mem 2 (ru (mem 2) 7 (((mem 2 7) * 27) + (i_2l (((mem 3 (x2).toNat) - 97) + 1)))) = m1 at k ⊢
    refine xr_iinc (n := 1) (lo' := [(2, (sh_i (x2 + 1))), (0, (sh_r 2)), (1, (sh_i letters))]) (List.mem_of_getElem? (i := 2) rfl) (by decide) rfl (by decide +kernel) ?_
    refine xr_goto (off := (-36)) (tgt := 37) (by decide) (by decide +kernel) ?_
    refine xr_sub (lo' := [(0, (sh_r 2)), (1, (sh_i letters)), (2, (sh_i (x2 + 1)))]) [1, 2, 0] rfl ?_
    exact k

theorem v_Tape_readNumber {g : sh_G} {d : Nat} {digits : Int}  {mem : sh_Mem} {Q : Option sh_V → sh_Mem → Prop}  (k : (∀ m1 : sh_Mem, m1 = ms mem 2 (ru (mem 2) 4 ((mem 2 3) + digits)) → (((i3 digits) ≤ 4 → (∀ m2 : sh_Mem, m2 = ms m1 2 (ru (m1 2) 2 2) → (∀ m3 : sh_Mem, m3 = ms m2 2 (ru (m2 2) 8 0) → sh_X g d m_Tape_readNumber 36 [(0, (sh_r 2)), (1, (sh_i digits)), (2, (sh_i (m3 2 3)))] [] m3 (sh_K m_Tape_readNumber Q)))) ∧ (¬ (i3 digits) ≤ 4 → (∀ m4 : sh_Mem, m4 = ms m1 2 (ru (m1 2) 2 0) → Q none m4))))) : sh_Cal g d m_Tape_readNumber [(sh_r 2), (sh_i digits)] mem Q := by
  refine sh_met (by decide +kernel) (Nat.le_of_ble_eq_true rfl) (lo := [(0, (sh_r 2)), (1, (sh_i digits))]) rfl ?_
  refine xr_aload_n (n := 0) (i := 0) rfl (List.mem_of_getElem? (i := 0) rfl) (by decide +kernel) ?_
  refine xr_aload_n (n := 0) (i := 0) rfl (List.mem_of_getElem? (i := 0) rfl) (by decide +kernel) ?_
  refine xr_getI rfl fl_Tape_25 (by decide) (by decide +kernel) ?_
  refine xr_iload_n (n := 1) (i := 1) rfl (List.mem_of_getElem? (i := 1) rfl) (by decide +kernel) ?_
  refine xr_iadd (by decide +kernel) ?_
  show sh_X g d m_Tape_readNumber _ _ ((sh_i ((mem 2 3) + digits)) :: _) _ _
  refine xr_putI rfl pl_Tape_19 rfl (by decide +kernel) ?_
  have k := k _ rfl
  generalize hg_m1 : ms mem 2 (ru (mem 2) 4 ((mem 2 3) + digits)) = m1 at k ⊢
  refine xr_iload_n (n := 1) (i := 1) rfl (List.mem_of_getElem? (i := 1) rfl) (by decide +kernel) ?_
  refine xr_iconst (n := 4) (by decide +kernel) ?_
  refine xr_icmp_le (a' := (i3 digits)) (b' := 4) rfl (by decide) (off := 9) (tgt := 21) (by decide) (by decide +kernel) ⟨fun c1 => ?_, fun c1 => ?_⟩
  · have k := k.1 c1
    refine xr_aload_n (n := 0) (i := 0) rfl (List.mem_of_getElem? (i := 0) rfl) (by decide +kernel) ?_
    refine xr_iconst (n := 2) (by decide +kernel) ?_
    refine xr_putI rfl pl_Tape_42 rfl (by decide +kernel) ?_
    have k := k _ rfl
    generalize hg_m2 : ms m1 2 (ru (m1 2) 2 2) = m2 at k ⊢
    refine xr_aload_n (n := 0) (i := 0) rfl (List.mem_of_getElem? (i := 0) rfl) (by decide +kernel) ?_
    refine xr_iconst (n := 0) (by decide +kernel) ?_
    refine xr_putI rfl pl_Tape_65 rfl (by decide +kernel) ?_
    have k := k _ rfl
    generalize hg_m3 : ms m2 2 (ru (m2 2) 8 0) = m3 at k ⊢
    refine xr_aload_n (n := 0) (i := 0) rfl (List.mem_of_getElem? (i := 0) rfl) (by decide +kernel) ?_
    refine xr_getI rfl fl_Tape_25 (by decide) (by decide +kernel) ?_
    refine xr_istore_n (n := 2) (i := 2) rfl (by decide) rfl (by decide +kernel) ?_
    refine xr_sub (lo' := [(0, (sh_r 2)), (1, (sh_i digits)), (2, (sh_i (m3 2 3)))]) [1, 2, 0] rfl ?_
    exact k
  · have k := k.2 c1
    refine xr_aload_n (n := 0) (i := 0) rfl (List.mem_of_getElem? (i := 0) rfl) (by decide +kernel) ?_
    refine xr_iconst (n := 0) (by decide +kernel) ?_
    refine xr_putI rfl pl_Tape_42 rfl (by decide +kernel) ?_
    have k := k _ rfl
    generalize hg_m4 : ms m1 2 (ru (m1 2) 2 0) = m4 at k ⊢
    exact xr_ret rfl (by decide +kernel) k
theorem v_Tape_readNumber_36 {g : sh_G} {d : Nat} {digits : Int}  {mem : sh_Mem} {Q : Option sh_V → sh_Mem → Prop}  {x2 : Int} (k : (((i3 (mem 2 4)) ≤ (i3 x2) → Q none mem) ∧ (¬ (i3 (mem 2 4)) ≤ (i3 x2) → ((0 ≤ x2 ∧ x2 < 1000) ∧ (∀ m1 : sh_Mem, m1 = ms mem 2 (ru (mem 2) 8 (((mem 2 8) * 10) + ((mem 3 (x2).toNat) - 48))) → sh_X g d m_Tape_readNumber 36 [(0, (sh_r 2)), (1, (sh_i digits)), (2, (sh_i (x2 + 1)))] [] m1 (sh_K m_Tape_readNumber Q)))))) : sh_X g d m_Tape_readNumber 36 [(0, (sh_r 2)), (1, (sh_i digits)), (2, (sh_i x2))] [] mem (sh_K m_Tape_readNumber Q) := by
  refine xr_iload_n (n := 2) (i := 2) rfl (List.mem_of_getElem? (i := 2) rfl) (by decide +kernel) ?_
  refine xr_aload_n (n := 0) (i := 0) rfl (List.mem_of_getElem? (i := 0) rfl) (by decide +kernel) ?_
  refine xr_getI rfl fl_Tape_19 (by decide) (by decide +kernel) ?_
  refine xr_icmp_ge (a' := (i3 x2)) (b' := (i3 (mem 2 4))) rfl rfl (off := 30) (tgt := 71) (by decide) (by decide +kernel) ⟨fun c1 => ?_, fun c1 => ?_⟩
  · have k := k.1 c1
    exact xr_ret rfl (by decide +kernel) k
  · have k := k.2 c1
    refine xr_aload_n (n := 0) (i := 0) rfl (List.mem_of_getElem? (i := 0) rfl) (by decide +kernel) ?_
    refine xr_aload_n (n := 0) (i := 0) rfl (List.mem_of_getElem? (i := 0) rfl) (by decide +kernel) ?_
    refine xr_getI rfl fl_Tape_65 (by decide) (by decide +kernel) ?_
    refine xr_bipush (n := 10) (v := 10) (by decide) (by decide +kernel) ?_
    refine xr_imul (by decide +kernel) ?_
    show sh_X g d m_Tape_readNumber _ _ ((sh_i ((mem 2 8) * 10)) :: _) _ _
    refine xr_aload_n (n := 0) (i := 0) rfl (List.mem_of_getElem? (i := 0) rfl) (by decide +kernel) ?_
    refine xr_getR (o := 1) rfl fl_Tape_9 rfl (by decide +kernel) ?_
    show sh_X g d m_Tape_readNumber _ _ ((sh_r 3) :: _) _ _
    refine xr_iload_n (n := 2) (i := 2) rfl (List.mem_of_getElem? (i := 2) rfl) (by decide +kernel) ?_
    obtain ⟨o, k⟩ := k
    refine xr_bald rfl o.1 o.2 (by decide +kernel) ?_
    refine xr_bipush (n := 48) (v := 48) (by decide) (by decide +kernel) ?_
    refine xr_isub (by decide +kernel) ?_
    show sh_X g d m_Tape_readNumber _ _ ((sh_i ((mem 3 (x2).toNat) - 48)) :: _) _ _
    refine xr_iadd (by decide +kernel) ?_
    show sh_X g d m_Tape_readNumber _ _ ((sh_i (((mem 2 8) * 10) + ((mem 3 (x2).toNat) - 48))) :: _) _ _
    refine xr_putI rfl pl_Tape_65 rfl (by decide +kernel) ?_
    have k := k _ rfl
    generalize hg_m1 : ms mem 2 (ru (mem 2) 8 (((mem 2 8) * 10) + ((mem 3 (x2).toNat) - 48))) = m1 at k ⊢
    refine xr_iinc (n := 1) (lo' := [(2, (sh_i (x2 + 1))), (0, (sh_r 2)), (1, (sh_i digits))]) (List.mem_of_getElem? (i := 2) rfl) (by decide) rfl (by decide +kernel) ?_
    refine xr_goto (off := (-32)) (tgt := 36) (by decide) (by decide +kernel) ?_
    refine xr_sub (lo' := [(0, (sh_r 2)), (1, (sh_i digits)), (2, (sh_i (x2 + 1)))]) [1, 2, 0] rfl ?_
    exact k

theorem v_Tape_readSign {g : sh_G} {d : Nat}   {mem : sh_Mem} {Q : Option sh_V → sh_Mem → Prop}  (k : (((i3 (mem 2 3)) < (i3 (mem 2 1)) → (∀ m1 : sh_Mem, m1 = ms mem 2 (ru (mem 2) 4 ((mem 2 3) + 1)) → ((0 ≤ (m1 2 3) ∧ (m1 2 3) < 1000) ∧ (sh_Cal g d m_Str_indexOf [(sh_r 1000), (sh_i (i_2c (m1 3 ((m1 2 3)).toNat)))] m1 fun rv m2 => ∃ r1 : Int, rv = some (sh_i r1) ∧ (((i3 r1) < 0 → (∀ m3 : sh_Mem, m3 = ms m2 2 (ru (m2 2) 2 0) → Q none m3)) ∧ (¬ (i3 r1) < 0 → ((0 ≤ (m2 2 3) ∧ (m2 2 3) < 1000) ∧ (∀ m4 : sh_Mem, m4 = ms m2 2 (ru (m2 2) 2 (m2 3 ((m2 2 3)).toNat)) → Q none m4)))))))) ∧ (¬ (i3 (mem 2 3)) < (i3 (mem 2 1)) → (∀ m5 : sh_Mem, m5 = ms mem 2 (ru (mem 2) 4 (mem 2 3)) → (∀ m6 : sh_Mem, m6 = ms m5 2 (ru (m5 2) 2 3) → Q none m6))))) : sh_Cal g (d + 1) m_Tape_readSign [(sh_r 2)] mem Q := by
  refine sh_met (by decide +kernel) (Nat.le_of_ble_eq_true rfl) (lo := [(0, (sh_r 2))]) rfl ?_
  refine xr_aload_n (n := 0) (i := 0) rfl (List.mem_of_getElem? (i := 0) rfl) (by decide +kernel) ?_
  refine xr_getI rfl fl_Tape_25 (by decide) (by decide +kernel) ?_
  refine xr_aload_n (n := 0) (i := 0) rfl (List.mem_of_getElem? (i := 0) rfl) (by decide +kernel) ?_
  refine xr_getI rfl fl_Tape_15 (by decide) (by decide +kernel) ?_
  refine xr_icmp_lt (a' := (i3 (mem 2 3))) (b' := (i3 (mem 2 1))) rfl rfl (off := 17) (tgt := 25) (by decide) (by decide +kernel) ⟨fun c1 => ?_, fun c1 => ?_⟩
  · have k := k.1 c1
    refine xr_aload_n (n := 0) (i := 0) rfl (List.mem_of_getElem? (i := 0) rfl) (by decide +kernel) ?_
    refine xr_aload_n (n := 0) (i := 0) rfl (List.mem_of_getElem? (i := 0) rfl) (by decide +kernel) ?_
    refine xr_getI rfl fl_Tape_25 (by decide) (by decide +kernel) ?_
    refine xr_iconst (n := 1) (by decide +kernel) ?_
    refine xr_iadd (by decide +kernel) ?_
    show sh_X g (d + 1) m_Tape_readSign _ _ ((sh_i ((mem 2 3) + 1)) :: _) _ _
    refine xr_putI rfl pl_Tape_19 rfl (by decide +kernel) ?_
    have k := k _ rfl
    generalize hg_m1 : ms mem 2 (ru (mem 2) 4 ((mem 2 3) + 1)) = m1 at k ⊢
    refine xr_aload_n (n := 0) (i := 0) rfl (List.mem_of_getElem? (i := 0) rfl) (by decide +kernel) ?_
    refine xr_ldcS (ix := 68) (i := 0) (by decide) rfl (by decide +kernel) ?_
    show sh_X g (d + 1) m_Tape_readSign _ _ ((sh_r 1000) :: _) _ _
    refine xr_aload_n (n := 0) (i := 0) rfl (List.mem_of_getElem? (i := 0) rfl) (by decide +kernel) ?_
    refine xr_getR (o := 1) rfl fl_Tape_9 rfl (by decide +kernel) ?_
    show sh_X g (d + 1) m_Tape_readSign _ _ ((sh_r 3) :: _) _ _
    refine xr_aload_n (n := 0) (i := 0) rfl (List.mem_of_getElem? (i := 0) rfl) (by decide +kernel) ?_
    refine xr_getI rfl fl_Tape_25 (by decide) (by decide +kernel) ?_
    obtain ⟨o, k⟩ := k
    refine xr_bald rfl o.1 o.2 (by decide +kernel) ?_
    refine xr_i2c (by decide +kernel) ?_
    show sh_X g (d + 1) m_Tape_readSign _ _ ((sh_i (i_2c (m1 3 ((m1 2 3)).toNat))) :: (sh_r (0 + 1000)) :: [(sh_r 2)]) _ _
    refine xr_callT (i := 0) (av := [(sh_i (i_2c (m1 3 ((m1 2 3)).toNat)))]) (by decide) rfl mo_Str_indexOf ml_Tape_70 im_Str_indexOf se_Str_indexOf rfl (Nat.le_of_ble_eq_true rfl) (by decide +kernel) (sh_mono k ?_)
    rintro rv m2 ⟨r1, rfl, k⟩
    show sh_X g (d + 1) m_Tape_readSign _ _ [(sh_i r1), (sh_r 2)] _ _
    refine xr_if_lt (a' := (i3 r1)) rfl (off := 15) (tgt := 66) (by decide) (by decide +kernel) ⟨fun c2 => ?_, fun c2 => ?_⟩
    · have k := k.1 c2
      refine xr_iconst (n := 0) (by decide +kernel) ?_
      refine xr_putI rfl pl_Tape_42 rfl (by decide +kernel) ?_
      have k := k _ rfl
      generalize hg_m3 : ms m2 2 (ru (m2 2) 2 0) = m3 at k ⊢
      exact xr_ret rfl (by decide +kernel) k
    · have k := k.2 c2
      refine xr_aload_n (n := 0) (i := 0) rfl (List.mem_of_getElem? (i := 0) rfl) (by decide +kernel) ?_
      refine xr_getR (o := 1) rfl fl_Tape_9 rfl (by decide +kernel) ?_
      show sh_X g (d + 1) m_Tape_readSign _ _ ((sh_r 3) :: _) _ _
      refine xr_aload_n (n := 0) (i := 0) rfl (List.mem_of_getElem? (i := 0) rfl) (by decide +kernel) ?_
      refine xr_getI rfl fl_Tape_25 (by decide) (by decide +kernel) ?_
      obtain ⟨o, k⟩ := k
      refine xr_bald rfl o.1 o.2 (by decide +kernel) ?_
      refine xr_goto (off := 4) (tgt := 67) (by decide) (by decide +kernel) ?_
      refine xr_putI rfl pl_Tape_42 rfl (by decide +kernel) ?_
      have k := k _ rfl
      generalize hg_m4 : ms m2 2 (ru (m2 2) 2 (m2 3 ((m2 2 3)).toNat)) = m4 at k ⊢
      exact xr_ret rfl (by decide +kernel) k
  · have k := k.2 c1
    refine xr_aload_n (n := 0) (i := 0) rfl (List.mem_of_getElem? (i := 0) rfl) (by decide +kernel) ?_
    refine xr_aload_n (n := 0) (i := 0) rfl (List.mem_of_getElem? (i := 0) rfl) (by decide +kernel) ?_
    refine xr_getI rfl fl_Tape_25 (by decide) (by decide +kernel) ?_
    refine xr_putI rfl pl_Tape_19 rfl (by decide +kernel) ?_
    have k := k _ rfl
    generalize hg_m5 : ms mem 2 (ru (mem 2) 4 (mem 2 3)) = m5 at k ⊢
    refine xr_aload_n (n := 0) (i := 0) rfl (List.mem_of_getElem? (i := 0) rfl) (by decide +kernel) ?_
    refine xr_iconst (n := 3) (by decide +kernel) ?_
    refine xr_putI rfl pl_Tape_42 rfl (by decide +kernel) ?_
    have k := k _ rfl
    generalize hg_m6 : ms m5 2 (ru (m5 2) 2 3) = m6 at k ⊢
    exact xr_ret rfl (by decide +kernel) k

theorem v_Tape_numberAmong {g : sh_G} {d : Nat} {ww : Nat}  {mem : sh_Mem} {Q : Option sh_V → sh_Mem → Prop} (hstr_ww : ww < sh_nS) (k : sh_X g (d + 1) m_Tape_numberAmong 7 [(0, (sh_r 2)), (1, (sh_r (ww + 1000))), (2, (sh_i 0)), (3, (sh_l 0)), (5, (sh_i 0))] [] mem (sh_K m_Tape_numberAmong Q)) : sh_Cal g (d + 1) m_Tape_numberAmong [(sh_r 2), (sh_r (ww + 1000))] mem Q := by
  refine sh_met (by decide +kernel) (Nat.le_of_ble_eq_true rfl) (lo := [(0, (sh_r 2)), (1, (sh_r (ww + 1000)))]) rfl ?_
  refine xr_iconst (n := 0) (by decide +kernel) ?_
  refine xr_istore_n (n := 2) (i := 2) rfl (by decide) rfl (by decide +kernel) ?_
  refine xr_lconst (n := 0) (v := 0) (by decide) (by decide +kernel) ?_
  refine xr_lstore_n (n := 3) (i := 3) rfl (by decide) rfl (by decide +kernel) ?_
  refine xr_iconst (n := 0) (by decide +kernel) ?_
  refine xr_istore (i := 5) (by decide) rfl (by decide +kernel) ?_
  refine xr_sub (lo' := [(0, (sh_r 2)), (1, (sh_r (ww + 1000))), (2, (sh_i 0)), (3, (sh_l 0)), (5, (sh_i 0))]) [3, 4, 2, 1, 0] rfl ?_
  exact k
theorem v_Tape_numberAmong_7 {g : sh_G} {d : Nat} {ww : Nat}  {mem : sh_Mem} {Q : Option sh_V → sh_Mem → Prop} (hstr_ww : ww < sh_nS) {x2 : Nat} {x3 : Int} {x5 : Nat} (k : (sh_Cal g d m_Str_length [(sh_r (ww + 1000))] mem fun rv m1 => ∃ r1 : Int, rv = some (sh_i r1) ∧ (((i3 r1) ≤ (i3 (x5 : Int)) → Q (some (sh_i (-1))) m1) ∧ (¬ (i3 r1) ≤ (i3 (x5 : Int)) → (sh_Cal g d m_Str_charAt [(sh_r (ww + 1000)), (sh_i (x5 : Int))] m1 fun rv m2 => ∃ r2 : Int, rv = some (sh_i r2) ∧ (((i3 r2) = 32 → ((¬ (l_cmp x3 (m2 2 7)) = 0 → sh_X g (d + 1) m_Tape_numberAmong 7 [(0, (sh_r 2)), (1, (sh_r (ww + 1000))), (2, (sh_i (((x2 + 1) : Nat) : Int))), (3, (sh_l 0)), (5, (sh_i (((x5 + 1) : Nat) : Int)))] [] m2 (sh_K m_Tape_numberAmong Q)) ∧ ((l_cmp x3 (m2 2 7)) = 0 → Q (some (sh_i (x2 : Int))) m2))) ∧ (¬ (i3 r2) = 32 → sh_X g (d + 1) m_Tape_numberAmong 7 [(0, (sh_r 2)), (1, (sh_r (ww + 1000))), (2, (sh_i (x2 : Int))), (3, (sh_l ((x3 * 27) + (i_2l ((r2 - 97) + 1))))), (5, (sh_i (((x5 + 1) : Nat) : Int)))] [] m2 (sh_K m_Tape_numberAmong Q)))))))) : sh_X g (d + 1) m_Tape_numberAmong 7 [(0, (sh_r 2)), (1, (sh_r (ww + 1000))), (2, (sh_i (x2 : Int))), (3, (sh_l x3)), (5, (sh_i (x5 : Int)))] [] mem (sh_K m_Tape_numberAmong Q) := by
  refine xr_iload (i := 5) (List.mem_of_getElem? (i := 4) rfl) (by decide +kernel) ?_
  refine xr_aload_n (n := 1) (i := 1) rfl (List.mem_of_getElem? (i := 1) rfl) (by decide +kernel) ?_
  refine xr_callT (i := ww) (av := []) (hstr_ww) rfl mo_Str_length ml_Tape_76 im_Str_length se_Str_length rfl (Nat.le_of_ble_eq_true rfl) (by decide +kernel) (sh_mono k ?_)
  rintro rv m1 ⟨r1, rfl, k⟩
  show sh_X g (d + 1) m_Tape_numberAmong _ _ [(sh_i r1), (sh_i (x5 : Int))] _ _
  refine xr_icmp_ge (a' := (i3 (x5 : Int))) (b' := (i3 r1)) rfl rfl (off := 58) (tgt := 71) (by decide) (by decide +kernel) ⟨fun c1 => ?_, fun c1 => ?_⟩
  · have k := k.1 c1
    refine xr_iconst (n := (-1)) (by decide +kernel) ?_
    exact xr_iret rfl (by decide +kernel) k
  · have k := k.2 c1
    refine xr_aload_n (n := 1) (i := 1) rfl (List.mem_of_getElem? (i := 1) rfl) (by decide +kernel) ?_
    refine xr_iload (i := 5) (List.mem_of_getElem? (i := 4) rfl) (by decide +kernel) ?_
    refine xr_callT (i := ww) (av := [(sh_i (x5 : Int))]) (hstr_ww) rfl mo_Str_charAt ml_Tape_79 im_Str_charAt se_Str_charAt rfl (Nat.le_of_ble_eq_true rfl) (by decide +kernel) (sh_mono k ?_)
    rintro rv m2 ⟨r2, rfl, k⟩
    show sh_X g (d + 1) m_Tape_numberAmong _ _ [(sh_i r2)] _ _
    refine xr_istore (i := 6) (by decide) rfl (by decide +kernel) ?_
    refine xr_iload (i := 6) (List.mem_of_getElem? (i := 0) rfl) (by decide +kernel) ?_
    refine xr_bipush (n := 32) (v := 32) (by decide) (by decide +kernel) ?_
    refine xr_icmp_eq (a' := (i3 r2)) (b' := 32) rfl (by decide) (off := 21) (tgt := 49) (by decide) (by decide +kernel) ⟨fun c2 => ?_, fun c2 => ?_⟩
    · have k := k.1 c2
      refine xr_lload_n (n := 3) (i := 3) rfl (List.mem_of_getElem? (i := 4) rfl) (by decide +kernel) ?_
      refine xr_aload_n (n := 0) (i := 0) rfl (List.mem_of_getElem? (i := 1) rfl) (by decide +kernel) ?_
      refine xr_getL rfl fl_Tape_59 (by decide) (by decide +kernel) ?_
      refine xr_lcmp (by decide +kernel) ?_
      refine xr_if_ne (a' := (l_cmp x3 (m2 2 7))) (i3_nrm _) (off := 5) (tgt := 60) (by decide) (by decide +kernel) ⟨fun c3 => ?_, fun c3 => ?_⟩
      · have k := k.1 c3
        refine xr_iinc (n := 1) (lo' := [(2, (sh_i (((x2 + 1) : Nat) : Int))), (6, (sh_i r2)), (0, (sh_r 2)), (1, (sh_r (ww + 1000))), (3, (sh_l x3)), (5, (sh_i (x5 : Int)))]) (List.mem_of_getElem? (i := 3) rfl) (by decide) rfl (by decide +kernel) ?_
        refine xr_lconst (n := 0) (v := 0) (by decide) (by decide +kernel) ?_
        refine xr_lstore_n (n := 3) (i := 3) rfl (by decide) rfl (by decide +kernel) ?_
        refine xr_iinc (n := 1) (lo' := [(5, (sh_i (((x5 + 1) : Nat) : Int))), (3, (sh_l 0)), (2, (sh_i (((x2 + 1) : Nat) : Int))), (6, (sh_i r2)), (0, (sh_r 2)), (1, (sh_r (ww + 1000)))]) (List.mem_of_getElem? (i := 5) rfl) (by decide) rfl (by decide +kernel) ?_
        refine xr_goto (off := (-61)) (tgt := 7) (by decide) (by decide +kernel) ?_
        refine xr_sub (lo' := [(0, (sh_r 2)), (1, (sh_r (ww + 1000))), (2, (sh_i (((x2 + 1) : Nat) : Int))), (3, (sh_l 0)), (5, (sh_i (((x5 + 1) : Nat) : Int)))]) [4, 5, 2, 1, 0] rfl ?_
        exact k
      · have k := k.2 c3
        refine xr_iload_n (n := 2) (i := 2) rfl (List.mem_of_getElem? (i := 3) rfl) (by decide +kernel) ?_
        exact xr_iret rfl (by decide +kernel) k
    · have k := k.2 c2
      refine xr_lload_n (n := 3) (i := 3) rfl (List.mem_of_getElem? (i := 4) rfl) (by decide +kernel) ?_
      refine xr_ldc2 (v := 27) (by decide) kl_Tape_63 (by decide +kernel) ?_
      refine xr_lmul (by decide +kernel) ?_
      show sh_X g (d + 1) m_Tape_numberAmong _ _ ((sh_l (x3 * 27)) :: _) _ _
      refine xr_iload (i := 6) (List.mem_of_getElem? (i := 0) rfl) (by decide +kernel) ?_
      refine xr_bipush (n := 97) (v := 97) (by decide) (by decide +kernel) ?_
      refine xr_isub (by decide +kernel) ?_
      show sh_X g (d + 1) m_Tape_numberAmong _ _ ((sh_i (r2 - 97)) :: _) _ _
      refine xr_iconst (n := 1) (by decide +kernel) ?_
      refine xr_iadd (by decide +kernel) ?_
      show sh_X g (d + 1) m_Tape_numberAmong _ _ ((sh_i ((r2 - 97) + 1)) :: _) _ _
      refine xr_i2l (by decide +kernel) ?_
      refine xr_ladd (by decide +kernel) ?_
      show sh_X g (d + 1) m_Tape_numberAmong _ _ ((sh_l ((x3 * 27) + (i_2l ((r2 - 97) + 1)))) :: _) _ _
      refine xr_lstore_n (n := 3) (i := 3) rfl (by decide) rfl (by decide +kernel) ?_
      refine xr_goto (off := 19) (tgt := 65) (by decide) (by decide +kernel) ?_
      refine xr_iinc (n := 1) (lo' := [(5, (sh_i (((x5 + 1) : Nat) : Int))), (3, (sh_l ((x3 * 27) + (i_2l ((r2 - 97) + 1))))), (6, (sh_i r2)), (0, (sh_r 2)), (1, (sh_r (ww + 1000))), (2, (sh_i (x2 : Int)))]) (List.mem_of_getElem? (i := 5) rfl) (by decide) rfl (by decide +kernel) ?_
      refine xr_goto (off := (-61)) (tgt := 7) (by decide) (by decide +kernel) ?_
      refine xr_sub (lo' := [(0, (sh_r 2)), (1, (sh_r (ww + 1000))), (2, (sh_i (x2 : Int))), (3, (sh_l ((x3 * 27) + (i_2l ((r2 - 97) + 1))))), (5, (sh_i (((x5 + 1) : Nat) : Int)))]) [3, 4, 5, 1, 0] rfl ?_
      exact k

theorem v_Tape_isName {g : sh_G} {d : Nat}   {mem : sh_Mem} {Q : Option sh_V → sh_Mem → Prop}  (k : ((¬ (i3 (mem 2 2)) = 1 → Q (some (sh_i 0)) mem) ∧ ((i3 (mem 2 2)) = 1 → ((¬ (i3 (mem 2 5)) = (-1) → Q (some (sh_i 0)) mem) ∧ ((i3 (mem 2 5)) = (-1) → Q (some (sh_i 1)) mem))))) : sh_Cal g d m_Tape_isName [(sh_r 2)] mem Q := by
  refine sh_met (by decide +kernel) (Nat.le_of_ble_eq_true rfl) (lo := [(0, (sh_r 2))]) rfl ?_
  refine xr_aload_n (n := 0) (i := 0) rfl (List.mem_of_getElem? (i := 0) rfl) (by decide +kernel) ?_
  refine xr_getI rfl fl_Tape_42 (by decide) (by decide +kernel) ?_
  refine xr_iconst (n := 1) (by decide +kernel) ?_
  refine xr_icmp_ne (a' := (i3 (mem 2 2))) (b' := 1) rfl (by decide) (off := 15) (tgt := 20) (by decide) (by decide +kernel) ⟨fun c1 => ?_, fun c1 => ?_⟩
  · have k := k.1 c1
    refine xr_iconst (n := 0) (by decide +kernel) ?_
    exact xr_zret rfl (by decide +kernel) (by decide) k
  · have k := k.2 c1
    refine xr_aload_n (n := 0) (i := 0) rfl (List.mem_of_getElem? (i := 0) rfl) (by decide +kernel) ?_
    refine xr_getI rfl fl_Tape_51 (by decide) (by decide +kernel) ?_
    refine xr_iconst (n := (-1)) (by decide +kernel) ?_
    refine xr_icmp_ne (a' := (i3 (mem 2 5))) (b' := (-1)) rfl (by decide) (off := 7) (tgt := 20) (by decide) (by decide +kernel) ⟨fun c2 => ?_, fun c2 => ?_⟩
    · have k := k.1 c2
      refine xr_iconst (n := 0) (by decide +kernel) ?_
      exact xr_zret rfl (by decide +kernel) (by decide) k
    · have k := k.2 c2
      refine xr_iconst (n := 1) (by decide +kernel) ?_
      refine xr_goto (off := 4) (tgt := 21) (by decide) (by decide +kernel) ?_
      exact xr_zret rfl (by decide +kernel) (by decide) k

theorem v_Read_readAlmanac {g : sh_G} {d : Nat} {B : Nat}  {mem : sh_Mem} {Q : Option sh_V → sh_Mem → Prop} (hB : ob0 B) (k : (sh_Cal g d m_Alm_clear [(sh_r B)] mem fun rv m1 => rv = none ∧ (∀ m2 : sh_Mem, m2 = ms m1 4 (ru (m1 4) 1 0) → (sh_Cal g d m_Tape_rewind [(sh_r 2)] m2 fun rv m3 => rv = none ∧ sh_X g (d + 1) m_Read_readAlmanac 20 [(0, (sh_r 4)), (1, (sh_r B)), (2, (sh_i 1)), (3, (sh_i 0))] [] m3 (sh_K m_Read_readAlmanac Q))))) : sh_Cal g (d + 1) m_Read_readAlmanac [(sh_r 4), (sh_r B)] mem Q := by
  refine sh_met (by decide +kernel) (Nat.le_of_ble_eq_true rfl) (lo := [(0, (sh_r 4)), (1, (sh_r B))]) rfl ?_
  refine xr_aload_n (n := 1) (i := 1) rfl (List.mem_of_getElem? (i := 1) rfl) (by decide +kernel) ?_
  refine xr_callV (av := []) (ob0_0 hB) rfl rfl mo_Alm_clear ml_Read_15 im_Alm_clear se_Alm_clear rfl (Nat.le_of_ble_eq_true rfl) (by decide +kernel) (sh_mono k ?_)
  rintro rv m1 ⟨rfl, k⟩
  show sh_X g (d + 1) m_Read_readAlmanac _ _ [] _ _
  refine xr_aload_n (n := 0) (i := 0) rfl (List.mem_of_getElem? (i := 0) rfl) (by decide +kernel) ?_
  refine xr_iconst (n := 0) (by decide +kernel) ?_
  refine xr_putI rfl pl_Read_20 rfl (by decide +kernel) ?_
  have k := k _ rfl
  generalize hg_m2 : ms m1 4 (ru (m1 4) 1 0) = m2 at k ⊢
  refine xr_aload_n (n := 0) (i := 0) rfl (List.mem_of_getElem? (i := 0) rfl) (by decide +kernel) ?_
  refine xr_getT rfl fl_Read_9 rfl (by decide +kernel) ?_
  refine xr_callV (av := []) rfl rfl rfl mo_Tape_rewind ml_Read_24 im_Tape_rewind se_Tape_rewind rfl (Nat.le_of_ble_eq_true rfl) (by decide +kernel) (sh_mono k ?_)
  rintro rv m3 ⟨rfl, k⟩
  show sh_X g (d + 1) m_Read_readAlmanac _ _ [] _ _
  refine xr_iconst (n := 1) (by decide +kernel) ?_
  refine xr_istore_n (n := 2) (i := 2) rfl (by decide) rfl (by decide +kernel) ?_
  refine xr_iconst (n := 0) (by decide +kernel) ?_
  refine xr_istore_n (n := 3) (i := 3) rfl (by decide) rfl (by decide +kernel) ?_
  refine xr_sub (lo' := [(0, (sh_r 4)), (1, (sh_r B)), (2, (sh_i 1)), (3, (sh_i 0))]) [2, 3, 1, 0] rfl ?_
  exact k
theorem v_Read_readAlmanac_20 {g : sh_G} {d : Nat} {B : Nat}  {mem : sh_Mem} {Q : Option sh_V → sh_Mem → Prop} (hB : ob0 B) {x2 : Int} {x3 : Nat} (k : ((1000 ≤ (i3 (x3 : Int)) → (sh_Cal g d m_Tape_clear [(sh_r 2)] mem fun rv m1 => rv = none ∧ Q (some (sh_i (m1 4 1))) m1)) ∧ (¬ 1000 ≤ (i3 (x3 : Int)) → (((i3 x2) = 0 → (sh_Cal g d m_Tape_clear [(sh_r 2)] mem fun rv m2 => rv = none ∧ Q (some (sh_i (m2 4 1))) m2)) ∧ (¬ (i3 x2) = 0 → (((i3 (mem 2 2)) = 3 → (sh_Cal g d m_Tape_clear [(sh_r 2)] mem fun rv m3 => rv = none ∧ Q (some (sh_i (m3 4 1))) m3)) ∧ (¬ (i3 (mem 2 2)) = 3 → (((i3 (mem 2 5)) = 0 → (sh_Cal g d m_Read_readDay [(sh_r 4), (sh_r B)] mem fun rv m4 => ∃ r1 : Int, rv = some (sh_i r1) ∧ sh_X g (d + 1) m_Read_readAlmanac 20 [(0, (sh_r 4)), (1, (sh_r B)), (2, (sh_i r1)), (3, (sh_i (((x3 + 1) : Nat) : Int)))] [] m4 (sh_K m_Read_readAlmanac Q))) ∧ (((i3 (mem 2 5)) = 1 → (sh_Cal g d m_Read_readThief [(sh_r 4), (sh_r B)] mem fun rv m5 => ∃ r2 : Int, rv = some (sh_i r2) ∧ sh_X g (d + 1) m_Read_readAlmanac 20 [(0, (sh_r 4)), (1, (sh_r B)), (2, (sh_i r2)), (3, (sh_i (((x3 + 1) : Nat) : Int)))] [] m5 (sh_K m_Read_readAlmanac Q))) ∧ (((i3 (mem 2 5)) = 2 → (sh_Cal g d m_Read_readPays [(sh_r 4), (sh_r B)] mem fun rv m6 => ∃ r3 : Int, rv = some (sh_i r3) ∧ sh_X g (d + 1) m_Read_readAlmanac 20 [(0, (sh_r 4)), (1, (sh_r B)), (2, (sh_i r3)), (3, (sh_i (((x3 + 1) : Nat) : Int)))] [] m6 (sh_K m_Read_readAlmanac Q))) ∧ (((i3 (mem 2 5)) < 0 ∨ 2 < (i3 (mem 2 5))) → (sh_Cal g d m_Read_refuse [(sh_r 4), (sh_i 1)] mem fun rv m7 => ∃ r4 : Int, rv = some (sh_i r4) ∧ sh_X g (d + 1) m_Read_readAlmanac 20 [(0, (sh_r 4)), (1, (sh_r B)), (2, (sh_i r4)), (3, (sh_i (((x3 + 1) : Nat) : Int)))] [] m7 (sh_K m_Read_readAlmanac Q))))))))))))) : sh_X g (d + 1) m_Read_readAlmanac 20 [(0, (sh_r 4)), (1, (sh_r B)), (2, (sh_i x2)), (3, (sh_i (x3 : Int)))] [] mem (sh_K m_Read_readAlmanac Q) := by
  refine xr_iload_n (n := 3) (i := 3) rfl (List.mem_of_getElem? (i := 3) rfl) (by decide +kernel) ?_
  refine xr_sipush (n := 1000) (v := 1000) (by decide) (by decide +kernel) ?_
  refine xr_icmp_ge (a' := (i3 (x3 : Int))) (b' := 1000) rfl (by decide) (off := 91) (tgt := 115) (by decide) (by decide +kernel) ⟨fun c1 => ?_, fun c1 => ?_⟩
  · have k := k.1 c1
    refine xr_aload_n (n := 0) (i := 0) rfl (List.mem_of_getElem? (i := 0) rfl) (by decide +kernel) ?_
    refine xr_getT rfl fl_Read_9 rfl (by decide +kernel) ?_
    refine xr_callV (av := []) rfl rfl rfl mo_Tape_clear ml_Read_49 im_Tape_clear se_Tape_clear rfl (Nat.le_of_ble_eq_true rfl) (by decide +kernel) (sh_mono k ?_)
    rintro rv m1 ⟨rfl, k⟩
    show sh_X g (d + 1) m_Read_readAlmanac _ _ [] _ _
    refine xr_aload_n (n := 0) (i := 0) rfl (List.mem_of_getElem? (i := 0) rfl) (by decide +kernel) ?_
    refine xr_getI rfl fl_Read_20 (by decide) (by decide +kernel) ?_
    exact xr_iret rfl (by decide +kernel) k
  · have k := k.2 c1
    refine xr_iload_n (n := 2) (i := 2) rfl (List.mem_of_getElem? (i := 2) rfl) (by decide +kernel) ?_
    refine xr_if_eq (a' := (i3 x2)) rfl (off := 87) (tgt := 115) (by decide) (by decide +kernel) ⟨fun c2 => ?_, fun c2 => ?_⟩
    · have k := k.1 c2
      refine xr_aload_n (n := 0) (i := 0) rfl (List.mem_of_getElem? (i := 0) rfl) (by decide +kernel) ?_
      refine xr_getT rfl fl_Read_9 rfl (by decide +kernel) ?_
      refine xr_callV (av := []) rfl rfl rfl mo_Tape_clear ml_Read_49 im_Tape_clear se_Tape_clear rfl (Nat.le_of_ble_eq_true rfl) (by decide +kernel) (sh_mono k ?_)
      rintro rv m2 ⟨rfl, k⟩
      show sh_X g (d + 1) m_Read_readAlmanac _ _ [] _ _
      refine xr_aload_n (n := 0) (i := 0) rfl (List.mem_of_getElem? (i := 0) rfl) (by decide +kernel) ?_
      refine xr_getI rfl fl_Read_20 (by decide) (by decide +kernel) ?_
      exact xr_iret rfl (by decide +kernel) k
    · have k := k.2 c2
      refine xr_aload_n (n := 0) (i := 0) rfl (List.mem_of_getElem? (i := 0) rfl) (by decide +kernel) ?_
      refine xr_getT rfl fl_Read_9 rfl (by decide +kernel) ?_
      refine xr_getI rfl fl_Read_29 (by decide) (by decide +kernel) ?_
      refine xr_iconst (n := 3) (by decide +kernel) ?_
      refine xr_icmp_eq (a' := (i3 (mem 2 2))) (b' := 3) rfl (by decide) (off := 76) (tgt := 115) (by decide) (by decide +kernel) ⟨fun c3 => ?_, fun c3 => ?_⟩
      · have k := k.1 c3
        refine xr_aload_n (n := 0) (i := 0) rfl (List.mem_of_getElem? (i := 0) rfl) (by decide +kernel) ?_
        refine xr_getT rfl fl_Read_9 rfl (by decide +kernel) ?_
        refine xr_callV (av := []) rfl rfl rfl mo_Tape_clear ml_Read_49 im_Tape_clear se_Tape_clear rfl (Nat.le_of_ble_eq_true rfl) (by decide +kernel) (sh_mono k ?_)
        rintro rv m3 ⟨rfl, k⟩
        show sh_X g (d + 1) m_Read_readAlmanac _ _ [] _ _
        refine xr_aload_n (n := 0) (i := 0) rfl (List.mem_of_getElem? (i := 0) rfl) (by decide +kernel) ?_
        refine xr_getI rfl fl_Read_20 (by decide) (by decide +kernel) ?_
        exact xr_iret rfl (by decide +kernel) k
      · have k := k.2 c3
        refine xr_aload_n (n := 0) (i := 0) rfl (List.mem_of_getElem? (i := 0) rfl) (by decide +kernel) ?_
        refine xr_getT rfl fl_Read_9 rfl (by decide +kernel) ?_
        refine xr_getI rfl fl_Read_32 (by decide) (by decide +kernel) ?_
        rcases (by omega : (i3 (mem 2 5)) = 0 ∨ (i3 (mem 2 5)) = 1 ∨ (i3 (mem 2 5)) = 2 ∨ ((i3 (mem 2 5)) < 0 ∨ 2 < (i3 (mem 2 5)))) with c4 | c4 | c4 | c4
        · have k := k.1 c4
          refine xr_tabIn (dflt := 54) (low := 0) (high := 2) (offs := #[27, 36, 45]) (len := 27) 0 c4 (by decide) (by decide) rfl (tgt := 76) (by decide) (by decide +kernel) ?_
          refine xr_aload_n (n := 0) (i := 0) rfl (List.mem_of_getElem? (i := 0) rfl) (by decide +kernel) ?_
          refine xr_aload_n (n := 1) (i := 1) rfl (List.mem_of_getElem? (i := 1) rfl) (by decide +kernel) ?_
          refine xr_callV (av := [(sh_r B)]) rfl rfl rfl mo_Read_readDay ml_Read_35 im_Read_readDay se_Read_readDay rfl (Nat.le_of_ble_eq_true rfl) (by decide +kernel) (sh_mono k ?_)
          rintro rv m4 ⟨r1, rfl, k⟩
          show sh_X g (d + 1) m_Read_readAlmanac _ _ [(sh_i r1)] _ _
          refine xr_istore_n (n := 2) (i := 2) rfl (by decide) rfl (by decide +kernel) ?_
          refine xr_goto (off := 27) (tgt := 109) (by decide) (by decide +kernel) ?_
          refine xr_iinc (n := 1) (lo' := [(3, (sh_i (((x3 + 1) : Nat) : Int))), (2, (sh_i r1)), (0, (sh_r 4)), (1, (sh_r B))]) (List.mem_of_getElem? (i := 3) rfl) (by decide) rfl (by decide +kernel) ?_
          refine xr_goto (off := (-92)) (tgt := 20) (by decide) (by decide +kernel) ?_
          refine xr_sub (lo' := [(0, (sh_r 4)), (1, (sh_r B)), (2, (sh_i r1)), (3, (sh_i (((x3 + 1) : Nat) : Int)))]) [2, 3, 1, 0] rfl ?_
          exact k
        · have k := k.2.1 c4
          refine xr_tabIn (dflt := 54) (low := 0) (high := 2) (offs := #[27, 36, 45]) (len := 27) 1 c4 (by decide) (by decide) rfl (tgt := 85) (by decide) (by decide +kernel) ?_
          refine xr_aload_n (n := 0) (i := 0) rfl (List.mem_of_getElem? (i := 0) rfl) (by decide +kernel) ?_
          refine xr_aload_n (n := 1) (i := 1) rfl (List.mem_of_getElem? (i := 1) rfl) (by decide +kernel) ?_
          refine xr_callV (av := [(sh_r B)]) rfl rfl rfl mo_Read_readThief ml_Read_39 im_Read_readThief se_Read_readThief rfl (Nat.le_of_ble_eq_true rfl) (by decide +kernel) (sh_mono k ?_)
          rintro rv m5 ⟨r2, rfl, k⟩
          show sh_X g (d + 1) m_Read_readAlmanac _ _ [(sh_i r2)] _ _
          refine xr_istore_n (n := 2) (i := 2) rfl (by decide) rfl (by decide +kernel) ?_
          refine xr_goto (off := 18) (tgt := 109) (by decide) (by decide +kernel) ?_
          refine xr_iinc (n := 1) (lo' := [(3, (sh_i (((x3 + 1) : Nat) : Int))), (2, (sh_i r2)), (0, (sh_r 4)), (1, (sh_r B))]) (List.mem_of_getElem? (i := 3) rfl) (by decide) rfl (by decide +kernel) ?_
          refine xr_goto (off := (-92)) (tgt := 20) (by decide) (by decide +kernel) ?_
          refine xr_sub (lo' := [(0, (sh_r 4)), (1, (sh_r B)), (2, (sh_i r2)), (3, (sh_i (((x3 + 1) : Nat) : Int)))]) [2, 3, 1, 0] rfl ?_
          exact k
        · have k := k.2.2.1 c4
          refine xr_tabIn (dflt := 54) (low := 0) (high := 2) (offs := #[27, 36, 45]) (len := 27) 2 c4 (by decide) (by decide) rfl (tgt := 94) (by decide) (by decide +kernel) ?_
          refine xr_aload_n (n := 0) (i := 0) rfl (List.mem_of_getElem? (i := 0) rfl) (by decide +kernel) ?_
          refine xr_aload_n (n := 1) (i := 1) rfl (List.mem_of_getElem? (i := 1) rfl) (by decide +kernel) ?_
          refine xr_callV (av := [(sh_r B)]) rfl rfl rfl mo_Read_readPays ml_Read_42 im_Read_readPays se_Read_readPays rfl (Nat.le_of_ble_eq_true rfl) (by decide +kernel) (sh_mono k ?_)
          rintro rv m6 ⟨r3, rfl, k⟩
          show sh_X g (d + 1) m_Read_readAlmanac _ _ [(sh_i r3)] _ _
          refine xr_istore_n (n := 2) (i := 2) rfl (by decide) rfl (by decide +kernel) ?_
          refine xr_goto (off := 9) (tgt := 109) (by decide) (by decide +kernel) ?_
          refine xr_iinc (n := 1) (lo' := [(3, (sh_i (((x3 + 1) : Nat) : Int))), (2, (sh_i r3)), (0, (sh_r 4)), (1, (sh_r B))]) (List.mem_of_getElem? (i := 3) rfl) (by decide) rfl (by decide +kernel) ?_
          refine xr_goto (off := (-92)) (tgt := 20) (by decide) (by decide +kernel) ?_
          refine xr_sub (lo' := [(0, (sh_r 4)), (1, (sh_r B)), (2, (sh_i r3)), (3, (sh_i (((x3 + 1) : Nat) : Int)))]) [2, 3, 1, 0] rfl ?_
          exact k
        · have k := k.2.2.2 c4
          refine xr_tabOut (dflt := 54) (low := 0) (high := 2) (offs := #[27, 36, 45]) (len := 27) c4 (tgt := 103) (by decide) (by decide +kernel) ?_
          refine xr_aload_n (n := 0) (i := 0) rfl (List.mem_of_getElem? (i := 0) rfl) (by decide +kernel) ?_
          refine xr_iconst (n := 1) (by decide +kernel) ?_
          refine xr_callV (av := [(sh_i 1)]) rfl rfl rfl mo_Read_refuse ml_Read_45 im_Read_refuse se_Read_refuse rfl (Nat.le_of_ble_eq_true rfl) (by decide +kernel) (sh_mono k ?_)
          rintro rv m7 ⟨r4, rfl, k⟩
          show sh_X g (d + 1) m_Read_readAlmanac _ _ [(sh_i r4)] _ _
          refine xr_istore_n (n := 2) (i := 2) rfl (by decide) rfl (by decide +kernel) ?_
          refine xr_iinc (n := 1) (lo' := [(3, (sh_i (((x3 + 1) : Nat) : Int))), (2, (sh_i r4)), (0, (sh_r 4)), (1, (sh_r B))]) (List.mem_of_getElem? (i := 3) rfl) (by decide) rfl (by decide +kernel) ?_
          refine xr_goto (off := (-92)) (tgt := 20) (by decide) (by decide +kernel) ?_
          refine xr_sub (lo' := [(0, (sh_r 4)), (1, (sh_r B)), (2, (sh_i r4)), (3, (sh_i (((x3 + 1) : Nat) : Int)))]) [2, 3, 1, 0] rfl ?_
          exact k

theorem v_Read_readYear {g : sh_G} {d : Nat} {Y : Nat} {B : Nat}  {mem : sh_Mem} {Q : Option sh_V → sh_Mem → Prop} (hY : ob10 Y) (hB : ob0 B) (k : (∀ m1 : sh_Mem, m1 = ms mem Y (ru (mem Y) 0 0) → (∀ m2 : sh_Mem, m2 = ms m1 4 (ru (m1 4) 1 0) → (sh_Cal g d m_Tape_rewind [(sh_r 2)] m2 fun rv m3 => rv = none ∧ sh_X g (d + 1) m_Read_readYear 22 [(0, (sh_r 4)), (1, (sh_r Y)), (2, (sh_r B)), (3, (sh_i 1)), (4, (sh_i 0))] [] m3 (sh_K m_Read_readYear Q))))) : sh_Cal g (d + 1) m_Read_readYear [(sh_r 4), (sh_r Y), (sh_r B)] mem Q := by
  refine sh_met (by decide +kernel) (Nat.le_of_ble_eq_true rfl) (lo := [(0, (sh_r 4)), (1, (sh_r Y)), (2, (sh_r B))]) rfl ?_
  refine xr_aload_n (n := 1) (i := 1) rfl (List.mem_of_getElem? (i := 1) rfl) (by decide +kernel) ?_
  refine xr_iconst (n := 0) (by decide +kernel) ?_
  refine xr_putI (ob10_0 hY) pl_Read_50 rfl (by decide +kernel) ?_
  have k := k _ rfl
  generalize hg_m1 : ms mem Y (ru (mem Y) 0 0) = m1 at k ⊢
  refine xr_aload_n (n := 0) (i := 0) rfl (List.mem_of_getElem? (i := 0) rfl) (by decide +kernel) ?_
  refine xr_iconst (n := 0) (by decide +kernel) ?_
  refine xr_putI rfl pl_Read_20 rfl (by decide +kernel) ?_
  have k := k _ rfl
  generalize hg_m2 : ms m1 4 (ru (m1 4) 1 0) = m2 at k ⊢
  refine xr_aload_n (n := 0) (i := 0) rfl (List.mem_of_getElem? (i := 0) rfl) (by decide +kernel) ?_
  refine xr_getT rfl fl_Read_9 rfl (by decide +kernel) ?_
  refine xr_callV (av := []) rfl rfl rfl mo_Tape_rewind ml_Read_24 im_Tape_rewind se_Tape_rewind rfl (Nat.le_of_ble_eq_true rfl) (by decide +kernel) (sh_mono k ?_)
  rintro rv m3 ⟨rfl, k⟩
  show sh_X g (d + 1) m_Read_readYear _ _ [] _ _
  refine xr_iconst (n := 1) (by decide +kernel) ?_
  refine xr_istore_n (n := 3) (i := 3) rfl (by decide) rfl (by decide +kernel) ?_
  refine xr_iconst (n := 0) (by decide +kernel) ?_
  refine xr_istore (i := 4) (by decide) rfl (by decide +kernel) ?_
  refine xr_sub (lo' := [(0, (sh_r 4)), (1, (sh_r Y)), (2, (sh_r B)), (3, (sh_i 1)), (4, (sh_i 0))]) [2, 3, 4, 1, 0] rfl ?_
  exact k
theorem v_Read_readYear_22 {g : sh_G} {d : Nat} {Y : Nat} {B : Nat}  {mem : sh_Mem} {Q : Option sh_V → sh_Mem → Prop} (hY : ob10 Y) (hB : ob0 B) {x3 : Int} {x4 : Nat} (k : ((1000 ≤ (i3 (x4 : Int)) → (sh_Cal g d m_Tape_clear [(sh_r 2)] mem fun rv m1 => rv = none ∧ Q (some (sh_i (m1 4 1))) m1)) ∧ (¬ 1000 ≤ (i3 (x4 : Int)) → (((i3 x3) = 0 → (sh_Cal g d m_Tape_clear [(sh_r 2)] mem fun rv m2 => rv = none ∧ Q (some (sh_i (m2 4 1))) m2)) ∧ (¬ (i3 x3) = 0 → (((i3 (mem 2 2)) = 3 → (sh_Cal g d m_Tape_clear [(sh_r 2)] mem fun rv m3 => rv = none ∧ Q (some (sh_i (m3 4 1))) m3)) ∧ (¬ (i3 (mem 2 2)) = 3 → (sh_Cal g d m_Read_readLine [(sh_r 4), (sh_r Y), (sh_r B)] mem fun rv m4 => ∃ r1 : Int, rv = some (sh_i r1) ∧ sh_X g (d + 1) m_Read_readYear 22 [(0, (sh_r 4)), (1, (sh_r Y)), (2, (sh_r B)), (3, (sh_i r1)), (4, (sh_i (((x4 + 1) : Nat) : Int)))] [] m4 (sh_K m_Read_readYear Q))))))))) : sh_X g (d + 1) m_Read_readYear 22 [(0, (sh_r 4)), (1, (sh_r Y)), (2, (sh_r B)), (3, (sh_i x3)), (4, (sh_i (x4 : Int)))] [] mem (sh_K m_Read_readYear Q) := by
  refine xr_iload (i := 4) (List.mem_of_getElem? (i := 4) rfl) (by decide +kernel) ?_
  refine xr_sipush (n := 1000) (v := 1000) (by decide) (by decide +kernel) ?_
  refine xr_icmp_ge (a' := (i3 (x4 : Int))) (b' := 1000) rfl (by decide) (off := 31) (tgt := 58) (by decide) (by decide +kernel) ⟨fun c1 => ?_, fun c1 => ?_⟩
  · have k := k.1 c1
    refine xr_aload_n (n := 0) (i := 0) rfl (List.mem_of_getElem? (i := 0) rfl) (by decide +kernel) ?_
    refine xr_getT rfl fl_Read_9 rfl (by decide +kernel) ?_
    refine xr_callV (av := []) rfl rfl rfl mo_Tape_clear ml_Read_49 im_Tape_clear se_Tape_clear rfl (Nat.le_of_ble_eq_true rfl) (by decide +kernel) (sh_mono k ?_)
    rintro rv m1 ⟨rfl, k⟩
    show sh_X g (d + 1) m_Read_readYear _ _ [] _ _
    refine xr_aload_n (n := 0) (i := 0) rfl (List.mem_of_getElem? (i := 0) rfl) (by decide +kernel) ?_
    refine xr_getI rfl fl_Read_20 (by decide) (by decide +kernel) ?_
    exact xr_iret rfl (by decide +kernel) k
  · have k := k.2 c1
    refine xr_iload_n (n := 3) (i := 3) rfl (List.mem_of_getElem? (i := 3) rfl) (by decide +kernel) ?_
    refine xr_if_eq (a' := (i3 x3)) rfl (off := 27) (tgt := 58) (by decide) (by decide +kernel) ⟨fun c2 => ?_, fun c2 => ?_⟩
    · have k := k.1 c2
      refine xr_aload_n (n := 0) (i := 0) rfl (List.mem_of_getElem? (i := 0) rfl) (by decide +kernel) ?_
      refine xr_getT rfl fl_Read_9 rfl (by decide +kernel) ?_
      refine xr_callV (av := []) rfl rfl rfl mo_Tape_clear ml_Read_49 im_Tape_clear se_Tape_clear rfl (Nat.le_of_ble_eq_true rfl) (by decide +kernel) (sh_mono k ?_)
      rintro rv m2 ⟨rfl, k⟩
      show sh_X g (d + 1) m_Read_readYear _ _ [] _ _
      refine xr_aload_n (n := 0) (i := 0) rfl (List.mem_of_getElem? (i := 0) rfl) (by decide +kernel) ?_
      refine xr_getI rfl fl_Read_20 (by decide) (by decide +kernel) ?_
      exact xr_iret rfl (by decide +kernel) k
    · have k := k.2 c2
      refine xr_aload_n (n := 0) (i := 0) rfl (List.mem_of_getElem? (i := 0) rfl) (by decide +kernel) ?_
      refine xr_getT rfl fl_Read_9 rfl (by decide +kernel) ?_
      refine xr_getI rfl fl_Read_29 (by decide) (by decide +kernel) ?_
      refine xr_iconst (n := 3) (by decide +kernel) ?_
      refine xr_icmp_eq (a' := (i3 (mem 2 2))) (b' := 3) rfl (by decide) (off := 16) (tgt := 58) (by decide) (by decide +kernel) ⟨fun c3 => ?_, fun c3 => ?_⟩
      · have k := k.1 c3
        refine xr_aload_n (n := 0) (i := 0) rfl (List.mem_of_getElem? (i := 0) rfl) (by decide +kernel) ?_
        refine xr_getT rfl fl_Read_9 rfl (by decide +kernel) ?_
        refine xr_callV (av := []) rfl rfl rfl mo_Tape_clear ml_Read_49 im_Tape_clear se_Tape_clear rfl (Nat.le_of_ble_eq_true rfl) (by decide +kernel) (sh_mono k ?_)
        rintro rv m3 ⟨rfl, k⟩
        show sh_X g (d + 1) m_Read_readYear _ _ [] _ _
        refine xr_aload_n (n := 0) (i := 0) rfl (List.mem_of_getElem? (i := 0) rfl) (by decide +kernel) ?_
        refine xr_getI rfl fl_Read_20 (by decide) (by decide +kernel) ?_
        exact xr_iret rfl (by decide +kernel) k
      · have k := k.2 c3
        refine xr_aload_n (n := 0) (i := 0) rfl (List.mem_of_getElem? (i := 0) rfl) (by decide +kernel) ?_
        refine xr_aload_n (n := 1) (i := 1) rfl (List.mem_of_getElem? (i := 1) rfl) (by decide +kernel) ?_
        refine xr_aload_n (n := 2) (i := 2) rfl (List.mem_of_getElem? (i := 2) rfl) (by decide +kernel) ?_
        refine xr_callV (av := [(sh_r Y), (sh_r B)]) rfl rfl rfl mo_Read_readLine ml_Read_55 im_Read_readLine se_Read_readLine rfl (Nat.le_of_ble_eq_true rfl) (by decide +kernel) (sh_mono k ?_)
        rintro rv m4 ⟨r1, rfl, k⟩
        show sh_X g (d + 1) m_Read_readYear _ _ [(sh_i r1)] _ _
        refine xr_istore_n (n := 3) (i := 3) rfl (by decide) rfl (by decide +kernel) ?_
        refine xr_iinc (n := 1) (lo' := [(4, (sh_i (((x4 + 1) : Nat) : Int))), (3, (sh_i r1)), (0, (sh_r 4)), (1, (sh_r Y)), (2, (sh_r B))]) (List.mem_of_getElem? (i := 4) rfl) (by decide) rfl (by decide +kernel) ?_
        refine xr_goto (off := (-33)) (tgt := 22) (by decide) (by decide +kernel) ?_
        refine xr_sub (lo' := [(0, (sh_r 4)), (1, (sh_r Y)), (2, (sh_r B)), (3, (sh_i r1)), (4, (sh_i (((x4 + 1) : Nat) : Int)))]) [2, 3, 4, 1, 0] rfl ?_
        exact k

theorem v_Read_readDay {g : sh_G} {d : Nat} {B : Nat}  {mem : sh_Mem} {Q : Option sh_V → sh_Mem → Prop} (hB : ob0 B) (k : (((i3 (mem B 0)) < 8 → (sh_Cal g d m_Tape_step [(sh_r 2)] mem fun rv m1 => rv = none ∧ (sh_Cal g d m_Read_isNewName [(sh_r 4), (sh_r B)] m1 fun rv m2 => ∃ r1 : Int, rv = some (sh_i r1) ∧ ((¬ (i3 r1) = 0 → ((0 ≤ (mem B 0) ∧ (mem B 0) < 8) ∧ (∀ m3 : sh_Mem, m3 = ms m2 (B + 1) (ru (m2 (B + 1)) ((mem B 0)).toNat (m2 2 7)) → (sh_Cal g d m_Tape_step [(sh_r 2)] m3 fun rv m4 => rv = none ∧ (sh_Cal g d m_Sto_isWithin [(sh_i ((m4 2 5) - 12)), (sh_i 0), (sh_i 3)] m4 fun rv m5 => ∃ r2 : Int, rv = some (sh_i r2) ∧ ((¬ (i3 r2) = 0 → ((0 ≤ (mem B 0) ∧ (mem B 0) < 8) ∧ (∀ m6 : sh_Mem, m6 = ms m5 (B + 2) (ru (m5 (B + 2)) ((mem B 0)).toNat ((m4 2 5) - 12)) → (sh_Cal g d m_Tape_step [(sh_r 2)] m6 fun rv m7 => rv = none ∧ (sh_Cal g d m_Read_takeNumber [(sh_r 4), (sh_i 3), (sh_i 1), (sh_i 24)] m7 fun rv m8 => ∃ r3 : Int, rv = some (sh_i r3) ∧ ((¬ (i3 r3) = 0 → ((0 ≤ (mem B 0) ∧ (mem B 0) < 8) ∧ (∀ m9 : sh_Mem, m9 = ms m8 (B + 3) (ru (m8 (B + 3)) ((mem B 0)).toNat (m8 4 2)) → (sh_Cal g d m_Read_takeNumber [(sh_r 4), (sh_i 4), (sh_i 0), (sh_i 9)] m9 fun rv m10 => ∃ r4 : Int, rv = some (sh_i r4) ∧ ((¬ (i3 r4) = 0 → ((0 ≤ (mem B 0) ∧ (mem B 0) < 8) ∧ (∀ m11 : sh_Mem, m11 = ms m10 (B + 4) (ru (m10 (B + 4)) ((mem B 0)).toNat (m10 4 2)) → (∀ m12 : sh_Mem, m12 = ms m11 B (ru (m11 B) 0 ((m11 B 0) + 1)) → (sh_Cal g d m_Read_takeSign [(sh_r 4), (sh_i 59)] m12 fun rv m13 => ∃ r5 : Int, rv = some (sh_i r5) ∧ ((r5 = 0 ∨ r5 = 1) ∧ Q (some (sh_i r5)) m13)))))) ∧ ((i3 r4) = 0 → Q (some (sh_i 0)) m10)))))) ∧ ((i3 r3) = 0 → Q (some (sh_i 0)) m8))))))) ∧ ((i3 r2) = 0 → (sh_Cal g d m_Read_refuse [(sh_r 4), (sh_i 1)] m5 fun rv m14 => ∃ r6 : Int, rv = some (sh_i r6) ∧ ((r6 = 0 ∨ r6 = 1) ∧ Q (some (sh_i r6)) m14))))))))) ∧ ((i3 r1) = 0 → Q (some (sh_i 0)) m2))))) ∧ (¬ (i3 (mem B 0)) < 8 → (sh_Cal g d m_Read_refuse [(sh_r 4), (sh_i 5)] mem fun rv m15 => ∃ r7 : Int, rv = some (sh_i r7) ∧ ((r7 = 0 ∨ r7 = 1) ∧ Q (some (sh_i r7)) m15))))) : sh_Cal g (d + 1) m_Read_readDay [(sh_r 4), (sh_r B)] mem Q := by
  refine sh_met (by decide +kernel) (Nat.le_of_ble_eq_true rfl) (lo := [(0, (sh_r 4)), (1, (sh_r B))]) rfl ?_
  refine xr_aload_n (n := 1) (i := 1) rfl (List.mem_of_getElem? (i := 1) rfl) (by decide +kernel) ?_
  refine xr_getI (ob0_0 hB) fl_Read_59 (by decide) (by decide +kernel) ?_
  refine xr_istore_n (n := 2) (i := 2) rfl (by decide) rfl (by decide +kernel) ?_
  refine xr_iload_n (n := 2) (i := 2) rfl (List.mem_of_getElem? (i := 0) rfl) (by decide +kernel) ?_
  refine xr_bipush (n := 8) (v := 8) (by decide) (by decide +kernel) ?_
  refine xr_icmp_lt (a' := (i3 (mem B 0))) (b' := 8) rfl (by decide) (off := 9) (tgt := 17) (by decide) (by decide +kernel) ⟨fun c1 => ?_, fun c1 => ?_⟩
  · have k := k.1 c1
    refine xr_aload_n (n := 0) (i := 0) rfl (List.mem_of_getElem? (i := 1) rfl) (by decide +kernel) ?_
    refine xr_getT rfl fl_Read_9 rfl (by decide +kernel) ?_
    refine xr_callV (av := []) rfl rfl rfl mo_Tape_step ml_Read_62 im_Tape_step se_Tape_step rfl (Nat.le_of_ble_eq_true rfl) (by decide +kernel) (sh_mono k ?_)
    rintro rv m1 ⟨rfl, k⟩
    show sh_X g (d + 1) m_Read_readDay _ _ [] _ _
    refine xr_aload_n (n := 0) (i := 0) rfl (List.mem_of_getElem? (i := 1) rfl) (by decide +kernel) ?_
    refine xr_aload_n (n := 1) (i := 1) rfl (List.mem_of_getElem? (i := 2) rfl) (by decide +kernel) ?_
    refine xr_callV (av := [(sh_r B)]) rfl rfl rfl mo_Read_isNewName ml_Read_65 im_Read_isNewName se_Read_isNewName rfl (Nat.le_of_ble_eq_true rfl) (by decide +kernel) (sh_mono k ?_)
    rintro rv m2 ⟨r1, rfl, k⟩
    show sh_X g (d + 1) m_Read_readDay _ _ [(sh_i r1)] _ _
    refine xr_if_ne (a' := (i3 r1)) rfl (off := 5) (tgt := 34) (by decide) (by decide +kernel) ⟨fun c2 => ?_, fun c2 => ?_⟩
    · have k := k.1 c2
      refine xr_aload_n (n := 1) (i := 1) rfl (List.mem_of_getElem? (i := 2) rfl) (by decide +kernel) ?_
      refine xr_getR (o := 1) (ob0_0 hB) fl_Read_68 rfl (by decide +kernel) ?_
      show sh_X g (d + 1) m_Read_readDay _ _ ((sh_r (B + 1)) :: _) _ _
      refine xr_iload_n (n := 2) (i := 2) rfl (List.mem_of_getElem? (i := 0) rfl) (by decide +kernel) ?_
      refine xr_aload_n (n := 0) (i := 0) rfl (List.mem_of_getElem? (i := 1) rfl) (by decide +kernel) ?_
      refine xr_getT rfl fl_Read_9 rfl (by decide +kernel) ?_
      refine xr_getL rfl fl_Read_72 (by decide) (by decide +kernel) ?_
      have o9 := True.intro
      obtain ⟨o, k⟩ := k
      refine xr_last (ob0_1 hB) o.1 o.2 (by decide +kernel) ?_
      have k := k _ rfl
      generalize hg_m3 : ms m2 (B + 1) (ru (m2 (B + 1)) ((mem B 0)).toNat (m2 2 7)) = m3 at k ⊢
      refine xr_aload_n (n := 0) (i := 0) rfl (List.mem_of_getElem? (i := 1) rfl) (by decide +kernel) ?_
      refine xr_getT rfl fl_Read_9 rfl (by decide +kernel) ?_
      refine xr_callV (av := []) rfl rfl rfl mo_Tape_step ml_Read_62 im_Tape_step se_Tape_step rfl (Nat.le_of_ble_eq_true rfl) (by decide +kernel) (sh_mono k ?_)
      rintro rv m4 ⟨rfl, k⟩
      show sh_X g (d + 1) m_Read_readDay _ _ [] _ _
      refine xr_aload_n (n := 0) (i := 0) rfl (List.mem_of_getElem? (i := 1) rfl) (by decide +kernel) ?_
      refine xr_getT rfl fl_Read_9 rfl (by decide +kernel) ?_
      refine xr_getI rfl fl_Read_32 (by decide) (by decide +kernel) ?_
      refine xr_bipush (n := 12) (v := 12) (by decide) (by decide +kernel) ?_
      refine xr_isub (by decide +kernel) ?_
      show sh_X g (d + 1) m_Read_readDay _ _ ((sh_i ((m4 2 5) - 12)) :: _) _ _
      refine xr_istore_n (n := 3) (i := 3) rfl (by decide) rfl (by decide +kernel) ?_
      refine xr_iload_n (n := 3) (i := 3) rfl (List.mem_of_getElem? (i := 0) rfl) (by decide +kernel) ?_
      refine xr_iconst (n := 0) (by decide +kernel) ?_
      refine xr_iconst (n := 3) (by decide +kernel) ?_
      refine xr_callN (av := [(sh_i ((m4 2 5) - 12)), (sh_i 0), (sh_i 3)]) mo_Sto_isWithin rfl rfl sa_Sto_isWithin rfl (Nat.le_of_ble_eq_true rfl) (by decide +kernel) (sh_mono k ?_)
      rintro rv m5 ⟨r2, rfl, k⟩
      show sh_X g (d + 1) m_Read_readDay _ _ [(sh_i r2)] _ _
      refine xr_if_ne (a' := (i3 r2)) rfl (off := 9) (tgt := 80) (by decide) (by decide +kernel) ⟨fun c3 => ?_, fun c3 => ?_⟩
      · have k := k.1 c3
        refine xr_aload_n (n := 1) (i := 1) rfl (List.mem_of_getElem? (i := 3) rfl) (by decide +kernel) ?_
        refine xr_getR (o := 2) (ob0_0 hB) fl_Read_80 rfl (by decide +kernel) ?_
        show sh_X g (d + 1) m_Read_readDay _ _ ((sh_r (B + 2)) :: _) _ _
        refine xr_iload_n (n := 2) (i := 2) rfl (List.mem_of_getElem? (i := 1) rfl) (by decide +kernel) ?_
        refine xr_iload_n (n := 3) (i := 3) rfl (List.mem_of_getElem? (i := 0) rfl) (by decide +kernel) ?_
        have o9 := True.intro
        obtain ⟨o, k⟩ := k
        refine xr_iast (ob0_2 hB) o.1 o.2 (by decide +kernel) ?_
        have k := k _ rfl
        generalize hg_m6 : ms m5 (B + 2) (ru (m5 (B + 2)) ((mem B 0)).toNat ((m4 2 5) - 12)) = m6 at k ⊢
        refine xr_aload_n (n := 0) (i := 0) rfl (List.mem_of_getElem? (i := 2) rfl) (by decide +kernel) ?_
        refine xr_getT rfl fl_Read_9 rfl (by decide +kernel) ?_
        refine xr_callV (av := []) rfl rfl rfl mo_Tape_step ml_Read_62 im_Tape_step se_Tape_step rfl (Nat.le_of_ble_eq_true rfl) (by decide +kernel) (sh_mono k ?_)
        rintro rv m7 ⟨rfl, k⟩
        show sh_X g (d + 1) m_Read_readDay _ _ [] _ _
        refine xr_aload_n (n := 0) (i := 0) rfl (List.mem_of_getElem? (i := 2) rfl) (by decide +kernel) ?_
        refine xr_iconst (n := 3) (by decide +kernel) ?_
        refine xr_iconst (n := 1) (by decide +kernel) ?_
        refine xr_bipush (n := 24) (v := 24) (by decide) (by decide +kernel) ?_
        refine xr_callV (av := [(sh_i 3), (sh_i 1), (sh_i 24)]) rfl rfl rfl mo_Read_takeNumber ml_Read_84 im_Read_takeNumber se_Read_takeNumber rfl (Nat.le_of_ble_eq_true rfl) (by decide +kernel) (sh_mono k ?_)
        rintro rv m8 ⟨r3, rfl, k⟩
        show sh_X g (d + 1) m_Read_readDay _ _ [(sh_i r3)] _ _
        refine xr_if_ne (a' := (i3 r3)) rfl (off := 5) (tgt := 107) (by decide) (by decide +kernel) ⟨fun c4 => ?_, fun c4 => ?_⟩
        · have k := k.1 c4
          refine xr_aload_n (n := 1) (i := 1) rfl (List.mem_of_getElem? (i := 3) rfl) (by decide +kernel) ?_
          refine xr_getR (o := 3) (ob0_0 hB) fl_Read_87 rfl (by decide +kernel) ?_
          show sh_X g (d + 1) m_Read_readDay _ _ ((sh_r (B + 3)) :: _) _ _
          refine xr_iload_n (n := 2) (i := 2) rfl (List.mem_of_getElem? (i := 1) rfl) (by decide +kernel) ?_
          refine xr_aload_n (n := 0) (i := 0) rfl (List.mem_of_getElem? (i := 2) rfl) (by decide +kernel) ?_
          refine xr_getI rfl fl_Read_90 (by decide) (by decide +kernel) ?_
          have o9 := True.intro
          obtain ⟨o, k⟩ := k
          refine xr_iast (ob0_3 hB) o.1 o.2 (by decide +kernel) ?_
          have k := k _ rfl
          generalize hg_m9 : ms m8 (B + 3) (ru (m8 (B + 3)) ((mem B 0)).toNat (m8 4 2)) = m9 at k ⊢
          refine xr_aload_n (n := 0) (i := 0) rfl (List.mem_of_getElem? (i := 2) rfl) (by decide +kernel) ?_
          refine xr_iconst (n := 4) (by decide +kernel) ?_
          refine xr_iconst (n := 0) (by decide +kernel) ?_
          refine xr_bipush (n := 9) (v := 9) (by decide) (by decide +kernel) ?_
          refine xr_callV (av := [(sh_i 4), (sh_i 0), (sh_i 9)]) rfl rfl rfl mo_Read_takeNumber ml_Read_84 im_Read_takeNumber se_Read_takeNumber rfl (Nat.le_of_ble_eq_true rfl) (by decide +kernel) (sh_mono k ?_)
          rintro rv m10 ⟨r4, rfl, k⟩
          show sh_X g (d + 1) m_Read_readDay _ _ [(sh_i r4)] _ _
          refine xr_if_ne (a' := (i3 r4)) rfl (off := 5) (tgt := 130) (by decide) (by decide +kernel) ⟨fun c5 => ?_, fun c5 => ?_⟩
          · have k := k.1 c5
            refine xr_aload_n (n := 1) (i := 1) rfl (List.mem_of_getElem? (i := 3) rfl) (by decide +kernel) ?_
            refine xr_getR (o := 4) (ob0_0 hB) fl_Read_93 rfl (by decide +kernel) ?_
            show sh_X g (d + 1) m_Read_readDay _ _ ((sh_r (B + 4)) :: _) _ _
            refine xr_iload_n (n := 2) (i := 2) rfl (List.mem_of_getElem? (i := 1) rfl) (by decide +kernel) ?_
            refine xr_aload_n (n := 0) (i := 0) rfl (List.mem_of_getElem? (i := 2) rfl) (by decide +kernel) ?_
            refine xr_getI rfl fl_Read_90 (by decide) (by decide +kernel) ?_
            have o9 := True.intro
            obtain ⟨o, k⟩ := k
            refine xr_iast (ob0_4 hB) o.1 o.2 (by decide +kernel) ?_
            have k := k _ rfl
            generalize hg_m11 : ms m10 (B + 4) (ru (m10 (B + 4)) ((mem B 0)).toNat (m10 4 2)) = m11 at k ⊢
            refine xr_aload_n (n := 1) (i := 1) rfl (List.mem_of_getElem? (i := 3) rfl) (by decide +kernel) ?_
            refine xr_dupR (by decide +kernel) ?_
            refine xr_getI (ob0_0 hB) fl_Read_59 (by decide) (by decide +kernel) ?_
            refine xr_iconst (n := 1) (by decide +kernel) ?_
            refine xr_iadd (by decide +kernel) ?_
            show sh_X g (d + 1) m_Read_readDay _ _ ((sh_i ((m11 B 0) + 1)) :: _) _ _
            refine xr_putI (ob0_0 hB) pl_Read_59 rfl (by decide +kernel) ?_
            have k := k _ rfl
            generalize hg_m12 : ms m11 B (ru (m11 B) 0 ((m11 B 0) + 1)) = m12 at k ⊢
            refine xr_aload_n (n := 0) (i := 0) rfl (List.mem_of_getElem? (i := 2) rfl) (by decide +kernel) ?_
            refine xr_bipush (n := 59) (v := 59) (by decide) (by decide +kernel) ?_
            refine xr_callV (av := [(sh_i 59)]) rfl rfl rfl mo_Read_takeSign ml_Read_96 im_Read_takeSign se_Read_takeSign rfl (Nat.le_of_ble_eq_true rfl) (by decide +kernel) (sh_mono k ?_)
            rintro rv m13 ⟨r5, rfl, k⟩
            show sh_X g (d + 1) m_Read_readDay _ _ [(sh_i r5)] _ _
            exact xr_zret rfl (by decide +kernel) k.1 k.2
          · have k := k.2 c5
            refine xr_iconst (n := 0) (by decide +kernel) ?_
            exact xr_zret rfl (by decide +kernel) (by decide) k
        · have k := k.2 c4
          refine xr_iconst (n := 0) (by decide +kernel) ?_
          exact xr_zret rfl (by decide +kernel) (by decide) k
      · have k := k.2 c3
        refine xr_aload_n (n := 0) (i := 0) rfl (List.mem_of_getElem? (i := 2) rfl) (by decide +kernel) ?_
        refine xr_iconst (n := 1) (by decide +kernel) ?_
        refine xr_callV (av := [(sh_i 1)]) rfl rfl rfl mo_Read_refuse ml_Read_45 im_Read_refuse se_Read_refuse rfl (Nat.le_of_ble_eq_true rfl) (by decide +kernel) (sh_mono k ?_)
        rintro rv m14 ⟨r6, rfl, k⟩
        show sh_X g (d + 1) m_Read_readDay _ _ [(sh_i r6)] _ _
        exact xr_zret rfl (by decide +kernel) k.1 k.2
    · have k := k.2 c2
      refine xr_iconst (n := 0) (by decide +kernel) ?_
      exact xr_zret rfl (by decide +kernel) (by decide) k
  · have k := k.2 c1
    refine xr_aload_n (n := 0) (i := 0) rfl (List.mem_of_getElem? (i := 1) rfl) (by decide +kernel) ?_
    refine xr_iconst (n := 5) (by decide +kernel) ?_
    refine xr_callV (av := [(sh_i 5)]) rfl rfl rfl mo_Read_refuse ml_Read_45 im_Read_refuse se_Read_refuse rfl (Nat.le_of_ble_eq_true rfl) (by decide +kernel) (sh_mono k ?_)
    rintro rv m15 ⟨r7, rfl, k⟩
    show sh_X g (d + 1) m_Read_readDay _ _ [(sh_i r7)] _ _
    exact xr_zret rfl (by decide +kernel) k.1 k.2

theorem v_Read_readThief {g : sh_G} {d : Nat} {B : Nat}  {mem : sh_Mem} {Q : Option sh_V → sh_Mem → Prop} (hB : ob0 B) (k : (((i3 (mem B 1)) < 4 → (sh_Cal g d m_Tape_step [(sh_r 2)] mem fun rv m1 => rv = none ∧ (sh_Cal g d m_Read_isNewName [(sh_r 4), (sh_r B)] m1 fun rv m2 => ∃ r1 : Int, rv = some (sh_i r1) ∧ ((¬ (i3 r1) = 0 → ((0 ≤ (mem B 1) ∧ (mem B 1) < 4) ∧ (∀ m3 : sh_Mem, m3 = ms m2 (B + 5) (ru (m2 (B + 5)) ((mem B 1)).toNat (m2 2 7)) → (sh_Cal g d m_Tape_step [(sh_r 2)] m3 fun rv m4 => rv = none ∧ (sh_Cal g d m_Read_takeNumber [(sh_r 4), (sh_i 5), (sh_i 0), (sh_i 9)] m4 fun rv m5 => ∃ r2 : Int, rv = some (sh_i r2) ∧ ((¬ (i3 r2) = 0 → ((0 ≤ (mem B 1) ∧ (mem B 1) < 4) ∧ (∀ m6 : sh_Mem, m6 = ms m5 (B + 6) (ru (m5 (B + 6)) ((mem B 1)).toNat (m5 4 2)) → (sh_Cal g d m_Read_takeNumber [(sh_r 4), (sh_i 6), (sh_i 1), (sh_i 12)] m6 fun rv m7 => ∃ r3 : Int, rv = some (sh_i r3) ∧ ((¬ (i3 r3) = 0 → ((0 ≤ (mem B 1) ∧ (mem B 1) < 4) ∧ (∀ m8 : sh_Mem, m8 = ms m7 (B + 7) (ru (m7 (B + 7)) ((mem B 1)).toNat (m7 4 2)) → (∀ m9 : sh_Mem, m9 = ms m8 B (ru (m8 B) 1 ((m8 B 1) + 1)) → (sh_Cal g d m_Read_takeSign [(sh_r 4), (sh_i 59)] m9 fun rv m10 => ∃ r4 : Int, rv = some (sh_i r4) ∧ ((r4 = 0 ∨ r4 = 1) ∧ Q (some (sh_i r4)) m10)))))) ∧ ((i3 r3) = 0 → Q (some (sh_i 0)) m7)))))) ∧ ((i3 r2) = 0 → Q (some (sh_i 0)) m5))))))) ∧ ((i3 r1) = 0 → Q (some (sh_i 0)) m2))))) ∧ (¬ (i3 (mem B 1)) < 4 → (sh_Cal g d m_Read_refuse [(sh_r 4), (sh_i 5)] mem fun rv m11 => ∃ r5 : Int, rv = some (sh_i r5) ∧ ((r5 = 0 ∨ r5 = 1) ∧ Q (some (sh_i r5)) m11))))) : sh_Cal g (d + 1) m_Read_readThief [(sh_r 4), (sh_r B)] mem Q := by
  refine sh_met (by decide +kernel) (Nat.le_of_ble_eq_true rfl) (lo := [(0, (sh_r 4)), (1, (sh_r B))]) rfl ?_
  refine xr_aload_n (n := 1) (i := 1) rfl (List.mem_of_getElem? (i := 1) rfl) (by decide +kernel) ?_
  refine xr_getI (ob0_0 hB) fl_Read_99 (by decide) (by decide +kernel) ?_
  refine xr_istore_n (n := 2) (i := 2) rfl (by decide) rfl (by decide +kernel) ?_
  refine xr_iload_n (n := 2) (i := 2) rfl (List.mem_of_getElem? (i := 0) rfl) (by decide +kernel) ?_
  refine xr_iconst (n := 4) (by decide +kernel) ?_
  refine xr_icmp_lt (a' := (i3 (mem B 1))) (b' := 4) rfl (by decide) (off := 9) (tgt := 16) (by decide) (by decide +kernel) ⟨fun c1 => ?_, fun c1 => ?_⟩
  · have k := k.1 c1
    refine xr_aload_n (n := 0) (i := 0) rfl (List.mem_of_getElem? (i := 1) rfl) (by decide +kernel) ?_
    refine xr_getT rfl fl_Read_9 rfl (by decide +kernel) ?_
    refine xr_callV (av := []) rfl rfl rfl mo_Tape_step ml_Read_62 im_Tape_step se_Tape_step rfl (Nat.le_of_ble_eq_true rfl) (by decide +kernel) (sh_mono k ?_)
    rintro rv m1 ⟨rfl, k⟩
    show sh_X g (d + 1) m_Read_readThief _ _ [] _ _
    refine xr_aload_n (n := 0) (i := 0) rfl (List.mem_of_getElem? (i := 1) rfl) (by decide +kernel) ?_
    refine xr_aload_n (n := 1) (i := 1) rfl (List.mem_of_getElem? (i := 2) rfl) (by decide +kernel) ?_
    refine xr_callV (av := [(sh_r B)]) rfl rfl rfl mo_Read_isNewName ml_Read_65 im_Read_isNewName se_Read_isNewName rfl (Nat.le_of_ble_eq_true rfl) (by decide +kernel) (sh_mono k ?_)
    rintro rv m2 ⟨r1, rfl, k⟩
    show sh_X g (d + 1) m_Read_readThief _ _ [(sh_i r1)] _ _
    refine xr_if_ne (a' := (i3 r1)) rfl (off := 5) (tgt := 33) (by decide) (by decide +kernel) ⟨fun c2 => ?_, fun c2 => ?_⟩
    · have k := k.1 c2
      refine xr_aload_n (n := 1) (i := 1) rfl (List.mem_of_getElem? (i := 2) rfl) (by decide +kernel) ?_
      refine xr_getR (o := 5) (ob0_0 hB) fl_Read_102 rfl (by decide +kernel) ?_
      show sh_X g (d + 1) m_Read_readThief _ _ ((sh_r (B + 5)) :: _) _ _
      refine xr_iload_n (n := 2) (i := 2) rfl (List.mem_of_getElem? (i := 0) rfl) (by decide +kernel) ?_
      refine xr_aload_n (n := 0) (i := 0) rfl (List.mem_of_getElem? (i := 1) rfl) (by decide +kernel) ?_
      refine xr_getT rfl fl_Read_9 rfl (by decide +kernel) ?_
      refine xr_getL rfl fl_Read_72 (by decide) (by decide +kernel) ?_
      have o9 := True.intro
      obtain ⟨o, k⟩ := k
      refine xr_last (ob0_5 hB) o.1 o.2 (by decide +kernel) ?_
      have k := k _ rfl
      generalize hg_m3 : ms m2 (B + 5) (ru (m2 (B + 5)) ((mem B 1)).toNat (m2 2 7)) = m3 at k ⊢
      refine xr_aload_n (n := 0) (i := 0) rfl (List.mem_of_getElem? (i := 1) rfl) (by decide +kernel) ?_
      refine xr_getT rfl fl_Read_9 rfl (by decide +kernel) ?_
      refine xr_callV (av := []) rfl rfl rfl mo_Tape_step ml_Read_62 im_Tape_step se_Tape_step rfl (Nat.le_of_ble_eq_true rfl) (by decide +kernel) (sh_mono k ?_)
      rintro rv m4 ⟨rfl, k⟩
      show sh_X g (d + 1) m_Read_readThief _ _ [] _ _
      refine xr_aload_n (n := 0) (i := 0) rfl (List.mem_of_getElem? (i := 1) rfl) (by decide +kernel) ?_
      refine xr_iconst (n := 5) (by decide +kernel) ?_
      refine xr_iconst (n := 0) (by decide +kernel) ?_
      refine xr_bipush (n := 9) (v := 9) (by decide) (by decide +kernel) ?_
      refine xr_callV (av := [(sh_i 5), (sh_i 0), (sh_i 9)]) rfl rfl rfl mo_Read_takeNumber ml_Read_84 im_Read_takeNumber se_Read_takeNumber rfl (Nat.le_of_ble_eq_true rfl) (by decide +kernel) (sh_mono k ?_)
      rintro rv m5 ⟨r2, rfl, k⟩
      show sh_X g (d + 1) m_Read_readThief _ _ [(sh_i r2)] _ _
      refine xr_if_ne (a' := (i3 r2)) rfl (off := 5) (tgt := 66) (by decide) (by decide +kernel) ⟨fun c3 => ?_, fun c3 => ?_⟩
      · have k := k.1 c3
        refine xr_aload_n (n := 1) (i := 1) rfl (List.mem_of_getElem? (i := 2) rfl) (by decide +kernel) ?_
        refine xr_getR (o := 6) (ob0_0 hB) fl_Read_105 rfl (by decide +kernel) ?_
        show sh_X g (d + 1) m_Read_readThief _ _ ((sh_r (B + 6)) :: _) _ _
        refine xr_iload_n (n := 2) (i := 2) rfl (List.mem_of_getElem? (i := 0) rfl) (by decide +kernel) ?_
        refine xr_aload_n (n := 0) (i := 0) rfl (List.mem_of_getElem? (i := 1) rfl) (by decide +kernel) ?_
        refine xr_getI rfl fl_Read_90 (by decide) (by decide +kernel) ?_
        have o9 := True.intro
        obtain ⟨o, k⟩ := k
        refine xr_iast (ob0_6 hB) o.1 o.2 (by decide +kernel) ?_
        have k := k _ rfl
        generalize hg_m6 : ms m5 (B + 6) (ru (m5 (B + 6)) ((mem B 1)).toNat (m5 4 2)) = m6 at k ⊢
        refine xr_aload_n (n := 0) (i := 0) rfl (List.mem_of_getElem? (i := 1) rfl) (by decide +kernel) ?_
        refine xr_bipush (n := 6) (v := 6) (by decide) (by decide +kernel) ?_
        refine xr_iconst (n := 1) (by decide +kernel) ?_
        refine xr_bipush (n := 12) (v := 12) (by decide) (by decide +kernel) ?_
        refine xr_callV (av := [(sh_i 6), (sh_i 1), (sh_i 12)]) rfl rfl rfl mo_Read_takeNumber ml_Read_84 im_Read_takeNumber se_Read_takeNumber rfl (Nat.le_of_ble_eq_true rfl) (by decide +kernel) (sh_mono k ?_)
        rintro rv m7 ⟨r3, rfl, k⟩
        show sh_X g (d + 1) m_Read_readThief _ _ [(sh_i r3)] _ _
        refine xr_if_ne (a' := (i3 r3)) rfl (off := 5) (tgt := 90) (by decide) (by decide +kernel) ⟨fun c4 => ?_, fun c4 => ?_⟩
        · have k := k.1 c4
          refine xr_aload_n (n := 1) (i := 1) rfl (List.mem_of_getElem? (i := 2) rfl) (by decide +kernel) ?_
          refine xr_getR (o := 7) (ob0_0 hB) fl_Read_108 rfl (by decide +kernel) ?_
          show sh_X g (d + 1) m_Read_readThief _ _ ((sh_r (B + 7)) :: _) _ _
          refine xr_iload_n (n := 2) (i := 2) rfl (List.mem_of_getElem? (i := 0) rfl) (by decide +kernel) ?_
          refine xr_aload_n (n := 0) (i := 0) rfl (List.mem_of_getElem? (i := 1) rfl) (by decide +kernel) ?_
          refine xr_getI rfl fl_Read_90 (by decide) (by decide +kernel) ?_
          have o9 := True.intro
          obtain ⟨o, k⟩ := k
          refine xr_iast (ob0_7 hB) o.1 o.2 (by decide +kernel) ?_
          have k := k _ rfl
          generalize hg_m8 : ms m7 (B + 7) (ru (m7 (B + 7)) ((mem B 1)).toNat (m7 4 2)) = m8 at k ⊢
          refine xr_aload_n (n := 1) (i := 1) rfl (List.mem_of_getElem? (i := 2) rfl) (by decide +kernel) ?_
          refine xr_dupR (by decide +kernel) ?_
          refine xr_getI (ob0_0 hB) fl_Read_99 (by decide) (by decide +kernel) ?_
          refine xr_iconst (n := 1) (by decide +kernel) ?_
          refine xr_iadd (by decide +kernel) ?_
          show sh_X g (d + 1) m_Read_readThief _ _ ((sh_i ((m8 B 1) + 1)) :: _) _ _
          refine xr_putI (ob0_0 hB) pl_Read_99 rfl (by decide +kernel) ?_
          have k := k _ rfl
          generalize hg_m9 : ms m8 B (ru (m8 B) 1 ((m8 B 1) + 1)) = m9 at k ⊢
          refine xr_aload_n (n := 0) (i := 0) rfl (List.mem_of_getElem? (i := 1) rfl) (by decide +kernel) ?_
          refine xr_bipush (n := 59) (v := 59) (by decide) (by decide +kernel) ?_
          refine xr_callV (av := [(sh_i 59)]) rfl rfl rfl mo_Read_takeSign ml_Read_96 im_Read_takeSign se_Read_takeSign rfl (Nat.le_of_ble_eq_true rfl) (by decide +kernel) (sh_mono k ?_)
          rintro rv m10 ⟨r4, rfl, k⟩
          show sh_X g (d + 1) m_Read_readThief _ _ [(sh_i r4)] _ _
          exact xr_zret rfl (by decide +kernel) k.1 k.2
        · have k := k.2 c4
          refine xr_iconst (n := 0) (by decide +kernel) ?_
          exact xr_zret rfl (by decide +kernel) (by decide) k
      · have k := k.2 c3
        refine xr_iconst (n := 0) (by decide +kernel) ?_
        exact xr_zret rfl (by decide +kernel) (by decide) k
    · have k := k.2 c2
      refine xr_iconst (n := 0) (by decide +kernel) ?_
      exact xr_zret rfl (by decide +kernel) (by decide) k
  · have k := k.2 c1
    refine xr_aload_n (n := 0) (i := 0) rfl (List.mem_of_getElem? (i := 1) rfl) (by decide +kernel) ?_
    refine xr_iconst (n := 5) (by decide +kernel) ?_
    refine xr_callV (av := [(sh_i 5)]) rfl rfl rfl mo_Read_refuse ml_Read_45 im_Read_refuse se_Read_refuse rfl (Nat.le_of_ble_eq_true rfl) (by decide +kernel) (sh_mono k ?_)
    rintro rv m11 ⟨r5, rfl, k⟩
    show sh_X g (d + 1) m_Read_readThief _ _ [(sh_i r5)] _ _
    exact xr_zret rfl (by decide +kernel) k.1 k.2

theorem v_Read_readPays {g : sh_G} {d : Nat} {B : Nat}  {mem : sh_Mem} {Q : Option sh_V → sh_Mem → Prop} (hB : ob0 B) (k : (((i3 (mem B 2)) = 0 → (∀ m1 : sh_Mem, m1 = ms mem B (ru (mem B) 2 1) → (sh_Cal g d m_Law_clear [(sh_r (B + 8))] m1 fun rv m2 => rv = none ∧ (sh_Cal g d m_Tape_step [(sh_r 2)] m2 fun rv m3 => rv = none ∧ (sh_Cal g d m_Read_readJoined [(sh_r 4), (sh_r (B + 8)), (sh_i 0), (sh_i 0)] m3 fun rv m4 => ∃ r1 : Int, rv = some (sh_i r1) ∧ (((i3 r1) = 0 → Q (some (sh_i 0)) m4) ∧ (¬ (i3 r1) = 0 → (sh_Cal g d m_Read_takeSign [(sh_r 4), (sh_i 59)] m4 fun rv m5 => ∃ r2 : Int, rv = some (sh_i r2) ∧ (((i3 r2) = 0 → Q (some (sh_i 0)) m5) ∧ (¬ (i3 r2) = 0 → Q (some (sh_i 1)) m5)))))))))) ∧ (¬ (i3 (mem B 2)) = 0 → (sh_Cal g d m_Read_refuse [(sh_r 4), (sh_i 3)] mem fun rv m6 => ∃ r3 : Int, rv = some (sh_i r3) ∧ ((r3 = 0 ∨ r3 = 1) ∧ Q (some (sh_i r3)) m6))))) : sh_Cal g (d + 1) m_Read_readPays [(sh_r 4), (sh_r B)] mem Q := by
  refine sh_met (by decide +kernel) (Nat.le_of_ble_eq_true rfl) (lo := [(0, (sh_r 4)), (1, (sh_r B))]) rfl ?_
  refine xr_aload_n (n := 1) (i := 1) rfl (List.mem_of_getElem? (i := 1) rfl) (by decide +kernel) ?_
  refine xr_getI (ob0_0 hB) fl_Read_111 (by decide) (by decide +kernel) ?_
  refine xr_if_eq (a' := (i3 (mem B 2))) rfl (off := 9) (tgt := 13) (by decide) (by decide +kernel) ⟨fun c1 => ?_, fun c1 => ?_⟩
  · have k := k.1 c1
    refine xr_aload_n (n := 1) (i := 1) rfl (List.mem_of_getElem? (i := 1) rfl) (by decide +kernel) ?_
    refine xr_iconst (n := 1) (by decide +kernel) ?_
    refine xr_putZ (by decide) (ob0_0 hB) pl_Read_111 rfl (by decide +kernel) ?_
    have k := k _ rfl
    generalize hg_m1 : ms mem B (ru (mem B) 2 1) = m1 at k ⊢
    refine xr_aload_n (n := 1) (i := 1) rfl (List.mem_of_getElem? (i := 1) rfl) (by decide +kernel) ?_
    refine xr_getR (o := 8) (ob0_0 hB) fl_Read_115 rfl (by decide +kernel) ?_
    show sh_X g (d + 1) m_Read_readPays _ _ ((sh_r (B + 8)) :: _) _ _
    refine xr_callV (av := []) (ob0_8 hB) rfl rfl mo_Law_clear ml_Read_119 im_Law_clear se_Law_clear rfl (Nat.le_of_ble_eq_true rfl) (by decide +kernel) (sh_mono k ?_)
    rintro rv m2 ⟨rfl, k⟩
    show sh_X g (d + 1) m_Read_readPays _ _ [] _ _
    refine xr_aload_n (n := 0) (i := 0) rfl (List.mem_of_getElem? (i := 0) rfl) (by decide +kernel) ?_
    refine xr_getT rfl fl_Read_9 rfl (by decide +kernel) ?_
    refine xr_callV (av := []) rfl rfl rfl mo_Tape_step ml_Read_62 im_Tape_step se_Tape_step rfl (Nat.le_of_ble_eq_true rfl) (by decide +kernel) (sh_mono k ?_)
    rintro rv m3 ⟨rfl, k⟩
    show sh_X g (d + 1) m_Read_readPays _ _ [] _ _
    refine xr_aload_n (n := 0) (i := 0) rfl (List.mem_of_getElem? (i := 0) rfl) (by decide +kernel) ?_
    refine xr_aload_n (n := 1) (i := 1) rfl (List.mem_of_getElem? (i := 1) rfl) (by decide +kernel) ?_
    refine xr_getR (o := 8) (ob0_0 hB) fl_Read_115 rfl (by decide +kernel) ?_
    show sh_X g (d + 1) m_Read_readPays _ _ ((sh_r (B + 8)) :: _) _ _
    refine xr_iconst (n := 0) (by decide +kernel) ?_
    refine xr_iconst (n := 0) (by decide +kernel) ?_
    refine xr_callV (av := [(sh_r (B + 8)), (sh_i 0), (sh_i 0)]) rfl rfl rfl mo_Read_readJoined ml_Read_122 im_Read_readJoined se_Read_readJoined rfl (Nat.le_of_ble_eq_true rfl) (by decide +kernel) (sh_mono k ?_)
    rintro rv m4 ⟨r1, rfl, k⟩
    show sh_X g (d + 1) m_Read_readPays _ _ [(sh_i r1)] _ _
    refine xr_if_eq (a' := (i3 r1)) rfl (off := 16) (tgt := 58) (by decide) (by decide +kernel) ⟨fun c2 => ?_, fun c2 => ?_⟩
    · have k := k.1 c2
      refine xr_iconst (n := 0) (by decide +kernel) ?_
      exact xr_zret rfl (by decide +kernel) (by decide) k
    · have k := k.2 c2
      refine xr_aload_n (n := 0) (i := 0) rfl (List.mem_of_getElem? (i := 0) rfl) (by decide +kernel) ?_
      refine xr_bipush (n := 59) (v := 59) (by decide) (by decide +kernel) ?_
      refine xr_callV (av := [(sh_i 59)]) rfl rfl rfl mo_Read_takeSign ml_Read_96 im_Read_takeSign se_Read_takeSign rfl (Nat.le_of_ble_eq_true rfl) (by decide +kernel) (sh_mono k ?_)
      rintro rv m5 ⟨r2, rfl, k⟩
      show sh_X g (d + 1) m_Read_readPays _ _ [(sh_i r2)] _ _
      refine xr_if_eq (a' := (i3 r2)) rfl (off := 7) (tgt := 58) (by decide) (by decide +kernel) ⟨fun c3 => ?_, fun c3 => ?_⟩
      · have k := k.1 c3
        refine xr_iconst (n := 0) (by decide +kernel) ?_
        exact xr_zret rfl (by decide +kernel) (by decide) k
      · have k := k.2 c3
        refine xr_iconst (n := 1) (by decide +kernel) ?_
        refine xr_goto (off := 4) (tgt := 59) (by decide) (by decide +kernel) ?_
        exact xr_zret rfl (by decide +kernel) (by decide) k
  · have k := k.2 c1
    refine xr_aload_n (n := 0) (i := 0) rfl (List.mem_of_getElem? (i := 0) rfl) (by decide +kernel) ?_
    refine xr_iconst (n := 3) (by decide +kernel) ?_
    refine xr_callV (av := [(sh_i 3)]) rfl rfl rfl mo_Read_refuse ml_Read_45 im_Read_refuse se_Read_refuse rfl (Nat.le_of_ble_eq_true rfl) (by decide +kernel) (sh_mono k ?_)
    rintro rv m6 ⟨r3, rfl, k⟩
    show sh_X g (d + 1) m_Read_readPays _ _ [(sh_i r3)] _ _
    exact xr_zret rfl (by decide +kernel) k.1 k.2

theorem v_Read_readJoined {g : sh_G} {d : Nat} {L : Nat} {level : Int} {depth : Int}  {mem : sh_Mem} {Q : Option sh_V → sh_Mem → Prop} (hL : ob2 L) (k : (((i3 level) < 4 → (sh_Cal g d m_Read_readJoined [(sh_r 4), (sh_r L), (sh_i (level + 1)), (sh_i depth)] mem fun rv m1 => ∃ r1 : Int, rv = some (sh_i r1) ∧ ((¬ (i3 level) = 1 → (sh_Cal g d m_Read_operationTold [(sh_r 4), (sh_i level)] m1 fun rv m2 => ∃ r2 : Int, rv = some (sh_i r2) ∧ sh_X g (d + 1) m_Read_readJoined 47 [(0, (sh_r 4)), (1, (sh_r L)), (2, (sh_i level)), (3, (sh_i depth)), (4, (sh_i r1)), (5, (sh_i 1000)), (6, (sh_i r2)), (7, (sh_i 0))] [] m2 (sh_K m_Read_readJoined Q))) ∧ ((i3 level) = 1 → (sh_Cal g d m_Read_operationTold [(sh_r 4), (sh_i level)] m1 fun rv m3 => ∃ r3 : Int, rv = some (sh_i r3) ∧ sh_X g (d + 1) m_Read_readJoined 47 [(0, (sh_r 4)), (1, (sh_r L)), (2, (sh_i level)), (3, (sh_i depth)), (4, (sh_i r1)), (5, (sh_i 1)), (6, (sh_i r3)), (7, (sh_i 0))] [] m3 (sh_K m_Read_readJoined Q)))))) ∧ (¬ (i3 level) < 4 → (sh_Cal g d m_Read_readPart [(sh_r 4), (sh_r L), (sh_i depth)] mem fun rv m4 => ∃ r4 : Int, rv = some (sh_i r4) ∧ ((r4 = 0 ∨ r4 = 1) ∧ Q (some (sh_i r4)) m4))))) : sh_Cal g (d + 1) m_Read_readJoined [(sh_r 4), (sh_r L), (sh_i level), (sh_i depth)] mem Q := by
  refine sh_met (by decide +kernel) (Nat.le_of_ble_eq_true rfl) (lo := [(0, (sh_r 4)), (1, (sh_r L)), (2, (sh_i level)), (3, (sh_i depth))]) rfl ?_
  refine xr_iload_n (n := 2) (i := 2) rfl (List.mem_of_getElem? (i := 2) rfl) (by decide +kernel) ?_
  refine xr_iconst (n := 4) (by decide +kernel) ?_
  refine xr_icmp_lt (a' := (i3 level)) (b' := 4) rfl (by decide) (off := 10) (tgt := 12) (by decide) (by decide +kernel) ⟨fun c1 => ?_, fun c1 => ?_⟩
  · have k := k.1 c1
    refine xr_aload_n (n := 0) (i := 0) rfl (List.mem_of_getElem? (i := 0) rfl) (by decide +kernel) ?_
    refine xr_aload_n (n := 1) (i := 1) rfl (List.mem_of_getElem? (i := 1) rfl) (by decide +kernel) ?_
    refine xr_iload_n (n := 2) (i := 2) rfl (List.mem_of_getElem? (i := 2) rfl) (by decide +kernel) ?_
    refine xr_iconst (n := 1) (by decide +kernel) ?_
    refine xr_iadd (by decide +kernel) ?_
    show sh_X g (d + 1) m_Read_readJoined _ _ ((sh_i (level + 1)) :: _) _ _
    refine xr_iload_n (n := 3) (i := 3) rfl (List.mem_of_getElem? (i := 3) rfl) (by decide +kernel) ?_
    refine xr_callV (av := [(sh_r L), (sh_i (level + 1)), (sh_i depth)]) rfl rfl rfl mo_Read_readJoined ml_Read_122 im_Read_readJoined se_Read_readJoined rfl (Nat.le_of_ble_eq_true rfl) (by decide +kernel) (sh_mono k ?_)
    rintro rv m1 ⟨r1, rfl, k⟩
    show sh_X g (d + 1) m_Read_readJoined _ _ [(sh_i r1)] _ _
    refine xr_istore (i := 4) (by decide) rfl (by decide +kernel) ?_
    refine xr_iload_n (n := 2) (i := 2) rfl (List.mem_of_getElem? (i := 3) rfl) (by decide +kernel) ?_
    refine xr_iconst (n := 1) (by decide +kernel) ?_
    refine xr_icmp_ne (a' := (i3 level)) (b' := 1) rfl (by decide) (off := 7) (tgt := 32) (by decide) (by decide +kernel) ⟨fun c2 => ?_, fun c2 => ?_⟩
    · have k := k.1 c2
      refine xr_sipush (n := 1000) (v := 1000) (by decide) (by decide +kernel) ?_
      refine xr_istore (i := 5) (by decide) rfl (by decide +kernel) ?_
      refine xr_aload_n (n := 0) (i := 0) rfl (List.mem_of_getElem? (i := 2) rfl) (by decide +kernel) ?_
      refine xr_iload_n (n := 2) (i := 2) rfl (List.mem_of_getElem? (i := 4) rfl) (by decide +kernel) ?_
      refine xr_callV (av := [(sh_i level)]) rfl rfl rfl mo_Read_operationTold ml_Read_130 im_Read_operationTold se_Read_operationTold rfl (Nat.le_of_ble_eq_true rfl) (by decide +kernel) (sh_mono k ?_)
      rintro rv m2 ⟨r2, rfl, k⟩
      show sh_X g (d + 1) m_Read_readJoined _ _ [(sh_i r2)] _ _
      refine xr_istore (i := 6) (by decide) rfl (by decide +kernel) ?_
      refine xr_iconst (n := 0) (by decide +kernel) ?_
      refine xr_istore (i := 7) (by decide) rfl (by decide +kernel) ?_
      refine xr_sub (lo' := [(0, (sh_r 4)), (1, (sh_r L)), (2, (sh_i level)), (3, (sh_i depth)), (4, (sh_i r1)), (5, (sh_i 1000)), (6, (sh_i r2)), (7, (sh_i 0))]) [4, 5, 6, 7, 3, 2, 1, 0] rfl ?_
      exact k
    · have k := k.2 c2
      refine xr_iconst (n := 1) (by decide +kernel) ?_
      refine xr_goto (off := 6) (tgt := 35) (by decide) (by decide +kernel) ?_
      refine xr_istore (i := 5) (by decide) rfl (by decide +kernel) ?_
      refine xr_aload_n (n := 0) (i := 0) rfl (List.mem_of_getElem? (i := 2) rfl) (by decide +kernel) ?_
      refine xr_iload_n (n := 2) (i := 2) rfl (List.mem_of_getElem? (i := 4) rfl) (by decide +kernel) ?_
      refine xr_callV (av := [(sh_i level)]) rfl rfl rfl mo_Read_operationTold ml_Read_130 im_Read_operationTold se_Read_operationTold rfl (Nat.le_of_ble_eq_true rfl) (by decide +kernel) (sh_mono k ?_)
      rintro rv m3 ⟨r3, rfl, k⟩
      show sh_X g (d + 1) m_Read_readJoined _ _ [(sh_i r3)] _ _
      refine xr_istore (i := 6) (by decide) rfl (by decide +kernel) ?_
      refine xr_iconst (n := 0) (by decide +kernel) ?_
      refine xr_istore (i := 7) (by decide) rfl (by decide +kernel) ?_
      refine xr_sub (lo' := [(0, (sh_r 4)), (1, (sh_r L)), (2, (sh_i level)), (3, (sh_i depth)), (4, (sh_i r1)), (5, (sh_i 1)), (6, (sh_i r3)), (7, (sh_i 0))]) [4, 5, 6, 7, 3, 2, 1, 0] rfl ?_
      exact k
  · have k := k.2 c1
    refine xr_aload_n (n := 0) (i := 0) rfl (List.mem_of_getElem? (i := 0) rfl) (by decide +kernel) ?_
    refine xr_aload_n (n := 1) (i := 1) rfl (List.mem_of_getElem? (i := 1) rfl) (by decide +kernel) ?_
    refine xr_iload_n (n := 3) (i := 3) rfl (List.mem_of_getElem? (i := 3) rfl) (by decide +kernel) ?_
    refine xr_callV (av := [(sh_r L), (sh_i depth)]) rfl rfl rfl mo_Read_readPart ml_Read_126 im_Read_readPart se_Read_readPart rfl (Nat.le_of_ble_eq_true rfl) (by decide +kernel) (sh_mono k ?_)
    rintro rv m4 ⟨r4, rfl, k⟩
    show sh_X g (d + 1) m_Read_readJoined _ _ [(sh_i r4)] _ _
    exact xr_zret rfl (by decide +kernel) k.1 k.2
theorem v_Read_readJoined_47 {g : sh_G} {d : Nat} {L : Nat} {level : Int} {depth : Int}  {mem : sh_Mem} {Q : Option sh_V → sh_Mem → Prop} (hL : ob2 L) {x4 : Int} {x5 : Nat} {x6 : Int} {x7 : Nat} (k : (((i3 (x5 : Int)) ≤ (i3 (x7 : Int)) → ((x4 = 0 ∨ x4 = 1) ∧ Q (some (sh_i x4)) mem)) ∧ (¬ (i3 (x5 : Int)) ≤ (i3 (x7 : Int)) → (((i3 x4) = 0 → ((x4 = 0 ∨ x4 = 1) ∧ Q (some (sh_i x4)) mem)) ∧ (¬ (i3 x4) = 0 → (((i3 x6) = 0 → ((x4 = 0 ∨ x4 = 1) ∧ Q (some (sh_i x4)) mem)) ∧ (¬ (i3 x6) = 0 → (sh_Cal g d m_Tape_step [(sh_r 2)] mem fun rv m1 => rv = none ∧ (sh_Cal g d m_Read_readJoined [(sh_r 4), (sh_r L), (sh_i (level + 1)), (sh_i depth)] m1 fun rv m2 => ∃ r1 : Int, rv = some (sh_i r1) ∧ (sh_Cal g d m_Law_put [(sh_r L), (sh_i x6)] m2 fun rv m3 => rv = none ∧ (sh_Cal g d m_Read_operationTold [(sh_r 4), (sh_i level)] m3 fun rv m4 => ∃ r2 : Int, rv = some (sh_i r2) ∧ sh_X g (d + 1) m_Read_readJoined 47 [(0, (sh_r 4)), (1, (sh_r L)), (2, (sh_i level)), (3, (sh_i depth)), (4, (sh_i r1)), (5, (sh_i (x5 : Int))), (6, (sh_i r2)), (7, (sh_i (((x7 + 1) : Nat) : Int)))] [] m4 (sh_K m_Read_readJoined Q)))))))))))) : sh_X g (d + 1) m_Read_readJoined 47 [(0, (sh_r 4)), (1, (sh_r L)), (2, (sh_i level)), (3, (sh_i depth)), (4, (sh_i x4)), (5, (sh_i (x5 : Int))), (6, (sh_i x6)), (7, (sh_i (x7 : Int)))] [] mem (sh_K m_Read_readJoined Q) := by
  refine xr_iload (i := 7) (List.mem_of_getElem? (i := 7) rfl) (by decide +kernel) ?_
  refine xr_iload (i := 5) (List.mem_of_getElem? (i := 5) rfl) (by decide +kernel) ?_
  refine xr_icmp_ge (a' := (i3 (x7 : Int))) (b' := (i3 (x5 : Int))) rfl rfl (off := 50) (tgt := 101) (by decide) (by decide +kernel) ⟨fun c1 => ?_, fun c1 => ?_⟩
  · have k := k.1 c1
    refine xr_iload (i := 4) (List.mem_of_getElem? (i := 4) rfl) (by decide +kernel) ?_
    exact xr_zret rfl (by decide +kernel) k.1 k.2
  · have k := k.2 c1
    refine xr_iload (i := 4) (List.mem_of_getElem? (i := 4) rfl) (by decide +kernel) ?_
    refine xr_if_eq (a' := (i3 x4)) rfl (off := 45) (tgt := 101) (by decide) (by decide +kernel) ⟨fun c2 => ?_, fun c2 => ?_⟩
    · have k := k.1 c2
      refine xr_iload (i := 4) (List.mem_of_getElem? (i := 4) rfl) (by decide +kernel) ?_
      exact xr_zret rfl (by decide +kernel) k.1 k.2
    · have k := k.2 c2
      refine xr_iload (i := 6) (List.mem_of_getElem? (i := 6) rfl) (by decide +kernel) ?_
      refine xr_if_eq (a' := (i3 x6)) rfl (off := 40) (tgt := 101) (by decide) (by decide +kernel) ⟨fun c3 => ?_, fun c3 => ?_⟩
      · have k := k.1 c3
        refine xr_iload (i := 4) (List.mem_of_getElem? (i := 4) rfl) (by decide +kernel) ?_
        exact xr_zret rfl (by decide +kernel) k.1 k.2
      · have k := k.2 c3
        refine xr_aload_n (n := 0) (i := 0) rfl (List.mem_of_getElem? (i := 0) rfl) (by decide +kernel) ?_
        refine xr_getT rfl fl_Read_9 rfl (by decide +kernel) ?_
        refine xr_callV (av := []) rfl rfl rfl mo_Tape_step ml_Read_62 im_Tape_step se_Tape_step rfl (Nat.le_of_ble_eq_true rfl) (by decide +kernel) (sh_mono k ?_)
        rintro rv m1 ⟨rfl, k⟩
        show sh_X g (d + 1) m_Read_readJoined _ _ [] _ _
        refine xr_aload_n (n := 0) (i := 0) rfl (List.mem_of_getElem? (i := 0) rfl) (by decide +kernel) ?_
        refine xr_aload_n (n := 1) (i := 1) rfl (List.mem_of_getElem? (i := 1) rfl) (by decide +kernel) ?_
        refine xr_iload_n (n := 2) (i := 2) rfl (List.mem_of_getElem? (i := 2) rfl) (by decide +kernel) ?_
        refine xr_iconst (n := 1) (by decide +kernel) ?_
        refine xr_iadd (by decide +kernel) ?_
        show sh_X g (d + 1) m_Read_readJoined _ _ ((sh_i (level + 1)) :: _) _ _
        refine xr_iload_n (n := 3) (i := 3) rfl (List.mem_of_getElem? (i := 3) rfl) (by decide +kernel) ?_
        refine xr_callV (av := [(sh_r L), (sh_i (level + 1)), (sh_i depth)]) rfl rfl rfl mo_Read_readJoined ml_Read_122 im_Read_readJoined se_Read_readJoined rfl (Nat.le_of_ble_eq_true rfl) (by decide +kernel) (sh_mono k ?_)
        rintro rv m2 ⟨r1, rfl, k⟩
        show sh_X g (d + 1) m_Read_readJoined _ _ [(sh_i r1)] _ _
        refine xr_istore (i := 4) (by decide) rfl (by decide +kernel) ?_
        refine xr_aload_n (n := 1) (i := 1) rfl (List.mem_of_getElem? (i := 2) rfl) (by decide +kernel) ?_
        refine xr_iload (i := 6) (List.mem_of_getElem? (i := 6) rfl) (by decide +kernel) ?_
        refine xr_callV (av := [(sh_i x6)]) (ob2_0 hL) rfl rfl mo_Law_put ml_Read_134 im_Law_put se_Law_put rfl (Nat.le_of_ble_eq_true rfl) (by decide +kernel) (sh_mono k ?_)
        rintro rv m3 ⟨rfl, k⟩
        show sh_X g (d + 1) m_Read_readJoined _ _ [] _ _
        refine xr_aload_n (n := 0) (i := 0) rfl (List.mem_of_getElem? (i := 1) rfl) (by decide +kernel) ?_
        refine xr_iload_n (n := 2) (i := 2) rfl (List.mem_of_getElem? (i := 3) rfl) (by decide +kernel) ?_
        refine xr_callV (av := [(sh_i level)]) rfl rfl rfl mo_Read_operationTold ml_Read_130 im_Read_operationTold se_Read_operationTold rfl (Nat.le_of_ble_eq_true rfl) (by decide +kernel) (sh_mono k ?_)
        rintro rv m4 ⟨r2, rfl, k⟩
        show sh_X g (d + 1) m_Read_readJoined _ _ [(sh_i r2)] _ _
        refine xr_istore (i := 6) (by decide) rfl (by decide +kernel) ?_
        refine xr_iinc (n := 1) (lo' := [(7, (sh_i (((x7 + 1) : Nat) : Int))), (6, (sh_i r2)), (4, (sh_i r1)), (0, (sh_r 4)), (1, (sh_r L)), (2, (sh_i level)), (3, (sh_i depth)), (5, (sh_i (x5 : Int)))]) (List.mem_of_getElem? (i := 7) rfl) (by decide) rfl (by decide +kernel) ?_
        refine xr_goto (off := (-51)) (tgt := 47) (by decide) (by decide +kernel) ?_
        refine xr_sub (lo' := [(0, (sh_r 4)), (1, (sh_r L)), (2, (sh_i level)), (3, (sh_i depth)), (4, (sh_i r1)), (5, (sh_i (x5 : Int))), (6, (sh_i r2)), (7, (sh_i (((x7 + 1) : Nat) : Int)))]) [3, 4, 5, 6, 2, 7, 1, 0] rfl ?_
        exact k

theorem v_Read_operationTold {g : sh_G} {d : Nat} {level : Int}  {mem : sh_Mem} {Q : Option sh_V → sh_Mem → Prop}  (k : (((i3 level) = 0 → ((¬ (i3 (mem 2 5)) = 17 → ((¬ (i3 (mem 2 5)) = 18 → Q (some (sh_i 0)) mem) ∧ ((i3 (mem 2 5)) = 18 → Q (some (sh_i (-7))) mem))) ∧ ((i3 (mem 2 5)) = 17 → Q (some (sh_i (-6))) mem))) ∧ (((i3 level) = 1 → ((¬ (i3 (mem 2 2)) = 60 → ((¬ (i3 (mem 2 2)) = 61 → Q (some (sh_i 0)) mem) ∧ ((i3 (mem 2 2)) = 61 → Q (some (sh_i (-9))) mem))) ∧ ((i3 (mem 2 2)) = 60 → Q (some (sh_i (-8))) mem))) ∧ (((i3 level) = 2 → ((¬ (i3 (mem 2 2)) = 43 → ((¬ (i3 (mem 2 2)) = 45 → Q (some (sh_i 0)) mem) ∧ ((i3 (mem 2 2)) = 45 → Q (some (sh_i (-11))) mem))) ∧ ((i3 (mem 2 2)) = 43 → Q (some (sh_i (-10))) mem))) ∧ (((i3 level) < 0 ∨ 2 < (i3 level)) → ((¬ (i3 (mem 2 2)) = 42 → Q (some (sh_i 0)) mem) ∧ ((i3 (mem 2 2)) = 42 → Q (some (sh_i (-12))) mem))))))) : sh_Cal g d m_Read_operationTold [(sh_r 4), (sh_i level)] mem Q := by
  refine sh_met (by decide +kernel) (Nat.le_of_ble_eq_true rfl) (lo := [(0, (sh_r 4)), (1, (sh_i level))]) rfl ?_
  refine xr_iload_n (n := 1) (i := 1) rfl (List.mem_of_getElem? (i := 1) rfl) (by decide +kernel) ?_
  rcases (by omega : (i3 level) = 0 ∨ (i3 level) = 1 ∨ (i3 level) = 2 ∨ ((i3 level) < 0 ∨ 2 < (i3 level))) with c1 | c1 | c1 | c1
  · have k := k.1 c1
    refine xr_tabIn (dflt := 129) (low := 0) (high := 2) (offs := #[27, 61, 95]) (len := 27) 0 c1 (by decide) (by decide) rfl (tgt := 28) (by decide) (by decide +kernel) ?_
    refine xr_aload_n (n := 0) (i := 0) rfl (List.mem_of_getElem? (i := 0) rfl) (by decide +kernel) ?_
    refine xr_getT rfl fl_Read_9 rfl (by decide +kernel) ?_
    refine xr_getI rfl fl_Read_32 (by decide) (by decide +kernel) ?_
    refine xr_bipush (n := 17) (v := 17) (by decide) (by decide +kernel) ?_
    refine xr_icmp_ne (a' := (i3 (mem 2 5))) (b' := 17) rfl (by decide) (off := 6) (tgt := 43) (by decide) (by decide +kernel) ⟨fun c2 => ?_, fun c2 => ?_⟩
    · have k := k.1 c2
      refine xr_aload_n (n := 0) (i := 0) rfl (List.mem_of_getElem? (i := 0) rfl) (by decide +kernel) ?_
      refine xr_getT rfl fl_Read_9 rfl (by decide +kernel) ?_
      refine xr_getI rfl fl_Read_32 (by decide) (by decide +kernel) ?_
      refine xr_bipush (n := 18) (v := 18) (by decide) (by decide +kernel) ?_
      refine xr_icmp_ne (a' := (i3 (mem 2 5))) (b' := 18) rfl (by decide) (off := 8) (tgt := 60) (by decide) (by decide +kernel) ⟨fun c3 => ?_, fun c3 => ?_⟩
      · have k := k.1 c3
        refine xr_iconst (n := 0) (by decide +kernel) ?_
        exact xr_iret rfl (by decide +kernel) k
      · have k := k.2 c3
        refine xr_bipush (n := (-7)) (v := (-7)) (by decide) (by decide +kernel) ?_
        refine xr_goto (off := 4) (tgt := 61) (by decide) (by decide +kernel) ?_
        exact xr_iret rfl (by decide +kernel) k
    · have k := k.2 c2
      refine xr_bipush (n := (-6)) (v := (-6)) (by decide) (by decide +kernel) ?_
      exact xr_iret rfl (by decide +kernel) k
  · have k := k.2.1 c1
    refine xr_tabIn (dflt := 129) (low := 0) (high := 2) (offs := #[27, 61, 95]) (len := 27) 1 c1 (by decide) (by decide) rfl (tgt := 62) (by decide) (by decide +kernel) ?_
    refine xr_aload_n (n := 0) (i := 0) rfl (List.mem_of_getElem? (i := 0) rfl) (by decide +kernel) ?_
    refine xr_getT rfl fl_Read_9 rfl (by decide +kernel) ?_
    refine xr_getI rfl fl_Read_29 (by decide) (by decide +kernel) ?_
    refine xr_bipush (n := 60) (v := 60) (by decide) (by decide +kernel) ?_
    refine xr_icmp_ne (a' := (i3 (mem 2 2))) (b' := 60) rfl (by decide) (off := 6) (tgt := 77) (by decide) (by decide +kernel) ⟨fun c4 => ?_, fun c4 => ?_⟩
    · have k := k.1 c4
      refine xr_aload_n (n := 0) (i := 0) rfl (List.mem_of_getElem? (i := 0) rfl) (by decide +kernel) ?_
      refine xr_getT rfl fl_Read_9 rfl (by decide +kernel) ?_
      refine xr_getI rfl fl_Read_29 (by decide) (by decide +kernel) ?_
      refine xr_bipush (n := 61) (v := 61) (by decide) (by decide +kernel) ?_
      refine xr_icmp_ne (a' := (i3 (mem 2 2))) (b' := 61) rfl (by decide) (off := 8) (tgt := 94) (by decide) (by decide +kernel) ⟨fun c5 => ?_, fun c5 => ?_⟩
      · have k := k.1 c5
        refine xr_iconst (n := 0) (by decide +kernel) ?_
        exact xr_iret rfl (by decide +kernel) k
      · have k := k.2 c5
        refine xr_bipush (n := (-9)) (v := (-9)) (by decide) (by decide +kernel) ?_
        refine xr_goto (off := 4) (tgt := 95) (by decide) (by decide +kernel) ?_
        exact xr_iret rfl (by decide +kernel) k
    · have k := k.2 c4
      refine xr_bipush (n := (-8)) (v := (-8)) (by decide) (by decide +kernel) ?_
      exact xr_iret rfl (by decide +kernel) k
  · have k := k.2.2.1 c1
    refine xr_tabIn (dflt := 129) (low := 0) (high := 2) (offs := #[27, 61, 95]) (len := 27) 2 c1 (by decide) (by decide) rfl (tgt := 96) (by decide) (by decide +kernel) ?_
    refine xr_aload_n (n := 0) (i := 0) rfl (List.mem_of_getElem? (i := 0) rfl) (by decide +kernel) ?_
    refine xr_getT rfl fl_Read_9 rfl (by decide +kernel) ?_
    refine xr_getI rfl fl_Read_29 (by decide) (by decide +kernel) ?_
    refine xr_bipush (n := 43) (v := 43) (by decide) (by decide +kernel) ?_
    refine xr_icmp_ne (a' := (i3 (mem 2 2))) (b' := 43) rfl (by decide) (off := 6) (tgt := 111) (by decide) (by decide +kernel) ⟨fun c6 => ?_, fun c6 => ?_⟩
    · have k := k.1 c6
      refine xr_aload_n (n := 0) (i := 0) rfl (List.mem_of_getElem? (i := 0) rfl) (by decide +kernel) ?_
      refine xr_getT rfl fl_Read_9 rfl (by decide +kernel) ?_
      refine xr_getI rfl fl_Read_29 (by decide) (by decide +kernel) ?_
      refine xr_bipush (n := 45) (v := 45) (by decide) (by decide +kernel) ?_
      refine xr_icmp_ne (a' := (i3 (mem 2 2))) (b' := 45) rfl (by decide) (off := 8) (tgt := 128) (by decide) (by decide +kernel) ⟨fun c7 => ?_, fun c7 => ?_⟩
      · have k := k.1 c7
        refine xr_iconst (n := 0) (by decide +kernel) ?_
        exact xr_iret rfl (by decide +kernel) k
      · have k := k.2 c7
        refine xr_bipush (n := (-11)) (v := (-11)) (by decide) (by decide +kernel) ?_
        refine xr_goto (off := 4) (tgt := 129) (by decide) (by decide +kernel) ?_
        exact xr_iret rfl (by decide +kernel) k
    · have k := k.2 c6
      refine xr_bipush (n := (-10)) (v := (-10)) (by decide) (by decide +kernel) ?_
      exact xr_iret rfl (by decide +kernel) k
  · have k := k.2.2.2 c1
    refine xr_tabOut (dflt := 129) (low := 0) (high := 2) (offs := #[27, 61, 95]) (len := 27) c1 (tgt := 130) (by decide) (by decide +kernel) ?_
    refine xr_aload_n (n := 0) (i := 0) rfl (List.mem_of_getElem? (i := 0) rfl) (by decide +kernel) ?_
    refine xr_getT rfl fl_Read_9 rfl (by decide +kernel) ?_
    refine xr_getI rfl fl_Read_29 (by decide) (by decide +kernel) ?_
    refine xr_bipush (n := 42) (v := 42) (by decide) (by decide +kernel) ?_
    refine xr_icmp_ne (a' := (i3 (mem 2 2))) (b' := 42) rfl (by decide) (off := 8) (tgt := 147) (by decide) (by decide +kernel) ⟨fun c8 => ?_, fun c8 => ?_⟩
    · have k := k.1 c8
      refine xr_iconst (n := 0) (by decide +kernel) ?_
      exact xr_iret rfl (by decide +kernel) k
    · have k := k.2 c8
      refine xr_bipush (n := (-12)) (v := (-12)) (by decide) (by decide +kernel) ?_
      refine xr_goto (off := 4) (tgt := 148) (by decide) (by decide +kernel) ?_
      exact xr_iret rfl (by decide +kernel) k

theorem v_Read_readPart {g : sh_G} {d : Nat} {L : Nat} {depth : Int}  {mem : sh_Mem} {Q : Option sh_V → sh_Mem → Prop} (hL : ob2 L) (k : ((¬ (i3 (mem 2 5)) = 16 → sh_X g (d + 1) m_Read_readPart 17 [(0, (sh_r 4)), (1, (sh_r L)), (2, (sh_i depth))] [(sh_i 0)] mem (sh_K m_Read_readPart Q)) ∧ ((i3 (mem 2 5)) = 16 → sh_X g (d + 1) m_Read_readPart 17 [(0, (sh_r 4)), (1, (sh_r L)), (2, (sh_i depth))] [(sh_i 1)] mem (sh_K m_Read_readPart Q)))) : sh_Cal g (d + 1) m_Read_readPart [(sh_r 4), (sh_r L), (sh_i depth)] mem Q := by
  refine sh_met (by decide +kernel) (Nat.le_of_ble_eq_true rfl) (lo := [(0, (sh_r 4)), (1, (sh_r L)), (2, (sh_i depth))]) rfl ?_
  refine xr_aload_n (n := 0) (i := 0) rfl (List.mem_of_getElem? (i := 0) rfl) (by decide +kernel) ?_
  refine xr_getT rfl fl_Read_9 rfl (by decide +kernel) ?_
  refine xr_getI rfl fl_Read_32 (by decide) (by decide +kernel) ?_
  refine xr_bipush (n := 16) (v := 16) (by decide) (by decide +kernel) ?_
  refine xr_icmp_ne (a' := (i3 (mem 2 5))) (b' := 16) rfl (by decide) (off := 7) (tgt := 16) (by decide) (by decide +kernel) ⟨fun c1 => ?_, fun c1 => ?_⟩
  · have k := k.1 c1
    refine xr_iconst (n := 0) (by decide +kernel) ?_
    refine xr_sub (lo' := [(0, (sh_r 4)), (1, (sh_r L)), (2, (sh_i depth))]) [0, 1, 2] rfl ?_
    exact k
  · have k := k.2 c1
    refine xr_iconst (n := 1) (by decide +kernel) ?_
    refine xr_goto (off := 4) (tgt := 17) (by decide) (by decide +kernel) ?_
    refine xr_sub (lo' := [(0, (sh_r 4)), (1, (sh_r L)), (2, (sh_i depth))]) [0, 1, 2] rfl ?_
    exact k
theorem v_Read_readPart_17 {g : sh_G} {d : Nat} {L : Nat} {depth : Int}  {mem : sh_Mem} {Q : Option sh_V → sh_Mem → Prop} (hL : ob2 L) {y0 : Int} (k : ((¬ (i3 (mem 2 2)) = 2 → sh_X g (d + 1) m_Read_readPart 34 [(0, (sh_r 4)), (1, (sh_r L)), (2, (sh_i depth)), (3, (sh_i y0))] [(sh_i 0)] mem (sh_K m_Read_readPart Q)) ∧ ((i3 (mem 2 2)) = 2 → sh_X g (d + 1) m_Read_readPart 34 [(0, (sh_r 4)), (1, (sh_r L)), (2, (sh_i depth)), (3, (sh_i y0))] [(sh_i 1)] mem (sh_K m_Read_readPart Q)))) : sh_X g (d + 1) m_Read_readPart 17 [(0, (sh_r 4)), (1, (sh_r L)), (2, (sh_i depth))] [(sh_i y0)] mem (sh_K m_Read_readPart Q) := by
  refine xr_istore_n (n := 3) (i := 3) rfl (by decide) rfl (by decide +kernel) ?_
  refine xr_aload_n (n := 0) (i := 0) rfl (List.mem_of_getElem? (i := 1) rfl) (by decide +kernel) ?_
  refine xr_getT rfl fl_Read_9 rfl (by decide +kernel) ?_
  refine xr_getI rfl fl_Read_29 (by decide) (by decide +kernel) ?_
  refine xr_iconst (n := 2) (by decide +kernel) ?_
  refine xr_icmp_ne (a' := (i3 (mem 2 2))) (b' := 2) rfl (by decide) (off := 7) (tgt := 33) (by decide) (by decide +kernel) ⟨fun c1 => ?_, fun c1 => ?_⟩
  · have k := k.1 c1
    refine xr_iconst (n := 0) (by decide +kernel) ?_
    refine xr_sub (lo' := [(0, (sh_r 4)), (1, (sh_r L)), (2, (sh_i depth)), (3, (sh_i y0))]) [1, 2, 3, 0] rfl ?_
    exact k
  · have k := k.2 c1
    refine xr_iconst (n := 1) (by decide +kernel) ?_
    refine xr_goto (off := 4) (tgt := 34) (by decide) (by decide +kernel) ?_
    refine xr_sub (lo' := [(0, (sh_r 4)), (1, (sh_r L)), (2, (sh_i depth)), (3, (sh_i y0))]) [1, 2, 3, 0] rfl ?_
    exact k
theorem v_Read_readPart_34 {g : sh_G} {d : Nat} {L : Nat} {depth : Int}  {mem : sh_Mem} {Q : Option sh_V → sh_Mem → Prop} (hL : ob2 L) {x3 : Int} {y0 : Int} (k : ((¬ (i3 (mem 2 2)) = 40 → sh_X g (d + 1) m_Read_readPart 53 [(0, (sh_r 4)), (1, (sh_r L)), (2, (sh_i depth)), (3, (sh_i x3)), (4, (sh_i y0))] [(sh_i 0)] mem (sh_K m_Read_readPart Q)) ∧ ((i3 (mem 2 2)) = 40 → sh_X g (d + 1) m_Read_readPart 53 [(0, (sh_r 4)), (1, (sh_r L)), (2, (sh_i depth)), (3, (sh_i x3)), (4, (sh_i y0))] [(sh_i 1)] mem (sh_K m_Read_readPart Q)))) : sh_X g (d + 1) m_Read_readPart 34 [(0, (sh_r 4)), (1, (sh_r L)), (2, (sh_i depth)), (3, (sh_i x3))] [(sh_i y0)] mem (sh_K m_Read_readPart Q) := by
  refine xr_istore (i := 4) (by decide) rfl (by decide +kernel) ?_
  refine xr_aload_n (n := 0) (i := 0) rfl (List.mem_of_getElem? (i := 1) rfl) (by decide +kernel) ?_
  refine xr_getT rfl fl_Read_9 rfl (by decide +kernel) ?_
  refine xr_getI rfl fl_Read_29 (by decide) (by decide +kernel) ?_
  refine xr_bipush (n := 40) (v := 40) (by decide) (by decide +kernel) ?_
  refine xr_icmp_ne (a' := (i3 (mem 2 2))) (b' := 40) rfl (by decide) (off := 7) (tgt := 52) (by decide) (by decide +kernel) ⟨fun c1 => ?_, fun c1 => ?_⟩
  · have k := k.1 c1
    refine xr_iconst (n := 0) (by decide +kernel) ?_
    refine xr_sub (lo' := [(0, (sh_r 4)), (1, (sh_r L)), (2, (sh_i depth)), (3, (sh_i x3)), (4, (sh_i y0))]) [1, 2, 3, 4, 0] rfl ?_
    exact k
  · have k := k.2 c1
    refine xr_iconst (n := 1) (by decide +kernel) ?_
    refine xr_goto (off := 4) (tgt := 53) (by decide) (by decide +kernel) ?_
    refine xr_sub (lo' := [(0, (sh_r 4)), (1, (sh_r L)), (2, (sh_i depth)), (3, (sh_i x3)), (4, (sh_i y0))]) [1, 2, 3, 4, 0] rfl ?_
    exact k
theorem v_Read_readPart_53 {g : sh_G} {d : Nat} {L : Nat} {depth : Int}  {mem : sh_Mem} {Q : Option sh_V → sh_Mem → Prop} (hL : ob2 L) {x3 : Int} {x4 : Int} {y0 : Int} (k : (((i3 (mem 2 6)) = (-1) → sh_X g (d + 1) m_Read_readPart 71 [(0, (sh_r 4)), (1, (sh_r L)), (2, (sh_i depth)), (3, (sh_i x3)), (4, (sh_i x4)), (5, (sh_i y0))] [(sh_i 0)] mem (sh_K m_Read_readPart Q)) ∧ (¬ (i3 (mem 2 6)) = (-1) → sh_X g (d + 1) m_Read_readPart 71 [(0, (sh_r 4)), (1, (sh_r L)), (2, (sh_i depth)), (3, (sh_i x3)), (4, (sh_i x4)), (5, (sh_i y0))] [(sh_i 1)] mem (sh_K m_Read_readPart Q)))) : sh_X g (d + 1) m_Read_readPart 53 [(0, (sh_r 4)), (1, (sh_r L)), (2, (sh_i depth)), (3, (sh_i x3)), (4, (sh_i x4))] [(sh_i y0)] mem (sh_K m_Read_readPart Q) := by
  refine xr_istore (i := 5) (by decide) rfl (by decide +kernel) ?_
  refine xr_aload_n (n := 0) (i := 0) rfl (List.mem_of_getElem? (i := 1) rfl) (by decide +kernel) ?_
  refine xr_getT rfl fl_Read_9 rfl (by decide +kernel) ?_
  refine xr_getI rfl fl_Read_138 (by decide) (by decide +kernel) ?_
  refine xr_iconst (n := (-1)) (by decide +kernel) ?_
  refine xr_icmp_eq (a' := (i3 (mem 2 6))) (b' := (-1)) rfl (by decide) (off := 7) (tgt := 70) (by decide) (by decide +kernel) ⟨fun c1 => ?_, fun c1 => ?_⟩
  · have k := k.1 c1
    refine xr_iconst (n := 0) (by decide +kernel) ?_
    refine xr_sub (lo' := [(0, (sh_r 4)), (1, (sh_r L)), (2, (sh_i depth)), (3, (sh_i x3)), (4, (sh_i x4)), (5, (sh_i y0))]) [1, 2, 3, 4, 5, 0] rfl ?_
    exact k
  · have k := k.2 c1
    refine xr_iconst (n := 1) (by decide +kernel) ?_
    refine xr_goto (off := 4) (tgt := 71) (by decide) (by decide +kernel) ?_
    refine xr_sub (lo' := [(0, (sh_r 4)), (1, (sh_r L)), (2, (sh_i depth)), (3, (sh_i x3)), (4, (sh_i x4)), (5, (sh_i y0))]) [1, 2, 3, 4, 5, 0] rfl ?_
    exact k
theorem v_Read_readPart_71 {g : sh_G} {d : Nat} {L : Nat} {depth : Int}  {mem : sh_Mem} {Q : Option sh_V → sh_Mem → Prop} (hL : ob2 L) {x3 : Int} {x4 : Int} {x5 : Int} {y0 : Int} (k : ((¬ (i3 x3) = 0 → sh_X g (d + 1) m_Read_readPart 98 [(0, (sh_r 4)), (1, (sh_r L)), (2, (sh_i depth)), (3, (sh_i x3)), (4, (sh_i x4)), (5, (sh_i x5)), (6, (sh_i y0))] [] mem (sh_K m_Read_readPart Q)) ∧ ((i3 x3) = 0 → ((¬ (i3 x4) = 0 → sh_X g (d + 1) m_Read_readPart 98 [(0, (sh_r 4)), (1, (sh_r L)), (2, (sh_i depth)), (3, (sh_i x3)), (4, (sh_i x4)), (5, (sh_i x5)), (6, (sh_i y0))] [] mem (sh_K m_Read_readPart Q)) ∧ ((i3 x4) = 0 → ((¬ (i3 x5) = 0 → sh_X g (d + 1) m_Read_readPart 98 [(0, (sh_r 4)), (1, (sh_r L)), (2, (sh_i depth)), (3, (sh_i x3)), (4, (sh_i x4)), (5, (sh_i x5)), (6, (sh_i y0))] [] mem (sh_K m_Read_readPart Q)) ∧ ((i3 x5) = 0 → ((¬ (i3 y0) = 0 → sh_X g (d + 1) m_Read_readPart 98 [(0, (sh_r 4)), (1, (sh_r L)), (2, (sh_i depth)), (3, (sh_i x3)), (4, (sh_i x4)), (5, (sh_i x5)), (6, (sh_i y0))] [] mem (sh_K m_Read_readPart Q)) ∧ ((i3 y0) = 0 → (sh_Cal g d m_Read_refuse [(sh_r 4), (sh_i 1)] mem fun rv m1 => ∃ r1 : Int, rv = some (sh_i r1) ∧ ((r1 = 0 ∨ r1 = 1) ∧ Q (some (sh_i r1)) m1))))))))))) : sh_X g (d + 1) m_Read_readPart 71 [(0, (sh_r 4)), (1, (sh_r L)), (2, (sh_i depth)), (3, (sh_i x3)), (4, (sh_i x4)), (5, (sh_i x5))] [(sh_i y0)] mem (sh_K m_Read_readPart Q) := by
  refine xr_istore (i := 6) (by decide) rfl (by decide +kernel) ?_
  refine xr_iload_n (n := 3) (i := 3) rfl (List.mem_of_getElem? (i := 4) rfl) (by decide +kernel) ?_
  refine xr_if_ne (a' := (i3 x3)) rfl (off := 24) (tgt := 98) (by decide) (by decide +kernel) ⟨fun c1 => ?_, fun c1 => ?_⟩
  · have k := k.1 c1
    refine xr_sub (lo' := [(0, (sh_r 4)), (1, (sh_r L)), (2, (sh_i depth)), (3, (sh_i x3)), (4, (sh_i x4)), (5, (sh_i x5)), (6, (sh_i y0))]) [1, 2, 3, 4, 5, 6, 0] rfl ?_
    exact k
  · have k := k.2 c1
    refine xr_iload (i := 4) (List.mem_of_getElem? (i := 5) rfl) (by decide +kernel) ?_
    refine xr_if_ne (a' := (i3 x4)) rfl (off := 19) (tgt := 98) (by decide) (by decide +kernel) ⟨fun c2 => ?_, fun c2 => ?_⟩
    · have k := k.1 c2
      refine xr_sub (lo' := [(0, (sh_r 4)), (1, (sh_r L)), (2, (sh_i depth)), (3, (sh_i x3)), (4, (sh_i x4)), (5, (sh_i x5)), (6, (sh_i y0))]) [1, 2, 3, 4, 5, 6, 0] rfl ?_
      exact k
    · have k := k.2 c2
      refine xr_iload (i := 5) (List.mem_of_getElem? (i := 6) rfl) (by decide +kernel) ?_
      refine xr_if_ne (a' := (i3 x5)) rfl (off := 14) (tgt := 98) (by decide) (by decide +kernel) ⟨fun c3 => ?_, fun c3 => ?_⟩
      · have k := k.1 c3
        refine xr_sub (lo' := [(0, (sh_r 4)), (1, (sh_r L)), (2, (sh_i depth)), (3, (sh_i x3)), (4, (sh_i x4)), (5, (sh_i x5)), (6, (sh_i y0))]) [1, 2, 3, 4, 5, 6, 0] rfl ?_
        exact k
      · have k := k.2 c3
        refine xr_iload (i := 6) (List.mem_of_getElem? (i := 0) rfl) (by decide +kernel) ?_
        refine xr_if_ne (a' := (i3 y0)) rfl (off := 9) (tgt := 98) (by decide) (by decide +kernel) ⟨fun c4 => ?_, fun c4 => ?_⟩
        · have k := k.1 c4
          refine xr_sub (lo' := [(0, (sh_r 4)), (1, (sh_r L)), (2, (sh_i depth)), (3, (sh_i x3)), (4, (sh_i x4)), (5, (sh_i x5)), (6, (sh_i y0))]) [1, 2, 3, 4, 5, 6, 0] rfl ?_
          exact k
        · have k := k.2 c4
          refine xr_aload_n (n := 0) (i := 0) rfl (List.mem_of_getElem? (i := 1) rfl) (by decide +kernel) ?_
          refine xr_iconst (n := 1) (by decide +kernel) ?_
          refine xr_callV (av := [(sh_i 1)]) rfl rfl rfl mo_Read_refuse ml_Read_45 im_Read_refuse se_Read_refuse rfl (Nat.le_of_ble_eq_true rfl) (by decide +kernel) (sh_mono k ?_)
          rintro rv m1 ⟨r1, rfl, k⟩
          show sh_X g (d + 1) m_Read_readPart _ _ [(sh_i r1)] _ _
          exact xr_zret rfl (by decide +kernel) k.1 k.2
theorem v_Read_readPart_98 {g : sh_G} {d : Nat} {L : Nat} {depth : Int}  {mem : sh_Mem} {Q : Option sh_V → sh_Mem → Prop} (hL : ob2 L) {x3 : Int} {x4 : Int} {x5 : Int} {x6 : Int} (k : (((i3 depth) < 5 → (((i3 x4) = 0 → (((i3 x6) = 0 → sh_X g (d + 1) m_Read_readPart 146 [(0, (sh_r 4)), (1, (sh_r L)), (2, (sh_i depth)), (3, (sh_i x3)), (4, (sh_i x4)), (5, (sh_i x5)), (6, (sh_i x6))] [] mem (sh_K m_Read_readPart Q)) ∧ (¬ (i3 x6) = 0 → (sh_Cal g d m_Law_put [(sh_r L), (sh_i ((-1) - (mem 2 6)))] mem fun rv m1 => rv = none ∧ sh_X g (d + 1) m_Read_readPart 146 [(0, (sh_r 4)), (1, (sh_r L)), (2, (sh_i depth)), (3, (sh_i x3)), (4, (sh_i x4)), (5, (sh_i x5)), (6, (sh_i x6))] [] m1 (sh_K m_Read_readPart Q))))) ∧ (¬ (i3 x4) = 0 → (sh_Cal g d m_Law_put [(sh_r L), (sh_i (mem 2 8))] mem fun rv m2 => rv = none ∧ sh_X g (d + 1) m_Read_readPart 146 [(0, (sh_r 4)), (1, (sh_r L)), (2, (sh_i depth)), (3, (sh_i x3)), (4, (sh_i x4)), (5, (sh_i x5)), (6, (sh_i x6))] [] m2 (sh_K m_Read_readPart Q))))) ∧ (¬ (i3 depth) < 5 → (sh_Cal g d m_Read_refuse [(sh_r 4), (sh_i 5)] mem fun rv m3 => ∃ r1 : Int, rv = some (sh_i r1) ∧ ((r1 = 0 ∨ r1 = 1) ∧ Q (some (sh_i r1)) m3))))) : sh_X g (d + 1) m_Read_readPart 98 [(0, (sh_r 4)), (1, (sh_r L)), (2, (sh_i depth)), (3, (sh_i x3)), (4, (sh_i x4)), (5, (sh_i x5)), (6, (sh_i x6))] [] mem (sh_K m_Read_readPart Q) := by
  refine xr_iload_n (n := 2) (i := 2) rfl (List.mem_of_getElem? (i := 2) rfl) (by decide +kernel) ?_
  refine xr_iconst (n := 5) (by decide +kernel) ?_
  refine xr_icmp_lt (a' := (i3 depth)) (b' := 5) rfl (by decide) (off := 9) (tgt := 109) (by decide) (by decide +kernel) ⟨fun c1 => ?_, fun c1 => ?_⟩
  · have k := k.1 c1
    refine xr_iload (i := 4) (List.mem_of_getElem? (i := 4) rfl) (by decide +kernel) ?_
    refine xr_if_eq (a' := (i3 x4)) rfl (off := 17) (tgt := 128) (by decide) (by decide +kernel) ⟨fun c2 => ?_, fun c2 => ?_⟩
    · have k := k.1 c2
      refine xr_iload (i := 6) (List.mem_of_getElem? (i := 6) rfl) (by decide +kernel) ?_
      refine xr_if_eq (a' := (i3 x6)) rfl (off := 16) (tgt := 146) (by decide) (by decide +kernel) ⟨fun c3 => ?_, fun c3 => ?_⟩
      · have k := k.1 c3
        refine xr_sub (lo' := [(0, (sh_r 4)), (1, (sh_r L)), (2, (sh_i depth)), (3, (sh_i x3)), (4, (sh_i x4)), (5, (sh_i x5)), (6, (sh_i x6))]) [0, 1, 2, 3, 4, 5, 6] rfl ?_
        exact k
      · have k := k.2 c3
        refine xr_aload_n (n := 1) (i := 1) rfl (List.mem_of_getElem? (i := 1) rfl) (by decide +kernel) ?_
        refine xr_iconst (n := (-1)) (by decide +kernel) ?_
        refine xr_aload_n (n := 0) (i := 0) rfl (List.mem_of_getElem? (i := 0) rfl) (by decide +kernel) ?_
        refine xr_getT rfl fl_Read_9 rfl (by decide +kernel) ?_
        refine xr_getI rfl fl_Read_138 (by decide) (by decide +kernel) ?_
        refine xr_isub (by decide +kernel) ?_
        show sh_X g (d + 1) m_Read_readPart _ _ ((sh_i ((-1) - (mem 2 6))) :: _) _ _
        refine xr_callV (av := [(sh_i ((-1) - (mem 2 6)))]) (ob2_0 hL) rfl rfl mo_Law_put ml_Read_134 im_Law_put se_Law_put rfl (Nat.le_of_ble_eq_true rfl) (by decide +kernel) (sh_mono k ?_)
        rintro rv m1 ⟨rfl, k⟩
        show sh_X g (d + 1) m_Read_readPart _ _ [] _ _
        refine xr_sub (lo' := [(0, (sh_r 4)), (1, (sh_r L)), (2, (sh_i depth)), (3, (sh_i x3)), (4, (sh_i x4)), (5, (sh_i x5)), (6, (sh_i x6))]) [0, 1, 2, 3, 4, 5, 6] rfl ?_
        exact k
    · have k := k.2 c2
      refine xr_aload_n (n := 1) (i := 1) rfl (List.mem_of_getElem? (i := 1) rfl) (by decide +kernel) ?_
      refine xr_aload_n (n := 0) (i := 0) rfl (List.mem_of_getElem? (i := 0) rfl) (by decide +kernel) ?_
      refine xr_getT rfl fl_Read_9 rfl (by decide +kernel) ?_
      refine xr_getI rfl fl_Read_141 (by decide) (by decide +kernel) ?_
      refine xr_callV (av := [(sh_i (mem 2 8))]) (ob2_0 hL) rfl rfl mo_Law_put ml_Read_134 im_Law_put se_Law_put rfl (Nat.le_of_ble_eq_true rfl) (by decide +kernel) (sh_mono k ?_)
      rintro rv m2 ⟨rfl, k⟩
      show sh_X g (d + 1) m_Read_readPart _ _ [] _ _
      refine xr_goto (off := 21) (tgt := 146) (by decide) (by decide +kernel) ?_
      refine xr_sub (lo' := [(0, (sh_r 4)), (1, (sh_r L)), (2, (sh_i depth)), (3, (sh_i x3)), (4, (sh_i x4)), (5, (sh_i x5)), (6, (sh_i x6))]) [0, 1, 2, 3, 4, 5, 6] rfl ?_
      exact k
  · have k := k.2 c1
    refine xr_aload_n (n := 0) (i := 0) rfl (List.mem_of_getElem? (i := 0) rfl) (by decide +kernel) ?_
    refine xr_iconst (n := 5) (by decide +kernel) ?_
    refine xr_callV (av := [(sh_i 5)]) rfl rfl rfl mo_Read_refuse ml_Read_45 im_Read_refuse se_Read_refuse rfl (Nat.le_of_ble_eq_true rfl) (by decide +kernel) (sh_mono k ?_)
    rintro rv m3 ⟨r1, rfl, k⟩
    show sh_X g (d + 1) m_Read_readPart _ _ [(sh_i r1)] _ _
    exact xr_zret rfl (by decide +kernel) k.1 k.2
theorem v_Read_readPart_146 {g : sh_G} {d : Nat} {L : Nat} {depth : Int}  {mem : sh_Mem} {Q : Option sh_V → sh_Mem → Prop} (hL : ob2 L) {x3 : Int} {x4 : Int} {x5 : Int} {x6 : Int} (k : (sh_Cal g d m_Tape_step [(sh_r 2)] mem fun rv m1 => rv = none ∧ (((i3 x3) = 0 → (((i3 x5) = 0 → Q (some (sh_i 1)) m1) ∧ (¬ (i3 x5) = 0 → (sh_Cal g d m_Read_readJoined [(sh_r 4), (sh_r L), (sh_i 0), (sh_i (depth + 1))] m1 fun rv m2 => ∃ r1 : Int, rv = some (sh_i r1) ∧ (((i3 r1) = 0 → Q (some (sh_i 0)) m2) ∧ (¬ (i3 r1) = 0 → (sh_Cal g d m_Read_takeSign [(sh_r 4), (sh_i 41)] m2 fun rv m3 => ∃ r2 : Int, rv = some (sh_i r2) ∧ (((i3 r2) = 0 → Q (some (sh_i 0)) m3) ∧ (¬ (i3 r2) = 0 → Q (some (sh_i 1)) m3))))))))) ∧ (¬ (i3 x3) = 0 → (sh_Cal g d m_Read_readPart [(sh_r 4), (sh_r L), (sh_i (depth + 1))] m1 fun rv m4 => ∃ r3 : Int, rv = some (sh_i r3) ∧ (sh_Cal g d m_Law_put [(sh_r L), (sh_i (-5))] m4 fun rv m5 => rv = none ∧ ((r3 = 0 ∨ r3 = 1) ∧ Q (some (sh_i r3)) m5))))))) : sh_X g (d + 1) m_Read_readPart 146 [(0, (sh_r 4)), (1, (sh_r L)), (2, (sh_i depth)), (3, (sh_i x3)), (4, (sh_i x4)), (5, (sh_i x5)), (6, (sh_i x6))] [] mem (sh_K m_Read_readPart Q) := by
  refine xr_aload_n (n := 0) (i := 0) rfl (List.mem_of_getElem? (i := 0) rfl) (by decide +kernel) ?_
  refine xr_getT rfl fl_Read_9 rfl (by decide +kernel) ?_
  refine xr_callV (av := []) rfl rfl rfl mo_Tape_step ml_Read_62 im_Tape_step se_Tape_step rfl (Nat.le_of_ble_eq_true rfl) (by decide +kernel) (sh_mono k ?_)
  rintro rv m1 ⟨rfl, k⟩
  show sh_X g (d + 1) m_Read_readPart _ _ [] _ _
  refine xr_iload_n (n := 3) (i := 3) rfl (List.mem_of_getElem? (i := 3) rfl) (by decide +kernel) ?_
  refine xr_if_eq (a' := (i3 x3)) rfl (off := 22) (tgt := 176) (by decide) (by decide +kernel) ⟨fun c1 => ?_, fun c1 => ?_⟩
  · have k := k.1 c1
    refine xr_iload (i := 5) (List.mem_of_getElem? (i := 5) rfl) (by decide +kernel) ?_
    refine xr_if_eq (a' := (i3 x5)) rfl (off := 24) (tgt := 202) (by decide) (by decide +kernel) ⟨fun c2 => ?_, fun c2 => ?_⟩
    · have k := k.1 c2
      refine xr_iconst (n := 1) (by decide +kernel) ?_
      refine xr_goto (off := 4) (tgt := 207) (by decide) (by decide +kernel) ?_
      exact xr_zret rfl (by decide +kernel) (by decide) k
    · have k := k.2 c2
      refine xr_aload_n (n := 0) (i := 0) rfl (List.mem_of_getElem? (i := 0) rfl) (by decide +kernel) ?_
      refine xr_aload_n (n := 1) (i := 1) rfl (List.mem_of_getElem? (i := 1) rfl) (by decide +kernel) ?_
      refine xr_iconst (n := 0) (by decide +kernel) ?_
      refine xr_iload_n (n := 2) (i := 2) rfl (List.mem_of_getElem? (i := 2) rfl) (by decide +kernel) ?_
      refine xr_iconst (n := 1) (by decide +kernel) ?_
      refine xr_iadd (by decide +kernel) ?_
      show sh_X g (d + 1) m_Read_readPart _ _ ((sh_i (depth + 1)) :: _) _ _
      refine xr_callV (av := [(sh_r L), (sh_i 0), (sh_i (depth + 1))]) rfl rfl rfl mo_Read_readJoined ml_Read_122 im_Read_readJoined se_Read_readJoined rfl (Nat.le_of_ble_eq_true rfl) (by decide +kernel) (sh_mono k ?_)
      rintro rv m2 ⟨r1, rfl, k⟩
      show sh_X g (d + 1) m_Read_readPart _ _ [(sh_i r1)] _ _
      refine xr_if_eq (a' := (i3 r1)) rfl (off := 16) (tgt := 206) (by decide) (by decide +kernel) ⟨fun c3 => ?_, fun c3 => ?_⟩
      · have k := k.1 c3
        refine xr_iconst (n := 0) (by decide +kernel) ?_
        exact xr_zret rfl (by decide +kernel) (by decide) k
      · have k := k.2 c3
        refine xr_aload_n (n := 0) (i := 0) rfl (List.mem_of_getElem? (i := 0) rfl) (by decide +kernel) ?_
        refine xr_bipush (n := 41) (v := 41) (by decide) (by decide +kernel) ?_
        refine xr_callV (av := [(sh_i 41)]) rfl rfl rfl mo_Read_takeSign ml_Read_96 im_Read_takeSign se_Read_takeSign rfl (Nat.le_of_ble_eq_true rfl) (by decide +kernel) (sh_mono k ?_)
        rintro rv m3 ⟨r2, rfl, k⟩
        show sh_X g (d + 1) m_Read_readPart _ _ [(sh_i r2)] _ _
        refine xr_if_eq (a' := (i3 r2)) rfl (off := 7) (tgt := 206) (by decide) (by decide +kernel) ⟨fun c4 => ?_, fun c4 => ?_⟩
        · have k := k.1 c4
          refine xr_iconst (n := 0) (by decide +kernel) ?_
          exact xr_zret rfl (by decide +kernel) (by decide) k
        · have k := k.2 c4
          refine xr_iconst (n := 1) (by decide +kernel) ?_
          refine xr_goto (off := 4) (tgt := 207) (by decide) (by decide +kernel) ?_
          exact xr_zret rfl (by decide +kernel) (by decide) k
  · have k := k.2 c1
    refine xr_aload_n (n := 0) (i := 0) rfl (List.mem_of_getElem? (i := 0) rfl) (by decide +kernel) ?_
    refine xr_aload_n (n := 1) (i := 1) rfl (List.mem_of_getElem? (i := 1) rfl) (by decide +kernel) ?_
    refine xr_iload_n (n := 2) (i := 2) rfl (List.mem_of_getElem? (i := 2) rfl) (by decide +kernel) ?_
    refine xr_iconst (n := 1) (by decide +kernel) ?_
    refine xr_iadd (by decide +kernel) ?_
    show sh_X g (d + 1) m_Read_readPart _ _ ((sh_i (depth + 1)) :: _) _ _
    refine xr_callV (av := [(sh_r L), (sh_i (depth + 1))]) rfl rfl rfl mo_Read_readPart ml_Read_126 im_Read_readPart se_Read_readPart rfl (Nat.le_of_ble_eq_true rfl) (by decide +kernel) (sh_mono k ?_)
    rintro rv m4 ⟨r3, rfl, k⟩
    show sh_X g (d + 1) m_Read_readPart _ _ [(sh_i r3)] _ _
    refine xr_istore (i := 7) (by decide) rfl (by decide +kernel) ?_
    refine xr_aload_n (n := 1) (i := 1) rfl (List.mem_of_getElem? (i := 2) rfl) (by decide +kernel) ?_
    refine xr_bipush (n := (-5)) (v := (-5)) (by decide) (by decide +kernel) ?_
    refine xr_callV (av := [(sh_i (-5))]) (ob2_0 hL) rfl rfl mo_Law_put ml_Read_134 im_Law_put se_Law_put rfl (Nat.le_of_ble_eq_true rfl) (by decide +kernel) (sh_mono k ?_)
    rintro rv m5 ⟨rfl, k⟩
    show sh_X g (d + 1) m_Read_readPart _ _ [] _ _
    refine xr_iload (i := 7) (List.mem_of_getElem? (i := 0) rfl) (by decide +kernel) ?_
    exact xr_zret rfl (by decide +kernel) k.1 k.2

theorem v_Read_readLine {g : sh_G} {d : Nat} {Y : Nat} {B : Nat}  {mem : sh_Mem} {Q : Option sh_V → sh_Mem → Prop} (hY : ob10 Y) (hB : ob0 B) (k : (sh_Cal g d m_Sto_isWithin [(sh_i ((mem 2 5) - 7)), (sh_i 0), (sh_i 4)] mem fun rv m1 => ∃ r1 : Int, rv = some (sh_i r1) ∧ ((¬ (i3 r1) = 0 → (((i3 (m1 Y 0)) < 40 → (sh_Cal g d m_Tape_step [(sh_r 2)] m1 fun rv m2 => rv = none ∧ (((i3 ((mem 2 5) - 7)) = 0 → sh_X g (d + 1) m_Read_readLine 75 [(0, (sh_r 4)), (1, (sh_r Y)), (2, (sh_r B)), (3, (sh_i ((mem 2 5) - 7))), (4, (sh_i (-1))), (5, (sh_i (-1)))] [] m2 (sh_K m_Read_readLine Q)) ∧ (¬ (i3 ((mem 2 5) - 7)) = 0 → (sh_Cal g d m_Read_takeThief [(sh_r 4), (sh_r B), (sh_i (-1))] m2 fun rv m3 => ∃ r2 : Int, rv = some (sh_i r2) ∧ ((¬ (i3 r2) = 0 → sh_X g (d + 1) m_Read_readLine 75 [(0, (sh_r 4)), (1, (sh_r Y)), (2, (sh_r B)), (3, (sh_i ((mem 2 5) - 7))), (4, (sh_i (m3 4 2))), (5, (sh_i (-1)))] [] m3 (sh_K m_Read_readLine Q)) ∧ ((i3 r2) = 0 → Q (some (sh_i 0)) m3))))))) ∧ (¬ (i3 (m1 Y 0)) < 40 → (sh_Cal g d m_Read_refuse [(sh_r 4), (sh_i 5)] m1 fun rv m4 => ∃ r3 : Int, rv = some (sh_i r3) ∧ ((r3 = 0 ∨ r3 = 1) ∧ Q (some (sh_i r3)) m4))))) ∧ ((i3 r1) = 0 → (sh_Cal g d m_Read_refuse [(sh_r 4), (sh_i 1)] m1 fun rv m5 => ∃ r4 : Int, rv = some (sh_i r4) ∧ ((r4 = 0 ∨ r4 = 1) ∧ Q (some (sh_i r4)) m5)))))) : sh_Cal g (d + 1) m_Read_readLine [(sh_r 4), (sh_r Y), (sh_r B)] mem Q := by
  refine sh_met (by decide +kernel) (Nat.le_of_ble_eq_true rfl) (lo := [(0, (sh_r 4)), (1, (sh_r Y)), (2, (sh_r B))]) rfl ?_
  refine xr_aload_n (n := 0) (i := 0) rfl (List.mem_of_getElem? (i := 0) rfl) (by decide +kernel) ?_
  refine xr_getT rfl fl_Read_9 rfl (by decide +kernel) ?_
  refine xr_getI rfl fl_Read_32 (by decide) (by decide +kernel) ?_
  refine xr_bipush (n := 7) (v := 7) (by decide) (by decide +kernel) ?_
  refine xr_isub (by decide +kernel) ?_
  show sh_X g (d + 1) m_Read_readLine _ _ ((sh_i ((mem 2 5) - 7)) :: _) _ _
  refine xr_istore_n (n := 3) (i := 3) rfl (by decide) rfl (by decide +kernel) ?_
  refine xr_iload_n (n := 3) (i := 3) rfl (List.mem_of_getElem? (i := 0) rfl) (by decide +kernel) ?_
  refine xr_iconst (n := 0) (by decide +kernel) ?_
  refine xr_iconst (n := 4) (by decide +kernel) ?_
  refine xr_callN (av := [(sh_i ((mem 2 5) - 7)), (sh_i 0), (sh_i 4)]) mo_Sto_isWithin rfl rfl sa_Sto_isWithin rfl (Nat.le_of_ble_eq_true rfl) (by decide +kernel) (sh_mono k ?_)
  rintro rv m1 ⟨r1, rfl, k⟩
  show sh_X g (d + 1) m_Read_readLine _ _ [(sh_i r1)] _ _
  refine xr_if_ne (a' := (i3 r1)) rfl (off := 9) (tgt := 26) (by decide) (by decide +kernel) ⟨fun c1 => ?_, fun c1 => ?_⟩
  · have k := k.1 c1
    refine xr_aload_n (n := 1) (i := 1) rfl (List.mem_of_getElem? (i := 2) rfl) (by decide +kernel) ?_
    refine xr_getI (ob10_0 hY) fl_Read_50 (by decide) (by decide +kernel) ?_
    refine xr_bipush (n := 40) (v := 40) (by decide) (by decide +kernel) ?_
    refine xr_icmp_lt (a' := (i3 (m1 Y 0))) (b' := 40) rfl (by decide) (off := 9) (tgt := 41) (by decide) (by decide +kernel) ⟨fun c2 => ?_, fun c2 => ?_⟩
    · have k := k.1 c2
      refine xr_aload_n (n := 0) (i := 0) rfl (List.mem_of_getElem? (i := 1) rfl) (by decide +kernel) ?_
      refine xr_getT rfl fl_Read_9 rfl (by decide +kernel) ?_
      refine xr_callV (av := []) rfl rfl rfl mo_Tape_step ml_Read_62 im_Tape_step se_Tape_step rfl (Nat.le_of_ble_eq_true rfl) (by decide +kernel) (sh_mono k ?_)
      rintro rv m2 ⟨rfl, k⟩
      show sh_X g (d + 1) m_Read_readLine _ _ [] _ _
      refine xr_iconst (n := (-1)) (by decide +kernel) ?_
      refine xr_istore (i := 4) (by decide) rfl (by decide +kernel) ?_
      refine xr_iconst (n := (-1)) (by decide +kernel) ?_
      refine xr_istore (i := 5) (by decide) rfl (by decide +kernel) ?_
      refine xr_iload_n (n := 3) (i := 3) rfl (List.mem_of_getElem? (i := 2) rfl) (by decide +kernel) ?_
      refine xr_if_eq (a' := (i3 ((mem 2 5) - 7))) rfl (off := 20) (tgt := 75) (by decide) (by decide +kernel) ⟨fun c3 => ?_, fun c3 => ?_⟩
      · have k := k.1 c3
        refine xr_sub (lo' := [(0, (sh_r 4)), (1, (sh_r Y)), (2, (sh_r B)), (3, (sh_i ((mem 2 5) - 7))), (4, (sh_i (-1))), (5, (sh_i (-1)))]) [3, 4, 5, 2, 1, 0] rfl ?_
        exact k
      · have k := k.2 c3
        refine xr_aload_n (n := 0) (i := 0) rfl (List.mem_of_getElem? (i := 3) rfl) (by decide +kernel) ?_
        refine xr_aload_n (n := 2) (i := 2) rfl (List.mem_of_getElem? (i := 5) rfl) (by decide +kernel) ?_
        refine xr_iconst (n := (-1)) (by decide +kernel) ?_
        refine xr_callV (av := [(sh_r B), (sh_i (-1))]) rfl rfl rfl mo_Read_takeThief ml_Read_144 im_Read_takeThief se_Read_takeThief rfl (Nat.le_of_ble_eq_true rfl) (by decide +kernel) (sh_mono k ?_)
        rintro rv m3 ⟨r2, rfl, k⟩
        show sh_X g (d + 1) m_Read_readLine _ _ [(sh_i r2)] _ _
        refine xr_if_ne (a' := (i3 r2)) rfl (off := 5) (tgt := 69) (by decide) (by decide +kernel) ⟨fun c4 => ?_, fun c4 => ?_⟩
        · have k := k.1 c4
          refine xr_aload_n (n := 0) (i := 0) rfl (List.mem_of_getElem? (i := 3) rfl) (by decide +kernel) ?_
          refine xr_getI rfl fl_Read_90 (by decide) (by decide +kernel) ?_
          refine xr_istore (i := 4) (by decide) rfl (by decide +kernel) ?_
          refine xr_sub (lo' := [(0, (sh_r 4)), (1, (sh_r Y)), (2, (sh_r B)), (3, (sh_i ((mem 2 5) - 7))), (4, (sh_i (m3 4 2))), (5, (sh_i (-1)))]) [3, 4, 5, 2, 0, 1] rfl ?_
          exact k
        · have k := k.2 c4
          refine xr_iconst (n := 0) (by decide +kernel) ?_
          exact xr_zret rfl (by decide +kernel) (by decide) k
    · have k := k.2 c2
      refine xr_aload_n (n := 0) (i := 0) rfl (List.mem_of_getElem? (i := 1) rfl) (by decide +kernel) ?_
      refine xr_iconst (n := 5) (by decide +kernel) ?_
      refine xr_callV (av := [(sh_i 5)]) rfl rfl rfl mo_Read_refuse ml_Read_45 im_Read_refuse se_Read_refuse rfl (Nat.le_of_ble_eq_true rfl) (by decide +kernel) (sh_mono k ?_)
      rintro rv m4 ⟨r3, rfl, k⟩
      show sh_X g (d + 1) m_Read_readLine _ _ [(sh_i r3)] _ _
      exact xr_zret rfl (by decide +kernel) k.1 k.2
  · have k := k.2 c1
    refine xr_aload_n (n := 0) (i := 0) rfl (List.mem_of_getElem? (i := 1) rfl) (by decide +kernel) ?_
    refine xr_iconst (n := 1) (by decide +kernel) ?_
    refine xr_callV (av := [(sh_i 1)]) rfl rfl rfl mo_Read_refuse ml_Read_45 im_Read_refuse se_Read_refuse rfl (Nat.le_of_ble_eq_true rfl) (by decide +kernel) (sh_mono k ?_)
    rintro rv m5 ⟨r4, rfl, k⟩
    show sh_X g (d + 1) m_Read_readLine _ _ [(sh_i r4)] _ _
    exact xr_zret rfl (by decide +kernel) k.1 k.2
theorem v_Read_readLine_75 {g : sh_G} {d : Nat} {Y : Nat} {B : Nat}  {mem : sh_Mem} {Q : Option sh_V → sh_Mem → Prop} (hY : ob10 Y) (hB : ob0 B) {x3 : Int} {x4 : Int} {x5 : Int} (k : (((i3 x3) = 1 → sh_X g (d + 1) m_Read_readLine 85 [(0, (sh_r 4)), (1, (sh_r Y)), (2, (sh_r B)), (3, (sh_i x3)), (4, (sh_i x4)), (5, (sh_i x5))] [] mem (sh_K m_Read_readLine Q)) ∧ (¬ (i3 x3) = 1 → ((¬ (i3 x3) = 4 → (sh_Cal g d m_Year_add [(sh_r Y), (sh_i x3), (sh_i x4), (sh_i x5)] mem fun rv m1 => rv = none ∧ (sh_Cal g d m_Read_takeSign [(sh_r 4), (sh_i 59)] m1 fun rv m2 => ∃ r1 : Int, rv = some (sh_i r1) ∧ ((r1 = 0 ∨ r1 = 1) ∧ Q (some (sh_i r1)) m2)))) ∧ ((i3 x3) = 4 → sh_X g (d + 1) m_Read_readLine 85 [(0, (sh_r 4)), (1, (sh_r Y)), (2, (sh_r B)), (3, (sh_i x3)), (4, (sh_i x4)), (5, (sh_i x5))] [] mem (sh_K m_Read_readLine Q)))))) : sh_X g (d + 1) m_Read_readLine 75 [(0, (sh_r 4)), (1, (sh_r Y)), (2, (sh_r B)), (3, (sh_i x3)), (4, (sh_i x4)), (5, (sh_i x5))] [] mem (sh_K m_Read_readLine Q) := by
  refine xr_iload_n (n := 3) (i := 3) rfl (List.mem_of_getElem? (i := 3) rfl) (by decide +kernel) ?_
  refine xr_iconst (n := 1) (by decide +kernel) ?_
  refine xr_icmp_eq (a' := (i3 x3)) (b' := 1) rfl (by decide) (off := 8) (tgt := 85) (by decide) (by decide +kernel) ⟨fun c1 => ?_, fun c1 => ?_⟩
  · have k := k.1 c1
    refine xr_sub (lo' := [(0, (sh_r 4)), (1, (sh_r Y)), (2, (sh_r B)), (3, (sh_i x3)), (4, (sh_i x4)), (5, (sh_i x5))]) [0, 1, 2, 3, 4, 5] rfl ?_
    exact k
  · have k := k.2 c1
    refine xr_iload_n (n := 3) (i := 3) rfl (List.mem_of_getElem? (i := 3) rfl) (by decide +kernel) ?_
    refine xr_iconst (n := 4) (by decide +kernel) ?_
    refine xr_icmp_ne (a' := (i3 x3)) (b' := 4) rfl (by decide) (off := 38) (tgt := 120) (by decide) (by decide +kernel) ⟨fun c2 => ?_, fun c2 => ?_⟩
    · have k := k.1 c2
      refine xr_aload_n (n := 1) (i := 1) rfl (List.mem_of_getElem? (i := 1) rfl) (by decide +kernel) ?_
      refine xr_iload_n (n := 3) (i := 3) rfl (List.mem_of_getElem? (i := 3) rfl) (by decide +kernel) ?_
      refine xr_iload (i := 4) (List.mem_of_getElem? (i := 4) rfl) (by decide +kernel) ?_
      refine xr_iload (i := 5) (List.mem_of_getElem? (i := 5) rfl) (by decide +kernel) ?_
      refine xr_callV (av := [(sh_i x3), (sh_i x4), (sh_i x5)]) (ob10_0 hY) rfl rfl mo_Year_add ml_Read_151 im_Year_add se_Year_add rfl (Nat.le_of_ble_eq_true rfl) (by decide +kernel) (sh_mono k ?_)
      rintro rv m1 ⟨rfl, k⟩
      show sh_X g (d + 1) m_Read_readLine _ _ [] _ _
      refine xr_aload_n (n := 0) (i := 0) rfl (List.mem_of_getElem? (i := 0) rfl) (by decide +kernel) ?_
      refine xr_bipush (n := 59) (v := 59) (by decide) (by decide +kernel) ?_
      refine xr_callV (av := [(sh_i 59)]) rfl rfl rfl mo_Read_takeSign ml_Read_96 im_Read_takeSign se_Read_takeSign rfl (Nat.le_of_ble_eq_true rfl) (by decide +kernel) (sh_mono k ?_)
      rintro rv m2 ⟨r1, rfl, k⟩
      show sh_X g (d + 1) m_Read_readLine _ _ [(sh_i r1)] _ _
      exact xr_zret rfl (by decide +kernel) k.1 k.2
    · have k := k.2 c2
      refine xr_sub (lo' := [(0, (sh_r 4)), (1, (sh_r Y)), (2, (sh_r B)), (3, (sh_i x3)), (4, (sh_i x4)), (5, (sh_i x5))]) [0, 1, 2, 3, 4, 5] rfl ?_
      exact k
theorem v_Read_readLine_85 {g : sh_G} {d : Nat} {Y : Nat} {B : Nat}  {mem : sh_Mem} {Q : Option sh_V → sh_Mem → Prop} (hY : ob10 Y) (hB : ob0 B) {x3 : Int} {x4 : Int} {x5 : Int} (k : ((¬ (i3 x3) = 1 → (sh_Cal g d m_Read_takeThief [(sh_r 4), (sh_r B), (sh_i x4)] mem fun rv m1 => ∃ r1 : Int, rv = some (sh_i r1) ∧ sh_X g (d + 1) m_Read_readLine 105 [(0, (sh_r 4)), (1, (sh_r Y)), (2, (sh_r B)), (3, (sh_i x3)), (4, (sh_i x4)), (5, (sh_i x5))] [(sh_i r1)] m1 (sh_K m_Read_readLine Q))) ∧ ((i3 x3) = 1 → (sh_Cal g d m_Read_takeDay [(sh_r 4), (sh_r B)] mem fun rv m2 => ∃ r2 : Int, rv = some (sh_i r2) ∧ sh_X g (d + 1) m_Read_readLine 105 [(0, (sh_r 4)), (1, (sh_r Y)), (2, (sh_r B)), (3, (sh_i x3)), (4, (sh_i x4)), (5, (sh_i x5))] [(sh_i r2)] m2 (sh_K m_Read_readLine Q))))) : sh_X g (d + 1) m_Read_readLine 85 [(0, (sh_r 4)), (1, (sh_r Y)), (2, (sh_r B)), (3, (sh_i x3)), (4, (sh_i x4)), (5, (sh_i x5))] [] mem (sh_K m_Read_readLine Q) := by
  refine xr_iload_n (n := 3) (i := 3) rfl (List.mem_of_getElem? (i := 3) rfl) (by decide +kernel) ?_
  refine xr_iconst (n := 1) (by decide +kernel) ?_
  refine xr_icmp_ne (a' := (i3 x3)) (b' := 1) rfl (by decide) (off := 11) (tgt := 98) (by decide) (by decide +kernel) ⟨fun c1 => ?_, fun c1 => ?_⟩
  · have k := k.1 c1
    refine xr_aload_n (n := 0) (i := 0) rfl (List.mem_of_getElem? (i := 0) rfl) (by decide +kernel) ?_
    refine xr_aload_n (n := 2) (i := 2) rfl (List.mem_of_getElem? (i := 2) rfl) (by decide +kernel) ?_
    refine xr_iload (i := 4) (List.mem_of_getElem? (i := 4) rfl) (by decide +kernel) ?_
    refine xr_callV (av := [(sh_r B), (sh_i x4)]) rfl rfl rfl mo_Read_takeThief ml_Read_144 im_Read_takeThief se_Read_takeThief rfl (Nat.le_of_ble_eq_true rfl) (by decide +kernel) (sh_mono k ?_)
    rintro rv m1 ⟨r1, rfl, k⟩
    show sh_X g (d + 1) m_Read_readLine _ _ [(sh_i r1)] _ _
    refine xr_sub (lo' := [(0, (sh_r 4)), (1, (sh_r Y)), (2, (sh_r B)), (3, (sh_i x3)), (4, (sh_i x4)), (5, (sh_i x5))]) [0, 1, 2, 3, 4, 5] rfl ?_
    exact k
  · have k := k.2 c1
    refine xr_aload_n (n := 0) (i := 0) rfl (List.mem_of_getElem? (i := 0) rfl) (by decide +kernel) ?_
    refine xr_aload_n (n := 2) (i := 2) rfl (List.mem_of_getElem? (i := 2) rfl) (by decide +kernel) ?_
    refine xr_callV (av := [(sh_r B)]) rfl rfl rfl mo_Read_takeDay ml_Read_148 im_Read_takeDay se_Read_takeDay rfl (Nat.le_of_ble_eq_true rfl) (by decide +kernel) (sh_mono k ?_)
    rintro rv m2 ⟨r2, rfl, k⟩
    show sh_X g (d + 1) m_Read_readLine _ _ [(sh_i r2)] _ _
    refine xr_goto (off := 10) (tgt := 105) (by decide) (by decide +kernel) ?_
    refine xr_sub (lo' := [(0, (sh_r 4)), (1, (sh_r Y)), (2, (sh_r B)), (3, (sh_i x3)), (4, (sh_i x4)), (5, (sh_i x5))]) [0, 1, 2, 3, 4, 5] rfl ?_
    exact k
theorem v_Read_readLine_105 {g : sh_G} {d : Nat} {Y : Nat} {B : Nat}  {mem : sh_Mem} {Q : Option sh_V → sh_Mem → Prop} (hY : ob10 Y) (hB : ob0 B) {x3 : Int} {x4 : Int} {x5 : Int} {y0 : Int} (k : ((¬ (i3 y0) = 0 → (sh_Cal g d m_Year_add [(sh_r Y), (sh_i x3), (sh_i x4), (sh_i (mem 4 2))] mem fun rv m1 => rv = none ∧ (sh_Cal g d m_Read_takeSign [(sh_r 4), (sh_i 59)] m1 fun rv m2 => ∃ r1 : Int, rv = some (sh_i r1) ∧ ((r1 = 0 ∨ r1 = 1) ∧ Q (some (sh_i r1)) m2)))) ∧ ((i3 y0) = 0 → Q (some (sh_i 0)) mem))) : sh_X g (d + 1) m_Read_readLine 105 [(0, (sh_r 4)), (1, (sh_r Y)), (2, (sh_r B)), (3, (sh_i x3)), (4, (sh_i x4)), (5, (sh_i x5))] [(sh_i y0)] mem (sh_K m_Read_readLine Q) := by
  refine xr_istore (i := 6) (by decide) rfl (by decide +kernel) ?_
  refine xr_iload (i := 6) (List.mem_of_getElem? (i := 0) rfl) (by decide +kernel) ?_
  refine xr_if_ne (a' := (i3 y0)) rfl (off := 5) (tgt := 114) (by decide) (by decide +kernel) ⟨fun c1 => ?_, fun c1 => ?_⟩
  · have k := k.1 c1
    refine xr_aload_n (n := 0) (i := 0) rfl (List.mem_of_getElem? (i := 1) rfl) (by decide +kernel) ?_
    refine xr_getI rfl fl_Read_90 (by decide) (by decide +kernel) ?_
    refine xr_istore (i := 5) (by decide) rfl (by decide +kernel) ?_
    refine xr_aload_n (n := 1) (i := 1) rfl (List.mem_of_getElem? (i := 3) rfl) (by decide +kernel) ?_
    refine xr_iload_n (n := 3) (i := 3) rfl (List.mem_of_getElem? (i := 5) rfl) (by decide +kernel) ?_
    refine xr_iload (i := 4) (List.mem_of_getElem? (i := 6) rfl) (by decide +kernel) ?_
    refine xr_iload (i := 5) (List.mem_of_getElem? (i := 0) rfl) (by decide +kernel) ?_
    refine xr_callV (av := [(sh_i x3), (sh_i x4), (sh_i (mem 4 2))]) (ob10_0 hY) rfl rfl mo_Year_add ml_Read_151 im_Year_add se_Year_add rfl (Nat.le_of_ble_eq_true rfl) (by decide +kernel) (sh_mono k ?_)
    rintro rv m1 ⟨rfl, k⟩
    show sh_X g (d + 1) m_Read_readLine _ _ [] _ _
    refine xr_aload_n (n := 0) (i := 0) rfl (List.mem_of_getElem? (i := 2) rfl) (by decide +kernel) ?_
    refine xr_bipush (n := 59) (v := 59) (by decide) (by decide +kernel) ?_
    refine xr_callV (av := [(sh_i 59)]) rfl rfl rfl mo_Read_takeSign ml_Read_96 im_Read_takeSign se_Read_takeSign rfl (Nat.le_of_ble_eq_true rfl) (by decide +kernel) (sh_mono k ?_)
    rintro rv m2 ⟨r1, rfl, k⟩
    show sh_X g (d + 1) m_Read_readLine _ _ [(sh_i r1)] _ _
    exact xr_zret rfl (by decide +kernel) k.1 k.2
  · have k := k.2 c1
    refine xr_iconst (n := 0) (by decide +kernel) ?_
    exact xr_zret rfl (by decide +kernel) (by decide) k

theorem v_Read_takeThief {g : sh_G} {d : Nat} {B : Nat} {first : Int}  {mem : sh_Mem} {Q : Option sh_V → sh_Mem → Prop} (hB : ob0 B) (k : (sh_Cal g d m_Tape_isName [(sh_r 2)] mem fun rv m1 => ∃ r1 : Int, rv = some (sh_i r1) ∧ ((¬ (i3 r1) = 0 → (sh_Cal g d m_Alm_thiefNamed [(sh_r B), (sh_l (m1 2 7))] m1 fun rv m2 => ∃ r2 : Int, rv = some (sh_i r2) ∧ (∀ m3 : sh_Mem, m3 = ms m2 4 (ru (m2 4) 2 r2) → ((¬ (i3 (m3 4 2)) = (-1) → ((¬ (i3 (m3 4 2)) = (i3 first) → (sh_Cal g d m_Tape_step [(sh_r 2)] m3 fun rv m4 => rv = none ∧ Q (some (sh_i 1)) m4)) ∧ ((i3 (m3 4 2)) = (i3 first) → (sh_Cal g d m_Read_refuse [(sh_r 4), (sh_i 3)] m3 fun rv m5 => ∃ r3 : Int, rv = some (sh_i r3) ∧ ((r3 = 0 ∨ r3 = 1) ∧ Q (some (sh_i r3)) m5))))) ∧ ((i3 (m3 4 2)) = (-1) → (sh_Cal g d m_Read_refuse [(sh_r 4), (sh_i 2)] m3 fun rv m6 => ∃ r4 : Int, rv = some (sh_i r4) ∧ ((r4 = 0 ∨ r4 = 1) ∧ Q (some (sh_i r4)) m6))))))) ∧ ((i3 r1) = 0 → (sh_Cal g d m_Read_refuse [(sh_r 4), (sh_i 1)] m1 fun rv m7 => ∃ r5 : Int, rv = some (sh_i r5) ∧ ((r5 = 0 ∨ r5 = 1) ∧ Q (some (sh_i r5)) m7)))))) : sh_Cal g (d + 1) m_Read_takeThief [(sh_r 4), (sh_r B), (sh_i first)] mem Q := by
  refine sh_met (by decide +kernel) (Nat.le_of_ble_eq_true rfl) (lo := [(0, (sh_r 4)), (1, (sh_r B)), (2, (sh_i first))]) rfl ?_
  refine xr_aload_n (n := 0) (i := 0) rfl (List.mem_of_getElem? (i := 0) rfl) (by decide +kernel) ?_
  refine xr_getT rfl fl_Read_9 rfl (by decide +kernel) ?_
  refine xr_callV (av := []) rfl rfl rfl mo_Tape_isName ml_Read_155 im_Tape_isName se_Tape_isName rfl (Nat.le_of_ble_eq_true rfl) (by decide +kernel) (sh_mono k ?_)
  rintro rv m1 ⟨r1, rfl, k⟩
  show sh_X g (d + 1) m_Read_takeThief _ _ [(sh_i r1)] _ _
  refine xr_if_ne (a' := (i3 r1)) rfl (off := 9) (tgt := 16) (by decide) (by decide +kernel) ⟨fun c1 => ?_, fun c1 => ?_⟩
  · have k := k.1 c1
    refine xr_aload_n (n := 0) (i := 0) rfl (List.mem_of_getElem? (i := 0) rfl) (by decide +kernel) ?_
    refine xr_aload_n (n := 1) (i := 1) rfl (List.mem_of_getElem? (i := 1) rfl) (by decide +kernel) ?_
    refine xr_aload_n (n := 0) (i := 0) rfl (List.mem_of_getElem? (i := 0) rfl) (by decide +kernel) ?_
    refine xr_getT rfl fl_Read_9 rfl (by decide +kernel) ?_
    refine xr_getL rfl fl_Read_72 (by decide) (by decide +kernel) ?_
    refine xr_callV (av := [(sh_l (m1 2 7))]) (ob0_0 hB) rfl rfl mo_Alm_thiefNamed ml_Read_159 im_Alm_thiefNamed se_Alm_thiefNamed rfl (Nat.le_of_ble_eq_true rfl) (by decide +kernel) (sh_mono k ?_)
    rintro rv m2 ⟨r2, rfl, k⟩
    show sh_X g (d + 1) m_Read_takeThief _ _ [(sh_i r2), (sh_r 4)] _ _
    refine xr_putI rfl pl_Read_90 rfl (by decide +kernel) ?_
    have k := k _ rfl
    generalize hg_m3 : ms m2 4 (ru (m2 4) 2 r2) = m3 at k ⊢
    refine xr_aload_n (n := 0) (i := 0) rfl (List.mem_of_getElem? (i := 0) rfl) (by decide +kernel) ?_
    refine xr_getI rfl fl_Read_90 (by decide) (by decide +kernel) ?_
    refine xr_iconst (n := (-1)) (by decide +kernel) ?_
    refine xr_icmp_ne (a' := (i3 (m3 4 2))) (b' := (-1)) rfl (by decide) (off := 9) (tgt := 45) (by decide) (by decide +kernel) ⟨fun c2 => ?_, fun c2 => ?_⟩
    · have k := k.1 c2
      refine xr_aload_n (n := 0) (i := 0) rfl (List.mem_of_getElem? (i := 0) rfl) (by decide +kernel) ?_
      refine xr_getI rfl fl_Read_90 (by decide) (by decide +kernel) ?_
      refine xr_iload_n (n := 2) (i := 2) rfl (List.mem_of_getElem? (i := 2) rfl) (by decide +kernel) ?_
      refine xr_icmp_ne (a' := (i3 (m3 4 2))) (b' := (i3 first)) rfl rfl (off := 9) (tgt := 59) (by decide) (by decide +kernel) ⟨fun c3 => ?_, fun c3 => ?_⟩
      · have k := k.1 c3
        refine xr_aload_n (n := 0) (i := 0) rfl (List.mem_of_getElem? (i := 0) rfl) (by decide +kernel) ?_
        refine xr_getT rfl fl_Read_9 rfl (by decide +kernel) ?_
        refine xr_callV (av := []) rfl rfl rfl mo_Tape_step ml_Read_62 im_Tape_step se_Tape_step rfl (Nat.le_of_ble_eq_true rfl) (by decide +kernel) (sh_mono k ?_)
        rintro rv m4 ⟨rfl, k⟩
        show sh_X g (d + 1) m_Read_takeThief _ _ [] _ _
        refine xr_iconst (n := 1) (by decide +kernel) ?_
        exact xr_zret rfl (by decide +kernel) (by decide) k
      · have k := k.2 c3
        refine xr_aload_n (n := 0) (i := 0) rfl (List.mem_of_getElem? (i := 0) rfl) (by decide +kernel) ?_
        refine xr_iconst (n := 3) (by decide +kernel) ?_
        refine xr_callV (av := [(sh_i 3)]) rfl rfl rfl mo_Read_refuse ml_Read_45 im_Read_refuse se_Read_refuse rfl (Nat.le_of_ble_eq_true rfl) (by decide +kernel) (sh_mono k ?_)
        rintro rv m5 ⟨r3, rfl, k⟩
        show sh_X g (d + 1) m_Read_takeThief _ _ [(sh_i r3)] _ _
        exact xr_zret rfl (by decide +kernel) k.1 k.2
    · have k := k.2 c2
      refine xr_aload_n (n := 0) (i := 0) rfl (List.mem_of_getElem? (i := 0) rfl) (by decide +kernel) ?_
      refine xr_iconst (n := 2) (by decide +kernel) ?_
      refine xr_callV (av := [(sh_i 2)]) rfl rfl rfl mo_Read_refuse ml_Read_45 im_Read_refuse se_Read_refuse rfl (Nat.le_of_ble_eq_true rfl) (by decide +kernel) (sh_mono k ?_)
      rintro rv m6 ⟨r4, rfl, k⟩
      show sh_X g (d + 1) m_Read_takeThief _ _ [(sh_i r4)] _ _
      exact xr_zret rfl (by decide +kernel) k.1 k.2
  · have k := k.2 c1
    refine xr_aload_n (n := 0) (i := 0) rfl (List.mem_of_getElem? (i := 0) rfl) (by decide +kernel) ?_
    refine xr_iconst (n := 1) (by decide +kernel) ?_
    refine xr_callV (av := [(sh_i 1)]) rfl rfl rfl mo_Read_refuse ml_Read_45 im_Read_refuse se_Read_refuse rfl (Nat.le_of_ble_eq_true rfl) (by decide +kernel) (sh_mono k ?_)
    rintro rv m7 ⟨r5, rfl, k⟩
    show sh_X g (d + 1) m_Read_takeThief _ _ [(sh_i r5)] _ _
    exact xr_zret rfl (by decide +kernel) k.1 k.2

theorem v_Read_takeDay {g : sh_G} {d : Nat} {B : Nat}  {mem : sh_Mem} {Q : Option sh_V → sh_Mem → Prop} (hB : ob0 B) (k : (sh_Cal g d m_Tape_isName [(sh_r 2)] mem fun rv m1 => ∃ r1 : Int, rv = some (sh_i r1) ∧ ((¬ (i3 r1) = 0 → (sh_Cal g d m_Alm_dayNamed [(sh_r B), (sh_l (m1 2 7))] m1 fun rv m2 => ∃ r2 : Int, rv = some (sh_i r2) ∧ (∀ m3 : sh_Mem, m3 = ms m2 4 (ru (m2 4) 2 r2) → ((¬ (i3 (m3 4 2)) = (-1) → (sh_Cal g d m_Tape_step [(sh_r 2)] m3 fun rv m4 => rv = none ∧ Q (some (sh_i 1)) m4)) ∧ ((i3 (m3 4 2)) = (-1) → (sh_Cal g d m_Read_refuse [(sh_r 4), (sh_i 2)] m3 fun rv m5 => ∃ r3 : Int, rv = some (sh_i r3) ∧ ((r3 = 0 ∨ r3 = 1) ∧ Q (some (sh_i r3)) m5))))))) ∧ ((i3 r1) = 0 → (sh_Cal g d m_Read_refuse [(sh_r 4), (sh_i 1)] m1 fun rv m6 => ∃ r4 : Int, rv = some (sh_i r4) ∧ ((r4 = 0 ∨ r4 = 1) ∧ Q (some (sh_i r4)) m6)))))) : sh_Cal g (d + 1) m_Read_takeDay [(sh_r 4), (sh_r B)] mem Q := by
  refine sh_met (by decide +kernel) (Nat.le_of_ble_eq_true rfl) (lo := [(0, (sh_r 4)), (1, (sh_r B))]) rfl ?_
  refine xr_aload_n (n := 0) (i := 0) rfl (List.mem_of_getElem? (i := 0) rfl) (by decide +kernel) ?_
  refine xr_getT rfl fl_Read_9 rfl (by decide +kernel) ?_
  refine xr_callV (av := []) rfl rfl rfl mo_Tape_isName ml_Read_155 im_Tape_isName se_Tape_isName rfl (Nat.le_of_ble_eq_true rfl) (by decide +kernel) (sh_mono k ?_)
  rintro rv m1 ⟨r1, rfl, k⟩
  show sh_X g (d + 1) m_Read_takeDay _ _ [(sh_i r1)] _ _
  refine xr_if_ne (a' := (i3 r1)) rfl (off := 9) (tgt := 16) (by decide) (by decide +kernel) ⟨fun c1 => ?_, fun c1 => ?_⟩
  · have k := k.1 c1
    refine xr_aload_n (n := 0) (i := 0) rfl (List.mem_of_getElem? (i := 0) rfl) (by decide +kernel) ?_
    refine xr_aload_n (n := 1) (i := 1) rfl (List.mem_of_getElem? (i := 1) rfl) (by decide +kernel) ?_
    refine xr_aload_n (n := 0) (i := 0) rfl (List.mem_of_getElem? (i := 0) rfl) (by decide +kernel) ?_
    refine xr_getT rfl fl_Read_9 rfl (by decide +kernel) ?_
    refine xr_getL rfl fl_Read_72 (by decide) (by decide +kernel) ?_
    refine xr_callV (av := [(sh_l (m1 2 7))]) (ob0_0 hB) rfl rfl mo_Alm_dayNamed ml_Read_163 im_Alm_dayNamed se_Alm_dayNamed rfl (Nat.le_of_ble_eq_true rfl) (by decide +kernel) (sh_mono k ?_)
    rintro rv m2 ⟨r2, rfl, k⟩
    show sh_X g (d + 1) m_Read_takeDay _ _ [(sh_i r2), (sh_r 4)] _ _
    refine xr_putI rfl pl_Read_90 rfl (by decide +kernel) ?_
    have k := k _ rfl
    generalize hg_m3 : ms m2 4 (ru (m2 4) 2 r2) = m3 at k ⊢
    refine xr_aload_n (n := 0) (i := 0) rfl (List.mem_of_getElem? (i := 0) rfl) (by decide +kernel) ?_
    refine xr_getI rfl fl_Read_90 (by decide) (by decide +kernel) ?_
    refine xr_iconst (n := (-1)) (by decide +kernel) ?_
    refine xr_icmp_ne (a' := (i3 (m3 4 2))) (b' := (-1)) rfl (by decide) (off := 9) (tgt := 45) (by decide) (by decide +kernel) ⟨fun c2 => ?_, fun c2 => ?_⟩
    · have k := k.1 c2
      refine xr_aload_n (n := 0) (i := 0) rfl (List.mem_of_getElem? (i := 0) rfl) (by decide +kernel) ?_
      refine xr_getT rfl fl_Read_9 rfl (by decide +kernel) ?_
      refine xr_callV (av := []) rfl rfl rfl mo_Tape_step ml_Read_62 im_Tape_step se_Tape_step rfl (Nat.le_of_ble_eq_true rfl) (by decide +kernel) (sh_mono k ?_)
      rintro rv m4 ⟨rfl, k⟩
      show sh_X g (d + 1) m_Read_takeDay _ _ [] _ _
      refine xr_iconst (n := 1) (by decide +kernel) ?_
      exact xr_zret rfl (by decide +kernel) (by decide) k
    · have k := k.2 c2
      refine xr_aload_n (n := 0) (i := 0) rfl (List.mem_of_getElem? (i := 0) rfl) (by decide +kernel) ?_
      refine xr_iconst (n := 2) (by decide +kernel) ?_
      refine xr_callV (av := [(sh_i 2)]) rfl rfl rfl mo_Read_refuse ml_Read_45 im_Read_refuse se_Read_refuse rfl (Nat.le_of_ble_eq_true rfl) (by decide +kernel) (sh_mono k ?_)
      rintro rv m5 ⟨r3, rfl, k⟩
      show sh_X g (d + 1) m_Read_takeDay _ _ [(sh_i r3)] _ _
      exact xr_zret rfl (by decide +kernel) k.1 k.2
  · have k := k.2 c1
    refine xr_aload_n (n := 0) (i := 0) rfl (List.mem_of_getElem? (i := 0) rfl) (by decide +kernel) ?_
    refine xr_iconst (n := 1) (by decide +kernel) ?_
    refine xr_callV (av := [(sh_i 1)]) rfl rfl rfl mo_Read_refuse ml_Read_45 im_Read_refuse se_Read_refuse rfl (Nat.le_of_ble_eq_true rfl) (by decide +kernel) (sh_mono k ?_)
    rintro rv m6 ⟨r4, rfl, k⟩
    show sh_X g (d + 1) m_Read_takeDay _ _ [(sh_i r4)] _ _
    exact xr_zret rfl (by decide +kernel) k.1 k.2

theorem v_Read_isNewName {g : sh_G} {d : Nat} {B : Nat}  {mem : sh_Mem} {Q : Option sh_V → sh_Mem → Prop} (hB : ob0 B) (k : (sh_Cal g d m_Tape_isName [(sh_r 2)] mem fun rv m1 => ∃ r1 : Int, rv = some (sh_i r1) ∧ ((¬ (i3 r1) = 0 → (sh_Cal g d m_Alm_dayNamed [(sh_r B), (sh_l (m1 2 7))] m1 fun rv m2 => ∃ r2 : Int, rv = some (sh_i r2) ∧ ((¬ (i3 r2) = (-1) → (sh_Cal g d m_Read_refuse [(sh_r 4), (sh_i 3)] m2 fun rv m3 => ∃ r3 : Int, rv = some (sh_i r3) ∧ (((i3 r3) = 0 → Q (some (sh_i 0)) m3) ∧ (¬ (i3 r3) = 0 → Q (some (sh_i 1)) m3)))) ∧ ((i3 r2) = (-1) → (sh_Cal g d m_Alm_thiefNamed [(sh_r B), (sh_l (m2 2 7))] m2 fun rv m4 => ∃ r4 : Int, rv = some (sh_i r4) ∧ (((i3 r4) = (-1) → Q (some (sh_i 1)) m4) ∧ (¬ (i3 r4) = (-1) → (sh_Cal g d m_Read_refuse [(sh_r 4), (sh_i 3)] m4 fun rv m5 => ∃ r5 : Int, rv = some (sh_i r5) ∧ (((i3 r5) = 0 → Q (some (sh_i 0)) m5) ∧ (¬ (i3 r5) = 0 → Q (some (sh_i 1)) m5)))))))))) ∧ ((i3 r1) = 0 → (sh_Cal g d m_Read_refuse [(sh_r 4), (sh_i 1)] m1 fun rv m6 => ∃ r6 : Int, rv = some (sh_i r6) ∧ ((r6 = 0 ∨ r6 = 1) ∧ Q (some (sh_i r6)) m6)))))) : sh_Cal g (d + 1) m_Read_isNewName [(sh_r 4), (sh_r B)] mem Q := by
  refine sh_met (by decide +kernel) (Nat.le_of_ble_eq_true rfl) (lo := [(0, (sh_r 4)), (1, (sh_r B))]) rfl ?_
  refine xr_aload_n (n := 0) (i := 0) rfl (List.mem_of_getElem? (i := 0) rfl) (by decide +kernel) ?_
  refine xr_getT rfl fl_Read_9 rfl (by decide +kernel) ?_
  refine xr_callV (av := []) rfl rfl rfl mo_Tape_isName ml_Read_155 im_Tape_isName se_Tape_isName rfl (Nat.le_of_ble_eq_true rfl) (by decide +kernel) (sh_mono k ?_)
  rintro rv m1 ⟨r1, rfl, k⟩
  show sh_X g (d + 1) m_Read_isNewName _ _ [(sh_i r1)] _ _
  refine xr_if_ne (a' := (i3 r1)) rfl (off := 9) (tgt := 16) (by decide) (by decide +kernel) ⟨fun c1 => ?_, fun c1 => ?_⟩
  · have k := k.1 c1
    refine xr_aload_n (n := 1) (i := 1) rfl (List.mem_of_getElem? (i := 1) rfl) (by decide +kernel) ?_
    refine xr_aload_n (n := 0) (i := 0) rfl (List.mem_of_getElem? (i := 0) rfl) (by decide +kernel) ?_
    refine xr_getT rfl fl_Read_9 rfl (by decide +kernel) ?_
    refine xr_getL rfl fl_Read_72 (by decide) (by decide +kernel) ?_
    refine xr_callV (av := [(sh_l (m1 2 7))]) (ob0_0 hB) rfl rfl mo_Alm_dayNamed ml_Read_163 im_Alm_dayNamed se_Alm_dayNamed rfl (Nat.le_of_ble_eq_true rfl) (by decide +kernel) (sh_mono k ?_)
    rintro rv m2 ⟨r2, rfl, k⟩
    show sh_X g (d + 1) m_Read_isNewName _ _ [(sh_i r2)] _ _
    refine xr_iconst (n := (-1)) (by decide +kernel) ?_
    refine xr_icmp_ne (a' := (i3 r2)) (b' := (-1)) rfl (by decide) (off := 18) (tgt := 46) (by decide) (by decide +kernel) ⟨fun c2 => ?_, fun c2 => ?_⟩
    · have k := k.1 c2
      refine xr_iconst (n := 1) (by decide +kernel) ?_
      refine xr_goto (off := 4) (tgt := 51) (by decide) (by decide +kernel) ?_
      refine xr_istore_n (n := 2) (i := 2) rfl (by decide) rfl (by decide +kernel) ?_
      refine xr_iload_n (n := 2) (i := 2) rfl (List.mem_of_getElem? (i := 0) rfl) (by decide +kernel) ?_
      refine xr_if_eq (a' := 1) (by decide) (off := 11) (tgt := 64) (by decide) (by decide +kernel) ⟨fun c3 => ?_, fun c3 => ?_⟩
      · exact absurd c3 (by decide)
      · refine xr_aload_n (n := 0) (i := 0) rfl (List.mem_of_getElem? (i := 1) rfl) (by decide +kernel) ?_
        refine xr_iconst (n := 3) (by decide +kernel) ?_
        refine xr_callV (av := [(sh_i 3)]) rfl rfl rfl mo_Read_refuse ml_Read_45 im_Read_refuse se_Read_refuse rfl (Nat.le_of_ble_eq_true rfl) (by decide +kernel) (sh_mono k ?_)
        rintro rv m3 ⟨r3, rfl, k⟩
        show sh_X g (d + 1) m_Read_isNewName _ _ [(sh_i r3)] _ _
        refine xr_if_eq (a' := (i3 r3)) rfl (off := 7) (tgt := 68) (by decide) (by decide +kernel) ⟨fun c4 => ?_, fun c4 => ?_⟩
        · have k := k.1 c4
          refine xr_iconst (n := 0) (by decide +kernel) ?_
          exact xr_zret rfl (by decide +kernel) (by decide) k
        · have k := k.2 c4
          refine xr_iconst (n := 1) (by decide +kernel) ?_
          refine xr_goto (off := 4) (tgt := 69) (by decide) (by decide +kernel) ?_
          exact xr_zret rfl (by decide +kernel) (by decide) k
    · have k := k.2 c2
      refine xr_aload_n (n := 1) (i := 1) rfl (List.mem_of_getElem? (i := 1) rfl) (by decide +kernel) ?_
      refine xr_aload_n (n := 0) (i := 0) rfl (List.mem_of_getElem? (i := 0) rfl) (by decide +kernel) ?_
      refine xr_getT rfl fl_Read_9 rfl (by decide +kernel) ?_
      refine xr_getL rfl fl_Read_72 (by decide) (by decide +kernel) ?_
      refine xr_callV (av := [(sh_l (m2 2 7))]) (ob0_0 hB) rfl rfl mo_Alm_thiefNamed ml_Read_159 im_Alm_thiefNamed se_Alm_thiefNamed rfl (Nat.le_of_ble_eq_true rfl) (by decide +kernel) (sh_mono k ?_)
      rintro rv m4 ⟨r4, rfl, k⟩
      show sh_X g (d + 1) m_Read_isNewName _ _ [(sh_i r4)] _ _
      refine xr_iconst (n := (-1)) (by decide +kernel) ?_
      refine xr_icmp_eq (a' := (i3 r4)) (b' := (-1)) rfl (by decide) (off := 7) (tgt := 50) (by decide) (by decide +kernel) ⟨fun c5 => ?_, fun c5 => ?_⟩
      · have k := k.1 c5
        refine xr_iconst (n := 0) (by decide +kernel) ?_
        refine xr_istore_n (n := 2) (i := 2) rfl (by decide) rfl (by decide +kernel) ?_
        refine xr_iload_n (n := 2) (i := 2) rfl (List.mem_of_getElem? (i := 0) rfl) (by decide +kernel) ?_
        refine xr_if_eq (a' := 0) (by decide) (off := 11) (tgt := 64) (by decide) (by decide +kernel) ⟨fun c6 => ?_, fun c6 => ?_⟩
        · refine xr_iconst (n := 1) (by decide +kernel) ?_
          refine xr_goto (off := 4) (tgt := 69) (by decide) (by decide +kernel) ?_
          exact xr_zret rfl (by decide +kernel) (by decide) k
        · exact absurd (by decide) c6
      · have k := k.2 c5
        refine xr_iconst (n := 1) (by decide +kernel) ?_
        refine xr_goto (off := 4) (tgt := 51) (by decide) (by decide +kernel) ?_
        refine xr_istore_n (n := 2) (i := 2) rfl (by decide) rfl (by decide +kernel) ?_
        refine xr_iload_n (n := 2) (i := 2) rfl (List.mem_of_getElem? (i := 0) rfl) (by decide +kernel) ?_
        refine xr_if_eq (a' := 1) (by decide) (off := 11) (tgt := 64) (by decide) (by decide +kernel) ⟨fun c7 => ?_, fun c7 => ?_⟩
        · exact absurd c7 (by decide)
        · refine xr_aload_n (n := 0) (i := 0) rfl (List.mem_of_getElem? (i := 1) rfl) (by decide +kernel) ?_
          refine xr_iconst (n := 3) (by decide +kernel) ?_
          refine xr_callV (av := [(sh_i 3)]) rfl rfl rfl mo_Read_refuse ml_Read_45 im_Read_refuse se_Read_refuse rfl (Nat.le_of_ble_eq_true rfl) (by decide +kernel) (sh_mono k ?_)
          rintro rv m5 ⟨r5, rfl, k⟩
          show sh_X g (d + 1) m_Read_isNewName _ _ [(sh_i r5)] _ _
          refine xr_if_eq (a' := (i3 r5)) rfl (off := 7) (tgt := 68) (by decide) (by decide +kernel) ⟨fun c8 => ?_, fun c8 => ?_⟩
          · have k := k.1 c8
            refine xr_iconst (n := 0) (by decide +kernel) ?_
            exact xr_zret rfl (by decide +kernel) (by decide) k
          · have k := k.2 c8
            refine xr_iconst (n := 1) (by decide +kernel) ?_
            refine xr_goto (off := 4) (tgt := 69) (by decide) (by decide +kernel) ?_
            exact xr_zret rfl (by decide +kernel) (by decide) k
  · have k := k.2 c1
    refine xr_aload_n (n := 0) (i := 0) rfl (List.mem_of_getElem? (i := 0) rfl) (by decide +kernel) ?_
    refine xr_iconst (n := 1) (by decide +kernel) ?_
    refine xr_callV (av := [(sh_i 1)]) rfl rfl rfl mo_Read_refuse ml_Read_45 im_Read_refuse se_Read_refuse rfl (Nat.le_of_ble_eq_true rfl) (by decide +kernel) (sh_mono k ?_)
    rintro rv m6 ⟨r6, rfl, k⟩
    show sh_X g (d + 1) m_Read_isNewName _ _ [(sh_i r6)] _ _
    exact xr_zret rfl (by decide +kernel) k.1 k.2

theorem v_Read_takeNumber {g : sh_G} {d : Nat} {key : Int} {least : Int} {most : Int}  {mem : sh_Mem} {Q : Option sh_V → sh_Mem → Prop}  (k : (((i3 (mem 2 5)) = (i3 key) → (sh_Cal g d m_Tape_step [(sh_r 2)] mem fun rv m1 => rv = none ∧ (((i3 (m1 2 2)) = 2 → (sh_Cal g d m_Sto_isWithin [(sh_i (m1 2 8)), (sh_i least), (sh_i most)] m1 fun rv m2 => ∃ r1 : Int, rv = some (sh_i r1) ∧ ((¬ (i3 r1) = 0 → (∀ m3 : sh_Mem, m3 = ms m2 4 (ru (m2 4) 2 (m2 2 8)) → (sh_Cal g d m_Tape_step [(sh_r 2)] m3 fun rv m4 => rv = none ∧ Q (some (sh_i 1)) m4))) ∧ ((i3 r1) = 0 → (sh_Cal g d m_Read_refuse [(sh_r 4), (sh_i 4)] m2 fun rv m5 => ∃ r2 : Int, rv = some (sh_i r2) ∧ ((r2 = 0 ∨ r2 = 1) ∧ Q (some (sh_i r2)) m5)))))) ∧ (¬ (i3 (m1 2 2)) = 2 → (sh_Cal g d m_Read_refuse [(sh_r 4), (sh_i 1)] m1 fun rv m6 => ∃ r3 : Int, rv = some (sh_i r3) ∧ ((r3 = 0 ∨ r3 = 1) ∧ Q (some (sh_i r3)) m6)))))) ∧ (¬ (i3 (mem 2 5)) = (i3 key) → (sh_Cal g d m_Read_refuse [(sh_r 4), (sh_i 1)] mem fun rv m7 => ∃ r4 : Int, rv = some (sh_i r4) ∧ ((r4 = 0 ∨ r4 = 1) ∧ Q (some (sh_i r4)) m7))))) : sh_Cal g (d + 1) m_Read_takeNumber [(sh_r 4), (sh_i key), (sh_i least), (sh_i most)] mem Q := by
  refine sh_met (by decide +kernel) (Nat.le_of_ble_eq_true rfl) (lo := [(0, (sh_r 4)), (1, (sh_i key)), (2, (sh_i least)), (3, (sh_i most))]) rfl ?_
  refine xr_aload_n (n := 0) (i := 0) rfl (List.mem_of_getElem? (i := 0) rfl) (by decide +kernel) ?_
  refine xr_getT rfl fl_Read_9 rfl (by decide +kernel) ?_
  refine xr_getI rfl fl_Read_32 (by decide) (by decide +kernel) ?_
  refine xr_iload_n (n := 1) (i := 1) rfl (List.mem_of_getElem? (i := 1) rfl) (by decide +kernel) ?_
  refine xr_icmp_eq (a' := (i3 (mem 2 5))) (b' := (i3 key)) rfl rfl (off := 9) (tgt := 17) (by decide) (by decide +kernel) ⟨fun c1 => ?_, fun c1 => ?_⟩
  · have k := k.1 c1
    refine xr_aload_n (n := 0) (i := 0) rfl (List.mem_of_getElem? (i := 0) rfl) (by decide +kernel) ?_
    refine xr_getT rfl fl_Read_9 rfl (by decide +kernel) ?_
    refine xr_callV (av := []) rfl rfl rfl mo_Tape_step ml_Read_62 im_Tape_step se_Tape_step rfl (Nat.le_of_ble_eq_true rfl) (by decide +kernel) (sh_mono k ?_)
    rintro rv m1 ⟨rfl, k⟩
    show sh_X g (d + 1) m_Read_takeNumber _ _ [] _ _
    refine xr_aload_n (n := 0) (i := 0) rfl (List.mem_of_getElem? (i := 0) rfl) (by decide +kernel) ?_
    refine xr_getT rfl fl_Read_9 rfl (by decide +kernel) ?_
    refine xr_getI rfl fl_Read_29 (by decide) (by decide +kernel) ?_
    refine xr_iconst (n := 2) (by decide +kernel) ?_
    refine xr_icmp_eq (a' := (i3 (m1 2 2))) (b' := 2) rfl (by decide) (off := 9) (tgt := 41) (by decide) (by decide +kernel) ⟨fun c2 => ?_, fun c2 => ?_⟩
    · have k := k.1 c2
      refine xr_aload_n (n := 0) (i := 0) rfl (List.mem_of_getElem? (i := 0) rfl) (by decide +kernel) ?_
      refine xr_getT rfl fl_Read_9 rfl (by decide +kernel) ?_
      refine xr_getI rfl fl_Read_141 (by decide) (by decide +kernel) ?_
      refine xr_iload_n (n := 2) (i := 2) rfl (List.mem_of_getElem? (i := 2) rfl) (by decide +kernel) ?_
      refine xr_iload_n (n := 3) (i := 3) rfl (List.mem_of_getElem? (i := 3) rfl) (by decide +kernel) ?_
      refine xr_callN (av := [(sh_i (m1 2 8)), (sh_i least), (sh_i most)]) mo_Sto_isWithin rfl rfl sa_Sto_isWithin rfl (Nat.le_of_ble_eq_true rfl) (by decide +kernel) (sh_mono k ?_)
      rintro rv m2 ⟨r1, rfl, k⟩
      show sh_X g (d + 1) m_Read_takeNumber _ _ [(sh_i r1)] _ _
      refine xr_if_ne (a' := (i3 r1)) rfl (off := 9) (tgt := 62) (by decide) (by decide +kernel) ⟨fun c3 => ?_, fun c3 => ?_⟩
      · have k := k.1 c3
        refine xr_aload_n (n := 0) (i := 0) rfl (List.mem_of_getElem? (i := 0) rfl) (by decide +kernel) ?_
        refine xr_aload_n (n := 0) (i := 0) rfl (List.mem_of_getElem? (i := 0) rfl) (by decide +kernel) ?_
        refine xr_getT rfl fl_Read_9 rfl (by decide +kernel) ?_
        refine xr_getI rfl fl_Read_141 (by decide) (by decide +kernel) ?_
        refine xr_putI rfl pl_Read_90 rfl (by decide +kernel) ?_
        have k := k _ rfl
        generalize hg_m3 : ms m2 4 (ru (m2 4) 2 (m2 2 8)) = m3 at k ⊢
        refine xr_aload_n (n := 0) (i := 0) rfl (List.mem_of_getElem? (i := 0) rfl) (by decide +kernel) ?_
        refine xr_getT rfl fl_Read_9 rfl (by decide +kernel) ?_
        refine xr_callV (av := []) rfl rfl rfl mo_Tape_step ml_Read_62 im_Tape_step se_Tape_step rfl (Nat.le_of_ble_eq_true rfl) (by decide +kernel) (sh_mono k ?_)
        rintro rv m4 ⟨rfl, k⟩
        show sh_X g (d + 1) m_Read_takeNumber _ _ [] _ _
        refine xr_iconst (n := 1) (by decide +kernel) ?_
        exact xr_zret rfl (by decide +kernel) (by decide) k
      · have k := k.2 c3
        refine xr_aload_n (n := 0) (i := 0) rfl (List.mem_of_getElem? (i := 0) rfl) (by decide +kernel) ?_
        refine xr_iconst (n := 4) (by decide +kernel) ?_
        refine xr_callV (av := [(sh_i 4)]) rfl rfl rfl mo_Read_refuse ml_Read_45 im_Read_refuse se_Read_refuse rfl (Nat.le_of_ble_eq_true rfl) (by decide +kernel) (sh_mono k ?_)
        rintro rv m5 ⟨r2, rfl, k⟩
        show sh_X g (d + 1) m_Read_takeNumber _ _ [(sh_i r2)] _ _
        exact xr_zret rfl (by decide +kernel) k.1 k.2
    · have k := k.2 c2
      refine xr_aload_n (n := 0) (i := 0) rfl (List.mem_of_getElem? (i := 0) rfl) (by decide +kernel) ?_
      refine xr_iconst (n := 1) (by decide +kernel) ?_
      refine xr_callV (av := [(sh_i 1)]) rfl rfl rfl mo_Read_refuse ml_Read_45 im_Read_refuse se_Read_refuse rfl (Nat.le_of_ble_eq_true rfl) (by decide +kernel) (sh_mono k ?_)
      rintro rv m6 ⟨r3, rfl, k⟩
      show sh_X g (d + 1) m_Read_takeNumber _ _ [(sh_i r3)] _ _
      exact xr_zret rfl (by decide +kernel) k.1 k.2
  · have k := k.2 c1
    refine xr_aload_n (n := 0) (i := 0) rfl (List.mem_of_getElem? (i := 0) rfl) (by decide +kernel) ?_
    refine xr_iconst (n := 1) (by decide +kernel) ?_
    refine xr_callV (av := [(sh_i 1)]) rfl rfl rfl mo_Read_refuse ml_Read_45 im_Read_refuse se_Read_refuse rfl (Nat.le_of_ble_eq_true rfl) (by decide +kernel) (sh_mono k ?_)
    rintro rv m7 ⟨r4, rfl, k⟩
    show sh_X g (d + 1) m_Read_takeNumber _ _ [(sh_i r4)] _ _
    exact xr_zret rfl (by decide +kernel) k.1 k.2

theorem v_Read_takeSign {g : sh_G} {d : Nat} {sign : Int}  {mem : sh_Mem} {Q : Option sh_V → sh_Mem → Prop}  (k : (((i3 (mem 2 2)) = (i3 sign) → (sh_Cal g d m_Tape_step [(sh_r 2)] mem fun rv m1 => rv = none ∧ Q (some (sh_i 1)) m1)) ∧ (¬ (i3 (mem 2 2)) = (i3 sign) → (sh_Cal g d m_Read_refuse [(sh_r 4), (sh_i 1)] mem fun rv m2 => ∃ r1 : Int, rv = some (sh_i r1) ∧ ((r1 = 0 ∨ r1 = 1) ∧ Q (some (sh_i r1)) m2))))) : sh_Cal g (d + 1) m_Read_takeSign [(sh_r 4), (sh_i sign)] mem Q := by
  refine sh_met (by decide +kernel) (Nat.le_of_ble_eq_true rfl) (lo := [(0, (sh_r 4)), (1, (sh_i sign))]) rfl ?_
  refine xr_aload_n (n := 0) (i := 0) rfl (List.mem_of_getElem? (i := 0) rfl) (by decide +kernel) ?_
  refine xr_getT rfl fl_Read_9 rfl (by decide +kernel) ?_
  refine xr_getI rfl fl_Read_29 (by decide) (by decide +kernel) ?_
  refine xr_iload_n (n := 1) (i := 1) rfl (List.mem_of_getElem? (i := 1) rfl) (by decide +kernel) ?_
  refine xr_icmp_eq (a' := (i3 (mem 2 2))) (b' := (i3 sign)) rfl rfl (off := 9) (tgt := 17) (by decide) (by decide +kernel) ⟨fun c1 => ?_, fun c1 => ?_⟩
  · have k := k.1 c1
    refine xr_aload_n (n := 0) (i := 0) rfl (List.mem_of_getElem? (i := 0) rfl) (by decide +kernel) ?_
    refine xr_getT rfl fl_Read_9 rfl (by decide +kernel) ?_
    refine xr_callV (av := []) rfl rfl rfl mo_Tape_step ml_Read_62 im_Tape_step se_Tape_step rfl (Nat.le_of_ble_eq_true rfl) (by decide +kernel) (sh_mono k ?_)
    rintro rv m1 ⟨rfl, k⟩
    show sh_X g (d + 1) m_Read_takeSign _ _ [] _ _
    refine xr_iconst (n := 1) (by decide +kernel) ?_
    exact xr_zret rfl (by decide +kernel) (by decide) k
  · have k := k.2 c1
    refine xr_aload_n (n := 0) (i := 0) rfl (List.mem_of_getElem? (i := 0) rfl) (by decide +kernel) ?_
    refine xr_iconst (n := 1) (by decide +kernel) ?_
    refine xr_callV (av := [(sh_i 1)]) rfl rfl rfl mo_Read_refuse ml_Read_45 im_Read_refuse se_Read_refuse rfl (Nat.le_of_ble_eq_true rfl) (by decide +kernel) (sh_mono k ?_)
    rintro rv m2 ⟨r1, rfl, k⟩
    show sh_X g (d + 1) m_Read_takeSign _ _ [(sh_i r1)] _ _
    exact xr_zret rfl (by decide +kernel) k.1 k.2

theorem v_Read_refuse {g : sh_G} {d : Nat} {kind : Int}  {mem : sh_Mem} {Q : Option sh_V → sh_Mem → Prop}  (k : (∀ m1 : sh_Mem, m1 = ms mem 4 (ru (mem 4) 1 (kind + (16 * (mem 2 3)))) → Q (some (sh_i 0)) m1)) : sh_Cal g d m_Read_refuse [(sh_r 4), (sh_i kind)] mem Q := by
  refine sh_met (by decide +kernel) (Nat.le_of_ble_eq_true rfl) (lo := [(0, (sh_r 4)), (1, (sh_i kind))]) rfl ?_
  refine xr_aload_n (n := 0) (i := 0) rfl (List.mem_of_getElem? (i := 0) rfl) (by decide +kernel) ?_
  refine xr_iload_n (n := 1) (i := 1) rfl (List.mem_of_getElem? (i := 1) rfl) (by decide +kernel) ?_
  refine xr_bipush (n := 16) (v := 16) (by decide) (by decide +kernel) ?_
  refine xr_aload_n (n := 0) (i := 0) rfl (List.mem_of_getElem? (i := 0) rfl) (by decide +kernel) ?_
  refine xr_getT rfl fl_Read_9 rfl (by decide +kernel) ?_
  refine xr_getI rfl fl_Read_166 (by decide) (by decide +kernel) ?_
  refine xr_imul (by decide +kernel) ?_
  show sh_X g d m_Read_refuse _ _ ((sh_i (16 * (mem 2 3))) :: _) _ _
  refine xr_iadd (by decide +kernel) ?_
  show sh_X g d m_Read_refuse _ _ ((sh_i (kind + (16 * (mem 2 3)))) :: _) _ _
  refine xr_putI rfl pl_Read_20 rfl (by decide +kernel) ?_
  have k := k _ rfl
  generalize hg_m1 : ms mem 4 (ru (mem 4) 1 (kind + (16 * (mem 2 3)))) = m1 at k ⊢
  refine xr_iconst (n := 0) (by decide +kernel) ?_
  exact xr_zret rfl (by decide +kernel) (by decide) k
