theorem v_Law_clear {g : sh_G} {d : Nat} {L : Nat}  {mem : sh_Mem} {Q : Option sh_V → sh_Mem → Prop} (hL : ob2 L) (k : (∀ m1 : sh_Mem, m1 = ms mem L (ru (mem L) 2 0) → Q none m1)) : sh_Cal g d m_Law_clear [(sh_r L)] mem Q := by
  refine sh_met (by decide +kernel) (Nat.le_of_ble_eq_true rfl) (lo := [(0, (sh_r L))]) rfl ?_
  refine xr_aload_n (n := 0) (i := 0) rfl (List.mem_of_getElem? (i := 0) rfl) (by decide +kernel) ?_
  refine xr_iconst (n := 0) (by decide +kernel) ?_
  refine xr_putI (ob2_0 hL) pl_Law_18 rfl (by decide +kernel) ?_
  have k := k _ rfl
  generalize hg_m1 : ms mem L (ru (mem L) 2 0) = m1 at k ⊢
  exact xr_ret rfl (by decide +kernel) k

theorem v_Law_put {g : sh_G} {d : Nat} {L : Nat} {operation : Int}  {mem : sh_Mem} {Q : Option sh_V → sh_Mem → Prop} (hL : ob2 L) (k : ((1000 ≤ (i3 (mem L 2)) → Q none mem) ∧ (¬ 1000 ≤ (i3 (mem L 2)) → ((0 ≤ (mem L 2) ∧ (mem L 2) < 1000) ∧ (∀ m1 : sh_Mem, m1 = ms mem (L + 1) (ru (mem (L + 1)) ((mem L 2)).toNat operation) → (∀ m2 : sh_Mem, m2 = ms m1 L (ru (m1 L) 2 ((m1 L 2) + 1)) → Q none m2)))))) : sh_Cal g d m_Law_put [(sh_r L), (sh_i operation)] mem Q := by
  refine sh_met (by decide +kernel) (Nat.le_of_ble_eq_true rfl) (lo := [(0, (sh_r L)), (1, (sh_i operation))]) rfl ?_
  refine xr_aload_n (n := 0) (i := 0) rfl (List.mem_of_getElem? (i := 0) rfl) (by decide +kernel) ?_
  refine xr_getI (ob2_0 hL) fl_Law_18 (by decide) (by decide +kernel) ?_
  refine xr_sipush (n := 1000) (v := 1000) (by decide) (by decide +kernel) ?_
  refine xr_icmp_ge (a' := (i3 (mem L 2))) (b' := 1000) rfl (by decide) (off := 23) (tgt := 30) (by decide) (by decide +kernel) ⟨fun c1 => ?_, fun c1 => ?_⟩
  · have k := k.1 c1
    exact xr_ret rfl (by decide +kernel) k
  · have k := k.2 c1
    refine xr_aload_n (n := 0) (i := 0) rfl (List.mem_of_getElem? (i := 0) rfl) (by decide +kernel) ?_
    refine xr_getR (o := 1) (ob2_0 hL) fl_Law_9 rfl (by decide +kernel) ?_
    show sh_X g d m_Law_put _ _ ((sh_r (L + 1)) :: _) _ _
    refine xr_aload_n (n := 0) (i := 0) rfl (List.mem_of_getElem? (i := 0) rfl) (by decide +kernel) ?_
    refine xr_getI (ob2_0 hL) fl_Law_18 (by decide) (by decide +kernel) ?_
    refine xr_iload_n (n := 1) (i := 1) rfl (List.mem_of_getElem? (i := 1) rfl) (by decide +kernel) ?_
    have o9 := True.intro
    obtain ⟨o, k⟩ := k
    refine xr_iast (ob2_1 hL) o.1 o.2 (by decide +kernel) ?_
    have k := k _ rfl
    generalize hg_m1 : ms mem (L + 1) (ru (mem (L + 1)) ((mem L 2)).toNat operation) = m1 at k ⊢
    refine xr_aload_n (n := 0) (i := 0) rfl (List.mem_of_getElem? (i := 0) rfl) (by decide +kernel) ?_
    refine xr_dupR (by decide +kernel) ?_
    refine xr_getI (ob2_0 hL) fl_Law_18 (by decide) (by decide +kernel) ?_
    refine xr_iconst (n := 1) (by decide +kernel) ?_
    refine xr_iadd (by decide +kernel) ?_
    show sh_X g d m_Law_put _ _ ((sh_i ((m1 L 2) + 1)) :: _) _ _
    refine xr_putI (ob2_0 hL) pl_Law_18 rfl (by decide +kernel) ?_
    have k := k _ rfl
    generalize hg_m2 : ms m1 L (ru (m1 L) 2 ((m1 L 2) + 1)) = m2 at k ⊢
    exact xr_ret rfl (by decide +kernel) k

theorem v_Law_priceOf {g : sh_G} {d : Nat} {L : Nat} {much : Int} {old : Int} {sort : Int} {date : Int}  {mem : sh_Mem} {Q : Option sh_V → sh_Mem → Prop} (hL : ob2 L) (k : sh_X g (d + 1) m_Law_priceOf 6 [(0, (sh_r L)), (1, (sh_i much)), (2, (sh_i old)), (3, (sh_i sort)), (4, (sh_i date)), (5, (sh_i 0)), (6, (sh_i 0))] [] mem (sh_K m_Law_priceOf Q)) : sh_Cal g (d + 1) m_Law_priceOf [(sh_r L), (sh_i much), (sh_i old), (sh_i sort), (sh_i date)] mem Q := by
  refine sh_met (by decide +kernel) (Nat.le_of_ble_eq_true rfl) (lo := [(0, (sh_r L)), (1, (sh_i much)), (2, (sh_i old)), (3, (sh_i sort)), (4, (sh_i date))]) rfl ?_
  refine xr_iconst (n := 0) (by decide +kernel) ?_
  refine xr_istore (i := 5) (by decide) rfl (by decide +kernel) ?_
  refine xr_iconst (n := 0) (by decide +kernel) ?_
  refine xr_istore (i := 6) (by decide) rfl (by decide +kernel) ?_
  refine xr_sub (lo' := [(0, (sh_r L)), (1, (sh_i much)), (2, (sh_i old)), (3, (sh_i sort)), (4, (sh_i date)), (5, (sh_i 0)), (6, (sh_i 0))]) [2, 3, 4, 5, 6, 1, 0] rfl ?_
  exact k
theorem v_Law_priceOf_6 {g : sh_G} {d : Nat} {L : Nat} {much : Int} {old : Int} {sort : Int} {date : Int}  {mem : sh_Mem} {Q : Option sh_V → sh_Mem → Prop} (hL : ob2 L) {x5 : Int} {x6 : Nat} (k : (((i3 (mem L 2)) ≤ (i3 (x6 : Int)) → (((i3 x5) ≤ 0 → Q (some (sh_i 0)) mem) ∧ (¬ (i3 x5) ≤ 0 → ((0 ≤ (x5 - 1) ∧ (x5 - 1) < 32) ∧ Q (some (sh_i (if (i3 0) < (i3 (if (i3 (mem (L + 2) ((x5 - 1)).toNat)) < (i3 99) then (mem (L + 2) ((x5 - 1)).toNat) else (99 : Int))) then (if (i3 (mem (L + 2) ((x5 - 1)).toNat)) < (i3 99) then (mem (L + 2) ((x5 - 1)).toNat) else (99 : Int)) else (0 : Int)))) mem)))) ∧ (¬ (i3 (mem L 2)) ≤ (i3 (x6 : Int)) → (x6 < 1000 ∧ (((i3 (mem (L + 1) x6)) < (-4) → ((¬ (i3 (mem (L + 1) x6)) = (-5) → (((i3 x5) ≤ 1 → sh_X g (d + 1) m_Law_priceOf 6 [(0, (sh_r L)), (1, (sh_i much)), (2, (sh_i old)), (3, (sh_i sort)), (4, (sh_i date)), (5, (sh_i x5)), (6, (sh_i (((x6 + 1) : Nat) : Int)))] [] mem (sh_K m_Law_priceOf Q)) ∧ (¬ (i3 x5) ≤ 1 → ((0 ≤ ((x5 + (-1)) - 1) ∧ ((x5 + (-1)) - 1) < 32) ∧ ((0 ≤ (x5 + (-1)) ∧ (x5 + (-1)) < 32) ∧ (sh_Cal g d m_Law_join [(sh_i (mem (L + 1) x6)), (sh_i (mem (L + 2) (((x5 + (-1)) - 1)).toNat)), (sh_i (mem (L + 2) ((x5 + (-1))).toNat))] mem fun rv m1 => ∃ r1 : Int, rv = some (sh_i r1) ∧ ((0 ≤ ((x5 + (-1)) - 1) ∧ ((x5 + (-1)) - 1) < 32) ∧ (∀ m2 : sh_Mem, m2 = ms m1 (L + 2) (ru (m1 (L + 2)) (((x5 + (-1)) - 1)).toNat r1) → sh_X g (d + 1) m_Law_priceOf 6 [(0, (sh_r L)), (1, (sh_i much)), (2, (sh_i old)), (3, (sh_i sort)), (4, (sh_i date)), (5, (sh_i (x5 + (-1)))), (6, (sh_i (((x6 + 1) : Nat) : Int)))] [] m2 (sh_K m_Law_priceOf Q))))))))) ∧ ((i3 (mem (L + 1) x6)) = (-5) → (((i3 x5) ≤ 0 → sh_X g (d + 1) m_Law_priceOf 6 [(0, (sh_r L)), (1, (sh_i much)), (2, (sh_i old)), (3, (sh_i sort)), (4, (sh_i date)), (5, (sh_i x5)), (6, (sh_i (((x6 + 1) : Nat) : Int)))] [] mem (sh_K m_Law_priceOf Q)) ∧ (¬ (i3 x5) ≤ 0 → ((0 ≤ (x5 - 1) ∧ (x5 - 1) < 32) ∧ ((¬ (i3 (mem (L + 2) ((x5 - 1)).toNat)) = 0 → ((0 ≤ (x5 - 1) ∧ (x5 - 1) < 32) ∧ (∀ m3 : sh_Mem, m3 = ms mem (L + 2) (ru (mem (L + 2)) ((x5 - 1)).toNat 0) → sh_X g (d + 1) m_Law_priceOf 6 [(0, (sh_r L)), (1, (sh_i much)), (2, (sh_i old)), (3, (sh_i sort)), (4, (sh_i date)), (5, (sh_i x5)), (6, (sh_i (((x6 + 1) : Nat) : Int)))] [] m3 (sh_K m_Law_priceOf Q)))) ∧ ((i3 (mem (L + 2) ((x5 - 1)).toNat)) = 0 → ((0 ≤ (x5 - 1) ∧ (x5 - 1) < 32) ∧ (∀ m4 : sh_Mem, m4 = ms mem (L + 2) (ru (mem (L + 2)) ((x5 - 1)).toNat 1) → sh_X g (d + 1) m_Law_priceOf 6 [(0, (sh_r L)), (1, (sh_i much)), (2, (sh_i old)), (3, (sh_i sort)), (4, (sh_i date)), (5, (sh_i x5)), (6, (sh_i (((x6 + 1) : Nat) : Int)))] [] m4 (sh_K m_Law_priceOf Q))))))))))) ∧ (¬ (i3 (mem (L + 1) x6)) < (-4) → ((32 ≤ (i3 x5) → sh_X g (d + 1) m_Law_priceOf 6 [(0, (sh_r L)), (1, (sh_i much)), (2, (sh_i old)), (3, (sh_i sort)), (4, (sh_i date)), (5, (sh_i x5)), (6, (sh_i (((x6 + 1) : Nat) : Int)))] [] mem (sh_K m_Law_priceOf Q)) ∧ (¬ 32 ≤ (i3 x5) → (((i3 (mem (L + 1) x6)) < 0 → (sh_Cal g d m_Law_fact [(sh_i (mem (L + 1) x6)), (sh_i much), (sh_i old), (sh_i sort), (sh_i date)] mem fun rv m5 => ∃ r2 : Int, rv = some (sh_i r2) ∧ ((0 ≤ x5 ∧ x5 < 32) ∧ (∀ m6 : sh_Mem, m6 = ms m5 (L + 2) (ru (m5 (L + 2)) (x5).toNat r2) → sh_X g (d + 1) m_Law_priceOf 6 [(0, (sh_r L)), (1, (sh_i much)), (2, (sh_i old)), (3, (sh_i sort)), (4, (sh_i date)), (5, (sh_i (x5 + 1))), (6, (sh_i (((x6 + 1) : Nat) : Int)))] [] m6 (sh_K m_Law_priceOf Q))))) ∧ (¬ (i3 (mem (L + 1) x6)) < 0 → ((0 ≤ x5 ∧ x5 < 32) ∧ (∀ m7 : sh_Mem, m7 = ms mem (L + 2) (ru (mem (L + 2)) (x5).toNat (mem (L + 1) x6)) → sh_X g (d + 1) m_Law_priceOf 6 [(0, (sh_r L)), (1, (sh_i much)), (2, (sh_i old)), (3, (sh_i sort)), (4, (sh_i date)), (5, (sh_i (x5 + 1))), (6, (sh_i (((x6 + 1) : Nat) : Int)))] [] m7 (sh_K m_Law_priceOf Q))))))))))))) : sh_X g (d + 1) m_Law_priceOf 6 [(0, (sh_r L)), (1, (sh_i much)), (2, (sh_i old)), (3, (sh_i sort)), (4, (sh_i date)), (5, (sh_i x5)), (6, (sh_i (x6 : Int)))] [] mem (sh_K m_Law_priceOf Q) := by
  refine xr_iload (i := 6) (List.mem_of_getElem? (i := 6) rfl) (by decide +kernel) ?_
  refine xr_aload_n (n := 0) (i := 0) rfl (List.mem_of_getElem? (i := 0) rfl) (by decide +kernel) ?_
  refine xr_getI (ob2_0 hL) fl_Law_18 (by decide) (by decide +kernel) ?_
  refine xr_icmp_ge (a' := (i3 (x6 : Int))) (b' := (i3 (mem L 2))) rfl rfl (off := 145) (tgt := 157) (by decide) (by decide +kernel) ⟨fun c1 => ?_, fun c1 => ?_⟩
  · have k := k.1 c1
    refine xr_iload (i := 5) (List.mem_of_getElem? (i := 5) rfl) (by decide +kernel) ?_
    refine xr_if_le (a' := (i3 x5)) rfl (off := 24) (tgt := 183) (by decide) (by decide +kernel) ⟨fun c2 => ?_, fun c2 => ?_⟩
    · have k := k.1 c2
      refine xr_iconst (n := 0) (by decide +kernel) ?_
      exact xr_iret rfl (by decide +kernel) k
    · have k := k.2 c2
      refine xr_iconst (n := 0) (by decide +kernel) ?_
      refine xr_bipush (n := 99) (v := 99) (by decide) (by decide +kernel) ?_
      refine xr_aload_n (n := 0) (i := 0) rfl (List.mem_of_getElem? (i := 0) rfl) (by decide +kernel) ?_
      refine xr_getR (o := 2) (ob2_0 hL) fl_Law_15 rfl (by decide +kernel) ?_
      show sh_X g (d + 1) m_Law_priceOf _ _ ((sh_r (L + 2)) :: _) _ _
      refine xr_iload (i := 5) (List.mem_of_getElem? (i := 5) rfl) (by decide +kernel) ?_
      refine xr_iconst (n := 1) (by decide +kernel) ?_
      refine xr_isub (by decide +kernel) ?_
      show sh_X g (d + 1) m_Law_priceOf _ _ ((sh_i (x5 - 1)) :: _) _ _
      obtain ⟨o, k⟩ := k
      refine xr_iald (ob2_2 hL) o.1 o.2 (by decide +kernel) ?_
      refine xr_mmin ml_Law_30 (Nat.le_of_ble_eq_true rfl) (by decide +kernel) ?_
      refine xr_mmax ml_Law_36 (Nat.le_of_ble_eq_true rfl) (by decide +kernel) ?_
      refine xr_goto (off := 4) (tgt := 184) (by decide) (by decide +kernel) ?_
      exact xr_iret rfl (by decide +kernel) k
  · have k := k.2 c1
    refine xr_aload_n (n := 0) (i := 0) rfl (List.mem_of_getElem? (i := 0) rfl) (by decide +kernel) ?_
    refine xr_getR (o := 1) (ob2_0 hL) fl_Law_9 rfl (by decide +kernel) ?_
    show sh_X g (d + 1) m_Law_priceOf _ _ ((sh_r (L + 1)) :: _) _ _
    refine xr_iload (i := 6) (List.mem_of_getElem? (i := 6) rfl) (by decide +kernel) ?_
    obtain ⟨o, k⟩ := k
    refine xr_ialdN (j := x6) rfl (ob2_1 hL) o (by decide +kernel) ?_
    refine xr_istore (i := 7) (by decide) rfl (by decide +kernel) ?_
    refine xr_iload (i := 7) (List.mem_of_getElem? (i := 0) rfl) (by decide +kernel) ?_
    refine xr_bipush (n := (-4)) (v := (-4)) (by decide) (by decide +kernel) ?_
    refine xr_icmp_lt (a' := (i3 (mem (L + 1) x6))) (b' := (-4)) rfl (by decide) (off := 43) (tgt := 71) (by decide) (by decide +kernel) ⟨fun c3 => ?_, fun c3 => ?_⟩
    · have k := k.1 c3
      refine xr_iload (i := 7) (List.mem_of_getElem? (i := 0) rfl) (by decide +kernel) ?_
      refine xr_bipush (n := (-5)) (v := (-5)) (by decide) (by decide +kernel) ?_
      refine xr_icmp_ne (a' := (i3 (mem (L + 1) x6))) (b' := (-5)) rfl (by decide) (off := 37) (tgt := 112) (by decide) (by decide +kernel) ⟨fun c4 => ?_, fun c4 => ?_⟩
      · have k := k.1 c4
        refine xr_iload (i := 5) (List.mem_of_getElem? (i := 6) rfl) (by decide +kernel) ?_
        refine xr_iconst (n := 1) (by decide +kernel) ?_
        refine xr_icmp_le (a' := (i3 x5)) (b' := 1) rfl (by decide) (off := 36) (tgt := 151) (by decide) (by decide +kernel) ⟨fun c5 => ?_, fun c5 => ?_⟩
        · have k := k.1 c5
          refine xr_iinc (n := 1) (lo' := [(6, (sh_i (((x6 + 1) : Nat) : Int))), (7, (sh_i (mem (L + 1) x6))), (0, (sh_r L)), (1, (sh_i much)), (2, (sh_i old)), (3, (sh_i sort)), (4, (sh_i date)), (5, (sh_i x5))]) (List.mem_of_getElem? (i := 7) rfl) (by decide) rfl (by decide +kernel) ?_
          refine xr_goto (off := (-148)) (tgt := 6) (by decide) (by decide +kernel) ?_
          refine xr_sub (lo' := [(0, (sh_r L)), (1, (sh_i much)), (2, (sh_i old)), (3, (sh_i sort)), (4, (sh_i date)), (5, (sh_i x5)), (6, (sh_i (((x6 + 1) : Nat) : Int)))]) [2, 3, 4, 5, 6, 7, 0] rfl ?_
          exact k
        · have k := k.2 c5
          refine xr_iinc (n := (-1)) (lo' := [(5, (sh_i (x5 + (-1)))), (7, (sh_i (mem (L + 1) x6))), (0, (sh_r L)), (1, (sh_i much)), (2, (sh_i old)), (3, (sh_i sort)), (4, (sh_i date)), (6, (sh_i (x6 : Int)))]) (List.mem_of_getElem? (i := 6) rfl) (by decide) rfl (by decide +kernel) ?_
          refine xr_aload_n (n := 0) (i := 0) rfl (List.mem_of_getElem? (i := 2) rfl) (by decide +kernel) ?_
          refine xr_getR (o := 2) (ob2_0 hL) fl_Law_15 rfl (by decide +kernel) ?_
          show sh_X g (d + 1) m_Law_priceOf _ _ ((sh_r (L + 2)) :: _) _ _
          refine xr_iload (i := 5) (List.mem_of_getElem? (i := 0) rfl) (by decide +kernel) ?_
          refine xr_iconst (n := 1) (by decide +kernel) ?_
          refine xr_isub (by decide +kernel) ?_
          show sh_X g (d + 1) m_Law_priceOf _ _ ((sh_i ((x5 + (-1)) - 1)) :: _) _ _
          refine xr_iload (i := 7) (List.mem_of_getElem? (i := 1) rfl) (by decide +kernel) ?_
          refine xr_aload_n (n := 0) (i := 0) rfl (List.mem_of_getElem? (i := 2) rfl) (by decide +kernel) ?_
          refine xr_getR (o := 2) (ob2_0 hL) fl_Law_15 rfl (by decide +kernel) ?_
          show sh_X g (d + 1) m_Law_priceOf _ _ ((sh_r (L + 2)) :: _) _ _
          refine xr_iload (i := 5) (List.mem_of_getElem? (i := 0) rfl) (by decide +kernel) ?_
          refine xr_iconst (n := 1) (by decide +kernel) ?_
          refine xr_isub (by decide +kernel) ?_
          show sh_X g (d + 1) m_Law_priceOf _ _ ((sh_i ((x5 + (-1)) - 1)) :: _) _ _
          obtain ⟨o, k⟩ := k
          refine xr_iald (ob2_2 hL) o.1 o.2 (by decide +kernel) ?_
          refine xr_aload_n (n := 0) (i := 0) rfl (List.mem_of_getElem? (i := 2) rfl) (by decide +kernel) ?_
          refine xr_getR (o := 2) (ob2_0 hL) fl_Law_15 rfl (by decide +kernel) ?_
          show sh_X g (d + 1) m_Law_priceOf _ _ ((sh_r (L + 2)) :: _) _ _
          refine xr_iload (i := 5) (List.mem_of_getElem? (i := 0) rfl) (by decide +kernel) ?_
          obtain ⟨o, k⟩ := k
          refine xr_iald (ob2_2 hL) o.1 o.2 (by decide +kernel) ?_
          refine xr_callS (av := [(sh_i (mem (L + 1) x6)), (sh_i (mem (L + 2) (((x5 + (-1)) - 1)).toNat)), (sh_i (mem (L + 2) ((x5 + (-1))).toNat))]) mo_Law_join ml_Law_26 sa_Law_join rfl (Nat.le_of_ble_eq_true rfl) (by decide +kernel) (sh_mono k ?_)
          rintro rv m1 ⟨r1, rfl, k⟩
          show sh_X g (d + 1) m_Law_priceOf _ _ [(sh_i r1), (sh_i ((x5 + (-1)) - 1)), (sh_r (L + 2))] _ _
          have o9 := True.intro
          obtain ⟨o, k⟩ := k
          refine xr_iast (ob2_2 hL) o.1 o.2 (by decide +kernel) ?_
          have k := k _ rfl
          generalize hg_m2 : ms m1 (L + 2) (ru (m1 (L + 2)) (((x5 + (-1)) - 1)).toNat r1) = m2 at k ⊢
          refine xr_iinc (n := 1) (lo' := [(6, (sh_i (((x6 + 1) : Nat) : Int))), (5, (sh_i (x5 + (-1)))), (7, (sh_i (mem (L + 1) x6))), (0, (sh_r L)), (1, (sh_i much)), (2, (sh_i old)), (3, (sh_i sort)), (4, (sh_i date))]) (List.mem_of_getElem? (i := 7) rfl) (by decide) rfl (by decide +kernel) ?_
          refine xr_goto (off := (-148)) (tgt := 6) (by decide) (by decide +kernel) ?_
          refine xr_sub (lo' := [(0, (sh_r L)), (1, (sh_i much)), (2, (sh_i old)), (3, (sh_i sort)), (4, (sh_i date)), (5, (sh_i (x5 + (-1)))), (6, (sh_i (((x6 + 1) : Nat) : Int)))]) [3, 4, 5, 6, 7, 1, 0] rfl ?_
          exact k
      · have k := k.2 c4
        refine xr_iload (i := 5) (List.mem_of_getElem? (i := 6) rfl) (by decide +kernel) ?_
        refine xr_if_le (a' := (i3 x5)) rfl (off := 71) (tgt := 151) (by decide) (by decide +kernel) ⟨fun c6 => ?_, fun c6 => ?_⟩
        · have k := k.1 c6
          refine xr_iinc (n := 1) (lo' := [(6, (sh_i (((x6 + 1) : Nat) : Int))), (7, (sh_i (mem (L + 1) x6))), (0, (sh_r L)), (1, (sh_i much)), (2, (sh_i old)), (3, (sh_i sort)), (4, (sh_i date)), (5, (sh_i x5))]) (List.mem_of_getElem? (i := 7) rfl) (by decide) rfl (by decide +kernel) ?_
          refine xr_goto (off := (-148)) (tgt := 6) (by decide) (by decide +kernel) ?_
          refine xr_sub (lo' := [(0, (sh_r L)), (1, (sh_i much)), (2, (sh_i old)), (3, (sh_i sort)), (4, (sh_i date)), (5, (sh_i x5)), (6, (sh_i (((x6 + 1) : Nat) : Int)))]) [2, 3, 4, 5, 6, 7, 0] rfl ?_
          exact k
        · have k := k.2 c6
          refine xr_aload_n (n := 0) (i := 0) rfl (List.mem_of_getElem? (i := 1) rfl) (by decide +kernel) ?_
          refine xr_getR (o := 2) (ob2_0 hL) fl_Law_15 rfl (by decide +kernel) ?_
          show sh_X g (d + 1) m_Law_priceOf _ _ ((sh_r (L + 2)) :: _) _ _
          refine xr_iload (i := 5) (List.mem_of_getElem? (i := 6) rfl) (by decide +kernel) ?_
          refine xr_iconst (n := 1) (by decide +kernel) ?_
          refine xr_isub (by decide +kernel) ?_
          show sh_X g (d + 1) m_Law_priceOf _ _ ((sh_i (x5 - 1)) :: _) _ _
          refine xr_aload_n (n := 0) (i := 0) rfl (List.mem_of_getElem? (i := 1) rfl) (by decide +kernel) ?_
          refine xr_getR (o := 2) (ob2_0 hL) fl_Law_15 rfl (by decide +kernel) ?_
          show sh_X g (d + 1) m_Law_priceOf _ _ ((sh_r (L + 2)) :: _) _ _
          refine xr_iload (i := 5) (List.mem_of_getElem? (i := 6) rfl) (by decide +kernel) ?_
          refine xr_iconst (n := 1) (by decide +kernel) ?_
          refine xr_isub (by decide +kernel) ?_
          show sh_X g (d + 1) m_Law_priceOf _ _ ((sh_i (x5 - 1)) :: _) _ _
          obtain ⟨o, k⟩ := k
          refine xr_iald (ob2_2 hL) o.1 o.2 (by decide +kernel) ?_
          refine xr_if_ne (a' := (i3 (mem (L + 2) ((x5 - 1)).toNat))) rfl (off := 7) (tgt := 107) (by decide) (by decide +kernel) ⟨fun c7 => ?_, fun c7 => ?_⟩
          · have k := k.1 c7
            refine xr_iconst (n := 0) (by decide +kernel) ?_
            have o9 := True.intro
            obtain ⟨o, k⟩ := k
            refine xr_iast (ob2_2 hL) o.1 o.2 (by decide +kernel) ?_
            have k := k _ rfl
            generalize hg_m3 : ms mem (L + 2) (ru (mem (L + 2)) ((x5 - 1)).toNat 0) = m3 at k ⊢
            refine xr_goto (off := 42) (tgt := 151) (by decide) (by decide +kernel) ?_
            refine xr_iinc (n := 1) (lo' := [(6, (sh_i (((x6 + 1) : Nat) : Int))), (7, (sh_i (mem (L + 1) x6))), (0, (sh_r L)), (1, (sh_i much)), (2, (sh_i old)), (3, (sh_i sort)), (4, (sh_i date)), (5, (sh_i x5))]) (List.mem_of_getElem? (i := 7) rfl) (by decide) rfl (by decide +kernel) ?_
            refine xr_goto (off := (-148)) (tgt := 6) (by decide) (by decide +kernel) ?_
            refine xr_sub (lo' := [(0, (sh_r L)), (1, (sh_i much)), (2, (sh_i old)), (3, (sh_i sort)), (4, (sh_i date)), (5, (sh_i x5)), (6, (sh_i (((x6 + 1) : Nat) : Int)))]) [2, 3, 4, 5, 6, 7, 0] rfl ?_
            exact k
          · have k := k.2 c7
            refine xr_iconst (n := 1) (by decide +kernel) ?_
            refine xr_goto (off := 4) (tgt := 108) (by decide) (by decide +kernel) ?_
            have o9 := True.intro
            obtain ⟨o, k⟩ := k
            refine xr_iast (ob2_2 hL) o.1 o.2 (by decide +kernel) ?_
            have k := k _ rfl
            generalize hg_m4 : ms mem (L + 2) (ru (mem (L + 2)) ((x5 - 1)).toNat 1) = m4 at k ⊢
            refine xr_goto (off := 42) (tgt := 151) (by decide) (by decide +kernel) ?_
            refine xr_iinc (n := 1) (lo' := [(6, (sh_i (((x6 + 1) : Nat) : Int))), (7, (sh_i (mem (L + 1) x6))), (0, (sh_r L)), (1, (sh_i much)), (2, (sh_i old)), (3, (sh_i sort)), (4, (sh_i date)), (5, (sh_i x5))]) (List.mem_of_getElem? (i := 7) rfl) (by decide) rfl (by decide +kernel) ?_
            refine xr_goto (off := (-148)) (tgt := 6) (by decide) (by decide +kernel) ?_
            refine xr_sub (lo' := [(0, (sh_r L)), (1, (sh_i much)), (2, (sh_i old)), (3, (sh_i sort)), (4, (sh_i date)), (5, (sh_i x5)), (6, (sh_i (((x6 + 1) : Nat) : Int)))]) [2, 3, 4, 5, 6, 7, 0] rfl ?_
            exact k
    · have k := k.2 c3
      refine xr_iload (i := 5) (List.mem_of_getElem? (i := 6) rfl) (by decide +kernel) ?_
      refine xr_bipush (n := 32) (v := 32) (by decide) (by decide +kernel) ?_
      refine xr_icmp_ge (a' := (i3 x5)) (b' := 32) rfl (by decide) (off := 116) (tgt := 151) (by decide) (by decide +kernel) ⟨fun c8 => ?_, fun c8 => ?_⟩
      · have k := k.1 c8
        refine xr_iinc (n := 1) (lo' := [(6, (sh_i (((x6 + 1) : Nat) : Int))), (7, (sh_i (mem (L + 1) x6))), (0, (sh_r L)), (1, (sh_i much)), (2, (sh_i old)), (3, (sh_i sort)), (4, (sh_i date)), (5, (sh_i x5))]) (List.mem_of_getElem? (i := 7) rfl) (by decide) rfl (by decide +kernel) ?_
        refine xr_goto (off := (-148)) (tgt := 6) (by decide) (by decide +kernel) ?_
        refine xr_sub (lo' := [(0, (sh_r L)), (1, (sh_i much)), (2, (sh_i old)), (3, (sh_i sort)), (4, (sh_i date)), (5, (sh_i x5)), (6, (sh_i (((x6 + 1) : Nat) : Int)))]) [2, 3, 4, 5, 6, 7, 0] rfl ?_
        exact k
      · have k := k.2 c8
        refine xr_aload_n (n := 0) (i := 0) rfl (List.mem_of_getElem? (i := 1) rfl) (by decide +kernel) ?_
        refine xr_getR (o := 2) (ob2_0 hL) fl_Law_15 rfl (by decide +kernel) ?_
        show sh_X g (d + 1) m_Law_priceOf _ _ ((sh_r (L + 2)) :: _) _ _
        refine xr_iload (i := 5) (List.mem_of_getElem? (i := 6) rfl) (by decide +kernel) ?_
        refine xr_iload (i := 7) (List.mem_of_getElem? (i := 0) rfl) (by decide +kernel) ?_
        refine xr_if_lt (a' := (i3 (mem (L + 1) x6))) rfl (off := 8) (tgt := 54) (by decide) (by decide +kernel) ⟨fun c9 => ?_, fun c9 => ?_⟩
        · have k := k.1 c9
          refine xr_iload (i := 7) (List.mem_of_getElem? (i := 0) rfl) (by decide +kernel) ?_
          refine xr_iload_n (n := 1) (i := 1) rfl (List.mem_of_getElem? (i := 2) rfl) (by decide +kernel) ?_
          refine xr_iload_n (n := 2) (i := 2) rfl (List.mem_of_getElem? (i := 3) rfl) (by decide +kernel) ?_
          refine xr_iload_n (n := 3) (i := 3) rfl (List.mem_of_getElem? (i := 4) rfl) (by decide +kernel) ?_
          refine xr_iload (i := 4) (List.mem_of_getElem? (i := 5) rfl) (by decide +kernel) ?_
          refine xr_callS (av := [(sh_i (mem (L + 1) x6)), (sh_i much), (sh_i old), (sh_i sort), (sh_i date)]) mo_Law_fact ml_Law_22 sa_Law_fact rfl (Nat.le_of_ble_eq_true rfl) (by decide +kernel) (sh_mono k ?_)
          rintro rv m5 ⟨r2, rfl, k⟩
          show sh_X g (d + 1) m_Law_priceOf _ _ [(sh_i r2), (sh_i x5), (sh_r (L + 2))] _ _
          have o9 := True.intro
          obtain ⟨o, k⟩ := k
          refine xr_iast (ob2_2 hL) o.1 o.2 (by decide +kernel) ?_
          have k := k _ rfl
          generalize hg_m6 : ms m5 (L + 2) (ru (m5 (L + 2)) (x5).toNat r2) = m6 at k ⊢
          refine xr_iinc (n := 1) (lo' := [(5, (sh_i (x5 + 1))), (7, (sh_i (mem (L + 1) x6))), (0, (sh_r L)), (1, (sh_i much)), (2, (sh_i old)), (3, (sh_i sort)), (4, (sh_i date)), (6, (sh_i (x6 : Int)))]) (List.mem_of_getElem? (i := 6) rfl) (by decide) rfl (by decide +kernel) ?_
          refine xr_goto (off := 83) (tgt := 151) (by decide) (by decide +kernel) ?_
          refine xr_iinc (n := 1) (lo' := [(6, (sh_i (((x6 + 1) : Nat) : Int))), (5, (sh_i (x5 + 1))), (7, (sh_i (mem (L + 1) x6))), (0, (sh_r L)), (1, (sh_i much)), (2, (sh_i old)), (3, (sh_i sort)), (4, (sh_i date))]) (List.mem_of_getElem? (i := 7) rfl) (by decide) rfl (by decide +kernel) ?_
          refine xr_goto (off := (-148)) (tgt := 6) (by decide) (by decide +kernel) ?_
          refine xr_sub (lo' := [(0, (sh_r L)), (1, (sh_i much)), (2, (sh_i old)), (3, (sh_i sort)), (4, (sh_i date)), (5, (sh_i (x5 + 1))), (6, (sh_i (((x6 + 1) : Nat) : Int)))]) [3, 4, 5, 6, 7, 1, 0] rfl ?_
          exact k
        · have k := k.2 c9
          refine xr_iload (i := 7) (List.mem_of_getElem? (i := 0) rfl) (by decide +kernel) ?_
          refine xr_goto (off := 13) (tgt := 64) (by decide) (by decide +kernel) ?_
          have o9 := True.intro
          obtain ⟨o, k⟩ := k
          refine xr_iast (ob2_2 hL) o.1 o.2 (by decide +kernel) ?_
          have k := k _ rfl
          generalize hg_m7 : ms mem (L + 2) (ru (mem (L + 2)) (x5).toNat (mem (L + 1) x6)) = m7 at k ⊢
          refine xr_iinc (n := 1) (lo' := [(5, (sh_i (x5 + 1))), (7, (sh_i (mem (L + 1) x6))), (0, (sh_r L)), (1, (sh_i much)), (2, (sh_i old)), (3, (sh_i sort)), (4, (sh_i date)), (6, (sh_i (x6 : Int)))]) (List.mem_of_getElem? (i := 6) rfl) (by decide) rfl (by decide +kernel) ?_
          refine xr_goto (off := 83) (tgt := 151) (by decide) (by decide +kernel) ?_
          refine xr_iinc (n := 1) (lo' := [(6, (sh_i (((x6 + 1) : Nat) : Int))), (5, (sh_i (x5 + 1))), (7, (sh_i (mem (L + 1) x6))), (0, (sh_r L)), (1, (sh_i much)), (2, (sh_i old)), (3, (sh_i sort)), (4, (sh_i date))]) (List.mem_of_getElem? (i := 7) rfl) (by decide) rfl (by decide +kernel) ?_
          refine xr_goto (off := (-148)) (tgt := 6) (by decide) (by decide +kernel) ?_
          refine xr_sub (lo' := [(0, (sh_r L)), (1, (sh_i much)), (2, (sh_i old)), (3, (sh_i sort)), (4, (sh_i date)), (5, (sh_i (x5 + 1))), (6, (sh_i (((x6 + 1) : Nat) : Int)))]) [3, 4, 5, 6, 7, 1, 0] rfl ?_
          exact k

theorem v_Law_fact {g : sh_G} {d : Nat} {operation : Int} {much : Int} {old : Int} {sort : Int} {date : Int}  {mem : sh_Mem} {Q : Option sh_V → sh_Mem → Prop}  (k : (((i3 operation) = (-3) → Q (some (sh_i sort)) mem) ∧ (((i3 operation) = (-2) → Q (some (sh_i old)) mem) ∧ (((i3 operation) = (-1) → Q (some (sh_i much)) mem) ∧ (((i3 operation) < (-3) ∨ (-1) < (i3 operation)) → Q (some (sh_i date)) mem))))) : sh_Cal g d m_Law_fact [(sh_i operation), (sh_i much), (sh_i old), (sh_i sort), (sh_i date)] mem Q := by
  refine sh_met (by decide +kernel) (Nat.le_of_ble_eq_true rfl) (lo := [(0, (sh_i operation)), (1, (sh_i much)), (2, (sh_i old)), (3, (sh_i sort)), (4, (sh_i date))]) rfl ?_
  refine xr_iload_n (n := 0) (i := 0) rfl (List.mem_of_getElem? (i := 0) rfl) (by decide +kernel) ?_
  rcases (by omega : (i3 operation) = (-3) ∨ (i3 operation) = (-2) ∨ (i3 operation) = (-1) ∨ ((i3 operation) < (-3) ∨ (-1) < (i3 operation))) with c1 | c1 | c1 | c1
  · have k := k.1 c1
    refine xr_tabIn (dflt := 33) (low := (-3)) (high := (-1)) (offs := #[31, 29, 27]) (len := 27) (-3) c1 (by decide) (by decide) rfl (tgt := 32) (by decide) (by decide +kernel) ?_
    refine xr_iload_n (n := 3) (i := 3) rfl (List.mem_of_getElem? (i := 3) rfl) (by decide +kernel) ?_
    exact xr_iret rfl (by decide +kernel) k
  · have k := k.2.1 c1
    refine xr_tabIn (dflt := 33) (low := (-3)) (high := (-1)) (offs := #[31, 29, 27]) (len := 27) (-2) c1 (by decide) (by decide) rfl (tgt := 30) (by decide) (by decide +kernel) ?_
    refine xr_iload_n (n := 2) (i := 2) rfl (List.mem_of_getElem? (i := 2) rfl) (by decide +kernel) ?_
    exact xr_iret rfl (by decide +kernel) k
  · have k := k.2.2.1 c1
    refine xr_tabIn (dflt := 33) (low := (-3)) (high := (-1)) (offs := #[31, 29, 27]) (len := 27) (-1) c1 (by decide) (by decide) rfl (tgt := 28) (by decide) (by decide +kernel) ?_
    refine xr_iload_n (n := 1) (i := 1) rfl (List.mem_of_getElem? (i := 1) rfl) (by decide +kernel) ?_
    exact xr_iret rfl (by decide +kernel) k
  · have k := k.2.2.2 c1
    refine xr_tabOut (dflt := 33) (low := (-3)) (high := (-1)) (offs := #[31, 29, 27]) (len := 27) c1 (tgt := 34) (by decide) (by decide +kernel) ?_
    refine xr_iload (i := 4) (List.mem_of_getElem? (i := 4) rfl) (by decide +kernel) ?_
    exact xr_iret rfl (by decide +kernel) k

theorem v_Law_join {g : sh_G} {d : Nat} {operation : Int} {a : Int} {b : Int}  {mem : sh_Mem} {Q : Option sh_V → sh_Mem → Prop}  (k : (((i3 operation) = (-11) → Q (some (sh_i (a - b))) mem) ∧ (((i3 operation) = (-10) → Q (some (sh_i (a + b))) mem) ∧ (((i3 operation) = (-9) → ((¬ (i3 a) = (i3 b) → Q (some (sh_i 0)) mem) ∧ ((i3 a) = (i3 b) → Q (some (sh_i 1)) mem))) ∧ (((i3 operation) = (-8) → (((i3 b) ≤ (i3 a) → Q (some (sh_i 0)) mem) ∧ (¬ (i3 b) ≤ (i3 a) → Q (some (sh_i 1)) mem))) ∧ (((i3 operation) = (-7) → ((¬ (i3 a) = 0 → Q (some (sh_i 1)) mem) ∧ ((i3 a) = 0 → (((i3 b) = 0 → Q (some (sh_i 0)) mem) ∧ (¬ (i3 b) = 0 → Q (some (sh_i 1)) mem))))) ∧ (((i3 operation) = (-6) → (((i3 a) = 0 → Q (some (sh_i 0)) mem) ∧ (¬ (i3 a) = 0 → (((i3 b) = 0 → Q (some (sh_i 0)) mem) ∧ (¬ (i3 b) = 0 → Q (some (sh_i 1)) mem))))) ∧ (((i3 operation) < (-11) ∨ (-6) < (i3 operation)) → Q (some (sh_i (a * b))) mem)))))))) : sh_Cal g d m_Law_join [(sh_i operation), (sh_i a), (sh_i b)] mem Q := by
  refine sh_met (by decide +kernel) (Nat.le_of_ble_eq_true rfl) (lo := [(0, (sh_i operation)), (1, (sh_i a)), (2, (sh_i b))]) rfl ?_
  refine xr_iload_n (n := 0) (i := 0) rfl (List.mem_of_getElem? (i := 0) rfl) (by decide +kernel) ?_
  rcases (by omega : (i3 operation) = (-11) ∨ (i3 operation) = (-10) ∨ (i3 operation) = (-9) ∨ (i3 operation) = (-8) ∨ (i3 operation) = (-7) ∨ (i3 operation) = (-6) ∨ ((i3 operation) < (-11) ∨ (-6) < (i3 operation))) with c1 | c1 | c1 | c1 | c1 | c1 | c1
  · have k := k.1 c1
    refine xr_tabIn (dflt := 97) (low := (-11)) (high := (-6)) (offs := #[93, 89, 78, 67, 53, 39]) (len := 39) (-11) c1 (by decide) (by decide) rfl (tgt := 94) (by decide) (by decide +kernel) ?_
    refine xr_iload_n (n := 1) (i := 1) rfl (List.mem_of_getElem? (i := 1) rfl) (by decide +kernel) ?_
    refine xr_iload_n (n := 2) (i := 2) rfl (List.mem_of_getElem? (i := 2) rfl) (by decide +kernel) ?_
    refine xr_isub (by decide +kernel) ?_
    show sh_X g d m_Law_join _ _ ((sh_i (a - b)) :: _) _ _
    exact xr_iret rfl (by decide +kernel) k
  · have k := k.2.1 c1
    refine xr_tabIn (dflt := 97) (low := (-11)) (high := (-6)) (offs := #[93, 89, 78, 67, 53, 39]) (len := 39) (-10) c1 (by decide) (by decide) rfl (tgt := 90) (by decide) (by decide +kernel) ?_
    refine xr_iload_n (n := 1) (i := 1) rfl (List.mem_of_getElem? (i := 1) rfl) (by decide +kernel) ?_
    refine xr_iload_n (n := 2) (i := 2) rfl (List.mem_of_getElem? (i := 2) rfl) (by decide +kernel) ?_
    refine xr_iadd (by decide +kernel) ?_
    show sh_X g d m_Law_join _ _ ((sh_i (a + b)) :: _) _ _
    exact xr_iret rfl (by decide +kernel) k
  · have k := k.2.2.1 c1
    refine xr_tabIn (dflt := 97) (low := (-11)) (high := (-6)) (offs := #[93, 89, 78, 67, 53, 39]) (len := 39) (-9) c1 (by decide) (by decide) rfl (tgt := 79) (by decide) (by decide +kernel) ?_
    refine xr_iload_n (n := 1) (i := 1) rfl (List.mem_of_getElem? (i := 1) rfl) (by decide +kernel) ?_
    refine xr_iload_n (n := 2) (i := 2) rfl (List.mem_of_getElem? (i := 2) rfl) (by decide +kernel) ?_
    refine xr_icmp_ne (a' := (i3 a)) (b' := (i3 b)) rfl rfl (off := 7) (tgt := 88) (by decide) (by decide +kernel) ⟨fun c2 => ?_, fun c2 => ?_⟩
    · have k := k.1 c2
      refine xr_iconst (n := 0) (by decide +kernel) ?_
      exact xr_iret rfl (by decide +kernel) k
    · have k := k.2 c2
      refine xr_iconst (n := 1) (by decide +kernel) ?_
      refine xr_goto (off := 4) (tgt := 89) (by decide) (by decide +kernel) ?_
      exact xr_iret rfl (by decide +kernel) k
  · have k := k.2.2.2.1 c1
    refine xr_tabIn (dflt := 97) (low := (-11)) (high := (-6)) (offs := #[93, 89, 78, 67, 53, 39]) (len := 39) (-8) c1 (by decide) (by decide) rfl (tgt := 68) (by decide) (by decide +kernel) ?_
    refine xr_iload_n (n := 1) (i := 1) rfl (List.mem_of_getElem? (i := 1) rfl) (by decide +kernel) ?_
    refine xr_iload_n (n := 2) (i := 2) rfl (List.mem_of_getElem? (i := 2) rfl) (by decide +kernel) ?_
    refine xr_icmp_ge (a' := (i3 a)) (b' := (i3 b)) rfl rfl (off := 7) (tgt := 77) (by decide) (by decide +kernel) ⟨fun c3 => ?_, fun c3 => ?_⟩
    · have k := k.1 c3
      refine xr_iconst (n := 0) (by decide +kernel) ?_
      exact xr_iret rfl (by decide +kernel) k
    · have k := k.2 c3
      refine xr_iconst (n := 1) (by decide +kernel) ?_
      refine xr_goto (off := 4) (tgt := 78) (by decide) (by decide +kernel) ?_
      exact xr_iret rfl (by decide +kernel) k
  · have k := k.2.2.2.2.1 c1
    refine xr_tabIn (dflt := 97) (low := (-11)) (high := (-6)) (offs := #[93, 89, 78, 67, 53, 39]) (len := 39) (-7) c1 (by decide) (by decide) rfl (tgt := 54) (by decide) (by decide +kernel) ?_
    refine xr_iload_n (n := 1) (i := 1) rfl (List.mem_of_getElem? (i := 1) rfl) (by decide +kernel) ?_
    refine xr_if_ne (a' := (i3 a)) rfl (off := 7) (tgt := 62) (by decide) (by decide +kernel) ⟨fun c4 => ?_, fun c4 => ?_⟩
    · have k := k.1 c4
      refine xr_iconst (n := 1) (by decide +kernel) ?_
      refine xr_goto (off := 4) (tgt := 67) (by decide) (by decide +kernel) ?_
      exact xr_iret rfl (by decide +kernel) k
    · have k := k.2 c4
      refine xr_iload_n (n := 2) (i := 2) rfl (List.mem_of_getElem? (i := 2) rfl) (by decide +kernel) ?_
      refine xr_if_eq (a' := (i3 b)) rfl (off := 7) (tgt := 66) (by decide) (by decide +kernel) ⟨fun c5 => ?_, fun c5 => ?_⟩
      · have k := k.1 c5
        refine xr_iconst (n := 0) (by decide +kernel) ?_
        exact xr_iret rfl (by decide +kernel) k
      · have k := k.2 c5
        refine xr_iconst (n := 1) (by decide +kernel) ?_
        refine xr_goto (off := 4) (tgt := 67) (by decide) (by decide +kernel) ?_
        exact xr_iret rfl (by decide +kernel) k
  · have k := k.2.2.2.2.2.1 c1
    refine xr_tabIn (dflt := 97) (low := (-11)) (high := (-6)) (offs := #[93, 89, 78, 67, 53, 39]) (len := 39) (-6) c1 (by decide) (by decide) rfl (tgt := 40) (by decide) (by decide +kernel) ?_
    refine xr_iload_n (n := 1) (i := 1) rfl (List.mem_of_getElem? (i := 1) rfl) (by decide +kernel) ?_
    refine xr_if_eq (a' := (i3 a)) rfl (off := 11) (tgt := 52) (by decide) (by decide +kernel) ⟨fun c6 => ?_, fun c6 => ?_⟩
    · have k := k.1 c6
      refine xr_iconst (n := 0) (by decide +kernel) ?_
      exact xr_iret rfl (by decide +kernel) k
    · have k := k.2 c6
      refine xr_iload_n (n := 2) (i := 2) rfl (List.mem_of_getElem? (i := 2) rfl) (by decide +kernel) ?_
      refine xr_if_eq (a' := (i3 b)) rfl (off := 7) (tgt := 52) (by decide) (by decide +kernel) ⟨fun c7 => ?_, fun c7 => ?_⟩
      · have k := k.1 c7
        refine xr_iconst (n := 0) (by decide +kernel) ?_
        exact xr_iret rfl (by decide +kernel) k
      · have k := k.2 c7
        refine xr_iconst (n := 1) (by decide +kernel) ?_
        refine xr_goto (off := 4) (tgt := 53) (by decide) (by decide +kernel) ?_
        exact xr_iret rfl (by decide +kernel) k
  · have k := k.2.2.2.2.2.2 c1
    refine xr_tabOut (dflt := 97) (low := (-11)) (high := (-6)) (offs := #[93, 89, 78, 67, 53, 39]) (len := 39) c1 (tgt := 98) (by decide) (by decide +kernel) ?_
    refine xr_iload_n (n := 1) (i := 1) rfl (List.mem_of_getElem? (i := 1) rfl) (by decide +kernel) ?_
    refine xr_iload_n (n := 2) (i := 2) rfl (List.mem_of_getElem? (i := 2) rfl) (by decide +kernel) ?_
    refine xr_imul (by decide +kernel) ?_
    show sh_X g d m_Law_join _ _ ((sh_i (a * b)) :: _) _ _
    exact xr_iret rfl (by decide +kernel) k

theorem v_Alm_clear {g : sh_G} {d : Nat} {B : Nat}  {mem : sh_Mem} {Q : Option sh_V → sh_Mem → Prop} (hB : ob0 B) (k : (∀ m1 : sh_Mem, m1 = ms mem B (ru (mem B) 0 0) → (∀ m2 : sh_Mem, m2 = ms m1 B (ru (m1 B) 1 0) → (∀ m3 : sh_Mem, m3 = ms m2 B (ru (m2 B) 2 0) → (sh_Cal g d m_Law_clear [(sh_r (B + 8))] m3 fun rv m4 => rv = none ∧ (sh_Cal g d m_Law_put [(sh_r (B + 8)), (sh_i (-1))] m4 fun rv m5 => rv = none ∧ Q none m5)))))) : sh_Cal g (d + 1) m_Alm_clear [(sh_r B)] mem Q := by
  refine sh_met (by decide +kernel) (Nat.le_of_ble_eq_true rfl) (lo := [(0, (sh_r B))]) rfl ?_
  refine xr_aload_n (n := 0) (i := 0) rfl (List.mem_of_getElem? (i := 0) rfl) (by decide +kernel) ?_
  refine xr_iconst (n := 0) (by decide +kernel) ?_
  refine xr_putI (ob0_0 hB) pl_Alm_41 rfl (by decide +kernel) ?_
  have k := k _ rfl
  generalize hg_m1 : ms mem B (ru (mem B) 0 0) = m1 at k ⊢
  refine xr_aload_n (n := 0) (i := 0) rfl (List.mem_of_getElem? (i := 0) rfl) (by decide +kernel) ?_
  refine xr_iconst (n := 0) (by decide +kernel) ?_
  refine xr_putI (ob0_0 hB) pl_Alm_45 rfl (by decide +kernel) ?_
  have k := k _ rfl
  generalize hg_m2 : ms m1 B (ru (m1 B) 1 0) = m2 at k ⊢
  refine xr_aload_n (n := 0) (i := 0) rfl (List.mem_of_getElem? (i := 0) rfl) (by decide +kernel) ?_
  refine xr_iconst (n := 0) (by decide +kernel) ?_
  refine xr_putZ (by decide) (ob0_0 hB) pl_Alm_48 rfl (by decide +kernel) ?_
  have k := k _ rfl
  generalize hg_m3 : ms m2 B (ru (m2 B) 2 0) = m3 at k ⊢
  refine xr_aload_n (n := 0) (i := 0) rfl (List.mem_of_getElem? (i := 0) rfl) (by decide +kernel) ?_
  refine xr_getR (o := 8) (ob0_0 hB) fl_Alm_37 rfl (by decide +kernel) ?_
  show sh_X g (d + 1) m_Alm_clear _ _ ((sh_r (B + 8)) :: _) _ _
  refine xr_callV (av := []) (ob0_8 hB) rfl rfl mo_Law_clear ml_Alm_52 im_Law_clear se_Law_clear rfl (Nat.le_of_ble_eq_true rfl) (by decide +kernel) (sh_mono k ?_)
  rintro rv m4 ⟨rfl, k⟩
  show sh_X g (d + 1) m_Alm_clear _ _ [] _ _
  refine xr_aload_n (n := 0) (i := 0) rfl (List.mem_of_getElem? (i := 0) rfl) (by decide +kernel) ?_
  refine xr_getR (o := 8) (ob0_0 hB) fl_Alm_37 rfl (by decide +kernel) ?_
  show sh_X g (d + 1) m_Alm_clear _ _ ((sh_r (B + 8)) :: _) _ _
  refine xr_iconst (n := (-1)) (by decide +kernel) ?_
  refine xr_callV (av := [(sh_i (-1))]) (ob0_8 hB) rfl rfl mo_Law_put ml_Alm_55 im_Law_put se_Law_put rfl (Nat.le_of_ble_eq_true rfl) (by decide +kernel) (sh_mono k ?_)
  rintro rv m5 ⟨rfl, k⟩
  show sh_X g (d + 1) m_Alm_clear _ _ [] _ _
  exact xr_ret rfl (by decide +kernel) k

theorem v_Alm_dayNamed {g : sh_G} {d : Nat} {B : Nat} {name : Int}  {mem : sh_Mem} {Q : Option sh_V → sh_Mem → Prop} (hB : ob0 B) (k : sh_X g d m_Alm_dayNamed 2 [(0, (sh_r B)), (1, (sh_l name)), (3, (sh_i 0))] [] mem (sh_K m_Alm_dayNamed Q)) : sh_Cal g d m_Alm_dayNamed [(sh_r B), (sh_l name)] mem Q := by
  refine sh_met (by decide +kernel) (Nat.le_of_ble_eq_true rfl) (lo := [(0, (sh_r B)), (1, (sh_l name))]) rfl ?_
  refine xr_iconst (n := 0) (by decide +kernel) ?_
  refine xr_istore_n (n := 3) (i := 3) rfl (by decide) rfl (by decide +kernel) ?_
  refine xr_sub (lo' := [(0, (sh_r B)), (1, (sh_l name)), (3, (sh_i 0))]) [1, 2, 0] rfl ?_
  exact k
theorem v_Alm_dayNamed_2 {g : sh_G} {d : Nat} {B : Nat} {name : Int}  {mem : sh_Mem} {Q : Option sh_V → sh_Mem → Prop} (hB : ob0 B) {x3 : Nat} (k : (((i3 (mem B 0)) ≤ (i3 (x3 : Int)) → Q (some (sh_i (-1))) mem) ∧ (¬ (i3 (mem B 0)) ≤ (i3 (x3 : Int)) → (x3 < 8 ∧ ((¬ (l_cmp (mem (B + 1) x3) name) = 0 → sh_X g d m_Alm_dayNamed 2 [(0, (sh_r B)), (1, (sh_l name)), (3, (sh_i (((x3 + 1) : Nat) : Int)))] [] mem (sh_K m_Alm_dayNamed Q)) ∧ ((l_cmp (mem (B + 1) x3) name) = 0 → Q (some (sh_i (x3 : Int))) mem)))))) : sh_X g d m_Alm_dayNamed 2 [(0, (sh_r B)), (1, (sh_l name)), (3, (sh_i (x3 : Int)))] [] mem (sh_K m_Alm_dayNamed Q) := by
  refine xr_iload_n (n := 3) (i := 3) rfl (List.mem_of_getElem? (i := 2) rfl) (by decide +kernel) ?_
  refine xr_aload_n (n := 0) (i := 0) rfl (List.mem_of_getElem? (i := 0) rfl) (by decide +kernel) ?_
  refine xr_getI (ob0_0 hB) fl_Alm_41 (by decide) (by decide +kernel) ?_
  refine xr_icmp_ge (a' := (i3 (x3 : Int))) (b' := (i3 (mem B 0))) rfl rfl (off := 22) (tgt := 29) (by decide) (by decide +kernel) ⟨fun c1 => ?_, fun c1 => ?_⟩
  · have k := k.1 c1
    refine xr_iconst (n := (-1)) (by decide +kernel) ?_
    exact xr_iret rfl (by decide +kernel) k
  · have k := k.2 c1
    refine xr_aload_n (n := 0) (i := 0) rfl (List.mem_of_getElem? (i := 0) rfl) (by decide +kernel) ?_
    refine xr_getR (o := 1) (ob0_0 hB) fl_Alm_9 rfl (by decide +kernel) ?_
    show sh_X g d m_Alm_dayNamed _ _ ((sh_r (B + 1)) :: _) _ _
    refine xr_iload_n (n := 3) (i := 3) rfl (List.mem_of_getElem? (i := 2) rfl) (by decide +kernel) ?_
    obtain ⟨o, k⟩ := k
    refine xr_laldN (j := x3) rfl (ob0_1 hB) o (by decide +kernel) ?_
    refine xr_lload_n (n := 1) (i := 1) rfl (List.mem_of_getElem? (i := 1) rfl) (by decide +kernel) ?_
    refine xr_lcmp (by decide +kernel) ?_
    refine xr_if_ne (a' := (l_cmp (mem (B + 1) x3) name)) (i3_nrm _) (off := 5) (tgt := 23) (by decide) (by decide +kernel) ⟨fun c2 => ?_, fun c2 => ?_⟩
    · have k := k.1 c2
      refine xr_iinc (n := 1) (lo' := [(3, (sh_i (((x3 + 1) : Nat) : Int))), (0, (sh_r B)), (1, (sh_l name))]) (List.mem_of_getElem? (i := 2) rfl) (by decide) rfl (by decide +kernel) ?_
      refine xr_goto (off := (-24)) (tgt := 2) (by decide) (by decide +kernel) ?_
      refine xr_sub (lo' := [(0, (sh_r B)), (1, (sh_l name)), (3, (sh_i (((x3 + 1) : Nat) : Int)))]) [1, 2, 0] rfl ?_
      exact k
    · have k := k.2 c2
      refine xr_iload_n (n := 3) (i := 3) rfl (List.mem_of_getElem? (i := 2) rfl) (by decide +kernel) ?_
      exact xr_iret rfl (by decide +kernel) k

theorem v_Alm_thiefNamed {g : sh_G} {d : Nat} {B : Nat} {name : Int}  {mem : sh_Mem} {Q : Option sh_V → sh_Mem → Prop} (hB : ob0 B) (k : sh_X g d m_Alm_thiefNamed 2 [(0, (sh_r B)), (1, (sh_l name)), (3, (sh_i 0))] [] mem (sh_K m_Alm_thiefNamed Q)) : sh_Cal g d m_Alm_thiefNamed [(sh_r B), (sh_l name)] mem Q := by
  refine sh_met (by decide +kernel) (Nat.le_of_ble_eq_true rfl) (lo := [(0, (sh_r B)), (1, (sh_l name))]) rfl ?_
  refine xr_iconst (n := 0) (by decide +kernel) ?_
  refine xr_istore_n (n := 3) (i := 3) rfl (by decide) rfl (by decide +kernel) ?_
  refine xr_sub (lo' := [(0, (sh_r B)), (1, (sh_l name)), (3, (sh_i 0))]) [1, 2, 0] rfl ?_
  exact k
theorem v_Alm_thiefNamed_2 {g : sh_G} {d : Nat} {B : Nat} {name : Int}  {mem : sh_Mem} {Q : Option sh_V → sh_Mem → Prop} (hB : ob0 B) {x3 : Nat} (k : (((i3 (mem B 1)) ≤ (i3 (x3 : Int)) → Q (some (sh_i (-1))) mem) ∧ (¬ (i3 (mem B 1)) ≤ (i3 (x3 : Int)) → (x3 < 4 ∧ ((¬ (l_cmp (mem (B + 5) x3) name) = 0 → sh_X g d m_Alm_thiefNamed 2 [(0, (sh_r B)), (1, (sh_l name)), (3, (sh_i (((x3 + 1) : Nat) : Int)))] [] mem (sh_K m_Alm_thiefNamed Q)) ∧ ((l_cmp (mem (B + 5) x3) name) = 0 → Q (some (sh_i (x3 : Int))) mem)))))) : sh_X g d m_Alm_thiefNamed 2 [(0, (sh_r B)), (1, (sh_l name)), (3, (sh_i (x3 : Int)))] [] mem (sh_K m_Alm_thiefNamed Q) := by
  refine xr_iload_n (n := 3) (i := 3) rfl (List.mem_of_getElem? (i := 2) rfl) (by decide +kernel) ?_
  refine xr_aload_n (n := 0) (i := 0) rfl (List.mem_of_getElem? (i := 0) rfl) (by decide +kernel) ?_
  refine xr_getI (ob0_0 hB) fl_Alm_45 (by decide) (by decide +kernel) ?_
  refine xr_icmp_ge (a' := (i3 (x3 : Int))) (b' := (i3 (mem B 1))) rfl rfl (off := 22) (tgt := 29) (by decide) (by decide +kernel) ⟨fun c1 => ?_, fun c1 => ?_⟩
  · have k := k.1 c1
    refine xr_iconst (n := (-1)) (by decide +kernel) ?_
    exact xr_iret rfl (by decide +kernel) k
  · have k := k.2 c1
    refine xr_aload_n (n := 0) (i := 0) rfl (List.mem_of_getElem? (i := 0) rfl) (by decide +kernel) ?_
    refine xr_getR (o := 5) (ob0_0 hB) fl_Alm_25 rfl (by decide +kernel) ?_
    show sh_X g d m_Alm_thiefNamed _ _ ((sh_r (B + 5)) :: _) _ _
    refine xr_iload_n (n := 3) (i := 3) rfl (List.mem_of_getElem? (i := 2) rfl) (by decide +kernel) ?_
    obtain ⟨o, k⟩ := k
    refine xr_laldN (j := x3) rfl (ob0_5 hB) o (by decide +kernel) ?_
    refine xr_lload_n (n := 1) (i := 1) rfl (List.mem_of_getElem? (i := 1) rfl) (by decide +kernel) ?_
    refine xr_lcmp (by decide +kernel) ?_
    refine xr_if_ne (a' := (l_cmp (mem (B + 5) x3) name)) (i3_nrm _) (off := 5) (tgt := 23) (by decide) (by decide +kernel) ⟨fun c2 => ?_, fun c2 => ?_⟩
    · have k := k.1 c2
      refine xr_iinc (n := 1) (lo' := [(3, (sh_i (((x3 + 1) : Nat) : Int))), (0, (sh_r B)), (1, (sh_l name))]) (List.mem_of_getElem? (i := 2) rfl) (by decide) rfl (by decide +kernel) ?_
      refine xr_goto (off := (-24)) (tgt := 2) (by decide) (by decide +kernel) ?_
      refine xr_sub (lo' := [(0, (sh_r B)), (1, (sh_l name)), (3, (sh_i (((x3 + 1) : Nat) : Int)))]) [1, 2, 0] rfl ?_
      exact k
    · have k := k.2 c2
      refine xr_iload_n (n := 3) (i := 3) rfl (List.mem_of_getElem? (i := 2) rfl) (by decide +kernel) ?_
      exact xr_iret rfl (by decide +kernel) k

theorem v_Year_add {g : sh_G} {d : Nat} {Y : Nat} {doing : Int} {first : Int} {second : Int}  {mem : sh_Mem} {Q : Option sh_V → sh_Mem → Prop} (hY : ob10 Y) (k : ((40 ≤ (i3 (mem Y 0)) → Q none mem) ∧ (¬ 40 ≤ (i3 (mem Y 0)) → ((0 ≤ (mem Y 0) ∧ (mem Y 0) < 40) ∧ (∀ m1 : sh_Mem, m1 = ms mem (Y + 1) (ru (mem (Y + 1)) ((mem Y 0)).toNat doing) → ((0 ≤ (m1 Y 0) ∧ (m1 Y 0) < 40) ∧ (∀ m2 : sh_Mem, m2 = ms m1 (Y + 2) (ru (m1 (Y + 2)) ((m1 Y 0)).toNat first) → ((0 ≤ (m2 Y 0) ∧ (m2 Y 0) < 40) ∧ (∀ m3 : sh_Mem, m3 = ms m2 (Y + 3) (ru (m2 (Y + 3)) ((m2 Y 0)).toNat second) → (∀ m4 : sh_Mem, m4 = ms m3 Y (ru (m3 Y) 0 ((m3 Y 0) + 1)) → Q none m4)))))))))) : sh_Cal g d m_Year_add [(sh_r Y), (sh_i doing), (sh_i first), (sh_i second)] mem Q := by
  refine sh_met (by decide +kernel) (Nat.le_of_ble_eq_true rfl) (lo := [(0, (sh_r Y)), (1, (sh_i doing)), (2, (sh_i first)), (3, (sh_i second))]) rfl ?_
  refine xr_aload_n (n := 0) (i := 0) rfl (List.mem_of_getElem? (i := 0) rfl) (by decide +kernel) ?_
  refine xr_getI (ob10_0 hY) fl_Year_21 (by decide) (by decide +kernel) ?_
  refine xr_bipush (n := 40) (v := 40) (by decide) (by decide +kernel) ?_
  refine xr_icmp_ge (a' := (i3 (mem Y 0))) (b' := 40) rfl (by decide) (off := 43) (tgt := 49) (by decide) (by decide +kernel) ⟨fun c1 => ?_, fun c1 => ?_⟩
  · have k := k.1 c1
    exact xr_ret rfl (by decide +kernel) k
  · have k := k.2 c1
    refine xr_aload_n (n := 0) (i := 0) rfl (List.mem_of_getElem? (i := 0) rfl) (by decide +kernel) ?_
    refine xr_getR (o := 1) (ob10_0 hY) fl_Year_9 rfl (by decide +kernel) ?_
    show sh_X g d m_Year_add _ _ ((sh_r (Y + 1)) :: _) _ _
    refine xr_aload_n (n := 0) (i := 0) rfl (List.mem_of_getElem? (i := 0) rfl) (by decide +kernel) ?_
    refine xr_getI (ob10_0 hY) fl_Year_21 (by decide) (by decide +kernel) ?_
    refine xr_iload_n (n := 1) (i := 1) rfl (List.mem_of_getElem? (i := 1) rfl) (by decide +kernel) ?_
    have o9 := True.intro
    obtain ⟨o, k⟩ := k
    refine xr_iast (ob10_1 hY) o.1 o.2 (by decide +kernel) ?_
    have k := k _ rfl
    generalize hg_m1 : ms mem (Y + 1) (ru (mem (Y + 1)) ((mem Y 0)).toNat doing) = m1 at k ⊢
    refine xr_aload_n (n := 0) (i := 0) rfl (List.mem_of_getElem? (i := 0) rfl) (by decide +kernel) ?_
    refine xr_getR (o := 2) (ob10_0 hY) fl_Year_15 rfl (by decide +kernel) ?_
    show sh_X g d m_Year_add _ _ ((sh_r (Y + 2)) :: _) _ _
    refine xr_aload_n (n := 0) (i := 0) rfl (List.mem_of_getElem? (i := 0) rfl) (by decide +kernel) ?_
    refine xr_getI (ob10_0 hY) fl_Year_21 (by decide) (by decide +kernel) ?_
    refine xr_iload_n (n := 2) (i := 2) rfl (List.mem_of_getElem? (i := 2) rfl) (by decide +kernel) ?_
    have o9 := True.intro
    obtain ⟨o, k⟩ := k
    refine xr_iast (ob10_2 hY) o.1 o.2 (by decide +kernel) ?_
    have k := k _ rfl
    generalize hg_m2 : ms m1 (Y + 2) (ru (m1 (Y + 2)) ((m1 Y 0)).toNat first) = m2 at k ⊢
    refine xr_aload_n (n := 0) (i := 0) rfl (List.mem_of_getElem? (i := 0) rfl) (by decide +kernel) ?_
    refine xr_getR (o := 3) (ob10_0 hY) fl_Year_18 rfl (by decide +kernel) ?_
    show sh_X g d m_Year_add _ _ ((sh_r (Y + 3)) :: _) _ _
    refine xr_aload_n (n := 0) (i := 0) rfl (List.mem_of_getElem? (i := 0) rfl) (by decide +kernel) ?_
    refine xr_getI (ob10_0 hY) fl_Year_21 (by decide) (by decide +kernel) ?_
    refine xr_iload_n (n := 3) (i := 3) rfl (List.mem_of_getElem? (i := 3) rfl) (by decide +kernel) ?_
    have o9 := True.intro
    obtain ⟨o, k⟩ := k
    refine xr_iast (ob10_3 hY) o.1 o.2 (by decide +kernel) ?_
    have k := k _ rfl
    generalize hg_m3 : ms m2 (Y + 3) (ru (m2 (Y + 3)) ((m2 Y 0)).toNat second) = m3 at k ⊢
    refine xr_aload_n (n := 0) (i := 0) rfl (List.mem_of_getElem? (i := 0) rfl) (by decide +kernel) ?_
    refine xr_dupR (by decide +kernel) ?_
    refine xr_getI (ob10_0 hY) fl_Year_21 (by decide) (by decide +kernel) ?_
    refine xr_iconst (n := 1) (by decide +kernel) ?_
    refine xr_iadd (by decide +kernel) ?_
    show sh_X g d m_Year_add _ _ ((sh_i ((m3 Y 0) + 1)) :: _) _ _
    refine xr_putI (ob10_0 hY) pl_Year_21 rfl (by decide +kernel) ?_
    have k := k _ rfl
    generalize hg_m4 : ms m3 Y (ru (m3 Y) 0 ((m3 Y 0) + 1)) = m4 at k ⊢
    exact xr_ret rfl (by decide +kernel) k

theorem v_Year_copy {g : sh_G} {d : Nat} {Y : Nat} {Y2 : Nat}  {mem : sh_Mem} {Q : Option sh_V → sh_Mem → Prop} (hY : ob10 Y) (hY2 : ob10 Y2) (k : (∀ m1 : sh_Mem, m1 = ms mem Y (ru (mem Y) 0 (mem Y2 0)) → (∀ m2 : sh_Mem, m2 = ms m1 (Y + 1) (cpy (m1 (Y2 + 1)) (m1 (Y + 1)) ((0) : Int).toNat ((0) : Int).toNat ((40) : Int).toNat) → (∀ m3 : sh_Mem, m3 = ms m2 (Y + 2) (cpy (m2 (Y2 + 2)) (m2 (Y + 2)) ((0) : Int).toNat ((0) : Int).toNat ((40) : Int).toNat) → (∀ m4 : sh_Mem, m4 = ms m3 (Y + 3) (cpy (m3 (Y2 + 3)) (m3 (Y + 3)) ((0) : Int).toNat ((0) : Int).toNat ((40) : Int).toNat) → Q none m4))))) : sh_Cal g (d + 1) m_Year_copy [(sh_r Y), (sh_r Y2)] mem Q := by
  refine sh_met (by decide +kernel) (Nat.le_of_ble_eq_true rfl) (lo := [(0, (sh_r Y)), (1, (sh_r Y2))]) rfl ?_
  refine xr_aload_n (n := 0) (i := 0) rfl (List.mem_of_getElem? (i := 0) rfl) (by decide +kernel) ?_
  refine xr_aload_n (n := 1) (i := 1) rfl (List.mem_of_getElem? (i := 1) rfl) (by decide +kernel) ?_
  refine xr_getI (ob10_0 hY2) fl_Year_21 (by decide) (by decide +kernel) ?_
  refine xr_putI (ob10_0 hY) pl_Year_21 rfl (by decide +kernel) ?_
  have k := k _ rfl
  generalize hg_m1 : ms mem Y (ru (mem Y) 0 (mem Y2 0)) = m1 at k ⊢
  refine xr_aload_n (n := 1) (i := 1) rfl (List.mem_of_getElem? (i := 1) rfl) (by decide +kernel) ?_
  refine xr_getR (o := 1) (ob10_0 hY2) fl_Year_9 rfl (by decide +kernel) ?_
  show sh_X g (d + 1) m_Year_copy _ _ ((sh_r (Y2 + 1)) :: _) _ _
  refine xr_iconst (n := 0) (by decide +kernel) ?_
  refine xr_aload_n (n := 0) (i := 0) rfl (List.mem_of_getElem? (i := 0) rfl) (by decide +kernel) ?_
  refine xr_getR (o := 1) (ob10_0 hY) fl_Year_9 rfl (by decide +kernel) ?_
  show sh_X g (d + 1) m_Year_copy _ _ ((sh_r (Y + 1)) :: _) _ _
  refine xr_iconst (n := 0) (by decide +kernel) ?_
  refine xr_bipush (n := 40) (v := 40) (by decide) (by decide +kernel) ?_
  refine xr_copy ml_Year_25 ac_nat ac_sta ac_ini (ob10_1 hY2) (ob10_1 hY) (by decide) (by decide) (by decide) (by decide) (by decide) (by decide +kernel) ?_
  have k := k _ rfl
  generalize hg_m2 : ms m1 (Y + 1) (cpy (m1 (Y2 + 1)) (m1 (Y + 1)) ((0) : Int).toNat ((0) : Int).toNat ((40) : Int).toNat) = m2 at k ⊢
  refine xr_aload_n (n := 1) (i := 1) rfl (List.mem_of_getElem? (i := 1) rfl) (by decide +kernel) ?_
  refine xr_getR (o := 2) (ob10_0 hY2) fl_Year_15 rfl (by decide +kernel) ?_
  show sh_X g (d + 1) m_Year_copy _ _ ((sh_r (Y2 + 2)) :: _) _ _
  refine xr_iconst (n := 0) (by decide +kernel) ?_
  refine xr_aload_n (n := 0) (i := 0) rfl (List.mem_of_getElem? (i := 0) rfl) (by decide +kernel) ?_
  refine xr_getR (o := 2) (ob10_0 hY) fl_Year_15 rfl (by decide +kernel) ?_
  show sh_X g (d + 1) m_Year_copy _ _ ((sh_r (Y + 2)) :: _) _ _
  refine xr_iconst (n := 0) (by decide +kernel) ?_
  refine xr_bipush (n := 40) (v := 40) (by decide) (by decide +kernel) ?_
  refine xr_copy ml_Year_25 ac_nat ac_sta ac_ini (ob10_2 hY2) (ob10_2 hY) (by decide) (by decide) (by decide) (by decide) (by decide) (by decide +kernel) ?_
  have k := k _ rfl
  generalize hg_m3 : ms m2 (Y + 2) (cpy (m2 (Y2 + 2)) (m2 (Y + 2)) ((0) : Int).toNat ((0) : Int).toNat ((40) : Int).toNat) = m3 at k ⊢
  refine xr_aload_n (n := 1) (i := 1) rfl (List.mem_of_getElem? (i := 1) rfl) (by decide +kernel) ?_
  refine xr_getR (o := 3) (ob10_0 hY2) fl_Year_18 rfl (by decide +kernel) ?_
  show sh_X g (d + 1) m_Year_copy _ _ ((sh_r (Y2 + 3)) :: _) _ _
  refine xr_iconst (n := 0) (by decide +kernel) ?_
  refine xr_aload_n (n := 0) (i := 0) rfl (List.mem_of_getElem? (i := 0) rfl) (by decide +kernel) ?_
  refine xr_getR (o := 3) (ob10_0 hY) fl_Year_18 rfl (by decide +kernel) ?_
  show sh_X g (d + 1) m_Year_copy _ _ ((sh_r (Y + 3)) :: _) _ _
  refine xr_iconst (n := 0) (by decide +kernel) ?_
  refine xr_bipush (n := 40) (v := 40) (by decide) (by decide +kernel) ?_
  refine xr_copy ml_Year_25 ac_nat ac_sta ac_ini (ob10_3 hY2) (ob10_3 hY) (by decide) (by decide) (by decide) (by decide) (by decide) (by decide +kernel) ?_
  have k := k _ rfl
  generalize hg_m4 : ms m3 (Y + 3) (cpy (m3 (Y2 + 3)) (m3 (Y + 3)) ((0) : Int).toNat ((0) : Int).toNat ((40) : Int).toNat) = m4 at k ⊢
  exact xr_ret rfl (by decide +kernel) k

theorem v_Year_play {g : sh_G} {d : Nat} {Y : Nat} {line : Nat} {S : Nat} {B : Nat}  {mem : sh_Mem} {Q : Option sh_V → sh_Mem → Prop} (hY : ob10 Y) (hS : ob8 S) (hB : ob0 B) (k : (line < 40 ∧ (line < 40 ∧ (line < 40 ∧ (((i3 (mem (Y + 1) line)) = 1 → (sh_Cal g d m_State_canTake [(sh_r S), (sh_i (mem (Y + 2) line)), (sh_i (mem (Y + 3) line))] mem fun rv m1 => ∃ r1 : Int, rv = some (sh_i r1) ∧ (((i3 r1) = 0 → Q (some (sh_i (-1))) m1) ∧ (¬ (i3 r1) = 0 → (sh_Cal g d m_State_take [(sh_r S), (sh_r B), (sh_i (mem (Y + 2) line)), (sh_i (mem (Y + 3) line))] m1 fun rv m2 => ∃ r2 : Int, rv = some (sh_i r2) ∧ Q (some (sh_i r2)) m2))))) ∧ (((i3 (mem (Y + 1) line)) = 2 → (sh_Cal g d m_State_canPart [(sh_r S), (sh_i (mem (Y + 2) line))] mem fun rv m3 => ∃ r3 : Int, rv = some (sh_i r3) ∧ (((i3 r3) = 0 → Q (some (sh_i (-1))) m3) ∧ (¬ (i3 r3) = 0 → (sh_Cal g d m_State_cashIn [(sh_r S), (sh_r B), (sh_i (mem (Y + 2) line))] m3 fun rv m4 => ∃ r4 : Int, rv = some (sh_i r4) ∧ Q (some (sh_i r4)) m4))))) ∧ (((i3 (mem (Y + 1) line)) = 3 → (sh_Cal g d m_State_canPart [(sh_r S), (sh_i (mem (Y + 2) line))] mem fun rv m5 => ∃ r5 : Int, rv = some (sh_i r5) ∧ (((i3 r5) = 0 → Q (some (sh_i (-1))) m5) ∧ (¬ (i3 r5) = 0 → (sh_Cal g d m_State_enjoy [(sh_r S), (sh_i (mem (Y + 2) line))] m5 fun rv m6 => ∃ r6 : Int, rv = some (sh_i r6) ∧ Q (some (sh_i r6)) m6))))) ∧ (((i3 (mem (Y + 1) line)) = 4 → (sh_Cal g d m_State_canTrade [(sh_r S), (sh_i (mem (Y + 2) line)), (sh_i (mem (Y + 3) line))] mem fun rv m7 => ∃ r7 : Int, rv = some (sh_i r7) ∧ ((¬ (i3 r7) = 0 → (sh_Cal g d m_State_trade [(sh_r S), (sh_i (mem (Y + 2) line)), (sh_i (mem (Y + 3) line))] m7 fun rv m8 => rv = none ∧ Q (some (sh_i 0)) m8)) ∧ ((i3 r7) = 0 → Q (some (sh_i (-1))) m7)))) ∧ (((i3 (mem (Y + 1) line)) < 1 ∨ 4 < (i3 (mem (Y + 1) line))) → (sh_Cal g d m_State_sleep [(sh_r S), (sh_r B)] mem fun rv m9 => rv = none ∧ Q (some (sh_i 0)) m9)))))))))) : sh_Cal g (d + 1) m_Year_play [(sh_r Y), (sh_i (line : Int)), (sh_r S), (sh_r B)] mem Q := by
  refine sh_met (by decide +kernel) (Nat.le_of_ble_eq_true rfl) (lo := [(0, (sh_r Y)), (1, (sh_i (line : Int))), (2, (sh_r S)), (3, (sh_r B))]) rfl ?_
  refine xr_aload_n (n := 0) (i := 0) rfl (List.mem_of_getElem? (i := 0) rfl) (by decide +kernel) ?_
  refine xr_getR (o := 2) (ob10_0 hY) fl_Year_15 rfl (by decide +kernel) ?_
  show sh_X g (d + 1) m_Year_play _ _ ((sh_r (Y + 2)) :: _) _ _
  refine xr_iload_n (n := 1) (i := 1) rfl (List.mem_of_getElem? (i := 1) rfl) (by decide +kernel) ?_
  obtain ⟨o, k⟩ := k
  refine xr_ialdN (j := line) rfl (ob10_2 hY) o (by decide +kernel) ?_
  refine xr_istore (i := 4) (by decide) rfl (by decide +kernel) ?_
  refine xr_aload_n (n := 0) (i := 0) rfl (List.mem_of_getElem? (i := 1) rfl) (by decide +kernel) ?_
  refine xr_getR (o := 3) (ob10_0 hY) fl_Year_18 rfl (by decide +kernel) ?_
  show sh_X g (d + 1) m_Year_play _ _ ((sh_r (Y + 3)) :: _) _ _
  refine xr_iload_n (n := 1) (i := 1) rfl (List.mem_of_getElem? (i := 2) rfl) (by decide +kernel) ?_
  obtain ⟨o, k⟩ := k
  refine xr_ialdN (j := line) rfl (ob10_3 hY) o (by decide +kernel) ?_
  refine xr_istore (i := 5) (by decide) rfl (by decide +kernel) ?_
  refine xr_aload_n (n := 0) (i := 0) rfl (List.mem_of_getElem? (i := 2) rfl) (by decide +kernel) ?_
  refine xr_getR (o := 1) (ob10_0 hY) fl_Year_9 rfl (by decide +kernel) ?_
  show sh_X g (d + 1) m_Year_play _ _ ((sh_r (Y + 1)) :: _) _ _
  refine xr_iload_n (n := 1) (i := 1) rfl (List.mem_of_getElem? (i := 3) rfl) (by decide +kernel) ?_
  obtain ⟨o, k⟩ := k
  refine xr_ialdN (j := line) rfl (ob10_1 hY) o (by decide +kernel) ?_
  rcases (by omega : (i3 (mem (Y + 1) line)) = 1 ∨ (i3 (mem (Y + 1) line)) = 2 ∨ (i3 (mem (Y + 1) line)) = 3 ∨ (i3 (mem (Y + 1) line)) = 4 ∨ ((i3 (mem (Y + 1) line)) < 1 ∨ 4 < (i3 (mem (Y + 1) line)))) with c1 | c1 | c1 | c1 | c1
  · have k := k.1 c1
    refine xr_tabIn (dflt := 119) (low := 1) (high := 4) (offs := #[30, 55, 76, 96]) (len := 30) 1 c1 (by decide) (by decide) rfl (tgt := 52) (by decide) (by decide +kernel) ?_
    refine xr_aload_n (n := 2) (i := 2) rfl (List.mem_of_getElem? (i := 4) rfl) (by decide +kernel) ?_
    refine xr_iload (i := 4) (List.mem_of_getElem? (i := 1) rfl) (by decide +kernel) ?_
    refine xr_iload (i := 5) (List.mem_of_getElem? (i := 0) rfl) (by decide +kernel) ?_
    refine xr_callV (av := [(sh_i (mem (Y + 2) line)), (sh_i (mem (Y + 3) line))]) (ob8_0 hS) rfl rfl mo_State_canTake ml_Year_31 im_State_canTake se_State_canTake rfl (Nat.le_of_ble_eq_true rfl) (by decide +kernel) (sh_mono k ?_)
    rintro rv m1 ⟨r1, rfl, k⟩
    show sh_X g (d + 1) m_Year_play _ _ [(sh_i r1)] _ _
    refine xr_if_eq (a' := (i3 r1)) rfl (off := 15) (tgt := 75) (by decide) (by decide +kernel) ⟨fun c2 => ?_, fun c2 => ?_⟩
    · have k := k.1 c2
      refine xr_iconst (n := (-1)) (by decide +kernel) ?_
      exact xr_iret rfl (by decide +kernel) k
    · have k := k.2 c2
      refine xr_aload_n (n := 2) (i := 2) rfl (List.mem_of_getElem? (i := 4) rfl) (by decide +kernel) ?_
      refine xr_aload_n (n := 3) (i := 3) rfl (List.mem_of_getElem? (i := 5) rfl) (by decide +kernel) ?_
      refine xr_iload (i := 4) (List.mem_of_getElem? (i := 1) rfl) (by decide +kernel) ?_
      refine xr_iload (i := 5) (List.mem_of_getElem? (i := 0) rfl) (by decide +kernel) ?_
      refine xr_callV (av := [(sh_r B), (sh_i (mem (Y + 2) line)), (sh_i (mem (Y + 3) line))]) (ob8_0 hS) rfl rfl mo_State_take ml_Year_37 im_State_take se_State_take rfl (Nat.le_of_ble_eq_true rfl) (by decide +kernel) (sh_mono k ?_)
      rintro rv m2 ⟨r2, rfl, k⟩
      show sh_X g (d + 1) m_Year_play _ _ [(sh_i r2)] _ _
      refine xr_goto (off := 4) (tgt := 76) (by decide) (by decide +kernel) ?_
      exact xr_iret rfl (by decide +kernel) k
  · have k := k.2.1 c1
    refine xr_tabIn (dflt := 119) (low := 1) (high := 4) (offs := #[30, 55, 76, 96]) (len := 30) 2 c1 (by decide) (by decide) rfl (tgt := 77) (by decide) (by decide +kernel) ?_
    refine xr_aload_n (n := 2) (i := 2) rfl (List.mem_of_getElem? (i := 4) rfl) (by decide +kernel) ?_
    refine xr_iload (i := 4) (List.mem_of_getElem? (i := 1) rfl) (by decide +kernel) ?_
    refine xr_callV (av := [(sh_i (mem (Y + 2) line))]) (ob8_0 hS) rfl rfl mo_State_canPart ml_Year_41 im_State_canPart se_State_canPart rfl (Nat.le_of_ble_eq_true rfl) (by decide +kernel) (sh_mono k ?_)
    rintro rv m3 ⟨r3, rfl, k⟩
    show sh_X g (d + 1) m_Year_play _ _ [(sh_i r3)] _ _
    refine xr_if_eq (a' := (i3 r3)) rfl (off := 13) (tgt := 96) (by decide) (by decide +kernel) ⟨fun c3 => ?_, fun c3 => ?_⟩
    · have k := k.1 c3
      refine xr_iconst (n := (-1)) (by decide +kernel) ?_
      exact xr_iret rfl (by decide +kernel) k
    · have k := k.2 c3
      refine xr_aload_n (n := 2) (i := 2) rfl (List.mem_of_getElem? (i := 4) rfl) (by decide +kernel) ?_
      refine xr_aload_n (n := 3) (i := 3) rfl (List.mem_of_getElem? (i := 5) rfl) (by decide +kernel) ?_
      refine xr_iload (i := 4) (List.mem_of_getElem? (i := 1) rfl) (by decide +kernel) ?_
      refine xr_callV (av := [(sh_r B), (sh_i (mem (Y + 2) line))]) (ob8_0 hS) rfl rfl mo_State_cashIn ml_Year_45 im_State_cashIn se_State_cashIn rfl (Nat.le_of_ble_eq_true rfl) (by decide +kernel) (sh_mono k ?_)
      rintro rv m4 ⟨r4, rfl, k⟩
      show sh_X g (d + 1) m_Year_play _ _ [(sh_i r4)] _ _
      refine xr_goto (off := 4) (tgt := 97) (by decide) (by decide +kernel) ?_
      exact xr_iret rfl (by decide +kernel) k
  · have k := k.2.2.1 c1
    refine xr_tabIn (dflt := 119) (low := 1) (high := 4) (offs := #[30, 55, 76, 96]) (len := 30) 3 c1 (by decide) (by decide) rfl (tgt := 98) (by decide) (by decide +kernel) ?_
    refine xr_aload_n (n := 2) (i := 2) rfl (List.mem_of_getElem? (i := 4) rfl) (by decide +kernel) ?_
    refine xr_iload (i := 4) (List.mem_of_getElem? (i := 1) rfl) (by decide +kernel) ?_
    refine xr_callV (av := [(sh_i (mem (Y + 2) line))]) (ob8_0 hS) rfl rfl mo_State_canPart ml_Year_41 im_State_canPart se_State_canPart rfl (Nat.le_of_ble_eq_true rfl) (by decide +kernel) (sh_mono k ?_)
    rintro rv m5 ⟨r5, rfl, k⟩
    show sh_X g (d + 1) m_Year_play _ _ [(sh_i r5)] _ _
    refine xr_if_eq (a' := (i3 r5)) rfl (off := 12) (tgt := 116) (by decide) (by decide +kernel) ⟨fun c4 => ?_, fun c4 => ?_⟩
    · have k := k.1 c4
      refine xr_iconst (n := (-1)) (by decide +kernel) ?_
      exact xr_iret rfl (by decide +kernel) k
    · have k := k.2 c4
      refine xr_aload_n (n := 2) (i := 2) rfl (List.mem_of_getElem? (i := 4) rfl) (by decide +kernel) ?_
      refine xr_iload (i := 4) (List.mem_of_getElem? (i := 1) rfl) (by decide +kernel) ?_
      refine xr_callV (av := [(sh_i (mem (Y + 2) line))]) (ob8_0 hS) rfl rfl mo_State_enjoy ml_Year_49 im_State_enjoy se_State_enjoy rfl (Nat.le_of_ble_eq_true rfl) (by decide +kernel) (sh_mono k ?_)
      rintro rv m6 ⟨r6, rfl, k⟩
      show sh_X g (d + 1) m_Year_play _ _ [(sh_i r6)] _ _
      refine xr_goto (off := 4) (tgt := 117) (by decide) (by decide +kernel) ?_
      exact xr_iret rfl (by decide +kernel) k
  · have k := k.2.2.2.1 c1
    refine xr_tabIn (dflt := 119) (low := 1) (high := 4) (offs := #[30, 55, 76, 96]) (len := 30) 4 c1 (by decide) (by decide) rfl (tgt := 118) (by decide) (by decide +kernel) ?_
    refine xr_aload_n (n := 2) (i := 2) rfl (List.mem_of_getElem? (i := 4) rfl) (by decide +kernel) ?_
    refine xr_iload (i := 4) (List.mem_of_getElem? (i := 1) rfl) (by decide +kernel) ?_
    refine xr_iload (i := 5) (List.mem_of_getElem? (i := 0) rfl) (by decide +kernel) ?_
    refine xr_callV (av := [(sh_i (mem (Y + 2) line)), (sh_i (mem (Y + 3) line))]) (ob8_0 hS) rfl rfl mo_State_canTrade ml_Year_53 im_State_canTrade se_State_canTrade rfl (Nat.le_of_ble_eq_true rfl) (by decide +kernel) (sh_mono k ?_)
    rintro rv m7 ⟨r7, rfl, k⟩
    show sh_X g (d + 1) m_Year_play _ _ [(sh_i r7)] _ _
    refine xr_if_ne (a' := (i3 r7)) rfl (off := 5) (tgt := 131) (by decide) (by decide +kernel) ⟨fun c5 => ?_, fun c5 => ?_⟩
    · have k := k.1 c5
      refine xr_aload_n (n := 2) (i := 2) rfl (List.mem_of_getElem? (i := 4) rfl) (by decide +kernel) ?_
      refine xr_iload (i := 4) (List.mem_of_getElem? (i := 1) rfl) (by decide +kernel) ?_
      refine xr_iload (i := 5) (List.mem_of_getElem? (i := 0) rfl) (by decide +kernel) ?_
      refine xr_callV (av := [(sh_i (mem (Y + 2) line)), (sh_i (mem (Y + 3) line))]) (ob8_0 hS) rfl rfl mo_State_trade ml_Year_56 im_State_trade se_State_trade rfl (Nat.le_of_ble_eq_true rfl) (by decide +kernel) (sh_mono k ?_)
      rintro rv m8 ⟨rfl, k⟩
      show sh_X g (d + 1) m_Year_play _ _ [] _ _
      refine xr_iconst (n := 0) (by decide +kernel) ?_
      exact xr_iret rfl (by decide +kernel) k
    · have k := k.2 c5
      refine xr_iconst (n := (-1)) (by decide +kernel) ?_
      exact xr_iret rfl (by decide +kernel) k
  · have k := k.2.2.2.2 c1
    refine xr_tabOut (dflt := 119) (low := 1) (high := 4) (offs := #[30, 55, 76, 96]) (len := 30) c1 (tgt := 141) (by decide) (by decide +kernel) ?_
    refine xr_aload_n (n := 2) (i := 2) rfl (List.mem_of_getElem? (i := 4) rfl) (by decide +kernel) ?_
    refine xr_aload_n (n := 3) (i := 3) rfl (List.mem_of_getElem? (i := 5) rfl) (by decide +kernel) ?_
    refine xr_callV (av := [(sh_r B)]) (ob8_0 hS) rfl rfl mo_State_sleep ml_Year_60 im_State_sleep se_State_sleep rfl (Nat.le_of_ble_eq_true rfl) (by decide +kernel) (sh_mono k ?_)
    rintro rv m9 ⟨rfl, k⟩
    show sh_X g (d + 1) m_Year_play _ _ [] _ _
    refine xr_iconst (n := 0) (by decide +kernel) ?_
    exact xr_iret rfl (by decide +kernel) k

theorem v_Past_clear {g : sh_G} {d : Nat}   {mem : sh_Mem} {Q : Option sh_V → sh_Mem → Prop}  (k : (∀ m1 : sh_Mem, m1 = ms mem 9 (ru (mem 9) 2 0) → Q none m1)) : sh_Cal g d m_Past_clear [(sh_r 9)] mem Q := by
  refine sh_met (by decide +kernel) (Nat.le_of_ble_eq_true rfl) (lo := [(0, (sh_r 9))]) rfl ?_
  refine xr_aload_n (n := 0) (i := 0) rfl (List.mem_of_getElem? (i := 0) rfl) (by decide +kernel) ?_
  refine xr_iconst (n := 0) (by decide +kernel) ?_
  refine xr_putI rfl pl_Past_17 rfl (by decide +kernel) ?_
  have k := k _ rfl
  generalize hg_m1 : ms mem 9 (ru (mem 9) 2 0) = m1 at k ⊢
  exact xr_ret rfl (by decide +kernel) k

theorem v_Past_keep {g : sh_G} {d : Nat} {S : Nat}  {mem : sh_Mem} {Q : Option sh_V → sh_Mem → Prop} (hS : ob8 S) (k : ((0 ≤ (0 : Int) ∧ 0 ≤ (((mem 9 1) * 45) : Int) ∧ 0 ≤ (45 : Int) ∧ (0 : Int) + 45 ≤ 45 ∧ (((mem 9 1) * 45) : Int) + 45 ≤ 720) ∧ (∀ m1 : sh_Mem, m1 = ms mem 10 (cpy (mem (S + 1)) (mem 10) ((0) : Int).toNat ((((mem 9 1) * 45)) : Int).toNat ((45) : Int).toNat) → (∀ m2 : sh_Mem, m2 = ms m1 9 (ru (m1 9) 1 (i_rem ((m1 9 1) + 1) 16)) → (∀ m3 : sh_Mem, m3 = ms m2 9 (ru (m2 9) 2 (if (i3 ((m2 9 2) + 1)) < (i3 16) then ((m2 9 2) + 1) else (16 : Int))) → Q none m3))))) : sh_Cal g (d + 1) m_Past_keep [(sh_r 9), (sh_r S)] mem Q := by
  refine sh_met (by decide +kernel) (Nat.le_of_ble_eq_true rfl) (lo := [(0, (sh_r 9)), (1, (sh_r S))]) rfl ?_
  refine xr_aload_n (n := 1) (i := 1) rfl (List.mem_of_getElem? (i := 1) rfl) (by decide +kernel) ?_
  refine xr_getR (o := 1) (ob8_0 hS) fl_Past_21 rfl (by decide +kernel) ?_
  show sh_X g (d + 1) m_Past_keep _ _ ((sh_r (S + 1)) :: _) _ _
  refine xr_iconst (n := 0) (by decide +kernel) ?_
  refine xr_aload_n (n := 0) (i := 0) rfl (List.mem_of_getElem? (i := 0) rfl) (by decide +kernel) ?_
  refine xr_getR (o := 1) rfl fl_Past_11 rfl (by decide +kernel) ?_
  show sh_X g (d + 1) m_Past_keep _ _ ((sh_r 10) :: _) _ _
  refine xr_aload_n (n := 0) (i := 0) rfl (List.mem_of_getElem? (i := 0) rfl) (by decide +kernel) ?_
  refine xr_getI rfl fl_Past_24 (by decide) (by decide +kernel) ?_
  refine xr_bipush (n := 45) (v := 45) (by decide) (by decide +kernel) ?_
  refine xr_imul (by decide +kernel) ?_
  show sh_X g (d + 1) m_Past_keep _ _ ((sh_i ((mem 9 1) * 45)) :: _) _ _
  refine xr_bipush (n := 45) (v := 45) (by decide) (by decide +kernel) ?_
  obtain ⟨o, k⟩ := k
  refine xr_copy ml_Past_27 ac_nat ac_sta ac_ini (ob8_1 hS) rfl o.1 o.2.1 o.2.2.1 o.2.2.2.1 o.2.2.2.2 (by decide +kernel) ?_
  have k := k _ rfl
  generalize hg_m1 : ms mem 10 (cpy (mem (S + 1)) (mem 10) ((0) : Int).toNat ((((mem 9 1) * 45)) : Int).toNat ((45) : Int).toNat) = m1 at k ⊢
  refine xr_aload_n (n := 0) (i := 0) rfl (List.mem_of_getElem? (i := 0) rfl) (by decide +kernel) ?_
  refine xr_aload_n (n := 0) (i := 0) rfl (List.mem_of_getElem? (i := 0) rfl) (by decide +kernel) ?_
  refine xr_getI rfl fl_Past_24 (by decide) (by decide +kernel) ?_
  refine xr_iconst (n := 1) (by decide +kernel) ?_
  refine xr_iadd (by decide +kernel) ?_
  show sh_X g (d + 1) m_Past_keep _ _ ((sh_i ((m1 9 1) + 1)) :: _) _ _
  refine xr_bipush (n := 16) (v := 16) (by decide) (by decide +kernel) ?_
  refine xr_irem (by decide) (by decide +kernel) ?_
  refine xr_putI rfl pl_Past_24 rfl (by decide +kernel) ?_
  have k := k _ rfl
  generalize hg_m2 : ms m1 9 (ru (m1 9) 1 (i_rem ((m1 9 1) + 1) 16)) = m2 at k ⊢
  refine xr_aload_n (n := 0) (i := 0) rfl (List.mem_of_getElem? (i := 0) rfl) (by decide +kernel) ?_
  refine xr_bipush (n := 16) (v := 16) (by decide) (by decide +kernel) ?_
  refine xr_aload_n (n := 0) (i := 0) rfl (List.mem_of_getElem? (i := 0) rfl) (by decide +kernel) ?_
  refine xr_getI rfl fl_Past_17 (by decide) (by decide +kernel) ?_
  refine xr_iconst (n := 1) (by decide +kernel) ?_
  refine xr_iadd (by decide +kernel) ?_
  show sh_X g (d + 1) m_Past_keep _ _ ((sh_i ((m2 9 2) + 1)) :: _) _ _
  refine xr_mmin ml_Past_33 (Nat.le_of_ble_eq_true rfl) (by decide +kernel) ?_
  refine xr_putI rfl pl_Past_17 rfl (by decide +kernel) ?_
  have k := k _ rfl
  generalize hg_m3 : ms m2 9 (ru (m2 9) 2 (if (i3 ((m2 9 2) + 1)) < (i3 16) then ((m2 9 2) + 1) else (16 : Int))) = m3 at k ⊢
  exact xr_ret rfl (by decide +kernel) k

theorem v_Past_bringBack {g : sh_G} {d : Nat} {S : Nat}  {mem : sh_Mem} {Q : Option sh_V → sh_Mem → Prop} (hS : ob8 S) (k : ((¬ (i3 (mem 9 2)) = 0 → (∀ m1 : sh_Mem, m1 = ms mem 9 (ru (mem 9) 1 (i_rem (((mem 9 1) + 16) - 1) 16)) → (∀ m2 : sh_Mem, m2 = ms m1 9 (ru (m1 9) 2 ((m1 9 2) - 1)) → ((0 ≤ (((m2 9 1) * 45) : Int) ∧ 0 ≤ (0 : Int) ∧ 0 ≤ (45 : Int) ∧ (((m2 9 1) * 45) : Int) + 45 ≤ 720 ∧ (0 : Int) + 45 ≤ 45) ∧ (∀ m3 : sh_Mem, m3 = ms m2 (S + 1) (cpy (m2 10) (m2 (S + 1)) ((((m2 9 1) * 45)) : Int).toNat ((0) : Int).toNat ((45) : Int).toNat) → Q (some (sh_i 1)) m3))))) ∧ ((i3 (mem 9 2)) = 0 → Q (some (sh_i 0)) mem))) : sh_Cal g (d + 1) m_Past_bringBack [(sh_r 9), (sh_r S)] mem Q := by
  refine sh_met (by decide +kernel) (Nat.le_of_ble_eq_true rfl) (lo := [(0, (sh_r 9)), (1, (sh_r S))]) rfl ?_
  refine xr_aload_n (n := 0) (i := 0) rfl (List.mem_of_getElem? (i := 0) rfl) (by decide +kernel) ?_
  refine xr_getI rfl fl_Past_17 (by decide) (by decide +kernel) ?_
  refine xr_if_ne (a' := (i3 (mem 9 2))) rfl (off := 5) (tgt := 9) (by decide) (by decide +kernel) ⟨fun c1 => ?_, fun c1 => ?_⟩
  · have k := k.1 c1
    refine xr_aload_n (n := 0) (i := 0) rfl (List.mem_of_getElem? (i := 0) rfl) (by decide +kernel) ?_
    refine xr_aload_n (n := 0) (i := 0) rfl (List.mem_of_getElem? (i := 0) rfl) (by decide +kernel) ?_
    refine xr_getI rfl fl_Past_24 (by decide) (by decide +kernel) ?_
    refine xr_bipush (n := 16) (v := 16) (by decide) (by decide +kernel) ?_
    refine xr_iadd (by decide +kernel) ?_
    show sh_X g (d + 1) m_Past_bringBack _ _ ((sh_i ((mem 9 1) + 16)) :: _) _ _
    refine xr_iconst (n := 1) (by decide +kernel) ?_
    refine xr_isub (by decide +kernel) ?_
    show sh_X g (d + 1) m_Past_bringBack _ _ ((sh_i (((mem 9 1) + 16) - 1)) :: _) _ _
    refine xr_bipush (n := 16) (v := 16) (by decide) (by decide +kernel) ?_
    refine xr_irem (by decide) (by decide +kernel) ?_
    refine xr_putI rfl pl_Past_24 rfl (by decide +kernel) ?_
    have k := k _ rfl
    generalize hg_m1 : ms mem 9 (ru (mem 9) 1 (i_rem (((mem 9 1) + 16) - 1) 16)) = m1 at k ⊢
    refine xr_aload_n (n := 0) (i := 0) rfl (List.mem_of_getElem? (i := 0) rfl) (by decide +kernel) ?_
    refine xr_dupR (by decide +kernel) ?_
    refine xr_getI rfl fl_Past_17 (by decide) (by decide +kernel) ?_
    refine xr_iconst (n := 1) (by decide +kernel) ?_
    refine xr_isub (by decide +kernel) ?_
    show sh_X g (d + 1) m_Past_bringBack _ _ ((sh_i ((m1 9 2) - 1)) :: _) _ _
    refine xr_putI rfl pl_Past_17 rfl (by decide +kernel) ?_
    have k := k _ rfl
    generalize hg_m2 : ms m1 9 (ru (m1 9) 2 ((m1 9 2) - 1)) = m2 at k ⊢
    refine xr_aload_n (n := 0) (i := 0) rfl (List.mem_of_getElem? (i := 0) rfl) (by decide +kernel) ?_
    refine xr_getR (o := 1) rfl fl_Past_11 rfl (by decide +kernel) ?_
    show sh_X g (d + 1) m_Past_bringBack _ _ ((sh_r 10) :: _) _ _
    refine xr_aload_n (n := 0) (i := 0) rfl (List.mem_of_getElem? (i := 0) rfl) (by decide +kernel) ?_
    refine xr_getI rfl fl_Past_24 (by decide) (by decide +kernel) ?_
    refine xr_bipush (n := 45) (v := 45) (by decide) (by decide +kernel) ?_
    refine xr_imul (by decide +kernel) ?_
    show sh_X g (d + 1) m_Past_bringBack _ _ ((sh_i ((m2 9 1) * 45)) :: _) _ _
    refine xr_aload_n (n := 1) (i := 1) rfl (List.mem_of_getElem? (i := 1) rfl) (by decide +kernel) ?_
    refine xr_getR (o := 1) (ob8_0 hS) fl_Past_21 rfl (by decide +kernel) ?_
    show sh_X g (d + 1) m_Past_bringBack _ _ ((sh_r (S + 1)) :: _) _ _
    refine xr_iconst (n := 0) (by decide +kernel) ?_
    refine xr_bipush (n := 45) (v := 45) (by decide) (by decide +kernel) ?_
    obtain ⟨o, k⟩ := k
    refine xr_copy ml_Past_27 ac_nat ac_sta ac_ini rfl (ob8_1 hS) o.1 o.2.1 o.2.2.1 o.2.2.2.1 o.2.2.2.2 (by decide +kernel) ?_
    have k := k _ rfl
    generalize hg_m3 : ms m2 (S + 1) (cpy (m2 10) (m2 (S + 1)) ((((m2 9 1) * 45)) : Int).toNat ((0) : Int).toNat ((45) : Int).toNat) = m3 at k ⊢
    refine xr_iconst (n := 1) (by decide +kernel) ?_
    exact xr_zret rfl (by decide +kernel) (by decide) k
  · have k := k.2 c1
    refine xr_iconst (n := 0) (by decide +kernel) ?_
    exact xr_zret rfl (by decide +kernel) (by decide) k

theorem v_Seen_clear {g : sh_G} {d : Nat} {E : Nat}  {mem : sh_Mem} {Q : Option sh_V → sh_Mem → Prop} (hE : ob6 E) (k : (∀ m1 : sh_Mem, m1 = ms mem E (ru (mem E) 0 0) → Q none m1)) : sh_Cal g d m_Seen_clear [(sh_r E)] mem Q := by
  refine sh_met (by decide +kernel) (Nat.le_of_ble_eq_true rfl) (lo := [(0, (sh_r E))]) rfl ?_
  refine xr_aload_n (n := 0) (i := 0) rfl (List.mem_of_getElem? (i := 0) rfl) (by decide +kernel) ?_
  refine xr_iconst (n := 0) (by decide +kernel) ?_
  refine xr_putI (ob6_0 hE) pl_Seen_22 rfl (by decide +kernel) ?_
  have k := k _ rfl
  generalize hg_m1 : ms mem E (ru (mem E) 0 0) = m1 at k ⊢
  exact xr_ret rfl (by decide +kernel) k

theorem v_Seen_add {g : sh_G} {d : Nat} {E : Nat} {day : Nat} {night : Int} {opn : Int}  {mem : sh_Mem} {Q : Option sh_V → sh_Mem → Prop} (hE : ob6 E) (k : (((i3 (mem E 0)) < 8 → ((0 ≤ (mem E 0) ∧ (mem E 0) < 8) ∧ (∀ m1 : sh_Mem, m1 = ms mem (E + 1) (ru (mem (E + 1)) ((mem E 0)).toNat (day : Int)) → ((0 ≤ (m1 E 0) ∧ (m1 E 0) < 8) ∧ (∀ m2 : sh_Mem, m2 = ms m1 (E + 2) (ru (m1 (E + 2)) ((m1 E 0)).toNat night) → ((opn = 0 ∨ opn = 1) ∧ ((0 ≤ (m2 E 0) ∧ (m2 E 0) < 8) ∧ (∀ m3 : sh_Mem, m3 = ms m2 (E + 3) (ru (m2 (E + 3)) ((m2 E 0)).toNat opn) → (∀ m4 : sh_Mem, m4 = ms m3 E (ru (m3 E) 0 ((m3 E 0) + 1)) → Q (some (sh_i 1)) m4))))))))) ∧ (¬ (i3 (mem E 0)) < 8 → Q (some (sh_i 0)) mem))) : sh_Cal g d m_Seen_add [(sh_r E), (sh_i (day : Int)), (sh_i night), (sh_i opn)] mem Q := by
  refine sh_met (by decide +kernel) (Nat.le_of_ble_eq_true rfl) (lo := [(0, (sh_r E)), (1, (sh_i (day : Int))), (2, (sh_i night)), (3, (sh_i opn))]) rfl ?_
  refine xr_aload_n (n := 0) (i := 0) rfl (List.mem_of_getElem? (i := 0) rfl) (by decide +kernel) ?_
  refine xr_getI (ob6_0 hE) fl_Seen_22 (by decide) (by decide +kernel) ?_
  refine xr_bipush (n := 8) (v := 8) (by decide) (by decide +kernel) ?_
  refine xr_icmp_lt (a' := (i3 (mem E 0))) (b' := 8) rfl (by decide) (off := 5) (tgt := 11) (by decide) (by decide +kernel) ⟨fun c1 => ?_, fun c1 => ?_⟩
  · have k := k.1 c1
    refine xr_aload_n (n := 0) (i := 0) rfl (List.mem_of_getElem? (i := 0) rfl) (by decide +kernel) ?_
    refine xr_getR (o := 1) (ob6_0 hE) fl_Seen_9 rfl (by decide +kernel) ?_
    show sh_X g d m_Seen_add _ _ ((sh_r (E + 1)) :: _) _ _
    refine xr_aload_n (n := 0) (i := 0) rfl (List.mem_of_getElem? (i := 0) rfl) (by decide +kernel) ?_
    refine xr_getI (ob6_0 hE) fl_Seen_22 (by decide) (by decide +kernel) ?_
    refine xr_iload_n (n := 1) (i := 1) rfl (List.mem_of_getElem? (i := 1) rfl) (by decide +kernel) ?_
    have o9 := True.intro
    obtain ⟨o, k⟩ := k
    refine xr_iast (ob6_1 hE) o.1 o.2 (by decide +kernel) ?_
    have k := k _ rfl
    generalize hg_m1 : ms mem (E + 1) (ru (mem (E + 1)) ((mem E 0)).toNat (day : Int)) = m1 at k ⊢
    refine xr_aload_n (n := 0) (i := 0) rfl (List.mem_of_getElem? (i := 0) rfl) (by decide +kernel) ?_
    refine xr_getR (o := 2) (ob6_0 hE) fl_Seen_15 rfl (by decide +kernel) ?_
    show sh_X g d m_Seen_add _ _ ((sh_r (E + 2)) :: _) _ _
    refine xr_aload_n (n := 0) (i := 0) rfl (List.mem_of_getElem? (i := 0) rfl) (by decide +kernel) ?_
    refine xr_getI (ob6_0 hE) fl_Seen_22 (by decide) (by decide +kernel) ?_
    refine xr_iload_n (n := 2) (i := 2) rfl (List.mem_of_getElem? (i := 2) rfl) (by decide +kernel) ?_
    have o9 := True.intro
    obtain ⟨o, k⟩ := k
    refine xr_iast (ob6_2 hE) o.1 o.2 (by decide +kernel) ?_
    have k := k _ rfl
    generalize hg_m2 : ms m1 (E + 2) (ru (m1 (E + 2)) ((m1 E 0)).toNat night) = m2 at k ⊢
    refine xr_aload_n (n := 0) (i := 0) rfl (List.mem_of_getElem? (i := 0) rfl) (by decide +kernel) ?_
    refine xr_getR (o := 3) (ob6_0 hE) fl_Seen_18 rfl (by decide +kernel) ?_
    show sh_X g d m_Seen_add _ _ ((sh_r (E + 3)) :: _) _ _
    refine xr_aload_n (n := 0) (i := 0) rfl (List.mem_of_getElem? (i := 0) rfl) (by decide +kernel) ?_
    refine xr_getI (ob6_0 hE) fl_Seen_22 (by decide) (by decide +kernel) ?_
    refine xr_iload_n (n := 3) (i := 3) rfl (List.mem_of_getElem? (i := 3) rfl) (by decide +kernel) ?_
    obtain ⟨o, k⟩ := k
    have o9 := o
    obtain ⟨o, k⟩ := k
    refine xr_zast o9 (ob6_3 hE) o.1 o.2 (by decide +kernel) ?_
    have k := k _ rfl
    generalize hg_m3 : ms m2 (E + 3) (ru (m2 (E + 3)) ((m2 E 0)).toNat opn) = m3 at k ⊢
    refine xr_aload_n (n := 0) (i := 0) rfl (List.mem_of_getElem? (i := 0) rfl) (by decide +kernel) ?_
    refine xr_dupR (by decide +kernel) ?_
    refine xr_getI (ob6_0 hE) fl_Seen_22 (by decide) (by decide +kernel) ?_
    refine xr_iconst (n := 1) (by decide +kernel) ?_
    refine xr_iadd (by decide +kernel) ?_
    show sh_X g d m_Seen_add _ _ ((sh_i ((m3 E 0) + 1)) :: _) _ _
    refine xr_putI (ob6_0 hE) pl_Seen_22 rfl (by decide +kernel) ?_
    have k := k _ rfl
    generalize hg_m4 : ms m3 E (ru (m3 E) 0 ((m3 E 0) + 1)) = m4 at k ⊢
    refine xr_iconst (n := 1) (by decide +kernel) ?_
    exact xr_zret rfl (by decide +kernel) (by decide) k
  · have k := k.2 c1
    refine xr_iconst (n := 0) (by decide +kernel) ?_
    exact xr_zret rfl (by decide +kernel) (by decide) k

theorem v_Seen_copy {g : sh_G} {d : Nat} {E : Nat} {E2 : Nat}  {mem : sh_Mem} {Q : Option sh_V → sh_Mem → Prop} (hE : ob6 E) (hE2 : ob6 E2) (k : (∀ m1 : sh_Mem, m1 = ms mem E (ru (mem E) 0 (mem E2 0)) → sh_X g d m_Seen_copy 10 [(0, (sh_r E)), (1, (sh_r E2)), (2, (sh_i 0))] [] m1 (sh_K m_Seen_copy Q))) : sh_Cal g d m_Seen_copy [(sh_r E), (sh_r E2)] mem Q := by
  refine sh_met (by decide +kernel) (Nat.le_of_ble_eq_true rfl) (lo := [(0, (sh_r E)), (1, (sh_r E2))]) rfl ?_
  refine xr_aload_n (n := 0) (i := 0) rfl (List.mem_of_getElem? (i := 0) rfl) (by decide +kernel) ?_
  refine xr_aload_n (n := 1) (i := 1) rfl (List.mem_of_getElem? (i := 1) rfl) (by decide +kernel) ?_
  refine xr_getI (ob6_0 hE2) fl_Seen_22 (by decide) (by decide +kernel) ?_
  refine xr_putI (ob6_0 hE) pl_Seen_22 rfl (by decide +kernel) ?_
  have k := k _ rfl
  generalize hg_m1 : ms mem E (ru (mem E) 0 (mem E2 0)) = m1 at k ⊢
  refine xr_iconst (n := 0) (by decide +kernel) ?_
  refine xr_istore_n (n := 2) (i := 2) rfl (by decide) rfl (by decide +kernel) ?_
  refine xr_sub (lo' := [(0, (sh_r E)), (1, (sh_r E2)), (2, (sh_i 0))]) [1, 2, 0] rfl ?_
  exact k
theorem v_Seen_copy_10 {g : sh_G} {d : Nat} {E : Nat} {E2 : Nat}  {mem : sh_Mem} {Q : Option sh_V → sh_Mem → Prop} (hE : ob6 E) (hE2 : ob6 E2) {x2 : Nat} (k : (((i3 (mem E 0)) ≤ (i3 (x2 : Int)) → Q none mem) ∧ (¬ (i3 (mem E 0)) ≤ (i3 (x2 : Int)) → (x2 < 8 ∧ (x2 < 8 ∧ (∀ m1 : sh_Mem, m1 = ms mem (E + 1) (ru (mem (E + 1)) x2 (mem (E2 + 1) x2)) → (x2 < 8 ∧ (x2 < 8 ∧ (∀ m2 : sh_Mem, m2 = ms m1 (E + 2) (ru (m1 (E + 2)) x2 (m1 (E2 + 2) x2)) → (x2 < 8 ∧ (((m2 (E2 + 3) x2) = 0 ∨ (m2 (E2 + 3) x2) = 1) ∧ (x2 < 8 ∧ (∀ m3 : sh_Mem, m3 = ms m2 (E + 3) (ru (m2 (E + 3)) x2 (m2 (E2 + 3) x2)) → sh_X g d m_Seen_copy 10 [(0, (sh_r E)), (1, (sh_r E2)), (2, (sh_i (((x2 + 1) : Nat) : Int)))] [] m3 (sh_K m_Seen_copy Q)))))))))))))) : sh_X g d m_Seen_copy 10 [(0, (sh_r E)), (1, (sh_r E2)), (2, (sh_i (x2 : Int)))] [] mem (sh_K m_Seen_copy Q) := by
  refine xr_iload_n (n := 2) (i := 2) rfl (List.mem_of_getElem? (i := 2) rfl) (by decide +kernel) ?_
  refine xr_aload_n (n := 0) (i := 0) rfl (List.mem_of_getElem? (i := 0) rfl) (by decide +kernel) ?_
  refine xr_getI (ob6_0 hE) fl_Seen_22 (by decide) (by decide +kernel) ?_
  refine xr_icmp_ge (a' := (i3 (x2 : Int))) (b' := (i3 (mem E 0))) rfl rfl (off := 45) (tgt := 60) (by decide) (by decide +kernel) ⟨fun c1 => ?_, fun c1 => ?_⟩
  · have k := k.1 c1
    exact xr_ret rfl (by decide +kernel) k
  · have k := k.2 c1
    refine xr_aload_n (n := 0) (i := 0) rfl (List.mem_of_getElem? (i := 0) rfl) (by decide +kernel) ?_
    refine xr_getR (o := 1) (ob6_0 hE) fl_Seen_9 rfl (by decide +kernel) ?_
    show sh_X g d m_Seen_copy _ _ ((sh_r (E + 1)) :: _) _ _
    refine xr_iload_n (n := 2) (i := 2) rfl (List.mem_of_getElem? (i := 2) rfl) (by decide +kernel) ?_
    refine xr_aload_n (n := 1) (i := 1) rfl (List.mem_of_getElem? (i := 1) rfl) (by decide +kernel) ?_
    refine xr_getR (o := 1) (ob6_0 hE2) fl_Seen_9 rfl (by decide +kernel) ?_
    show sh_X g d m_Seen_copy _ _ ((sh_r (E2 + 1)) :: _) _ _
    refine xr_iload_n (n := 2) (i := 2) rfl (List.mem_of_getElem? (i := 2) rfl) (by decide +kernel) ?_
    obtain ⟨o, k⟩ := k
    refine xr_ialdN (j := x2) rfl (ob6_1 hE2) o (by decide +kernel) ?_
    have o9 := True.intro
    obtain ⟨o, k⟩ := k
    refine xr_iastN (j := x2) rfl (ob6_1 hE) o (by decide +kernel) ?_
    have k := k _ rfl
    generalize hg_m1 : ms mem (E + 1) (ru (mem (E + 1)) x2 (mem (E2 + 1) x2)) = m1 at k ⊢
    refine xr_aload_n (n := 0) (i := 0) rfl (List.mem_of_getElem? (i := 0) rfl) (by decide +kernel) ?_
    refine xr_getR (o := 2) (ob6_0 hE) fl_Seen_15 rfl (by decide +kernel) ?_
    show sh_X g d m_Seen_copy _ _ ((sh_r (E + 2)) :: _) _ _
    refine xr_iload_n (n := 2) (i := 2) rfl (List.mem_of_getElem? (i := 2) rfl) (by decide +kernel) ?_
    refine xr_aload_n (n := 1) (i := 1) rfl (List.mem_of_getElem? (i := 1) rfl) (by decide +kernel) ?_
    refine xr_getR (o := 2) (ob6_0 hE2) fl_Seen_15 rfl (by decide +kernel) ?_
    show sh_X g d m_Seen_copy _ _ ((sh_r (E2 + 2)) :: _) _ _
    refine xr_iload_n (n := 2) (i := 2) rfl (List.mem_of_getElem? (i := 2) rfl) (by decide +kernel) ?_
    obtain ⟨o, k⟩ := k
    refine xr_ialdN (j := x2) rfl (ob6_2 hE2) o (by decide +kernel) ?_
    have o9 := True.intro
    obtain ⟨o, k⟩ := k
    refine xr_iastN (j := x2) rfl (ob6_2 hE) o (by decide +kernel) ?_
    have k := k _ rfl
    generalize hg_m2 : ms m1 (E + 2) (ru (m1 (E + 2)) x2 (m1 (E2 + 2) x2)) = m2 at k ⊢
    refine xr_aload_n (n := 0) (i := 0) rfl (List.mem_of_getElem? (i := 0) rfl) (by decide +kernel) ?_
    refine xr_getR (o := 3) (ob6_0 hE) fl_Seen_18 rfl (by decide +kernel) ?_
    show sh_X g d m_Seen_copy _ _ ((sh_r (E + 3)) :: _) _ _
    refine xr_iload_n (n := 2) (i := 2) rfl (List.mem_of_getElem? (i := 2) rfl) (by decide +kernel) ?_
    refine xr_aload_n (n := 1) (i := 1) rfl (List.mem_of_getElem? (i := 1) rfl) (by decide +kernel) ?_
    refine xr_getR (o := 3) (ob6_0 hE2) fl_Seen_18 rfl (by decide +kernel) ?_
    show sh_X g d m_Seen_copy _ _ ((sh_r (E2 + 3)) :: _) _ _
    refine xr_iload_n (n := 2) (i := 2) rfl (List.mem_of_getElem? (i := 2) rfl) (by decide +kernel) ?_
    obtain ⟨o, k⟩ := k
    refine xr_zaldN (j := x2) rfl (ob6_3 hE2) o (by decide +kernel) ?_
    obtain ⟨o, k⟩ := k
    have o9 := o
    obtain ⟨o, k⟩ := k
    refine xr_zastN o9 (j := x2) rfl (ob6_3 hE) o (by decide +kernel) ?_
    have k := k _ rfl
    generalize hg_m3 : ms m2 (E + 3) (ru (m2 (E + 3)) x2 (m2 (E2 + 3) x2)) = m3 at k ⊢
    refine xr_iinc (n := 1) (lo' := [(2, (sh_i (((x2 + 1) : Nat) : Int))), (0, (sh_r E)), (1, (sh_r E2))]) (List.mem_of_getElem? (i := 2) rfl) (by decide) rfl (by decide +kernel) ?_
    refine xr_goto (off := (-47)) (tgt := 10) (by decide) (by decide +kernel) ?_
    refine xr_sub (lo' := [(0, (sh_r E)), (1, (sh_r E2)), (2, (sh_i (((x2 + 1) : Nat) : Int)))]) [1, 2, 0] rfl ?_
    exact k

theorem v_Seen_fits {g : sh_G} {d : Nat} {E : Nat} {S : Nat} {B : Nat} {thief : Nat}  {mem : sh_Mem} {Q : Option sh_V → sh_Mem → Prop} (hE : ob6 E) (hS : ob8 S) (hB : ob0 B) (k : sh_X g (d + 1) m_Seen_fits 3 [(0, (sh_r E)), (1, (sh_r S)), (2, (sh_r B)), (3, (sh_i (thief : Int))), (4, (sh_i 0))] [] mem (sh_K m_Seen_fits Q)) : sh_Cal g (d + 1) m_Seen_fits [(sh_r E), (sh_r S), (sh_r B), (sh_i (thief : Int))] mem Q := by
  refine sh_met (by decide +kernel) (Nat.le_of_ble_eq_true rfl) (lo := [(0, (sh_r E)), (1, (sh_r S)), (2, (sh_r B)), (3, (sh_i (thief : Int)))]) rfl ?_
  refine xr_iconst (n := 0) (by decide +kernel) ?_
  refine xr_istore (i := 4) (by decide) rfl (by decide +kernel) ?_
  refine xr_sub (lo' := [(0, (sh_r E)), (1, (sh_r S)), (2, (sh_r B)), (3, (sh_i (thief : Int))), (4, (sh_i 0))]) [1, 2, 3, 4, 0] rfl ?_
  exact k
theorem v_Seen_fits_3 {g : sh_G} {d : Nat} {E : Nat} {S : Nat} {B : Nat} {thief : Nat}  {mem : sh_Mem} {Q : Option sh_V → sh_Mem → Prop} (hE : ob6 E) (hS : ob8 S) (hB : ob0 B) {x4 : Nat} (k : (((i3 (mem E 0)) ≤ (i3 (x4 : Int)) → Q (some (sh_i 1)) mem) ∧ (¬ (i3 (mem E 0)) ≤ (i3 (x4 : Int)) → (x4 < 8 ∧ (x4 < 8 ∧ (sh_Cal g d m_State_isOpenBehind [(sh_r S), (sh_r B), (sh_i (thief : Int)), (sh_i (mem (E + 1) x4)), (sh_i (mem (E + 2) x4))] mem fun rv m1 => ∃ r1 : Int, rv = some (sh_i r1) ∧ (x4 < 8 ∧ (((i3 r1) = (i3 (m1 (E + 3) x4)) → sh_X g (d + 1) m_Seen_fits 3 [(0, (sh_r E)), (1, (sh_r S)), (2, (sh_r B)), (3, (sh_i (thief : Int))), (4, (sh_i (((x4 + 1) : Nat) : Int)))] [] m1 (sh_K m_Seen_fits Q)) ∧ (¬ (i3 r1) = (i3 (m1 (E + 3) x4)) → Q (some (sh_i 0)) m1))))))))) : sh_X g (d + 1) m_Seen_fits 3 [(0, (sh_r E)), (1, (sh_r S)), (2, (sh_r B)), (3, (sh_i (thief : Int))), (4, (sh_i (x4 : Int)))] [] mem (sh_K m_Seen_fits Q) := by
  refine xr_iload (i := 4) (List.mem_of_getElem? (i := 4) rfl) (by decide +kernel) ?_
  refine xr_aload_n (n := 0) (i := 0) rfl (List.mem_of_getElem? (i := 0) rfl) (by decide +kernel) ?_
  refine xr_getI (ob6_0 hE) fl_Seen_22 (by decide) (by decide +kernel) ?_
  refine xr_icmp_ge (a' := (i3 (x4 : Int))) (b' := (i3 (mem E 0))) rfl rfl (off := 41) (tgt := 50) (by decide) (by decide +kernel) ⟨fun c1 => ?_, fun c1 => ?_⟩
  · have k := k.1 c1
    refine xr_iconst (n := 1) (by decide +kernel) ?_
    exact xr_zret rfl (by decide +kernel) (by decide) k
  · have k := k.2 c1
    refine xr_aload_n (n := 1) (i := 1) rfl (List.mem_of_getElem? (i := 1) rfl) (by decide +kernel) ?_
    refine xr_aload_n (n := 2) (i := 2) rfl (List.mem_of_getElem? (i := 2) rfl) (by decide +kernel) ?_
    refine xr_iload_n (n := 3) (i := 3) rfl (List.mem_of_getElem? (i := 3) rfl) (by decide +kernel) ?_
    refine xr_aload_n (n := 0) (i := 0) rfl (List.mem_of_getElem? (i := 0) rfl) (by decide +kernel) ?_
    refine xr_getR (o := 1) (ob6_0 hE) fl_Seen_9 rfl (by decide +kernel) ?_
    show sh_X g (d + 1) m_Seen_fits _ _ ((sh_r (E + 1)) :: _) _ _
    refine xr_iload (i := 4) (List.mem_of_getElem? (i := 4) rfl) (by decide +kernel) ?_
    obtain ⟨o, k⟩ := k
    refine xr_ialdN (j := x4) rfl (ob6_1 hE) o (by decide +kernel) ?_
    refine xr_aload_n (n := 0) (i := 0) rfl (List.mem_of_getElem? (i := 0) rfl) (by decide +kernel) ?_
    refine xr_getR (o := 2) (ob6_0 hE) fl_Seen_15 rfl (by decide +kernel) ?_
    show sh_X g (d + 1) m_Seen_fits _ _ ((sh_r (E + 2)) :: _) _ _
    refine xr_iload (i := 4) (List.mem_of_getElem? (i := 4) rfl) (by decide +kernel) ?_
    obtain ⟨o, k⟩ := k
    refine xr_ialdN (j := x4) rfl (ob6_2 hE) o (by decide +kernel) ?_
    refine xr_callV (av := [(sh_r B), (sh_i (thief : Int)), (sh_i (mem (E + 1) x4)), (sh_i (mem (E + 2) x4))]) (ob8_0 hS) rfl rfl mo_State_isOpenBehind ml_Seen_26 im_State_isOpenBehind se_State_isOpenBehind rfl (Nat.le_of_ble_eq_true rfl) (by decide +kernel) (sh_mono k ?_)
    rintro rv m1 ⟨r1, rfl, k⟩
    show sh_X g (d + 1) m_Seen_fits _ _ [(sh_i r1)] _ _
    refine xr_aload_n (n := 0) (i := 0) rfl (List.mem_of_getElem? (i := 0) rfl) (by decide +kernel) ?_
    refine xr_getR (o := 3) (ob6_0 hE) fl_Seen_18 rfl (by decide +kernel) ?_
    show sh_X g (d + 1) m_Seen_fits _ _ ((sh_r (E + 3)) :: _) _ _
    refine xr_iload (i := 4) (List.mem_of_getElem? (i := 4) rfl) (by decide +kernel) ?_
    obtain ⟨o, k⟩ := k
    refine xr_zaldN (j := x4) rfl (ob6_3 hE) o (by decide +kernel) ?_
    refine xr_icmp_eq (a' := (i3 r1)) (b' := (i3 (m1 (E + 3) x4))) rfl rfl (off := 5) (tgt := 44) (by decide) (by decide +kernel) ⟨fun c2 => ?_, fun c2 => ?_⟩
    · have k := k.1 c2
      refine xr_iinc (n := 1) (lo' := [(4, (sh_i (((x4 + 1) : Nat) : Int))), (0, (sh_r E)), (1, (sh_r S)), (2, (sh_r B)), (3, (sh_i (thief : Int)))]) (List.mem_of_getElem? (i := 4) rfl) (by decide) rfl (by decide +kernel) ?_
      refine xr_goto (off := (-44)) (tgt := 3) (by decide) (by decide +kernel) ?_
      refine xr_sub (lo' := [(0, (sh_r E)), (1, (sh_r S)), (2, (sh_r B)), (3, (sh_i (thief : Int))), (4, (sh_i (((x4 + 1) : Nat) : Int)))]) [1, 2, 3, 4, 0] rfl ?_
      exact k
    · have k := k.2 c2
      refine xr_iconst (n := 0) (by decide +kernel) ?_
      exact xr_zret rfl (by decide +kernel) (by decide) k

theorem v_Mark_lay {g : sh_G} {d : Nat} {A : Nat} {S : Nat} {Y : Nat} {E : Nat}  {mem : sh_Mem} {Q : Option sh_V → sh_Mem → Prop} (hA : ob3 A) (hS : ob8 S) (hY : ob10 Y) (hE : ob6 E) (k : (∀ m1 : sh_Mem, m1 = ms mem A (ru (mem A) 0 1) → (sh_Cal g d m_State_copy [(sh_r (A + 1)), (sh_r S)] m1 fun rv m2 => rv = none ∧ (sh_Cal g d m_Year_copy [(sh_r (A + 3)), (sh_r Y)] m2 fun rv m3 => rv = none ∧ (sh_Cal g d m_Seen_copy [(sh_r (A + 7)), (sh_r E)] m3 fun rv m4 => rv = none ∧ Q none m4))))) : sh_Cal g (d + 1) m_Mark_lay [(sh_r A), (sh_r S), (sh_r Y), (sh_r E)] mem Q := by
  refine sh_met (by decide +kernel) (Nat.le_of_ble_eq_true rfl) (lo := [(0, (sh_r A)), (1, (sh_r S)), (2, (sh_r Y)), (3, (sh_r E))]) rfl ?_
  refine xr_aload_n (n := 0) (i := 0) rfl (List.mem_of_getElem? (i := 0) rfl) (by decide +kernel) ?_
  refine xr_iconst (n := 1) (by decide +kernel) ?_
  refine xr_putZ (by decide) (ob3_0 hA) pl_Mark_30 rfl (by decide +kernel) ?_
  have k := k _ rfl
  generalize hg_m1 : ms mem A (ru (mem A) 0 1) = m1 at k ⊢
  refine xr_aload_n (n := 0) (i := 0) rfl (List.mem_of_getElem? (i := 0) rfl) (by decide +kernel) ?_
  refine xr_getR (o := 1) (ob3_0 hA) fl_Mark_10 rfl (by decide +kernel) ?_
  show sh_X g (d + 1) m_Mark_lay _ _ ((sh_r (A + 1)) :: _) _ _
  refine xr_aload_n (n := 1) (i := 1) rfl (List.mem_of_getElem? (i := 1) rfl) (by decide +kernel) ?_
  refine xr_callV (av := [(sh_r S)]) (ob3_1 hA) rfl rfl mo_State_copy ml_Mark_34 im_State_copy se_State_copy rfl (Nat.le_of_ble_eq_true rfl) (by decide +kernel) (sh_mono k ?_)
  rintro rv m2 ⟨rfl, k⟩
  show sh_X g (d + 1) m_Mark_lay _ _ [] _ _
  refine xr_aload_n (n := 0) (i := 0) rfl (List.mem_of_getElem? (i := 0) rfl) (by decide +kernel) ?_
  refine xr_getR (o := 3) (ob3_0 hA) fl_Mark_19 rfl (by decide +kernel) ?_
  show sh_X g (d + 1) m_Mark_lay _ _ ((sh_r (A + 3)) :: _) _ _
  refine xr_aload_n (n := 2) (i := 2) rfl (List.mem_of_getElem? (i := 2) rfl) (by decide +kernel) ?_
  refine xr_callV (av := [(sh_r Y)]) (ob3_3 hA) rfl rfl mo_Year_copy ml_Mark_38 im_Year_copy se_Year_copy rfl (Nat.le_of_ble_eq_true rfl) (by decide +kernel) (sh_mono k ?_)
  rintro rv m3 ⟨rfl, k⟩
  show sh_X g (d + 1) m_Mark_lay _ _ [] _ _
  refine xr_aload_n (n := 0) (i := 0) rfl (List.mem_of_getElem? (i := 0) rfl) (by decide +kernel) ?_
  refine xr_getR (o := 7) (ob3_0 hA) fl_Mark_26 rfl (by decide +kernel) ?_
  show sh_X g (d + 1) m_Mark_lay _ _ ((sh_r (A + 7)) :: _) _ _
  refine xr_aload_n (n := 3) (i := 3) rfl (List.mem_of_getElem? (i := 3) rfl) (by decide +kernel) ?_
  refine xr_callV (av := [(sh_r E)]) (ob3_7 hA) rfl rfl mo_Seen_copy ml_Mark_41 im_Seen_copy se_Seen_copy rfl (Nat.le_of_ble_eq_true rfl) (by decide +kernel) (sh_mono k ?_)
  rintro rv m4 ⟨rfl, k⟩
  show sh_X g (d + 1) m_Mark_lay _ _ [] _ _
  exact xr_ret rfl (by decide +kernel) k

theorem v_Mark_goBack {g : sh_G} {d : Nat} {A : Nat} {S : Nat} {Y : Nat} {E : Nat}  {mem : sh_Mem} {Q : Option sh_V → sh_Mem → Prop} (hA : ob3 A) (hS : ob8 S) (hY : ob10 Y) (hE : ob6 E) (k : (sh_Cal g d m_State_copy [(sh_r S), (sh_r (A + 1))] mem fun rv m1 => rv = none ∧ (sh_Cal g d m_Year_copy [(sh_r Y), (sh_r (A + 3))] m1 fun rv m2 => rv = none ∧ (sh_Cal g d m_Seen_copy [(sh_r E), (sh_r (A + 7))] m2 fun rv m3 => rv = none ∧ Q none m3)))) : sh_Cal g (d + 1) m_Mark_goBack [(sh_r A), (sh_r S), (sh_r Y), (sh_r E)] mem Q := by
  refine sh_met (by decide +kernel) (Nat.le_of_ble_eq_true rfl) (lo := [(0, (sh_r A)), (1, (sh_r S)), (2, (sh_r Y)), (3, (sh_r E))]) rfl ?_
  refine xr_aload_n (n := 1) (i := 1) rfl (List.mem_of_getElem? (i := 1) rfl) (by decide +kernel) ?_
  refine xr_aload_n (n := 0) (i := 0) rfl (List.mem_of_getElem? (i := 0) rfl) (by decide +kernel) ?_
  refine xr_getR (o := 1) (ob3_0 hA) fl_Mark_10 rfl (by decide +kernel) ?_
  show sh_X g (d + 1) m_Mark_goBack _ _ ((sh_r (A + 1)) :: _) _ _
  refine xr_callV (av := [(sh_r (A + 1))]) (ob8_0 hS) rfl rfl mo_State_copy ml_Mark_34 im_State_copy se_State_copy rfl (Nat.le_of_ble_eq_true rfl) (by decide +kernel) (sh_mono k ?_)
  rintro rv m1 ⟨rfl, k⟩
  show sh_X g (d + 1) m_Mark_goBack _ _ [] _ _
  refine xr_aload_n (n := 2) (i := 2) rfl (List.mem_of_getElem? (i := 2) rfl) (by decide +kernel) ?_
  refine xr_aload_n (n := 0) (i := 0) rfl (List.mem_of_getElem? (i := 0) rfl) (by decide +kernel) ?_
  refine xr_getR (o := 3) (ob3_0 hA) fl_Mark_19 rfl (by decide +kernel) ?_
  show sh_X g (d + 1) m_Mark_goBack _ _ ((sh_r (A + 3)) :: _) _ _
  refine xr_callV (av := [(sh_r (A + 3))]) (ob10_0 hY) rfl rfl mo_Year_copy ml_Mark_38 im_Year_copy se_Year_copy rfl (Nat.le_of_ble_eq_true rfl) (by decide +kernel) (sh_mono k ?_)
  rintro rv m2 ⟨rfl, k⟩
  show sh_X g (d + 1) m_Mark_goBack _ _ [] _ _
  refine xr_aload_n (n := 3) (i := 3) rfl (List.mem_of_getElem? (i := 3) rfl) (by decide +kernel) ?_
  refine xr_aload_n (n := 0) (i := 0) rfl (List.mem_of_getElem? (i := 0) rfl) (by decide +kernel) ?_
  refine xr_getR (o := 7) (ob3_0 hA) fl_Mark_26 rfl (by decide +kernel) ?_
  show sh_X g (d + 1) m_Mark_goBack _ _ ((sh_r (A + 7)) :: _) _ _
  refine xr_callV (av := [(sh_r (A + 7))]) (ob6_0 hE) rfl rfl mo_Seen_copy ml_Mark_41 im_Seen_copy se_Seen_copy rfl (Nat.le_of_ble_eq_true rfl) (by decide +kernel) (sh_mono k ?_)
  rintro rv m3 ⟨rfl, k⟩
  show sh_X g (d + 1) m_Mark_goBack _ _ [] _ _
  exact xr_ret rfl (by decide +kernel) k

theorem v_Gang_search {g : sh_G} {d : Nat} {S : Nat} {B : Nat}  {mem : sh_Mem} {Q : Option sh_V → sh_Mem → Prop} (hS : ob8 S) (hB : ob0 B) (k : (∀ m1 : sh_Mem, m1 = ms mem 15 (ru (mem 15) 2 (-1)) → (sh_Cal g d m_Gang_send [(sh_r 15), (sh_r S), (sh_r B), (sh_i 0), (sh_i 0), (sh_i 0)] m1 fun rv m2 => rv = none ∧ Q none m2))) : sh_Cal g (d + 1) m_Gang_search [(sh_r 15), (sh_r S), (sh_r B)] mem Q := by
  refine sh_met (by decide +kernel) (Nat.le_of_ble_eq_true rfl) (lo := [(0, (sh_r 15)), (1, (sh_r S)), (2, (sh_r B))]) rfl ?_
  refine xr_aload_n (n := 0) (i := 0) rfl (List.mem_of_getElem? (i := 0) rfl) (by decide +kernel) ?_
  refine xr_iconst (n := (-1)) (by decide +kernel) ?_
  refine xr_putI rfl pl_Gang_18 rfl (by decide +kernel) ?_
  have k := k _ rfl
  generalize hg_m1 : ms mem 15 (ru (mem 15) 2 (-1)) = m1 at k ⊢
  refine xr_aload_n (n := 0) (i := 0) rfl (List.mem_of_getElem? (i := 0) rfl) (by decide +kernel) ?_
  refine xr_aload_n (n := 1) (i := 1) rfl (List.mem_of_getElem? (i := 1) rfl) (by decide +kernel) ?_
  refine xr_aload_n (n := 2) (i := 2) rfl (List.mem_of_getElem? (i := 2) rfl) (by decide +kernel) ?_
  refine xr_iconst (n := 0) (by decide +kernel) ?_
  refine xr_iconst (n := 0) (by decide +kernel) ?_
  refine xr_iconst (n := 0) (by decide +kernel) ?_
  refine xr_callV (av := [(sh_r S), (sh_r B), (sh_i 0), (sh_i 0), (sh_i 0)]) rfl rfl rfl mo_Gang_send ml_Gang_22 im_Gang_send se_Gang_send rfl (Nat.le_of_ble_eq_true rfl) (by decide +kernel) (sh_mono k ?_)
  rintro rv m2 ⟨rfl, k⟩
  show sh_X g (d + 1) m_Gang_search _ _ [] _ _
  exact xr_ret rfl (by decide +kernel) k

theorem v_Gang_send {g : sh_G} {d : Nat} {S : Nat} {B : Nat} {thief : Nat} {gone : Int} {sum : Int}  {mem : sh_Mem} {Q : Option sh_V → sh_Mem → Prop} (hS : ob8 S) (hB : ob0 B) (k : (((i3 (mem B 1)) ≤ (i3 (thief : Int)) → sh_X g (d + 1) m_Gang_send 13 [(0, (sh_r 15)), (1, (sh_r S)), (2, (sh_r B)), (3, (sh_i (thief : Int))), (4, (sh_i gone)), (5, (sh_i sum))] [] mem (sh_K m_Gang_send Q)) ∧ (¬ (i3 (mem B 1)) ≤ (i3 (thief : Int)) → (((i3 (thief : Int)) < 4 → sh_X g (d + 1) m_Gang_send 46 [(0, (sh_r 15)), (1, (sh_r S)), (2, (sh_r B)), (3, (sh_i (thief : Int))), (4, (sh_i gone)), (5, (sh_i sum)), (6, (sh_i 0))] [] mem (sh_K m_Gang_send Q)) ∧ (¬ (i3 (thief : Int)) < 4 → sh_X g (d + 1) m_Gang_send 13 [(0, (sh_r 15)), (1, (sh_r S)), (2, (sh_r B)), (3, (sh_i (thief : Int))), (4, (sh_i gone)), (5, (sh_i sum))] [] mem (sh_K m_Gang_send Q)))))) : sh_Cal g (d + 1) m_Gang_send [(sh_r 15), (sh_r S), (sh_r B), (sh_i (thief : Int)), (sh_i gone), (sh_i sum)] mem Q := by
  refine sh_met (by decide +kernel) (Nat.le_of_ble_eq_true rfl) (lo := [(0, (sh_r 15)), (1, (sh_r S)), (2, (sh_r B)), (3, (sh_i (thief : Int))), (4, (sh_i gone)), (5, (sh_i sum))]) rfl ?_
  refine xr_iload_n (n := 3) (i := 3) rfl (List.mem_of_getElem? (i := 3) rfl) (by decide +kernel) ?_
  refine xr_aload_n (n := 2) (i := 2) rfl (List.mem_of_getElem? (i := 2) rfl) (by decide +kernel) ?_
  refine xr_getI (ob0_0 hB) fl_Gang_26 (by decide) (by decide +kernel) ?_
  refine xr_icmp_ge (a' := (i3 (thief : Int))) (b' := (i3 (mem B 1))) rfl rfl (off := 8) (tgt := 13) (by decide) (by decide +kernel) ⟨fun c1 => ?_, fun c1 => ?_⟩
  · have k := k.1 c1
    refine xr_sub (lo' := [(0, (sh_r 15)), (1, (sh_r S)), (2, (sh_r B)), (3, (sh_i (thief : Int))), (4, (sh_i gone)), (5, (sh_i sum))]) [0, 1, 2, 3, 4, 5] rfl ?_
    exact k
  · have k := k.2 c1
    refine xr_iload_n (n := 3) (i := 3) rfl (List.mem_of_getElem? (i := 3) rfl) (by decide +kernel) ?_
    refine xr_iconst (n := 4) (by decide +kernel) ?_
    refine xr_icmp_lt (a' := (i3 (thief : Int))) (b' := 4) rfl (by decide) (off := 33) (tgt := 43) (by decide) (by decide +kernel) ⟨fun c2 => ?_, fun c2 => ?_⟩
    · have k := k.1 c2
      refine xr_iconst (n := 0) (by decide +kernel) ?_
      refine xr_istore (i := 6) (by decide) rfl (by decide +kernel) ?_
      refine xr_sub (lo' := [(0, (sh_r 15)), (1, (sh_r S)), (2, (sh_r B)), (3, (sh_i (thief : Int))), (4, (sh_i gone)), (5, (sh_i sum)), (6, (sh_i 0))]) [1, 2, 3, 4, 5, 6, 0] rfl ?_
      exact k
    · have k := k.2 c2
      refine xr_sub (lo' := [(0, (sh_r 15)), (1, (sh_r S)), (2, (sh_r B)), (3, (sh_i (thief : Int))), (4, (sh_i gone)), (5, (sh_i sum))]) [0, 1, 2, 3, 4, 5] rfl ?_
      exact k
theorem v_Gang_send_13 {g : sh_G} {d : Nat} {S : Nat} {B : Nat} {thief : Nat} {gone : Int} {sum : Int}  {mem : sh_Mem} {Q : Option sh_V → sh_Mem → Prop} (hS : ob8 S) (hB : ob0 B)  (k : (((i3 sum) ≤ (i3 (mem 15 2)) → Q none mem) ∧ (¬ (i3 sum) ≤ (i3 (mem 15 2)) → (∀ m1 : sh_Mem, m1 = ms mem 15 (ru (mem 15) 2 sum) → (∀ m2 : sh_Mem, m2 = ms m1 17 (cpy (m1 16) (m1 17) ((0) : Int).toNat ((0) : Int).toNat ((4) : Int).toNat) → Q none m2))))) : sh_X g (d + 1) m_Gang_send 13 [(0, (sh_r 15)), (1, (sh_r S)), (2, (sh_r B)), (3, (sh_i (thief : Int))), (4, (sh_i gone)), (5, (sh_i sum))] [] mem (sh_K m_Gang_send Q) := by
  refine xr_iload (i := 5) (List.mem_of_getElem? (i := 5) rfl) (by decide +kernel) ?_
  refine xr_aload_n (n := 0) (i := 0) rfl (List.mem_of_getElem? (i := 0) rfl) (by decide +kernel) ?_
  refine xr_getI rfl fl_Gang_18 (by decide) (by decide +kernel) ?_
  refine xr_icmp_le (a' := (i3 sum)) (b' := (i3 (mem 15 2))) rfl rfl (off := 23) (tgt := 42) (by decide) (by decide +kernel) ⟨fun c1 => ?_, fun c1 => ?_⟩
  · have k := k.1 c1
    exact xr_ret rfl (by decide +kernel) k
  · have k := k.2 c1
    refine xr_aload_n (n := 0) (i := 0) rfl (List.mem_of_getElem? (i := 0) rfl) (by decide +kernel) ?_
    refine xr_iload (i := 5) (List.mem_of_getElem? (i := 5) rfl) (by decide +kernel) ?_
    refine xr_putI rfl pl_Gang_18 rfl (by decide +kernel) ?_
    have k := k _ rfl
    generalize hg_m1 : ms mem 15 (ru (mem 15) 2 sum) = m1 at k ⊢
    refine xr_aload_n (n := 0) (i := 0) rfl (List.mem_of_getElem? (i := 0) rfl) (by decide +kernel) ?_
    refine xr_getR (o := 1) rfl fl_Gang_9 rfl (by decide +kernel) ?_
    show sh_X g (d + 1) m_Gang_send _ _ ((sh_r 16) :: _) _ _
    refine xr_iconst (n := 0) (by decide +kernel) ?_
    refine xr_aload_n (n := 0) (i := 0) rfl (List.mem_of_getElem? (i := 0) rfl) (by decide +kernel) ?_
    refine xr_getR (o := 2) rfl fl_Gang_15 rfl (by decide +kernel) ?_
    show sh_X g (d + 1) m_Gang_send _ _ ((sh_r 17) :: _) _ _
    refine xr_iconst (n := 0) (by decide +kernel) ?_
    refine xr_iconst (n := 4) (by decide +kernel) ?_
    refine xr_copy ml_Gang_31 ac_nat ac_sta ac_ini rfl rfl (by decide) (by decide) (by decide) (by decide) (by decide) (by decide +kernel) ?_
    have k := k _ rfl
    generalize hg_m2 : ms m1 17 (cpy (m1 16) (m1 17) ((0) : Int).toNat ((0) : Int).toNat ((4) : Int).toNat) = m2 at k ⊢
    exact xr_ret rfl (by decide +kernel) k
theorem v_Gang_send_46 {g : sh_G} {d : Nat} {S : Nat} {B : Nat} {thief : Nat} {gone : Int} {sum : Int}  {mem : sh_Mem} {Q : Option sh_V → sh_Mem → Prop} (hS : ob8 S) (hB : ob0 B) {x6 : Nat} (k : (((i3 (mem B 0)) ≤ (i3 (x6 : Int)) → (thief < 4 ∧ (∀ m1 : sh_Mem, m1 = ms mem 16 (ru (mem 16) thief (-1)) → (sh_Cal g d m_Gang_send [(sh_r 15), (sh_r S), (sh_r B), (sh_i (((thief + 1) : Nat) : Int)), (sh_i gone), (sh_i sum)] m1 fun rv m2 => rv = none ∧ Q none m2)))) ∧ (¬ (i3 (mem B 0)) ≤ (i3 (x6 : Int)) → (sh_Cal g d m_State_bagged [(sh_r S), (sh_r B), (sh_i (thief : Int)), (sh_i (x6 : Int))] mem fun rv m3 => ∃ r1 : Int, rv = some (sh_i r1) ∧ (((i3 r1) ≤ 0 → sh_X g (d + 1) m_Gang_send 46 [(0, (sh_r 15)), (1, (sh_r S)), (2, (sh_r B)), (3, (sh_i (thief : Int))), (4, (sh_i gone)), (5, (sh_i sum)), (6, (sh_i (((x6 + 1) : Nat) : Int)))] [] m3 (sh_K m_Gang_send Q)) ∧ (¬ (i3 r1) ≤ 0 → ((¬ (i_and (i_shr gone (x6 : Int)) 1) = 0 → sh_X g (d + 1) m_Gang_send 46 [(0, (sh_r 15)), (1, (sh_r S)), (2, (sh_r B)), (3, (sh_i (thief : Int))), (4, (sh_i gone)), (5, (sh_i sum)), (6, (sh_i (((x6 + 1) : Nat) : Int)))] [] m3 (sh_K m_Gang_send Q)) ∧ ((i_and (i_shr gone (x6 : Int)) 1) = 0 → (thief < 4 ∧ (∀ m4 : sh_Mem, m4 = ms m3 16 (ru (m3 16) thief (x6 : Int)) → (sh_Cal g d m_Gang_send [(sh_r 15), (sh_r S), (sh_r B), (sh_i (((thief + 1) : Nat) : Int)), (sh_i (i_or gone (i_shl 1 (x6 : Int)))), (sh_i (sum + r1))] m4 fun rv m5 => rv = none ∧ sh_X g (d + 1) m_Gang_send 46 [(0, (sh_r 15)), (1, (sh_r S)), (2, (sh_r B)), (3, (sh_i (thief : Int))), (4, (sh_i gone)), (5, (sh_i sum)), (6, (sh_i (((x6 + 1) : Nat) : Int)))] [] m5 (sh_K m_Gang_send Q)))))))))))) : sh_X g (d + 1) m_Gang_send 46 [(0, (sh_r 15)), (1, (sh_r S)), (2, (sh_r B)), (3, (sh_i (thief : Int))), (4, (sh_i gone)), (5, (sh_i sum)), (6, (sh_i (x6 : Int)))] [] mem (sh_K m_Gang_send Q) := by
  refine xr_iload (i := 6) (List.mem_of_getElem? (i := 6) rfl) (by decide +kernel) ?_
  refine xr_aload_n (n := 2) (i := 2) rfl (List.mem_of_getElem? (i := 2) rfl) (by decide +kernel) ?_
  refine xr_getI (ob0_0 hB) fl_Gang_37 (by decide) (by decide +kernel) ?_
  refine xr_icmp_ge (a' := (i3 (x6 : Int))) (b' := (i3 (mem B 0))) rfl rfl (off := 63) (tgt := 115) (by decide) (by decide +kernel) ⟨fun c1 => ?_, fun c1 => ?_⟩
  · have k := k.1 c1
    refine xr_aload_n (n := 0) (i := 0) rfl (List.mem_of_getElem? (i := 0) rfl) (by decide +kernel) ?_
    refine xr_getR (o := 1) rfl fl_Gang_9 rfl (by decide +kernel) ?_
    show sh_X g (d + 1) m_Gang_send _ _ ((sh_r 16) :: _) _ _
    refine xr_iload_n (n := 3) (i := 3) rfl (List.mem_of_getElem? (i := 3) rfl) (by decide +kernel) ?_
    refine xr_iconst (n := (-1)) (by decide +kernel) ?_
    have o9 := True.intro
    obtain ⟨o, k⟩ := k
    refine xr_iastN (j := thief) rfl rfl o (by decide +kernel) ?_
    have k := k _ rfl
    generalize hg_m1 : ms mem 16 (ru (mem 16) thief (-1)) = m1 at k ⊢
    refine xr_aload_n (n := 0) (i := 0) rfl (List.mem_of_getElem? (i := 0) rfl) (by decide +kernel) ?_
    refine xr_aload_n (n := 1) (i := 1) rfl (List.mem_of_getElem? (i := 1) rfl) (by decide +kernel) ?_
    refine xr_aload_n (n := 2) (i := 2) rfl (List.mem_of_getElem? (i := 2) rfl) (by decide +kernel) ?_
    refine xr_iload_n (n := 3) (i := 3) rfl (List.mem_of_getElem? (i := 3) rfl) (by decide +kernel) ?_
    refine xr_iconst (n := 1) (by decide +kernel) ?_
    refine xr_iadd (by decide +kernel) ?_
    show sh_X g (d + 1) m_Gang_send _ _ ((sh_i (((thief + 1) : Nat) : Int)) :: _) _ _
    refine xr_iload (i := 4) (List.mem_of_getElem? (i := 4) rfl) (by decide +kernel) ?_
    refine xr_iload (i := 5) (List.mem_of_getElem? (i := 5) rfl) (by decide +kernel) ?_
    refine xr_callV (av := [(sh_r S), (sh_r B), (sh_i (((thief + 1) : Nat) : Int)), (sh_i gone), (sh_i sum)]) rfl rfl rfl mo_Gang_send ml_Gang_22 im_Gang_send se_Gang_send rfl (Nat.le_of_ble_eq_true rfl) (by decide +kernel) (sh_mono k ?_)
    rintro rv m2 ⟨rfl, k⟩
    show sh_X g (d + 1) m_Gang_send _ _ [] _ _
    exact xr_ret rfl (by decide +kernel) k
  · have k := k.2 c1
    refine xr_aload_n (n := 1) (i := 1) rfl (List.mem_of_getElem? (i := 1) rfl) (by decide +kernel) ?_
    refine xr_aload_n (n := 2) (i := 2) rfl (List.mem_of_getElem? (i := 2) rfl) (by decide +kernel) ?_
    refine xr_iload_n (n := 3) (i := 3) rfl (List.mem_of_getElem? (i := 3) rfl) (by decide +kernel) ?_
    refine xr_iload (i := 6) (List.mem_of_getElem? (i := 6) rfl) (by decide +kernel) ?_
    refine xr_callV (av := [(sh_r B), (sh_i (thief : Int)), (sh_i (x6 : Int))]) (ob8_0 hS) rfl rfl mo_State_bagged ml_Gang_40 im_State_bagged se_State_bagged rfl (Nat.le_of_ble_eq_true rfl) (by decide +kernel) (sh_mono k ?_)
    rintro rv m3 ⟨r1, rfl, k⟩
    show sh_X g (d + 1) m_Gang_send _ _ [(sh_i r1)] _ _
    refine xr_istore (i := 7) (by decide) rfl (by decide +kernel) ?_
    refine xr_iload (i := 7) (List.mem_of_getElem? (i := 0) rfl) (by decide +kernel) ?_
    refine xr_if_le (a' := (i3 r1)) rfl (off := 42) (tgt := 109) (by decide) (by decide +kernel) ⟨fun c2 => ?_, fun c2 => ?_⟩
    · have k := k.1 c2
      refine xr_iinc (n := 1) (lo' := [(6, (sh_i (((x6 + 1) : Nat) : Int))), (7, (sh_i r1)), (0, (sh_r 15)), (1, (sh_r S)), (2, (sh_r B)), (3, (sh_i (thief : Int))), (4, (sh_i gone)), (5, (sh_i sum))]) (List.mem_of_getElem? (i := 7) rfl) (by decide) rfl (by decide +kernel) ?_
      refine xr_goto (off := (-66)) (tgt := 46) (by decide) (by decide +kernel) ?_
      refine xr_sub (lo' := [(0, (sh_r 15)), (1, (sh_r S)), (2, (sh_r B)), (3, (sh_i (thief : Int))), (4, (sh_i gone)), (5, (sh_i sum)), (6, (sh_i (((x6 + 1) : Nat) : Int)))]) [2, 3, 4, 5, 6, 7, 0] rfl ?_
      exact k
    · have k := k.2 c2
      refine xr_iload (i := 4) (List.mem_of_getElem? (i := 5) rfl) (by decide +kernel) ?_
      refine xr_iload (i := 6) (List.mem_of_getElem? (i := 7) rfl) (by decide +kernel) ?_
      refine xr_ishr (by decide +kernel) ?_
      refine xr_iconst (n := 1) (by decide +kernel) ?_
      refine xr_iand (by decide +kernel) ?_
      refine xr_if_ne (a' := (i_and (i_shr gone (x6 : Int)) 1)) (i3_nrm _) (off := 32) (tgt := 109) (by decide) (by decide +kernel) ⟨fun c3 => ?_, fun c3 => ?_⟩
      · have k := k.1 c3
        refine xr_iinc (n := 1) (lo' := [(6, (sh_i (((x6 + 1) : Nat) : Int))), (7, (sh_i r1)), (0, (sh_r 15)), (1, (sh_r S)), (2, (sh_r B)), (3, (sh_i (thief : Int))), (4, (sh_i gone)), (5, (sh_i sum))]) (List.mem_of_getElem? (i := 7) rfl) (by decide) rfl (by decide +kernel) ?_
        refine xr_goto (off := (-66)) (tgt := 46) (by decide) (by decide +kernel) ?_
        refine xr_sub (lo' := [(0, (sh_r 15)), (1, (sh_r S)), (2, (sh_r B)), (3, (sh_i (thief : Int))), (4, (sh_i gone)), (5, (sh_i sum)), (6, (sh_i (((x6 + 1) : Nat) : Int)))]) [2, 3, 4, 5, 6, 7, 0] rfl ?_
        exact k
      · have k := k.2 c3
        refine xr_aload_n (n := 0) (i := 0) rfl (List.mem_of_getElem? (i := 1) rfl) (by decide +kernel) ?_
        refine xr_getR (o := 1) rfl fl_Gang_9 rfl (by decide +kernel) ?_
        show sh_X g (d + 1) m_Gang_send _ _ ((sh_r 16) :: _) _ _
        refine xr_iload_n (n := 3) (i := 3) rfl (List.mem_of_getElem? (i := 4) rfl) (by decide +kernel) ?_
        refine xr_iload (i := 6) (List.mem_of_getElem? (i := 7) rfl) (by decide +kernel) ?_
        have o9 := True.intro
        obtain ⟨o, k⟩ := k
        refine xr_iastN (j := thief) rfl rfl o (by decide +kernel) ?_
        have k := k _ rfl
        generalize hg_m4 : ms m3 16 (ru (m3 16) thief (x6 : Int)) = m4 at k ⊢
        refine xr_aload_n (n := 0) (i := 0) rfl (List.mem_of_getElem? (i := 1) rfl) (by decide +kernel) ?_
        refine xr_aload_n (n := 1) (i := 1) rfl (List.mem_of_getElem? (i := 2) rfl) (by decide +kernel) ?_
        refine xr_aload_n (n := 2) (i := 2) rfl (List.mem_of_getElem? (i := 3) rfl) (by decide +kernel) ?_
        refine xr_iload_n (n := 3) (i := 3) rfl (List.mem_of_getElem? (i := 4) rfl) (by decide +kernel) ?_
        refine xr_iconst (n := 1) (by decide +kernel) ?_
        refine xr_iadd (by decide +kernel) ?_
        show sh_X g (d + 1) m_Gang_send _ _ ((sh_i (((thief + 1) : Nat) : Int)) :: _) _ _
        refine xr_iload (i := 4) (List.mem_of_getElem? (i := 5) rfl) (by decide +kernel) ?_
        refine xr_iconst (n := 1) (by decide +kernel) ?_
        refine xr_iload (i := 6) (List.mem_of_getElem? (i := 7) rfl) (by decide +kernel) ?_
        refine xr_ishl (by decide +kernel) ?_
        refine xr_ior (by decide +kernel) ?_
        refine xr_iload (i := 5) (List.mem_of_getElem? (i := 6) rfl) (by decide +kernel) ?_
        refine xr_iload (i := 7) (List.mem_of_getElem? (i := 0) rfl) (by decide +kernel) ?_
        refine xr_iadd (by decide +kernel) ?_
        show sh_X g (d + 1) m_Gang_send _ _ ((sh_i (sum + r1)) :: _) _ _
        refine xr_callV (av := [(sh_r S), (sh_r B), (sh_i (((thief + 1) : Nat) : Int)), (sh_i (i_or gone (i_shl 1 (x6 : Int)))), (sh_i (sum + r1))]) rfl rfl rfl mo_Gang_send ml_Gang_22 im_Gang_send se_Gang_send rfl (Nat.le_of_ble_eq_true rfl) (by decide +kernel) (sh_mono k ?_)
        rintro rv m5 ⟨rfl, k⟩
        show sh_X g (d + 1) m_Gang_send _ _ [] _ _
        refine xr_iinc (n := 1) (lo' := [(6, (sh_i (((x6 + 1) : Nat) : Int))), (7, (sh_i r1)), (0, (sh_r 15)), (1, (sh_r S)), (2, (sh_r B)), (3, (sh_i (thief : Int))), (4, (sh_i gone)), (5, (sh_i sum))]) (List.mem_of_getElem? (i := 7) rfl) (by decide) rfl (by decide +kernel) ?_
        refine xr_goto (off := (-66)) (tgt := 46) (by decide) (by decide +kernel) ?_
        refine xr_sub (lo' := [(0, (sh_r 15)), (1, (sh_r S)), (2, (sh_r B)), (3, (sh_i (thief : Int))), (4, (sh_i gone)), (5, (sh_i sum)), (6, (sh_i (((x6 + 1) : Nat) : Int)))]) [2, 3, 4, 5, 6, 7, 0] rfl ?_
        exact k

theorem v_Spr_search {g : sh_G} {d : Nat} {S : Nat} {B : Nat} {thief : Nat} {nightsOfAll : Int}  {mem : sh_Mem} {Q : Option sh_V → sh_Mem → Prop} (hS : ob8 S) (hB : ob0 B) (k : (thief < 4 ∧ (∀ m1 : sh_Mem, m1 = ms mem 18 (ru (mem 18) 2 (mem (B + 6) thief)) → (thief < 4 ∧ (∀ m2 : sh_Mem, m2 = ms m1 18 (ru (m1 18) 3 (m1 (B + 7) thief)) → (∀ m3 : sh_Mem, m3 = ms m2 18 (ru (m2 18) 4 nightsOfAll) → (∀ m4 : sh_Mem, m4 = ms m3 18 (ru (m3 18) 5 (-1)) → (∀ m5 : sh_Mem, m5 = ms m4 18 (ru (m4 18) 6 (-1)) → sh_X g (d + 1) m_Spr_search 39 [(0, (sh_r 18)), (1, (sh_r S)), (2, (sh_r B)), (3, (sh_i (thief : Int))), (4, (sh_i nightsOfAll)), (5, (sh_i 0))] [] m5 (sh_K m_Spr_search Q))))))))) : sh_Cal g (d + 1) m_Spr_search [(sh_r 18), (sh_r S), (sh_r B), (sh_i (thief : Int)), (sh_i nightsOfAll)] mem Q := by
  refine sh_met (by decide +kernel) (Nat.le_of_ble_eq_true rfl) (lo := [(0, (sh_r 18)), (1, (sh_r S)), (2, (sh_r B)), (3, (sh_i (thief : Int))), (4, (sh_i nightsOfAll))]) rfl ?_
  refine xr_aload_n (n := 0) (i := 0) rfl (List.mem_of_getElem? (i := 0) rfl) (by decide +kernel) ?_
  refine xr_aload_n (n := 2) (i := 2) rfl (List.mem_of_getElem? (i := 2) rfl) (by decide +kernel) ?_
  refine xr_getR (o := 6) (ob0_0 hB) fl_Spr_18 rfl (by decide +kernel) ?_
  show sh_X g (d + 1) m_Spr_search _ _ ((sh_r (B + 6)) :: _) _ _
  refine xr_iload_n (n := 3) (i := 3) rfl (List.mem_of_getElem? (i := 3) rfl) (by decide +kernel) ?_
  obtain ⟨o, k⟩ := k
  refine xr_ialdN (j := thief) rfl (ob0_6 hB) o (by decide +kernel) ?_
  refine xr_putI rfl pl_Spr_23 rfl (by decide +kernel) ?_
  have k := k _ rfl
  generalize hg_m1 : ms mem 18 (ru (mem 18) 2 (mem (B + 6) thief)) = m1 at k ⊢
  refine xr_aload_n (n := 0) (i := 0) rfl (List.mem_of_getElem? (i := 0) rfl) (by decide +kernel) ?_
  refine xr_aload_n (n := 2) (i := 2) rfl (List.mem_of_getElem? (i := 2) rfl) (by decide +kernel) ?_
  refine xr_getR (o := 7) (ob0_0 hB) fl_Spr_27 rfl (by decide +kernel) ?_
  show sh_X g (d + 1) m_Spr_search _ _ ((sh_r (B + 7)) :: _) _ _
  refine xr_iload_n (n := 3) (i := 3) rfl (List.mem_of_getElem? (i := 3) rfl) (by decide +kernel) ?_
  obtain ⟨o, k⟩ := k
  refine xr_ialdN (j := thief) rfl (ob0_7 hB) o (by decide +kernel) ?_
  refine xr_putI rfl pl_Spr_30 rfl (by decide +kernel) ?_
  have k := k _ rfl
  generalize hg_m2 : ms m1 18 (ru (m1 18) 3 (m1 (B + 7) thief)) = m2 at k ⊢
  refine xr_aload_n (n := 0) (i := 0) rfl (List.mem_of_getElem? (i := 0) rfl) (by decide +kernel) ?_
  refine xr_iload (i := 4) (List.mem_of_getElem? (i := 4) rfl) (by decide +kernel) ?_
  refine xr_putI rfl pl_Spr_33 rfl (by decide +kernel) ?_
  have k := k _ rfl
  generalize hg_m3 : ms m2 18 (ru (m2 18) 4 nightsOfAll) = m3 at k ⊢
  refine xr_aload_n (n := 0) (i := 0) rfl (List.mem_of_getElem? (i := 0) rfl) (by decide +kernel) ?_
  refine xr_iconst (n := (-1)) (by decide +kernel) ?_
  refine xr_putI rfl pl_Spr_36 rfl (by decide +kernel) ?_
  have k := k _ rfl
  generalize hg_m4 : ms m3 18 (ru (m3 18) 5 (-1)) = m4 at k ⊢
  refine xr_aload_n (n := 0) (i := 0) rfl (List.mem_of_getElem? (i := 0) rfl) (by decide +kernel) ?_
  refine xr_iconst (n := (-1)) (by decide +kernel) ?_
  refine xr_putI rfl pl_Spr_39 rfl (by decide +kernel) ?_
  have k := k _ rfl
  generalize hg_m5 : ms m4 18 (ru (m4 18) 6 (-1)) = m5 at k ⊢
  refine xr_iconst (n := 0) (by decide +kernel) ?_
  refine xr_istore (i := 5) (by decide) rfl (by decide +kernel) ?_
  refine xr_sub (lo' := [(0, (sh_r 18)), (1, (sh_r S)), (2, (sh_r B)), (3, (sh_i (thief : Int))), (4, (sh_i nightsOfAll)), (5, (sh_i 0))]) [1, 2, 3, 4, 5, 0] rfl ?_
  exact k
theorem v_Spr_search_39 {g : sh_G} {d : Nat} {S : Nat} {B : Nat} {thief : Nat} {nightsOfAll : Int}  {mem : sh_Mem} {Q : Option sh_V → sh_Mem → Prop} (hS : ob8 S) (hB : ob0 B) {x5 : Nat} (k : (((i3 (mem B 0)) ≤ (i3 (x5 : Int)) → ((32 + thief) < 45 ∧ (sh_Cal g d m_Spr_go [(sh_r 18), (sh_r B), (sh_i 0), (sh_i 0), (sh_i (mem (S + 1) (32 + thief))), (sh_i (-1))] mem fun rv m1 => rv = none ∧ Q none m1))) ∧ (¬ (i3 (mem B 0)) ≤ (i3 (x5 : Int)) → (x5 < 45 ∧ (x5 < 48 ∧ (∀ m2 : sh_Mem, m2 = ms mem 19 (ru (mem 19) x5 (mem (S + 1) x5)) → ((8 + x5) < 45 ∧ (x5 < 48 ∧ (∀ m3 : sh_Mem, m3 = ms m2 20 (ru (m2 20) x5 (m2 (S + 1) (8 + x5))) → sh_X g (d + 1) m_Spr_search 39 [(0, (sh_r 18)), (1, (sh_r S)), (2, (sh_r B)), (3, (sh_i (thief : Int))), (4, (sh_i nightsOfAll)), (5, (sh_i (((x5 + 1) : Nat) : Int)))] [] m3 (sh_K m_Spr_search Q)))))))))) : sh_X g (d + 1) m_Spr_search 39 [(0, (sh_r 18)), (1, (sh_r S)), (2, (sh_r B)), (3, (sh_i (thief : Int))), (4, (sh_i nightsOfAll)), (5, (sh_i (x5 : Int)))] [] mem (sh_K m_Spr_search Q) := by
  refine xr_iload (i := 5) (List.mem_of_getElem? (i := 5) rfl) (by decide +kernel) ?_
  refine xr_aload_n (n := 2) (i := 2) rfl (List.mem_of_getElem? (i := 2) rfl) (by decide +kernel) ?_
  refine xr_getI (ob0_0 hB) fl_Spr_42 (by decide) (by decide +kernel) ?_
  refine xr_icmp_ge (a' := (i3 (x5 : Int))) (b' := (i3 (mem B 0))) rfl rfl (off := 42) (tgt := 87) (by decide) (by decide +kernel) ⟨fun c1 => ?_, fun c1 => ?_⟩
  · have k := k.1 c1
    refine xr_aload_n (n := 0) (i := 0) rfl (List.mem_of_getElem? (i := 0) rfl) (by decide +kernel) ?_
    refine xr_aload_n (n := 2) (i := 2) rfl (List.mem_of_getElem? (i := 2) rfl) (by decide +kernel) ?_
    refine xr_iconst (n := 0) (by decide +kernel) ?_
    refine xr_iconst (n := 0) (by decide +kernel) ?_
    refine xr_aload_n (n := 1) (i := 1) rfl (List.mem_of_getElem? (i := 1) rfl) (by decide +kernel) ?_
    refine xr_getR (o := 1) (ob8_0 hS) fl_Spr_45 rfl (by decide +kernel) ?_
    show sh_X g (d + 1) m_Spr_search _ _ ((sh_r (S + 1)) :: _) _ _
    refine xr_bipush (n := 32) (v := 32) (by decide) (by decide +kernel) ?_
    refine xr_iload_n (n := 3) (i := 3) rfl (List.mem_of_getElem? (i := 3) rfl) (by decide +kernel) ?_
    refine xr_iadd (by decide +kernel) ?_
    show sh_X g (d + 1) m_Spr_search _ _ ((sh_i (((32 + thief) : Nat) : Int)) :: _) _ _
    obtain ⟨o, k⟩ := k
    refine xr_ialdN (j := (32 + thief)) rfl (ob8_1 hS) o (by decide +kernel) ?_
    refine xr_iconst (n := (-1)) (by decide +kernel) ?_
    refine xr_callV (av := [(sh_r B), (sh_i 0), (sh_i 0), (sh_i (mem (S + 1) (32 + thief))), (sh_i (-1))]) rfl rfl rfl mo_Spr_go ml_Spr_50 im_Spr_go se_Spr_go rfl (Nat.le_of_ble_eq_true rfl) (by decide +kernel) (sh_mono k ?_)
    rintro rv m1 ⟨rfl, k⟩
    show sh_X g (d + 1) m_Spr_search _ _ [] _ _
    exact xr_ret rfl (by decide +kernel) k
  · have k := k.2 c1
    refine xr_aload_n (n := 0) (i := 0) rfl (List.mem_of_getElem? (i := 0) rfl) (by decide +kernel) ?_
    refine xr_getR (o := 1) rfl fl_Spr_9 rfl (by decide +kernel) ?_
    show sh_X g (d + 1) m_Spr_search _ _ ((sh_r 19) :: _) _ _
    refine xr_iload (i := 5) (List.mem_of_getElem? (i := 5) rfl) (by decide +kernel) ?_
    refine xr_aload_n (n := 1) (i := 1) rfl (List.mem_of_getElem? (i := 1) rfl) (by decide +kernel) ?_
    refine xr_getR (o := 1) (ob8_0 hS) fl_Spr_45 rfl (by decide +kernel) ?_
    show sh_X g (d + 1) m_Spr_search _ _ ((sh_r (S + 1)) :: _) _ _
    refine xr_iconst (n := 0) (by decide +kernel) ?_
    refine xr_iload (i := 5) (List.mem_of_getElem? (i := 5) rfl) (by decide +kernel) ?_
    refine xr_iadd (by decide +kernel) ?_
    rw [Int.zero_add]
    show sh_X g (d + 1) m_Spr_search _ _ ((sh_i (x5 : Int)) :: _) _ _
    obtain ⟨o, k⟩ := k
    refine xr_ialdN (j := x5) rfl (ob8_1 hS) o (by decide +kernel) ?_
    have o9 := True.intro
    obtain ⟨o, k⟩ := k
    refine xr_iastN (j := x5) rfl rfl o (by decide +kernel) ?_
    have k := k _ rfl
    generalize hg_m2 : ms mem 19 (ru (mem 19) x5 (mem (S + 1) x5)) = m2 at k ⊢
    refine xr_aload_n (n := 0) (i := 0) rfl (List.mem_of_getElem? (i := 0) rfl) (by decide +kernel) ?_
    refine xr_getR (o := 2) rfl fl_Spr_15 rfl (by decide +kernel) ?_
    show sh_X g (d + 1) m_Spr_search _ _ ((sh_r 20) :: _) _ _
    refine xr_iload (i := 5) (List.mem_of_getElem? (i := 5) rfl) (by decide +kernel) ?_
    refine xr_aload_n (n := 1) (i := 1) rfl (List.mem_of_getElem? (i := 1) rfl) (by decide +kernel) ?_
    refine xr_getR (o := 1) (ob8_0 hS) fl_Spr_45 rfl (by decide +kernel) ?_
    show sh_X g (d + 1) m_Spr_search _ _ ((sh_r (S + 1)) :: _) _ _
    refine xr_bipush (n := 8) (v := 8) (by decide) (by decide +kernel) ?_
    refine xr_iload (i := 5) (List.mem_of_getElem? (i := 5) rfl) (by decide +kernel) ?_
    refine xr_iadd (by decide +kernel) ?_
    show sh_X g (d + 1) m_Spr_search _ _ ((sh_i (((8 + x5) : Nat) : Int)) :: _) _ _
    obtain ⟨o, k⟩ := k
    refine xr_ialdN (j := (8 + x5)) rfl (ob8_1 hS) o (by decide +kernel) ?_
    have o9 := True.intro
    obtain ⟨o, k⟩ := k
    refine xr_iastN (j := x5) rfl rfl o (by decide +kernel) ?_
    have k := k _ rfl
    generalize hg_m3 : ms m2 20 (ru (m2 20) x5 (m2 (S + 1) (8 + x5))) = m3 at k ⊢
    refine xr_iinc (n := 1) (lo' := [(5, (sh_i (((x5 + 1) : Nat) : Int))), (0, (sh_r 18)), (1, (sh_r S)), (2, (sh_r B)), (3, (sh_i (thief : Int))), (4, (sh_i nightsOfAll))]) (List.mem_of_getElem? (i := 5) rfl) (by decide) rfl (by decide +kernel) ?_
    refine xr_goto (off := (-45)) (tgt := 39) (by decide) (by decide +kernel) ?_
    refine xr_sub (lo' := [(0, (sh_r 18)), (1, (sh_r S)), (2, (sh_r B)), (3, (sh_i (thief : Int))), (4, (sh_i nightsOfAll)), (5, (sh_i (((x5 + 1) : Nat) : Int)))]) [1, 2, 3, 4, 5, 0] rfl ?_
    exact k

theorem v_Spr_go {g : sh_G} {d : Nat} {B : Nat} {night : Int} {joy : Int} {guilt : Int} {firstDay : Int}  {mem : sh_Mem} {Q : Option sh_V → sh_Mem → Prop} (hB : ob0 B) (k : (sh_Cal g d m_Spr_hope [(sh_r 18), (sh_r B), (sh_i night)] mem fun rv m1 => ∃ r1 : Int, rv = some (sh_i r1) ∧ (((i3 (m1 18 5)) < (i3 (joy + r1)) → (((i3 (m1 18 4)) ≤ (i3 night) → (∀ m2 : sh_Mem, m2 = ms m1 18 (ru (m1 18) 5 joy) → (∀ m3 : sh_Mem, m3 = ms m2 18 (ru (m2 18) 6 firstDay) → Q none m3))) ∧ (¬ (i3 (m1 18 4)) ≤ (i3 night) → (((i3 night) < 5 → sh_X g (d + 1) m_Spr_go 50 [(0, (sh_r 18)), (1, (sh_r B)), (2, (sh_i night)), (3, (sh_i joy)), (4, (sh_i guilt)), (5, (sh_i firstDay)), (6, (sh_i (night * 8))), (7, (sh_i 0))] [] m1 (sh_K m_Spr_go Q)) ∧ (¬ (i3 night) < 5 → (∀ m4 : sh_Mem, m4 = ms m1 18 (ru (m1 18) 5 joy) → (∀ m5 : sh_Mem, m5 = ms m4 18 (ru (m4 18) 6 firstDay) → Q none m5))))))) ∧ (¬ (i3 (m1 18 5)) < (i3 (joy + r1)) → Q none m1)))) : sh_Cal g (d + 1) m_Spr_go [(sh_r 18), (sh_r B), (sh_i night), (sh_i joy), (sh_i guilt), (sh_i firstDay)] mem Q := by
  refine sh_met (by decide +kernel) (Nat.le_of_ble_eq_true rfl) (lo := [(0, (sh_r 18)), (1, (sh_r B)), (2, (sh_i night)), (3, (sh_i joy)), (4, (sh_i guilt)), (5, (sh_i firstDay))]) rfl ?_
  refine xr_iload_n (n := 3) (i := 3) rfl (List.mem_of_getElem? (i := 3) rfl) (by decide +kernel) ?_
  refine xr_aload_n (n := 0) (i := 0) rfl (List.mem_of_getElem? (i := 0) rfl) (by decide +kernel) ?_
  refine xr_aload_n (n := 1) (i := 1) rfl (List.mem_of_getElem? (i := 1) rfl) (by decide +kernel) ?_
  refine xr_iload_n (n := 2) (i := 2) rfl (List.mem_of_getElem? (i := 2) rfl) (by decide +kernel) ?_
  refine xr_callV (av := [(sh_r B), (sh_i night)]) rfl rfl rfl mo_Spr_hope ml_Spr_54 im_Spr_hope se_Spr_hope rfl (Nat.le_of_ble_eq_true rfl) (by decide +kernel) (sh_mono k ?_)
  rintro rv m1 ⟨r1, rfl, k⟩
  show sh_X g (d + 1) m_Spr_go _ _ [(sh_i r1), (sh_i joy)] _ _
  refine xr_iadd (by decide +kernel) ?_
  show sh_X g (d + 1) m_Spr_go _ _ ((sh_i (joy + r1)) :: _) _ _
  refine xr_aload_n (n := 0) (i := 0) rfl (List.mem_of_getElem? (i := 0) rfl) (by decide +kernel) ?_
  refine xr_getI rfl fl_Spr_36 (by decide) (by decide +kernel) ?_
  refine xr_icmp_gt (a' := (i3 (joy + r1))) (b' := (i3 (m1 18 5))) rfl rfl (off := 4) (tgt := 16) (by decide) (by decide +kernel) ⟨fun c1 => ?_, fun c1 => ?_⟩
  · have k := k.1 c1
    refine xr_iload_n (n := 2) (i := 2) rfl (List.mem_of_getElem? (i := 2) rfl) (by decide +kernel) ?_
    refine xr_aload_n (n := 0) (i := 0) rfl (List.mem_of_getElem? (i := 0) rfl) (by decide +kernel) ?_
    refine xr_getI rfl fl_Spr_33 (by decide) (by decide +kernel) ?_
    refine xr_icmp_ge (a' := (i3 night)) (b' := (i3 (m1 18 4))) rfl rfl (off := 8) (tgt := 29) (by decide) (by decide +kernel) ⟨fun c2 => ?_, fun c2 => ?_⟩
    · have k := k.1 c2
      refine xr_aload_n (n := 0) (i := 0) rfl (List.mem_of_getElem? (i := 0) rfl) (by decide +kernel) ?_
      refine xr_iload_n (n := 3) (i := 3) rfl (List.mem_of_getElem? (i := 3) rfl) (by decide +kernel) ?_
      refine xr_putI rfl pl_Spr_36 rfl (by decide +kernel) ?_
      have k := k _ rfl
      generalize hg_m2 : ms m1 18 (ru (m1 18) 5 joy) = m2 at k ⊢
      refine xr_aload_n (n := 0) (i := 0) rfl (List.mem_of_getElem? (i := 0) rfl) (by decide +kernel) ?_
      refine xr_iload (i := 5) (List.mem_of_getElem? (i := 5) rfl) (by decide +kernel) ?_
      refine xr_putI rfl pl_Spr_39 rfl (by decide +kernel) ?_
      have k := k _ rfl
      generalize hg_m3 : ms m2 18 (ru (m2 18) 6 firstDay) = m3 at k ⊢
      exact xr_ret rfl (by decide +kernel) k
    · have k := k.2 c2
      refine xr_iload_n (n := 2) (i := 2) rfl (List.mem_of_getElem? (i := 2) rfl) (by decide +kernel) ?_
      refine xr_iconst (n := 5) (by decide +kernel) ?_
      refine xr_icmp_lt (a' := (i3 night)) (b' := 5) rfl (by decide) (off := 15) (tgt := 41) (by decide) (by decide +kernel) ⟨fun c3 => ?_, fun c3 => ?_⟩
      · have k := k.1 c3
        refine xr_iload_n (n := 2) (i := 2) rfl (List.mem_of_getElem? (i := 2) rfl) (by decide +kernel) ?_
        refine xr_bipush (n := 8) (v := 8) (by decide) (by decide +kernel) ?_
        refine xr_imul (by decide +kernel) ?_
        show sh_X g (d + 1) m_Spr_go _ _ ((sh_i (night * 8)) :: _) _ _
        refine xr_istore (i := 6) (by decide) rfl (by decide +kernel) ?_
        refine xr_iconst (n := 0) (by decide +kernel) ?_
        refine xr_istore (i := 7) (by decide) rfl (by decide +kernel) ?_
        refine xr_sub (lo' := [(0, (sh_r 18)), (1, (sh_r B)), (2, (sh_i night)), (3, (sh_i joy)), (4, (sh_i guilt)), (5, (sh_i firstDay)), (6, (sh_i (night * 8))), (7, (sh_i 0))]) [2, 3, 4, 5, 6, 7, 1, 0] rfl ?_
        exact k
      · have k := k.2 c3
        refine xr_aload_n (n := 0) (i := 0) rfl (List.mem_of_getElem? (i := 0) rfl) (by decide +kernel) ?_
        refine xr_iload_n (n := 3) (i := 3) rfl (List.mem_of_getElem? (i := 3) rfl) (by decide +kernel) ?_
        refine xr_putI rfl pl_Spr_36 rfl (by decide +kernel) ?_
        have k := k _ rfl
        generalize hg_m4 : ms m1 18 (ru (m1 18) 5 joy) = m4 at k ⊢
        refine xr_aload_n (n := 0) (i := 0) rfl (List.mem_of_getElem? (i := 0) rfl) (by decide +kernel) ?_
        refine xr_iload (i := 5) (List.mem_of_getElem? (i := 5) rfl) (by decide +kernel) ?_
        refine xr_putI rfl pl_Spr_39 rfl (by decide +kernel) ?_
        have k := k _ rfl
        generalize hg_m5 : ms m4 18 (ru (m4 18) 6 firstDay) = m5 at k ⊢
        exact xr_ret rfl (by decide +kernel) k
  · have k := k.2 c1
    exact xr_ret rfl (by decide +kernel) k
theorem v_Spr_go_50 {g : sh_G} {d : Nat} {B : Nat} {night : Int} {joy : Int} {guilt : Int} {firstDay : Int}  {mem : sh_Mem} {Q : Option sh_V → sh_Mem → Prop} (hB : ob0 B) {x6 : Int} {x7 : Nat} (k : (((i3 (mem B 0)) ≤ (i3 (x7 : Int)) → (sh_Cal g d m_Spr_passNight [(sh_r 18), (sh_r B), (sh_i x6), (sh_i (-1)), (sh_i 0)] mem fun rv m1 => rv = none ∧ (sh_Cal g d m_Spr_go [(sh_r 18), (sh_r B), (sh_i (night + 1)), (sh_i joy), (sh_i guilt), (sh_i firstDay)] m1 fun rv m2 => rv = none ∧ Q none m2))) ∧ (¬ (i3 (mem B 0)) ≤ (i3 (x7 : Int)) → ((0 ≤ (x6 + (x7 : Int)) ∧ (x6 + (x7 : Int)) < 48) ∧ (((i3 (mem 19 ((x6 + (x7 : Int))).toNat)) ≤ 0 → sh_X g (d + 1) m_Spr_go 50 [(0, (sh_r 18)), (1, (sh_r B)), (2, (sh_i night)), (3, (sh_i joy)), (4, (sh_i guilt)), (5, (sh_i firstDay)), (6, (sh_i x6)), (7, (sh_i (((x7 + 1) : Nat) : Int)))] [] mem (sh_K m_Spr_go Q)) ∧ (¬ (i3 (mem 19 ((x6 + (x7 : Int))).toNat)) ≤ 0 → ((0 ≤ (x6 + (x7 : Int)) ∧ (x6 + (x7 : Int)) < 48) ∧ (((i3 (mem 18 2)) < (i3 (mem 20 ((x6 + (x7 : Int))).toNat)) → sh_X g (d + 1) m_Spr_go 50 [(0, (sh_r 18)), (1, (sh_r B)), (2, (sh_i night)), (3, (sh_i joy)), (4, (sh_i guilt)), (5, (sh_i firstDay)), (6, (sh_i x6)), (7, (sh_i (((x7 + 1) : Nat) : Int)))] [] mem (sh_K m_Spr_go Q)) ∧ (¬ (i3 (mem 18 2)) < (i3 (mem 20 ((x6 + (x7 : Int))).toNat)) → ((0 ≤ (x6 + (x7 : Int)) ∧ (x6 + (x7 : Int)) < 48) ∧ (sh_Cal g d m_Spr_passNight [(sh_r 18), (sh_r B), (sh_i x6), (sh_i (x7 : Int)), (sh_i (if (i3 (mem 19 ((x6 + (x7 : Int))).toNat)) < (i3 (mem 18 3)) then (mem 19 ((x6 + (x7 : Int))).toNat) else (mem 18 3)))] mem fun rv m3 => rv = none ∧ ((¬ (i3 night) = 0 → (sh_Cal g d m_Spr_go [(sh_r 18), (sh_r B), (sh_i (night + 1)), (sh_i (joy + (if (i3 0) < (i3 ((if (i3 (mem 19 ((x6 + (x7 : Int))).toNat)) < (i3 (mem 18 3)) then (mem 19 ((x6 + (x7 : Int))).toNat) else (mem 18 3)) - guilt)) then ((if (i3 (mem 19 ((x6 + (x7 : Int))).toNat)) < (i3 (mem 18 3)) then (mem 19 ((x6 + (x7 : Int))).toNat) else (mem 18 3)) - guilt) else (0 : Int)))), (sh_i 0), (sh_i firstDay)] m3 fun rv m4 => rv = none ∧ sh_X g (d + 1) m_Spr_go 50 [(0, (sh_r 18)), (1, (sh_r B)), (2, (sh_i night)), (3, (sh_i joy)), (4, (sh_i guilt)), (5, (sh_i firstDay)), (6, (sh_i x6)), (7, (sh_i (((x7 + 1) : Nat) : Int)))] [] m4 (sh_K m_Spr_go Q))) ∧ ((i3 night) = 0 → (sh_Cal g d m_Spr_go [(sh_r 18), (sh_r B), (sh_i (night + 1)), (sh_i (joy + (if (i3 0) < (i3 ((if (i3 (mem 19 ((x6 + (x7 : Int))).toNat)) < (i3 (mem 18 3)) then (mem 19 ((x6 + (x7 : Int))).toNat) else (mem 18 3)) - guilt)) then ((if (i3 (mem 19 ((x6 + (x7 : Int))).toNat)) < (i3 (mem 18 3)) then (mem 19 ((x6 + (x7 : Int))).toNat) else (mem 18 3)) - guilt) else (0 : Int)))), (sh_i 0), (sh_i (x7 : Int))] m3 fun rv m5 => rv = none ∧ sh_X g (d + 1) m_Spr_go 50 [(0, (sh_r 18)), (1, (sh_r B)), (2, (sh_i night)), (3, (sh_i joy)), (4, (sh_i guilt)), (5, (sh_i firstDay)), (6, (sh_i x6)), (7, (sh_i (((x7 + 1) : Nat) : Int)))] [] m5 (sh_K m_Spr_go Q))))))))))))))) : sh_X g (d + 1) m_Spr_go 50 [(0, (sh_r 18)), (1, (sh_r B)), (2, (sh_i night)), (3, (sh_i joy)), (4, (sh_i guilt)), (5, (sh_i firstDay)), (6, (sh_i x6)), (7, (sh_i (x7 : Int)))] [] mem (sh_K m_Spr_go Q) := by
  refine xr_iload (i := 7) (List.mem_of_getElem? (i := 7) rfl) (by decide +kernel) ?_
  refine xr_aload_n (n := 1) (i := 1) rfl (List.mem_of_getElem? (i := 1) rfl) (by decide +kernel) ?_
  refine xr_getI (ob0_0 hB) fl_Spr_42 (by decide) (by decide +kernel) ?_
  refine xr_icmp_ge (a' := (i3 (x7 : Int))) (b' := (i3 (mem B 0))) rfl rfl (off := 100) (tgt := 156) (by decide) (by decide +kernel) ⟨fun c1 => ?_, fun c1 => ?_⟩
  · have k := k.1 c1
    refine xr_aload_n (n := 0) (i := 0) rfl (List.mem_of_getElem? (i := 0) rfl) (by decide +kernel) ?_
    refine xr_aload_n (n := 1) (i := 1) rfl (List.mem_of_getElem? (i := 1) rfl) (by decide +kernel) ?_
    refine xr_iload (i := 6) (List.mem_of_getElem? (i := 6) rfl) (by decide +kernel) ?_
    refine xr_iconst (n := (-1)) (by decide +kernel) ?_
    refine xr_iconst (n := 0) (by decide +kernel) ?_
    refine xr_callV (av := [(sh_r B), (sh_i x6), (sh_i (-1)), (sh_i 0)]) rfl rfl rfl mo_Spr_passNight ml_Spr_64 im_Spr_passNight se_Spr_passNight rfl (Nat.le_of_ble_eq_true rfl) (by decide +kernel) (sh_mono k ?_)
    rintro rv m1 ⟨rfl, k⟩
    show sh_X g (d + 1) m_Spr_go _ _ [] _ _
    refine xr_aload_n (n := 0) (i := 0) rfl (List.mem_of_getElem? (i := 0) rfl) (by decide +kernel) ?_
    refine xr_aload_n (n := 1) (i := 1) rfl (List.mem_of_getElem? (i := 1) rfl) (by decide +kernel) ?_
    refine xr_iload_n (n := 2) (i := 2) rfl (List.mem_of_getElem? (i := 2) rfl) (by decide +kernel) ?_
    refine xr_iconst (n := 1) (by decide +kernel) ?_
    refine xr_iadd (by decide +kernel) ?_
    show sh_X g (d + 1) m_Spr_go _ _ ((sh_i (night + 1)) :: _) _ _
    refine xr_iload_n (n := 3) (i := 3) rfl (List.mem_of_getElem? (i := 3) rfl) (by decide +kernel) ?_
    refine xr_iload (i := 4) (List.mem_of_getElem? (i := 4) rfl) (by decide +kernel) ?_
    refine xr_iload (i := 5) (List.mem_of_getElem? (i := 5) rfl) (by decide +kernel) ?_
    refine xr_callV (av := [(sh_r B), (sh_i (night + 1)), (sh_i joy), (sh_i guilt), (sh_i firstDay)]) rfl rfl rfl mo_Spr_go ml_Spr_50 im_Spr_go se_Spr_go rfl (Nat.le_of_ble_eq_true rfl) (by decide +kernel) (sh_mono k ?_)
    rintro rv m2 ⟨rfl, k⟩
    show sh_X g (d + 1) m_Spr_go _ _ [] _ _
    exact xr_ret rfl (by decide +kernel) k
  · have k := k.2 c1
    refine xr_aload_n (n := 0) (i := 0) rfl (List.mem_of_getElem? (i := 0) rfl) (by decide +kernel) ?_
    refine xr_getR (o := 1) rfl fl_Spr_9 rfl (by decide +kernel) ?_
    show sh_X g (d + 1) m_Spr_go _ _ ((sh_r 19) :: _) _ _
    refine xr_iload (i := 6) (List.mem_of_getElem? (i := 6) rfl) (by decide +kernel) ?_
    refine xr_iload (i := 7) (List.mem_of_getElem? (i := 7) rfl) (by decide +kernel) ?_
    refine xr_iadd (by decide +kernel) ?_
    show sh_X g (d + 1) m_Spr_go _ _ ((sh_i (x6 + (x7 : Int))) :: _) _ _
    obtain ⟨o, k⟩ := k
    refine xr_iald rfl o.1 o.2 (by decide +kernel) ?_
    refine xr_if_le (a' := (i3 (mem 19 ((x6 + (x7 : Int))).toNat))) rfl (off := 81) (tgt := 150) (by decide) (by decide +kernel) ⟨fun c2 => ?_, fun c2 => ?_⟩
    · have k := k.1 c2
      refine xr_iinc (n := 1) (lo' := [(7, (sh_i (((x7 + 1) : Nat) : Int))), (0, (sh_r 18)), (1, (sh_r B)), (2, (sh_i night)), (3, (sh_i joy)), (4, (sh_i guilt)), (5, (sh_i firstDay)), (6, (sh_i x6))]) (List.mem_of_getElem? (i := 7) rfl) (by decide) rfl (by decide +kernel) ?_
      refine xr_goto (off := (-103)) (tgt := 50) (by decide) (by decide +kernel) ?_
      refine xr_sub (lo' := [(0, (sh_r 18)), (1, (sh_r B)), (2, (sh_i night)), (3, (sh_i joy)), (4, (sh_i guilt)), (5, (sh_i firstDay)), (6, (sh_i x6)), (7, (sh_i (((x7 + 1) : Nat) : Int)))]) [1, 2, 3, 4, 5, 6, 7, 0] rfl ?_
      exact k
    · have k := k.2 c2
      refine xr_aload_n (n := 0) (i := 0) rfl (List.mem_of_getElem? (i := 0) rfl) (by decide +kernel) ?_
      refine xr_getR (o := 2) rfl fl_Spr_15 rfl (by decide +kernel) ?_
      show sh_X g (d + 1) m_Spr_go _ _ ((sh_r 20) :: _) _ _
      refine xr_iload (i := 6) (List.mem_of_getElem? (i := 6) rfl) (by decide +kernel) ?_
      refine xr_iload (i := 7) (List.mem_of_getElem? (i := 7) rfl) (by decide +kernel) ?_
      refine xr_iadd (by decide +kernel) ?_
      show sh_X g (d + 1) m_Spr_go _ _ ((sh_i (x6 + (x7 : Int))) :: _) _ _
      obtain ⟨o, k⟩ := k
      refine xr_iald rfl o.1 o.2 (by decide +kernel) ?_
      refine xr_aload_n (n := 0) (i := 0) rfl (List.mem_of_getElem? (i := 0) rfl) (by decide +kernel) ?_
      refine xr_getI rfl fl_Spr_23 (by decide) (by decide +kernel) ?_
      refine xr_icmp_gt (a' := (i3 (mem 20 ((x6 + (x7 : Int))).toNat))) (b' := (i3 (mem 18 2))) rfl rfl (off := 64) (tgt := 150) (by decide) (by decide +kernel) ⟨fun c3 => ?_, fun c3 => ?_⟩
      · have k := k.1 c3
        refine xr_iinc (n := 1) (lo' := [(7, (sh_i (((x7 + 1) : Nat) : Int))), (0, (sh_r 18)), (1, (sh_r B)), (2, (sh_i night)), (3, (sh_i joy)), (4, (sh_i guilt)), (5, (sh_i firstDay)), (6, (sh_i x6))]) (List.mem_of_getElem? (i := 7) rfl) (by decide) rfl (by decide +kernel) ?_
        refine xr_goto (off := (-103)) (tgt := 50) (by decide) (by decide +kernel) ?_
        refine xr_sub (lo' := [(0, (sh_r 18)), (1, (sh_r B)), (2, (sh_i night)), (3, (sh_i joy)), (4, (sh_i guilt)), (5, (sh_i firstDay)), (6, (sh_i x6)), (7, (sh_i (((x7 + 1) : Nat) : Int)))]) [1, 2, 3, 4, 5, 6, 7, 0] rfl ?_
        exact k
      · have k := k.2 c3
        refine xr_aload_n (n := 0) (i := 0) rfl (List.mem_of_getElem? (i := 0) rfl) (by decide +kernel) ?_
        refine xr_getI rfl fl_Spr_30 (by decide) (by decide +kernel) ?_
        refine xr_aload_n (n := 0) (i := 0) rfl (List.mem_of_getElem? (i := 0) rfl) (by decide +kernel) ?_
        refine xr_getR (o := 1) rfl fl_Spr_9 rfl (by decide +kernel) ?_
        show sh_X g (d + 1) m_Spr_go _ _ ((sh_r 19) :: _) _ _
        refine xr_iload (i := 6) (List.mem_of_getElem? (i := 6) rfl) (by decide +kernel) ?_
        refine xr_iload (i := 7) (List.mem_of_getElem? (i := 7) rfl) (by decide +kernel) ?_
        refine xr_iadd (by decide +kernel) ?_
        show sh_X g (d + 1) m_Spr_go _ _ ((sh_i (x6 + (x7 : Int))) :: _) _ _
        obtain ⟨o, k⟩ := k
        refine xr_iald rfl o.1 o.2 (by decide +kernel) ?_
        refine xr_mmin ml_Spr_58 (Nat.le_of_ble_eq_true rfl) (by decide +kernel) ?_
        refine xr_istore (i := 8) (by decide) rfl (by decide +kernel) ?_
        refine xr_aload_n (n := 0) (i := 0) rfl (List.mem_of_getElem? (i := 1) rfl) (by decide +kernel) ?_
        refine xr_aload_n (n := 1) (i := 1) rfl (List.mem_of_getElem? (i := 2) rfl) (by decide +kernel) ?_
        refine xr_iload (i := 6) (List.mem_of_getElem? (i := 7) rfl) (by decide +kernel) ?_
        refine xr_iload (i := 7) (List.mem_of_getElem? (i := 8) rfl) (by decide +kernel) ?_
        refine xr_iload (i := 8) (List.mem_of_getElem? (i := 0) rfl) (by decide +kernel) ?_
        refine xr_callV (av := [(sh_r B), (sh_i x6), (sh_i (x7 : Int)), (sh_i (if (i3 (mem 19 ((x6 + (x7 : Int))).toNat)) < (i3 (mem 18 3)) then (mem 19 ((x6 + (x7 : Int))).toNat) else (mem 18 3)))]) rfl rfl rfl mo_Spr_passNight ml_Spr_64 im_Spr_passNight se_Spr_passNight rfl (Nat.le_of_ble_eq_true rfl) (by decide +kernel) (sh_mono k ?_)
        rintro rv m3 ⟨rfl, k⟩
        show sh_X g (d + 1) m_Spr_go _ _ [] _ _
        refine xr_aload_n (n := 0) (i := 0) rfl (List.mem_of_getElem? (i := 1) rfl) (by decide +kernel) ?_
        refine xr_aload_n (n := 1) (i := 1) rfl (List.mem_of_getElem? (i := 2) rfl) (by decide +kernel) ?_
        refine xr_iload_n (n := 2) (i := 2) rfl (List.mem_of_getElem? (i := 3) rfl) (by decide +kernel) ?_
        refine xr_iconst (n := 1) (by decide +kernel) ?_
        refine xr_iadd (by decide +kernel) ?_
        show sh_X g (d + 1) m_Spr_go _ _ ((sh_i (night + 1)) :: _) _ _
        refine xr_iload_n (n := 3) (i := 3) rfl (List.mem_of_getElem? (i := 4) rfl) (by decide +kernel) ?_
        refine xr_iconst (n := 0) (by decide +kernel) ?_
        refine xr_iload (i := 8) (List.mem_of_getElem? (i := 0) rfl) (by decide +kernel) ?_
        refine xr_iload (i := 4) (List.mem_of_getElem? (i := 5) rfl) (by decide +kernel) ?_
        refine xr_isub (by decide +kernel) ?_
        show sh_X g (d + 1) m_Spr_go _ _ ((sh_i ((if (i3 (mem 19 ((x6 + (x7 : Int))).toNat)) < (i3 (mem 18 3)) then (mem 19 ((x6 + (x7 : Int))).toNat) else (mem 18 3)) - guilt)) :: _) _ _
        refine xr_mmax ml_Spr_68 (Nat.le_of_ble_eq_true rfl) (by decide +kernel) ?_
        refine xr_iadd (by decide +kernel) ?_
        show sh_X g (d + 1) m_Spr_go _ _ ((sh_i (joy + (if (i3 0) < (i3 ((if (i3 (mem 19 ((x6 + (x7 : Int))).toNat)) < (i3 (mem 18 3)) then (mem 19 ((x6 + (x7 : Int))).toNat) else (mem 18 3)) - guilt)) then ((if (i3 (mem 19 ((x6 + (x7 : Int))).toNat)) < (i3 (mem 18 3)) then (mem 19 ((x6 + (x7 : Int))).toNat) else (mem 18 3)) - guilt) else (0 : Int)))) :: _) _ _
        refine xr_iconst (n := 0) (by decide +kernel) ?_
        refine xr_iload_n (n := 2) (i := 2) rfl (List.mem_of_getElem? (i := 3) rfl) (by decide +kernel) ?_
        refine xr_if_ne (a' := (i3 night)) rfl (off := 8) (tgt := 145) (by decide) (by decide +kernel) ⟨fun c4 => ?_, fun c4 => ?_⟩
        · have k := k.1 c4
          refine xr_iload (i := 5) (List.mem_of_getElem? (i := 6) rfl) (by decide +kernel) ?_
          refine xr_callV (av := [(sh_r B), (sh_i (night + 1)), (sh_i (joy + (if (i3 0) < (i3 ((if (i3 (mem 19 ((x6 + (x7 : Int))).toNat)) < (i3 (mem 18 3)) then (mem 19 ((x6 + (x7 : Int))).toNat) else (mem 18 3)) - guilt)) then ((if (i3 (mem 19 ((x6 + (x7 : Int))).toNat)) < (i3 (mem 18 3)) then (mem 19 ((x6 + (x7 : Int))).toNat) else (mem 18 3)) - guilt) else (0 : Int)))), (sh_i 0), (sh_i firstDay)]) rfl rfl rfl mo_Spr_go ml_Spr_50 im_Spr_go se_Spr_go rfl (Nat.le_of_ble_eq_true rfl) (by decide +kernel) (sh_mono k ?_)
          rintro rv m4 ⟨rfl, k⟩
          show sh_X g (d + 1) m_Spr_go _ _ [] _ _
          refine xr_iinc (n := 1) (lo' := [(7, (sh_i (((x7 + 1) : Nat) : Int))), (8, (sh_i (if (i3 (mem 19 ((x6 + (x7 : Int))).toNat)) < (i3 (mem 18 3)) then (mem 19 ((x6 + (x7 : Int))).toNat) else (mem 18 3)))), (0, (sh_r 18)), (1, (sh_r B)), (2, (sh_i night)), (3, (sh_i joy)), (4, (sh_i guilt)), (5, (sh_i firstDay)), (6, (sh_i x6))]) (List.mem_of_getElem? (i := 8) rfl) (by decide) rfl (by decide +kernel) ?_
          refine xr_goto (off := (-103)) (tgt := 50) (by decide) (by decide +kernel) ?_
          refine xr_sub (lo' := [(0, (sh_r 18)), (1, (sh_r B)), (2, (sh_i night)), (3, (sh_i joy)), (4, (sh_i guilt)), (5, (sh_i firstDay)), (6, (sh_i x6)), (7, (sh_i (((x7 + 1) : Nat) : Int)))]) [2, 3, 4, 5, 6, 7, 8, 0] rfl ?_
          exact k
        · have k := k.2 c4
          refine xr_iload (i := 7) (List.mem_of_getElem? (i := 8) rfl) (by decide +kernel) ?_
          refine xr_goto (off := 5) (tgt := 147) (by decide) (by decide +kernel) ?_
          refine xr_callV (av := [(sh_r B), (sh_i (night + 1)), (sh_i (joy + (if (i3 0) < (i3 ((if (i3 (mem 19 ((x6 + (x7 : Int))).toNat)) < (i3 (mem 18 3)) then (mem 19 ((x6 + (x7 : Int))).toNat) else (mem 18 3)) - guilt)) then ((if (i3 (mem 19 ((x6 + (x7 : Int))).toNat)) < (i3 (mem 18 3)) then (mem 19 ((x6 + (x7 : Int))).toNat) else (mem 18 3)) - guilt) else (0 : Int)))), (sh_i 0), (sh_i (x7 : Int))]) rfl rfl rfl mo_Spr_go ml_Spr_50 im_Spr_go se_Spr_go rfl (Nat.le_of_ble_eq_true rfl) (by decide +kernel) (sh_mono k ?_)
          rintro rv m5 ⟨rfl, k⟩
          show sh_X g (d + 1) m_Spr_go _ _ [] _ _
          refine xr_iinc (n := 1) (lo' := [(7, (sh_i (((x7 + 1) : Nat) : Int))), (8, (sh_i (if (i3 (mem 19 ((x6 + (x7 : Int))).toNat)) < (i3 (mem 18 3)) then (mem 19 ((x6 + (x7 : Int))).toNat) else (mem 18 3)))), (0, (sh_r 18)), (1, (sh_r B)), (2, (sh_i night)), (3, (sh_i joy)), (4, (sh_i guilt)), (5, (sh_i firstDay)), (6, (sh_i x6))]) (List.mem_of_getElem? (i := 8) rfl) (by decide) rfl (by decide +kernel) ?_
          refine xr_goto (off := (-103)) (tgt := 50) (by decide) (by decide +kernel) ?_
          refine xr_sub (lo' := [(0, (sh_r 18)), (1, (sh_r B)), (2, (sh_i night)), (3, (sh_i joy)), (4, (sh_i guilt)), (5, (sh_i firstDay)), (6, (sh_i x6)), (7, (sh_i (((x7 + 1) : Nat) : Int)))]) [2, 3, 4, 5, 6, 7, 8, 0] rfl ?_
          exact k

theorem v_Spr_hope {g : sh_G} {d : Nat} {B : Nat} {night : Int}  {mem : sh_Mem} {Q : Option sh_V → sh_Mem → Prop} (hB : ob0 B) (k : sh_X g (d + 1) m_Spr_hope 11 [(0, (sh_r 18)), (1, (sh_r B)), (2, (sh_i night)), (3, (sh_i (night * 8))), (4, (sh_i 0)), (5, (sh_i 0))] [] mem (sh_K m_Spr_hope Q)) : sh_Cal g (d + 1) m_Spr_hope [(sh_r 18), (sh_r B), (sh_i night)] mem Q := by
  refine sh_met (by decide +kernel) (Nat.le_of_ble_eq_true rfl) (lo := [(0, (sh_r 18)), (1, (sh_r B)), (2, (sh_i night))]) rfl ?_
  refine xr_iload_n (n := 2) (i := 2) rfl (List.mem_of_getElem? (i := 2) rfl) (by decide +kernel) ?_
  refine xr_bipush (n := 8) (v := 8) (by decide) (by decide +kernel) ?_
  refine xr_imul (by decide +kernel) ?_
  show sh_X g (d + 1) m_Spr_hope _ _ ((sh_i (night * 8)) :: _) _ _
  refine xr_istore_n (n := 3) (i := 3) rfl (by decide) rfl (by decide +kernel) ?_
  refine xr_iconst (n := 0) (by decide +kernel) ?_
  refine xr_istore (i := 4) (by decide) rfl (by decide +kernel) ?_
  refine xr_iconst (n := 0) (by decide +kernel) ?_
  refine xr_istore (i := 5) (by decide) rfl (by decide +kernel) ?_
  refine xr_sub (lo' := [(0, (sh_r 18)), (1, (sh_r B)), (2, (sh_i night)), (3, (sh_i (night * 8))), (4, (sh_i 0)), (5, (sh_i 0))]) [3, 4, 5, 2, 1, 0] rfl ?_
  exact k
theorem v_Spr_hope_11 {g : sh_G} {d : Nat} {B : Nat} {night : Int}  {mem : sh_Mem} {Q : Option sh_V → sh_Mem → Prop} (hB : ob0 B) {x3 : Int} {x4 : Int} {x5 : Nat} (k : (((i3 ((mem 18 4) - night)) ≤ (i3 (x5 : Int)) → Q (some (sh_i x4)) mem) ∧ (¬ (i3 ((mem 18 4) - night)) ≤ (i3 (x5 : Int)) → sh_X g (d + 1) m_Spr_hope 28 [(0, (sh_r 18)), (1, (sh_r B)), (2, (sh_i night)), (3, (sh_i x3)), (4, (sh_i x4)), (5, (sh_i (x5 : Int))), (6, (sh_i 0)), (7, (sh_i 0))] [] mem (sh_K m_Spr_hope Q)))) : sh_X g (d + 1) m_Spr_hope 11 [(0, (sh_r 18)), (1, (sh_r B)), (2, (sh_i night)), (3, (sh_i x3)), (4, (sh_i x4)), (5, (sh_i (x5 : Int)))] [] mem (sh_K m_Spr_hope Q) := by
  refine xr_iload (i := 5) (List.mem_of_getElem? (i := 5) rfl) (by decide +kernel) ?_
  refine xr_aload_n (n := 0) (i := 0) rfl (List.mem_of_getElem? (i := 0) rfl) (by decide +kernel) ?_
  refine xr_getI rfl fl_Spr_33 (by decide) (by decide +kernel) ?_
  refine xr_iload_n (n := 2) (i := 2) rfl (List.mem_of_getElem? (i := 2) rfl) (by decide +kernel) ?_
  refine xr_isub (by decide +kernel) ?_
  show sh_X g (d + 1) m_Spr_hope _ _ ((sh_i ((mem 18 4) - night)) :: _) _ _
  refine xr_icmp_ge (a' := (i3 (x5 : Int))) (b' := (i3 ((mem 18 4) - night))) rfl rfl (off := 102) (tgt := 121) (by decide) (by decide +kernel) ⟨fun c1 => ?_, fun c1 => ?_⟩
  · have k := k.1 c1
    refine xr_iload (i := 4) (List.mem_of_getElem? (i := 4) rfl) (by decide +kernel) ?_
    exact xr_iret rfl (by decide +kernel) k
  · have k := k.2 c1
    refine xr_iconst (n := 0) (by decide +kernel) ?_
    refine xr_istore (i := 6) (by decide) rfl (by decide +kernel) ?_
    refine xr_iconst (n := 0) (by decide +kernel) ?_
    refine xr_istore (i := 7) (by decide) rfl (by decide +kernel) ?_
    refine xr_sub (lo' := [(0, (sh_r 18)), (1, (sh_r B)), (2, (sh_i night)), (3, (sh_i x3)), (4, (sh_i x4)), (5, (sh_i (x5 : Int))), (6, (sh_i 0)), (7, (sh_i 0))]) [2, 3, 4, 5, 6, 7, 1, 0] rfl ?_
    exact k
theorem v_Spr_hope_28 {g : sh_G} {d : Nat} {B : Nat} {night : Int}  {mem : sh_Mem} {Q : Option sh_V → sh_Mem → Prop} (hB : ob0 B) {x3 : Int} {x4 : Int} {x5 : Nat} {x6 : Int} {x7 : Nat} (k : (((i3 (mem B 0)) ≤ (i3 (x7 : Int)) → sh_X g (d + 1) m_Spr_hope 11 [(0, (sh_r 18)), (1, (sh_r B)), (2, (sh_i night)), (3, (sh_i x3)), (4, (sh_i (x4 + x6))), (5, (sh_i (((x5 + 1) : Nat) : Int)))] [] mem (sh_K m_Spr_hope Q)) ∧ (¬ (i3 (mem B 0)) ≤ (i3 (x7 : Int)) → (x7 < 8 ∧ ((0 ≤ (x3 + (x7 : Int)) ∧ (x3 + (x7 : Int)) < 48) ∧ (((i3 (mem 18 2)) < (i3 (if (i3 (mem (B + 4) x7)) < (i3 ((mem 20 ((x3 + (x7 : Int))).toNat) - (x5 : Int))) then ((mem 20 ((x3 + (x7 : Int))).toNat) - (x5 : Int)) else (mem (B + 4) x7))) → sh_X g (d + 1) m_Spr_hope 28 [(0, (sh_r 18)), (1, (sh_r B)), (2, (sh_i night)), (3, (sh_i x3)), (4, (sh_i x4)), (5, (sh_i (x5 : Int))), (6, (sh_i x6)), (7, (sh_i (((x7 + 1) : Nat) : Int)))] [] mem (sh_K m_Spr_hope Q)) ∧ (¬ (i3 (mem 18 2)) < (i3 (if (i3 (mem (B + 4) x7)) < (i3 ((mem 20 ((x3 + (x7 : Int))).toNat) - (x5 : Int))) then ((mem 20 ((x3 + (x7 : Int))).toNat) - (x5 : Int)) else (mem (B + 4) x7))) → (x7 < 8 ∧ ((0 ≤ (x3 + (x7 : Int)) ∧ (x3 + (x7 : Int)) < 48) ∧ sh_X g (d + 1) m_Spr_hope 28 [(0, (sh_r 18)), (1, (sh_r B)), (2, (sh_i night)), (3, (sh_i x3)), (4, (sh_i x4)), (5, (sh_i (x5 : Int))), (6, (sh_i (if (i3 x6) < (i3 (if (i3 (if (i3 ((mem 19 ((x3 + (x7 : Int))).toNat) + (x5 : Int))) < (i3 (mem (B + 3) x7)) then ((mem 19 ((x3 + (x7 : Int))).toNat) + (x5 : Int)) else (mem (B + 3) x7))) < (i3 (mem 18 3)) then (if (i3 ((mem 19 ((x3 + (x7 : Int))).toNat) + (x5 : Int))) < (i3 (mem (B + 3) x7)) then ((mem 19 ((x3 + (x7 : Int))).toNat) + (x5 : Int)) else (mem (B + 3) x7)) else (mem 18 3))) then (if (i3 (if (i3 ((mem 19 ((x3 + (x7 : Int))).toNat) + (x5 : Int))) < (i3 (mem (B + 3) x7)) then ((mem 19 ((x3 + (x7 : Int))).toNat) + (x5 : Int)) else (mem (B + 3) x7))) < (i3 (mem 18 3)) then (if (i3 ((mem 19 ((x3 + (x7 : Int))).toNat) + (x5 : Int))) < (i3 (mem (B + 3) x7)) then ((mem 19 ((x3 + (x7 : Int))).toNat) + (x5 : Int)) else (mem (B + 3) x7)) else (mem 18 3)) else x6))), (7, (sh_i (((x7 + 1) : Nat) : Int)))] [] mem (sh_K m_Spr_hope Q)))))))))) : sh_X g (d + 1) m_Spr_hope 28 [(0, (sh_r 18)), (1, (sh_r B)), (2, (sh_i night)), (3, (sh_i x3)), (4, (sh_i x4)), (5, (sh_i (x5 : Int))), (6, (sh_i x6)), (7, (sh_i (x7 : Int)))] [] mem (sh_K m_Spr_hope Q) := by
  refine xr_iload (i := 7) (List.mem_of_getElem? (i := 7) rfl) (by decide +kernel) ?_
  refine xr_aload_n (n := 1) (i := 1) rfl (List.mem_of_getElem? (i := 1) rfl) (by decide +kernel) ?_
  refine xr_getI (ob0_0 hB) fl_Spr_42 (by decide) (by decide +kernel) ?_
  refine xr_icmp_ge (a' := (i3 (x7 : Int))) (b' := (i3 (mem B 0))) rfl rfl (off := 74) (tgt := 108) (by decide) (by decide +kernel) ⟨fun c1 => ?_, fun c1 => ?_⟩
  · have k := k.1 c1
    refine xr_iload (i := 4) (List.mem_of_getElem? (i := 4) rfl) (by decide +kernel) ?_
    refine xr_iload (i := 6) (List.mem_of_getElem? (i := 6) rfl) (by decide +kernel) ?_
    refine xr_iadd (by decide +kernel) ?_
    show sh_X g (d + 1) m_Spr_hope _ _ ((sh_i (x4 + x6)) :: _) _ _
    refine xr_istore (i := 4) (by decide) rfl (by decide +kernel) ?_
    refine xr_iinc (n := 1) (lo' := [(5, (sh_i (((x5 + 1) : Nat) : Int))), (4, (sh_i (x4 + x6))), (0, (sh_r 18)), (1, (sh_r B)), (2, (sh_i night)), (3, (sh_i x3)), (6, (sh_i x6)), (7, (sh_i (x7 : Int)))]) (List.mem_of_getElem? (i := 5) rfl) (by decide) rfl (by decide +kernel) ?_
    refine xr_goto (off := (-107)) (tgt := 11) (by decide) (by decide +kernel) ?_
    refine xr_sub (lo' := [(0, (sh_r 18)), (1, (sh_r B)), (2, (sh_i night)), (3, (sh_i x3)), (4, (sh_i (x4 + x6))), (5, (sh_i (((x5 + 1) : Nat) : Int)))]) [2, 3, 4, 5, 1, 0] rfl ?_
    exact k
  · have k := k.2 c1
    refine xr_aload_n (n := 1) (i := 1) rfl (List.mem_of_getElem? (i := 1) rfl) (by decide +kernel) ?_
    refine xr_getR (o := 4) (ob0_0 hB) fl_Spr_71 rfl (by decide +kernel) ?_
    show sh_X g (d + 1) m_Spr_hope _ _ ((sh_r (B + 4)) :: _) _ _
    refine xr_iload (i := 7) (List.mem_of_getElem? (i := 7) rfl) (by decide +kernel) ?_
    obtain ⟨o, k⟩ := k
    refine xr_ialdN (j := x7) rfl (ob0_4 hB) o (by decide +kernel) ?_
    refine xr_aload_n (n := 0) (i := 0) rfl (List.mem_of_getElem? (i := 0) rfl) (by decide +kernel) ?_
    refine xr_getR (o := 2) rfl fl_Spr_15 rfl (by decide +kernel) ?_
    show sh_X g (d + 1) m_Spr_hope _ _ ((sh_r 20) :: _) _ _
    refine xr_iload_n (n := 3) (i := 3) rfl (List.mem_of_getElem? (i := 3) rfl) (by decide +kernel) ?_
    refine xr_iload (i := 7) (List.mem_of_getElem? (i := 7) rfl) (by decide +kernel) ?_
    refine xr_iadd (by decide +kernel) ?_
    show sh_X g (d + 1) m_Spr_hope _ _ ((sh_i (x3 + (x7 : Int))) :: _) _ _
    obtain ⟨o, k⟩ := k
    refine xr_iald rfl o.1 o.2 (by decide +kernel) ?_
    refine xr_iload (i := 5) (List.mem_of_getElem? (i := 5) rfl) (by decide +kernel) ?_
    refine xr_isub (by decide +kernel) ?_
    show sh_X g (d + 1) m_Spr_hope _ _ ((sh_i ((mem 20 ((x3 + (x7 : Int))).toNat) - (x5 : Int))) :: _) _ _
    refine xr_mmax ml_Spr_68 (Nat.le_of_ble_eq_true rfl) (by decide +kernel) ?_
    refine xr_aload_n (n := 0) (i := 0) rfl (List.mem_of_getElem? (i := 0) rfl) (by decide +kernel) ?_
    refine xr_getI rfl fl_Spr_23 (by decide) (by decide +kernel) ?_
    refine xr_icmp_gt (a' := (i3 (if (i3 (mem (B + 4) x7)) < (i3 ((mem 20 ((x3 + (x7 : Int))).toNat) - (x5 : Int))) then ((mem 20 ((x3 + (x7 : Int))).toNat) - (x5 : Int)) else (mem (B + 4) x7)))) (b' := (i3 (mem 18 2))) rfl rfl (off := 39) (tgt := 102) (by decide) (by decide +kernel) ⟨fun c2 => ?_, fun c2 => ?_⟩
    · have k := k.1 c2
      refine xr_iinc (n := 1) (lo' := [(7, (sh_i (((x7 + 1) : Nat) : Int))), (0, (sh_r 18)), (1, (sh_r B)), (2, (sh_i night)), (3, (sh_i x3)), (4, (sh_i x4)), (5, (sh_i (x5 : Int))), (6, (sh_i x6))]) (List.mem_of_getElem? (i := 7) rfl) (by decide) rfl (by decide +kernel) ?_
      refine xr_goto (off := (-77)) (tgt := 28) (by decide) (by decide +kernel) ?_
      refine xr_sub (lo' := [(0, (sh_r 18)), (1, (sh_r B)), (2, (sh_i night)), (3, (sh_i x3)), (4, (sh_i x4)), (5, (sh_i (x5 : Int))), (6, (sh_i x6)), (7, (sh_i (((x7 + 1) : Nat) : Int)))]) [1, 2, 3, 4, 5, 6, 7, 0] rfl ?_
      exact k
    · have k := k.2 c2
      refine xr_iload (i := 6) (List.mem_of_getElem? (i := 6) rfl) (by decide +kernel) ?_
      refine xr_aload_n (n := 0) (i := 0) rfl (List.mem_of_getElem? (i := 0) rfl) (by decide +kernel) ?_
      refine xr_getI rfl fl_Spr_30 (by decide) (by decide +kernel) ?_
      refine xr_aload_n (n := 1) (i := 1) rfl (List.mem_of_getElem? (i := 1) rfl) (by decide +kernel) ?_
      refine xr_getR (o := 3) (ob0_0 hB) fl_Spr_74 rfl (by decide +kernel) ?_
      show sh_X g (d + 1) m_Spr_hope _ _ ((sh_r (B + 3)) :: _) _ _
      refine xr_iload (i := 7) (List.mem_of_getElem? (i := 7) rfl) (by decide +kernel) ?_
      obtain ⟨o, k⟩ := k
      refine xr_ialdN (j := x7) rfl (ob0_3 hB) o (by decide +kernel) ?_
      refine xr_aload_n (n := 0) (i := 0) rfl (List.mem_of_getElem? (i := 0) rfl) (by decide +kernel) ?_
      refine xr_getR (o := 1) rfl fl_Spr_9 rfl (by decide +kernel) ?_
      show sh_X g (d + 1) m_Spr_hope _ _ ((sh_r 19) :: _) _ _
      refine xr_iload_n (n := 3) (i := 3) rfl (List.mem_of_getElem? (i := 3) rfl) (by decide +kernel) ?_
      refine xr_iload (i := 7) (List.mem_of_getElem? (i := 7) rfl) (by decide +kernel) ?_
      refine xr_iadd (by decide +kernel) ?_
      show sh_X g (d + 1) m_Spr_hope _ _ ((sh_i (x3 + (x7 : Int))) :: _) _ _
      obtain ⟨o, k⟩ := k
      refine xr_iald rfl o.1 o.2 (by decide +kernel) ?_
      refine xr_iload (i := 5) (List.mem_of_getElem? (i := 5) rfl) (by decide +kernel) ?_
      refine xr_iadd (by decide +kernel) ?_
      show sh_X g (d + 1) m_Spr_hope _ _ ((sh_i ((mem 19 ((x3 + (x7 : Int))).toNat) + (x5 : Int))) :: _) _ _
      refine xr_mmin ml_Spr_58 (Nat.le_of_ble_eq_true rfl) (by decide +kernel) ?_
      refine xr_mmin ml_Spr_58 (Nat.le_of_ble_eq_true rfl) (by decide +kernel) ?_
      refine xr_mmax ml_Spr_68 (Nat.le_of_ble_eq_true rfl) (by decide +kernel) ?_
      refine xr_istore (i := 6) (by decide) rfl (by decide +kernel) ?_
      refine xr_iinc (n := 1) (lo' := [(7, (sh_i (((x7 + 1) : Nat) : Int))), (6, (sh_i (if (i3 x6) < (i3 (if (i3 (if (i3 ((mem 19 ((x3 + (x7 : Int))).toNat) + (x5 : Int))) < (i3 (mem (B + 3) x7)) then ((mem 19 ((x3 + (x7 : Int))).toNat) + (x5 : Int)) else (mem (B + 3) x7))) < (i3 (mem 18 3)) then (if (i3 ((mem 19 ((x3 + (x7 : Int))).toNat) + (x5 : Int))) < (i3 (mem (B + 3) x7)) then ((mem 19 ((x3 + (x7 : Int))).toNat) + (x5 : Int)) else (mem (B + 3) x7)) else (mem 18 3))) then (if (i3 (if (i3 ((mem 19 ((x3 + (x7 : Int))).toNat) + (x5 : Int))) < (i3 (mem (B + 3) x7)) then ((mem 19 ((x3 + (x7 : Int))).toNat) + (x5 : Int)) else (mem (B + 3) x7))) < (i3 (mem 18 3)) then (if (i3 ((mem 19 ((x3 + (x7 : Int))).toNat) + (x5 : Int))) < (i3 (mem (B + 3) x7)) then ((mem 19 ((x3 + (x7 : Int))).toNat) + (x5 : Int)) else (mem (B + 3) x7)) else (mem 18 3)) else x6))), (0, (sh_r 18)), (1, (sh_r B)), (2, (sh_i night)), (3, (sh_i x3)), (4, (sh_i x4)), (5, (sh_i (x5 : Int)))]) (List.mem_of_getElem? (i := 7) rfl) (by decide) rfl (by decide +kernel) ?_
      refine xr_goto (off := (-77)) (tgt := 28) (by decide) (by decide +kernel) ?_
      refine xr_sub (lo' := [(0, (sh_r 18)), (1, (sh_r B)), (2, (sh_i night)), (3, (sh_i x3)), (4, (sh_i x4)), (5, (sh_i (x5 : Int))), (6, (sh_i (if (i3 x6) < (i3 (if (i3 (if (i3 ((mem 19 ((x3 + (x7 : Int))).toNat) + (x5 : Int))) < (i3 (mem (B + 3) x7)) then ((mem 19 ((x3 + (x7 : Int))).toNat) + (x5 : Int)) else (mem (B + 3) x7))) < (i3 (mem 18 3)) then (if (i3 ((mem 19 ((x3 + (x7 : Int))).toNat) + (x5 : Int))) < (i3 (mem (B + 3) x7)) then ((mem 19 ((x3 + (x7 : Int))).toNat) + (x5 : Int)) else (mem (B + 3) x7)) else (mem 18 3))) then (if (i3 (if (i3 ((mem 19 ((x3 + (x7 : Int))).toNat) + (x5 : Int))) < (i3 (mem (B + 3) x7)) then ((mem 19 ((x3 + (x7 : Int))).toNat) + (x5 : Int)) else (mem (B + 3) x7))) < (i3 (mem 18 3)) then (if (i3 ((mem 19 ((x3 + (x7 : Int))).toNat) + (x5 : Int))) < (i3 (mem (B + 3) x7)) then ((mem 19 ((x3 + (x7 : Int))).toNat) + (x5 : Int)) else (mem (B + 3) x7)) else (mem 18 3)) else x6))), (7, (sh_i (((x7 + 1) : Nat) : Int)))]) [2, 3, 4, 5, 6, 7, 1, 0] rfl ?_
      exact k

theorem v_Spr_passNight {g : sh_G} {d : Nat} {B : Nat} {base : Nat} {robbed : Int} {much : Int}  {mem : sh_Mem} {Q : Option sh_V → sh_Mem → Prop} (hB : ob0 B) (k : sh_X g (d + 1) m_Spr_passNight 9 [(0, (sh_r 18)), (1, (sh_r B)), (2, (sh_i (base : Int))), (3, (sh_i robbed)), (4, (sh_i much)), (5, (sh_i (((base + 8) : Nat) : Int))), (6, (sh_i 0))] [] mem (sh_K m_Spr_passNight Q)) : sh_Cal g (d + 1) m_Spr_passNight [(sh_r 18), (sh_r B), (sh_i (base : Int)), (sh_i robbed), (sh_i much)] mem Q := by
  refine sh_met (by decide +kernel) (Nat.le_of_ble_eq_true rfl) (lo := [(0, (sh_r 18)), (1, (sh_r B)), (2, (sh_i (base : Int))), (3, (sh_i robbed)), (4, (sh_i much))]) rfl ?_
  refine xr_iload_n (n := 2) (i := 2) rfl (List.mem_of_getElem? (i := 2) rfl) (by decide +kernel) ?_
  refine xr_bipush (n := 8) (v := 8) (by decide) (by decide +kernel) ?_
  refine xr_iadd (by decide +kernel) ?_
  show sh_X g (d + 1) m_Spr_passNight _ _ ((sh_i (((base + 8) : Nat) : Int)) :: _) _ _
  refine xr_istore (i := 5) (by decide) rfl (by decide +kernel) ?_
  refine xr_iconst (n := 0) (by decide +kernel) ?_
  refine xr_istore (i := 6) (by decide) rfl (by decide +kernel) ?_
  refine xr_sub (lo' := [(0, (sh_r 18)), (1, (sh_r B)), (2, (sh_i (base : Int))), (3, (sh_i robbed)), (4, (sh_i much)), (5, (sh_i (((base + 8) : Nat) : Int))), (6, (sh_i 0))]) [2, 3, 4, 5, 6, 1, 0] rfl ?_
  exact k
theorem v_Spr_passNight_9 {g : sh_G} {d : Nat} {B : Nat} {base : Nat} {robbed : Int} {much : Int}  {mem : sh_Mem} {Q : Option sh_V → sh_Mem → Prop} (hB : ob0 B) {x5 : Int} {x6 : Nat} (k : (((i3 (mem B 0)) ≤ (i3 (x6 : Int)) → Q none mem) ∧ (¬ (i3 (mem B 0)) ≤ (i3 (x6 : Int)) → ((base + x6) < 48 ∧ ((base + x6) < 48 ∧ ((¬ (i3 (x6 : Int)) = (i3 robbed) → sh_X g (d + 1) m_Spr_passNight 64 [(0, (sh_r 18)), (1, (sh_r B)), (2, (sh_i (base : Int))), (3, (sh_i robbed)), (4, (sh_i much)), (5, (sh_i x5)), (6, (sh_i (x6 : Int))), (7, (sh_i (mem 19 (base + x6)))), (8, (sh_i (mem 20 (base + x6))))] [] mem (sh_K m_Spr_passNight Q)) ∧ ((i3 (x6 : Int)) = (i3 robbed) → sh_X g (d + 1) m_Spr_passNight 64 [(0, (sh_r 18)), (1, (sh_r B)), (2, (sh_i (base : Int))), (3, (sh_i robbed)), (4, (sh_i much)), (5, (sh_i x5)), (6, (sh_i (x6 : Int))), (7, (sh_i ((mem 19 (base + x6)) - much))), (8, (sh_i (if (i3 ((mem 20 (base + x6)) + 2)) < (i3 9) then ((mem 20 (base + x6)) + 2) else (9 : Int))))] [] mem (sh_K m_Spr_passNight Q)))))))) : sh_X g (d + 1) m_Spr_passNight 9 [(0, (sh_r 18)), (1, (sh_r B)), (2, (sh_i (base : Int))), (3, (sh_i robbed)), (4, (sh_i much)), (5, (sh_i x5)), (6, (sh_i (x6 : Int)))] [] mem (sh_K m_Spr_passNight Q) := by
  refine xr_iload (i := 6) (List.mem_of_getElem? (i := 6) rfl) (by decide +kernel) ?_
  refine xr_aload_n (n := 1) (i := 1) rfl (List.mem_of_getElem? (i := 1) rfl) (by decide +kernel) ?_
  refine xr_getI (ob0_0 hB) fl_Spr_42 (by decide) (by decide +kernel) ?_
  refine xr_icmp_ge (a' := (i3 (x6 : Int))) (b' := (i3 (mem B 0))) rfl rfl (off := 101) (tgt := 116) (by decide) (by decide +kernel) ⟨fun c1 => ?_, fun c1 => ?_⟩
  · have k := k.1 c1
    exact xr_ret rfl (by decide +kernel) k
  · have k := k.2 c1
    refine xr_aload_n (n := 0) (i := 0) rfl (List.mem_of_getElem? (i := 0) rfl) (by decide +kernel) ?_
    refine xr_getR (o := 1) rfl fl_Spr_9 rfl (by decide +kernel) ?_
    show sh_X g (d + 1) m_Spr_passNight _ _ ((sh_r 19) :: _) _ _
    refine xr_iload_n (n := 2) (i := 2) rfl (List.mem_of_getElem? (i := 2) rfl) (by decide +kernel) ?_
    refine xr_iload (i := 6) (List.mem_of_getElem? (i := 6) rfl) (by decide +kernel) ?_
    refine xr_iadd (by decide +kernel) ?_
    show sh_X g (d + 1) m_Spr_passNight _ _ ((sh_i (((base + x6) : Nat) : Int)) :: _) _ _
    obtain ⟨o, k⟩ := k
    refine xr_ialdN (j := (base + x6)) rfl rfl o (by decide +kernel) ?_
    refine xr_istore (i := 7) (by decide) rfl (by decide +kernel) ?_
    refine xr_aload_n (n := 0) (i := 0) rfl (List.mem_of_getElem? (i := 1) rfl) (by decide +kernel) ?_
    refine xr_getR (o := 2) rfl fl_Spr_15 rfl (by decide +kernel) ?_
    show sh_X g (d + 1) m_Spr_passNight _ _ ((sh_r 20) :: _) _ _
    refine xr_iload_n (n := 2) (i := 2) rfl (List.mem_of_getElem? (i := 3) rfl) (by decide +kernel) ?_
    refine xr_iload (i := 6) (List.mem_of_getElem? (i := 7) rfl) (by decide +kernel) ?_
    refine xr_iadd (by decide +kernel) ?_
    show sh_X g (d + 1) m_Spr_passNight _ _ ((sh_i (((base + x6) : Nat) : Int)) :: _) _ _
    obtain ⟨o, k⟩ := k
    refine xr_ialdN (j := (base + x6)) rfl rfl o (by decide +kernel) ?_
    refine xr_istore (i := 8) (by decide) rfl (by decide +kernel) ?_
    refine xr_iload (i := 6) (List.mem_of_getElem? (i := 8) rfl) (by decide +kernel) ?_
    refine xr_iload_n (n := 3) (i := 3) rfl (List.mem_of_getElem? (i := 5) rfl) (by decide +kernel) ?_
    refine xr_icmp_ne (a' := (i3 (x6 : Int))) (b' := (i3 robbed)) rfl rfl (off := 21) (tgt := 64) (by decide) (by decide +kernel) ⟨fun c2 => ?_, fun c2 => ?_⟩
    · have k := k.1 c2
      refine xr_sub (lo' := [(0, (sh_r 18)), (1, (sh_r B)), (2, (sh_i (base : Int))), (3, (sh_i robbed)), (4, (sh_i much)), (5, (sh_i x5)), (6, (sh_i (x6 : Int))), (7, (sh_i (mem 19 (base + x6)))), (8, (sh_i (mem 20 (base + x6))))]) [2, 3, 4, 5, 6, 7, 8, 1, 0] rfl ?_
      exact k
    · have k := k.2 c2
      refine xr_iload (i := 7) (List.mem_of_getElem? (i := 1) rfl) (by decide +kernel) ?_
      refine xr_iload (i := 4) (List.mem_of_getElem? (i := 6) rfl) (by decide +kernel) ?_
      refine xr_isub (by decide +kernel) ?_
      show sh_X g (d + 1) m_Spr_passNight _ _ ((sh_i ((mem 19 (base + x6)) - much)) :: _) _ _
      refine xr_istore (i := 7) (by decide) rfl (by decide +kernel) ?_
      refine xr_bipush (n := 9) (v := 9) (by decide) (by decide +kernel) ?_
      refine xr_iload (i := 8) (List.mem_of_getElem? (i := 1) rfl) (by decide +kernel) ?_
      refine xr_iconst (n := 2) (by decide +kernel) ?_
      refine xr_iadd (by decide +kernel) ?_
      show sh_X g (d + 1) m_Spr_passNight _ _ ((sh_i ((mem 20 (base + x6)) + 2)) :: _) _ _
      refine xr_mmin ml_Spr_58 (Nat.le_of_ble_eq_true rfl) (by decide +kernel) ?_
      refine xr_istore (i := 8) (by decide) rfl (by decide +kernel) ?_
      refine xr_sub (lo' := [(0, (sh_r 18)), (1, (sh_r B)), (2, (sh_i (base : Int))), (3, (sh_i robbed)), (4, (sh_i much)), (5, (sh_i x5)), (6, (sh_i (x6 : Int))), (7, (sh_i ((mem 19 (base + x6)) - much))), (8, (sh_i (if (i3 ((mem 20 (base + x6)) + 2)) < (i3 9) then ((mem 20 (base + x6)) + 2) else (9 : Int))))]) [2, 3, 4, 5, 6, 7, 8, 1, 0] rfl ?_
      exact k
theorem v_Spr_passNight_64 {g : sh_G} {d : Nat} {B : Nat} {base : Nat} {robbed : Int} {much : Int}  {mem : sh_Mem} {Q : Option sh_V → sh_Mem → Prop} (hB : ob0 B) {x5 : Int} {x6 : Nat} {x7 : Int} {x8 : Int} (k : (x6 < 8 ∧ ((0 ≤ (x5 + (x6 : Int)) ∧ (x5 + (x6 : Int)) < 48) ∧ (∀ m1 : sh_Mem, m1 = ms mem 19 (ru (mem 19) ((x5 + (x6 : Int))).toNat (if (i3 (x7 + 1)) < (i3 (mem (B + 3) x6)) then (x7 + 1) else (mem (B + 3) x6))) → (x6 < 8 ∧ (sh_Cal g d m_State_relaxed [(sh_i x8), (sh_i (m1 (B + 4) x6))] m1 fun rv m2 => ∃ r1 : Int, rv = some (sh_i r1) ∧ ((0 ≤ (x5 + (x6 : Int)) ∧ (x5 + (x6 : Int)) < 48) ∧ (∀ m3 : sh_Mem, m3 = ms m2 20 (ru (m2 20) ((x5 + (x6 : Int))).toNat r1) → sh_X g (d + 1) m_Spr_passNight 9 [(0, (sh_r 18)), (1, (sh_r B)), (2, (sh_i (base : Int))), (3, (sh_i robbed)), (4, (sh_i much)), (5, (sh_i x5)), (6, (sh_i (((x6 + 1) : Nat) : Int)))] [] m3 (sh_K m_Spr_passNight Q))))))))) : sh_X g (d + 1) m_Spr_passNight 64 [(0, (sh_r 18)), (1, (sh_r B)), (2, (sh_i (base : Int))), (3, (sh_i robbed)), (4, (sh_i much)), (5, (sh_i x5)), (6, (sh_i (x6 : Int))), (7, (sh_i x7)), (8, (sh_i x8))] [] mem (sh_K m_Spr_passNight Q) := by
  refine xr_aload_n (n := 0) (i := 0) rfl (List.mem_of_getElem? (i := 0) rfl) (by decide +kernel) ?_
  refine xr_getR (o := 1) rfl fl_Spr_9 rfl (by decide +kernel) ?_
  show sh_X g (d + 1) m_Spr_passNight _ _ ((sh_r 19) :: _) _ _
  refine xr_iload (i := 5) (List.mem_of_getElem? (i := 5) rfl) (by decide +kernel) ?_
  refine xr_iload (i := 6) (List.mem_of_getElem? (i := 6) rfl) (by decide +kernel) ?_
  refine xr_iadd (by decide +kernel) ?_
  show sh_X g (d + 1) m_Spr_passNight _ _ ((sh_i (x5 + (x6 : Int))) :: _) _ _
  refine xr_aload_n (n := 1) (i := 1) rfl (List.mem_of_getElem? (i := 1) rfl) (by decide +kernel) ?_
  refine xr_getR (o := 3) (ob0_0 hB) fl_Spr_74 rfl (by decide +kernel) ?_
  show sh_X g (d + 1) m_Spr_passNight _ _ ((sh_r (B + 3)) :: _) _ _
  refine xr_iload (i := 6) (List.mem_of_getElem? (i := 6) rfl) (by decide +kernel) ?_
  obtain ⟨o, k⟩ := k
  refine xr_ialdN (j := x6) rfl (ob0_3 hB) o (by decide +kernel) ?_
  refine xr_iload (i := 7) (List.mem_of_getElem? (i := 7) rfl) (by decide +kernel) ?_
  refine xr_iconst (n := 1) (by decide +kernel) ?_
  refine xr_iadd (by decide +kernel) ?_
  show sh_X g (d + 1) m_Spr_passNight _ _ ((sh_i (x7 + 1)) :: _) _ _
  refine xr_mmin ml_Spr_58 (Nat.le_of_ble_eq_true rfl) (by decide +kernel) ?_
  have o9 := True.intro
  obtain ⟨o, k⟩ := k
  refine xr_iast rfl o.1 o.2 (by decide +kernel) ?_
  have k := k _ rfl
  generalize hg_m1 : ms mem 19 (ru (mem 19) ((x5 + (x6 : Int))).toNat (if (i3 (x7 + 1)) < (i3 (mem (B + 3) x6)) then (x7 + 1) else (mem (B + 3) x6))) = m1 at k ⊢
  refine xr_aload_n (n := 0) (i := 0) rfl (List.mem_of_getElem? (i := 0) rfl) (by decide +kernel) ?_
  refine xr_getR (o := 2) rfl fl_Spr_15 rfl (by decide +kernel) ?_
  show sh_X g (d + 1) m_Spr_passNight _ _ ((sh_r 20) :: _) _ _
  refine xr_iload (i := 5) (List.mem_of_getElem? (i := 5) rfl) (by decide +kernel) ?_
  refine xr_iload (i := 6) (List.mem_of_getElem? (i := 6) rfl) (by decide +kernel) ?_
  refine xr_iadd (by decide +kernel) ?_
  show sh_X g (d + 1) m_Spr_passNight _ _ ((sh_i (x5 + (x6 : Int))) :: _) _ _
  refine xr_iload (i := 8) (List.mem_of_getElem? (i := 8) rfl) (by decide +kernel) ?_
  refine xr_aload_n (n := 1) (i := 1) rfl (List.mem_of_getElem? (i := 1) rfl) (by decide +kernel) ?_
  refine xr_getR (o := 4) (ob0_0 hB) fl_Spr_71 rfl (by decide +kernel) ?_
  show sh_X g (d + 1) m_Spr_passNight _ _ ((sh_r (B + 4)) :: _) _ _
  refine xr_iload (i := 6) (List.mem_of_getElem? (i := 6) rfl) (by decide +kernel) ?_
  obtain ⟨o, k⟩ := k
  refine xr_ialdN (j := x6) rfl (ob0_4 hB) o (by decide +kernel) ?_
  refine xr_callS (av := [(sh_i x8), (sh_i (m1 (B + 4) x6))]) mo_State_relaxed ml_Spr_77 sa_State_relaxed rfl (Nat.le_of_ble_eq_true rfl) (by decide +kernel) (sh_mono k ?_)
  rintro rv m2 ⟨r1, rfl, k⟩
  show sh_X g (d + 1) m_Spr_passNight _ _ [(sh_i r1), (sh_i (x5 + (x6 : Int))), (sh_r 20)] _ _
  have o9 := True.intro
  obtain ⟨o, k⟩ := k
  refine xr_iast rfl o.1 o.2 (by decide +kernel) ?_
  have k := k _ rfl
  generalize hg_m3 : ms m2 20 (ru (m2 20) ((x5 + (x6 : Int))).toNat r1) = m3 at k ⊢
  refine xr_iinc (n := 1) (lo' := [(6, (sh_i (((x6 + 1) : Nat) : Int))), (0, (sh_r 18)), (1, (sh_r B)), (2, (sh_i (base : Int))), (3, (sh_i robbed)), (4, (sh_i much)), (5, (sh_i x5)), (7, (sh_i x7)), (8, (sh_i x8))]) (List.mem_of_getElem? (i := 6) rfl) (by decide) rfl (by decide +kernel) ?_
  refine xr_goto (off := (-104)) (tgt := 9) (by decide) (by decide +kernel) ?_
  refine xr_sub (lo' := [(0, (sh_r 18)), (1, (sh_r B)), (2, (sh_i (base : Int))), (3, (sh_i robbed)), (4, (sh_i much)), (5, (sh_i x5)), (6, (sh_i (((x6 + 1) : Nat) : Int)))]) [1, 2, 3, 4, 5, 6, 0] rfl ?_
  exact k
