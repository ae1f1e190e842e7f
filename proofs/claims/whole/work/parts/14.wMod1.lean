theorem v_Mod_thrown {g : sh_G} {d : Nat}   {mem : sh_Mem} {Q : Option sh_V → sh_Mem → Prop}  (k : Q (some (sh_i (mem 96 0))) mem) : sh_Cal g d m_Mod_thrown [(sh_r 96)] mem Q := by
  refine sh_met (by decide +kernel) (Nat.le_of_ble_eq_true rfl) (lo := [(0, (sh_r 96))]) rfl ?_
  refine xr_aload_n (n := 0) (i := 0) rfl (List.mem_of_getElem? (i := 0) rfl) (by decide +kernel) ?_
  refine xr_getI rfl fl_Mod_141 (by decide) (by decide +kernel) ?_
  exact xr_iret rfl (by decide +kernel) k

theorem v_Mod_within {g : sh_G} {d : Nat} {v : Int} {least0 : Int} {most0 : Int}  {mem : sh_Mem} {Q : Option sh_V → sh_Mem → Prop}  (k : (((i3 v) < (i3 least0) → Q (some (sh_i 0)) mem) ∧ (¬ (i3 v) < (i3 least0) → (((i3 most0) < (i3 v) → Q (some (sh_i 0)) mem) ∧ (¬ (i3 most0) < (i3 v) → Q (some (sh_i 1)) mem))))) : sh_Cal g d m_Mod_within [(sh_i v), (sh_i least0), (sh_i most0)] mem Q := by
  refine sh_met (by decide +kernel) (Nat.le_of_ble_eq_true rfl) (lo := [(0, (sh_i v)), (1, (sh_i least0)), (2, (sh_i most0))]) rfl ?_
  refine xr_iload_n (n := 0) (i := 0) rfl (List.mem_of_getElem? (i := 0) rfl) (by decide +kernel) ?_
  refine xr_iload_n (n := 1) (i := 1) rfl (List.mem_of_getElem? (i := 1) rfl) (by decide +kernel) ?_
  refine xr_icmp_lt (a' := (i3 v)) (b' := (i3 least0)) rfl rfl (off := 12) (tgt := 14) (by decide) (by decide +kernel) ⟨fun c1 => ?_, fun c1 => ?_⟩
  · have k := k.1 c1
    refine xr_iconst (n := 0) (by decide +kernel) ?_
    exact xr_zret rfl (by decide +kernel) (by decide) k
  · have k := k.2 c1
    refine xr_iload_n (n := 0) (i := 0) rfl (List.mem_of_getElem? (i := 0) rfl) (by decide +kernel) ?_
    refine xr_iload_n (n := 2) (i := 2) rfl (List.mem_of_getElem? (i := 2) rfl) (by decide +kernel) ?_
    refine xr_icmp_gt (a' := (i3 v)) (b' := (i3 most0)) rfl rfl (off := 7) (tgt := 14) (by decide) (by decide +kernel) ⟨fun c2 => ?_, fun c2 => ?_⟩
    · have k := k.1 c2
      refine xr_iconst (n := 0) (by decide +kernel) ?_
      exact xr_zret rfl (by decide +kernel) (by decide) k
    · have k := k.2 c2
      refine xr_iconst (n := 1) (by decide +kernel) ?_
      refine xr_goto (off := 4) (tgt := 15) (by decide) (by decide +kernel) ?_
      exact xr_zret rfl (by decide +kernel) (by decide) k

theorem v_Mod_between {g : sh_G} {d : Nat} {v : Int} {least0 : Int} {most0 : Int}  {mem : sh_Mem} {Q : Option sh_V → sh_Mem → Prop}  (k : (((i3 least0) ≤ (i3 v) → (((i3 v) ≤ (i3 most0) → Q (some (sh_i v)) mem) ∧ (¬ (i3 v) ≤ (i3 most0) → Q (some (sh_i most0)) mem))) ∧ (¬ (i3 least0) ≤ (i3 v) → Q (some (sh_i least0)) mem))) : sh_Cal g d m_Mod_between [(sh_i v), (sh_i least0), (sh_i most0)] mem Q := by
  refine sh_met (by decide +kernel) (Nat.le_of_ble_eq_true rfl) (lo := [(0, (sh_i v)), (1, (sh_i least0)), (2, (sh_i most0))]) rfl ?_
  refine xr_iload_n (n := 0) (i := 0) rfl (List.mem_of_getElem? (i := 0) rfl) (by decide +kernel) ?_
  refine xr_iload_n (n := 1) (i := 1) rfl (List.mem_of_getElem? (i := 1) rfl) (by decide +kernel) ?_
  refine xr_icmp_ge (a' := (i3 v)) (b' := (i3 least0)) rfl rfl (off := 7) (tgt := 9) (by decide) (by decide +kernel) ⟨fun c1 => ?_, fun c1 => ?_⟩
  · have k := k.1 c1
    refine xr_iload_n (n := 0) (i := 0) rfl (List.mem_of_getElem? (i := 0) rfl) (by decide +kernel) ?_
    refine xr_iload_n (n := 2) (i := 2) rfl (List.mem_of_getElem? (i := 2) rfl) (by decide +kernel) ?_
    refine xr_icmp_le (a' := (i3 v)) (b' := (i3 most0)) rfl rfl (off := 7) (tgt := 18) (by decide) (by decide +kernel) ⟨fun c2 => ?_, fun c2 => ?_⟩
    · have k := k.1 c2
      refine xr_iload_n (n := 0) (i := 0) rfl (List.mem_of_getElem? (i := 0) rfl) (by decide +kernel) ?_
      exact xr_iret rfl (by decide +kernel) k
    · have k := k.2 c2
      refine xr_iload_n (n := 2) (i := 2) rfl (List.mem_of_getElem? (i := 2) rfl) (by decide +kernel) ?_
      refine xr_goto (off := 4) (tgt := 19) (by decide) (by decide +kernel) ?_
      exact xr_iret rfl (by decide +kernel) k
  · have k := k.2 c1
    refine xr_iload_n (n := 1) (i := 1) rfl (List.mem_of_getElem? (i := 1) rfl) (by decide +kernel) ?_
    refine xr_goto (off := 13) (tgt := 19) (by decide) (by decide +kernel) ?_
    exact xr_iret rfl (by decide +kernel) k

theorem v_Mod_bits {g : sh_G} {d : Nat} {set0 : Int}  {mem : sh_Mem} {Q : Option sh_V → sh_Mem → Prop}  (k : sh_X g d m_Mod_bits 4 [(0, (sh_i set0)), (1, (sh_i 0)), (2, (sh_i 0))] [] mem (sh_K m_Mod_bits Q)) : sh_Cal g d m_Mod_bits [(sh_i set0)] mem Q := by
  refine sh_met (by decide +kernel) (Nat.le_of_ble_eq_true rfl) (lo := [(0, (sh_i set0))]) rfl ?_
  refine xr_iconst (n := 0) (by decide +kernel) ?_
  refine xr_istore_n (n := 1) (i := 1) rfl (by decide) rfl (by decide +kernel) ?_
  refine xr_iconst (n := 0) (by decide +kernel) ?_
  refine xr_istore_n (n := 2) (i := 2) rfl (by decide) rfl (by decide +kernel) ?_
  refine xr_sub (lo' := [(0, (sh_i set0)), (1, (sh_i 0)), (2, (sh_i 0))]) [2, 1, 0] rfl ?_
  exact k
theorem v_Mod_bits_4 {g : sh_G} {d : Nat} {set0 : Int}  {mem : sh_Mem} {Q : Option sh_V → sh_Mem → Prop}  {x1 : Int} {x2 : Nat} (k : ((8 ≤ (i3 (x2 : Int)) → Q (some (sh_i x1)) mem) ∧ (¬ 8 ≤ (i3 (x2 : Int)) → sh_X g d m_Mod_bits 4 [(0, (sh_i set0)), (1, (sh_i (x1 + (i_and (i_shr set0 (x2 : Int)) 1)))), (2, (sh_i (((x2 + 1) : Nat) : Int)))] [] mem (sh_K m_Mod_bits Q)))) : sh_X g d m_Mod_bits 4 [(0, (sh_i set0)), (1, (sh_i x1)), (2, (sh_i (x2 : Int)))] [] mem (sh_K m_Mod_bits Q) := by
  refine xr_iload_n (n := 2) (i := 2) rfl (List.mem_of_getElem? (i := 2) rfl) (by decide +kernel) ?_
  refine xr_bipush (n := 8) (v := 8) (by decide) (by decide +kernel) ?_
  refine xr_icmp_ge (a' := (i3 (x2 : Int))) (b' := 8) rfl (by decide) (off := 17) (tgt := 24) (by decide) (by decide +kernel) ⟨fun c1 => ?_, fun c1 => ?_⟩
  · have k := k.1 c1
    refine xr_iload_n (n := 1) (i := 1) rfl (List.mem_of_getElem? (i := 1) rfl) (by decide +kernel) ?_
    exact xr_iret rfl (by decide +kernel) k
  · have k := k.2 c1
    refine xr_iload_n (n := 1) (i := 1) rfl (List.mem_of_getElem? (i := 1) rfl) (by decide +kernel) ?_
    refine xr_iload_n (n := 0) (i := 0) rfl (List.mem_of_getElem? (i := 0) rfl) (by decide +kernel) ?_
    refine xr_iload_n (n := 2) (i := 2) rfl (List.mem_of_getElem? (i := 2) rfl) (by decide +kernel) ?_
    refine xr_ishr (by decide +kernel) ?_
    refine xr_iconst (n := 1) (by decide +kernel) ?_
    refine xr_iand (by decide +kernel) ?_
    refine xr_iadd (by decide +kernel) ?_
    show sh_X g d m_Mod_bits _ _ ((sh_i (x1 + (i_and (i_shr set0 (x2 : Int)) 1))) :: _) _ _
    refine xr_istore_n (n := 1) (i := 1) rfl (by decide) rfl (by decide +kernel) ?_
    refine xr_iinc (n := 1) (lo' := [(2, (sh_i (((x2 + 1) : Nat) : Int))), (1, (sh_i (x1 + (i_and (i_shr set0 (x2 : Int)) 1)))), (0, (sh_i set0))]) (List.mem_of_getElem? (i := 2) rfl) (by decide) rfl (by decide +kernel) ?_
    refine xr_goto (off := (-17)) (tgt := 4) (by decide) (by decide +kernel) ?_
    refine xr_sub (lo' := [(0, (sh_i set0)), (1, (sh_i (x1 + (i_and (i_shr set0 (x2 : Int)) 1)))), (2, (sh_i (((x2 + 1) : Nat) : Int)))]) [2, 1, 0] rfl ?_
    exact k

theorem v_Mod_feed {g : sh_G} {d : Nat} {a : Int} {b : Int} {cc : Int}  {mem : sh_Mem} {Q : Option sh_V → sh_Mem → Prop}  (k : (∀ m1 : sh_Mem, m1 = ms mem 96 (ru (mem 96) 0 0) → sh_X g d m_Mod_feed 8 [(0, (sh_r 96)), (1, (sh_l a)), (3, (sh_l b)), (5, (sh_l cc)), (7, (sh_i 0))] [] m1 (sh_K m_Mod_feed Q))) : sh_Cal g d m_Mod_feed [(sh_r 96), (sh_l a), (sh_l b), (sh_l cc)] mem Q := by
  refine sh_met (by decide +kernel) (Nat.le_of_ble_eq_true rfl) (lo := [(0, (sh_r 96)), (1, (sh_l a)), (3, (sh_l b)), (5, (sh_l cc))]) rfl ?_
  refine xr_aload_n (n := 0) (i := 0) rfl (List.mem_of_getElem? (i := 0) rfl) (by decide +kernel) ?_
  refine xr_iconst (n := 0) (by decide +kernel) ?_
  refine xr_putI rfl pl_Mod_141 rfl (by decide +kernel) ?_
  have k := k _ rfl
  generalize hg_m1 : ms mem 96 (ru (mem 96) 0 0) = m1 at k ⊢
  refine xr_iconst (n := 0) (by decide +kernel) ?_
  refine xr_istore (i := 7) (by decide) rfl (by decide +kernel) ?_
  refine xr_sub (lo' := [(0, (sh_r 96)), (1, (sh_l a)), (3, (sh_l b)), (5, (sh_l cc)), (7, (sh_i 0))]) [1, 2, 3, 4, 0] rfl ?_
  exact k
theorem v_Mod_feed_8 {g : sh_G} {d : Nat} {a : Int} {b : Int} {cc : Int}  {mem : sh_Mem} {Q : Option sh_V → sh_Mem → Prop}  {x7 : Nat} (k : ((24 ≤ (i3 (x7 : Int)) → Q (some (sh_i (mem 96 1))) mem) ∧ (¬ 24 ≤ (i3 (x7 : Int)) → ((8 ≤ (i3 (x7 : Int)) → ((16 ≤ (i3 (x7 : Int)) → sh_X g d m_Mod_feed 39 [(0, (sh_r 96)), (1, (sh_l a)), (3, (sh_l b)), (5, (sh_l cc)), (7, (sh_i (x7 : Int)))] [(sh_l cc)] mem (sh_K m_Mod_feed Q)) ∧ (¬ 16 ≤ (i3 (x7 : Int)) → sh_X g d m_Mod_feed 39 [(0, (sh_r 96)), (1, (sh_l a)), (3, (sh_l b)), (5, (sh_l cc)), (7, (sh_i (x7 : Int)))] [(sh_l b)] mem (sh_K m_Mod_feed Q)))) ∧ (¬ 8 ≤ (i3 (x7 : Int)) → sh_X g d m_Mod_feed 39 [(0, (sh_r 96)), (1, (sh_l a)), (3, (sh_l b)), (5, (sh_l cc)), (7, (sh_i (x7 : Int)))] [(sh_l a)] mem (sh_K m_Mod_feed Q)))))) : sh_X g d m_Mod_feed 8 [(0, (sh_r 96)), (1, (sh_l a)), (3, (sh_l b)), (5, (sh_l cc)), (7, (sh_i (x7 : Int)))] [] mem (sh_K m_Mod_feed Q) := by
  refine xr_iload (i := 7) (List.mem_of_getElem? (i := 4) rfl) (by decide +kernel) ?_
  refine xr_bipush (n := 24) (v := 24) (by decide) (by decide +kernel) ?_
  refine xr_icmp_ge (a' := (i3 (x7 : Int))) (b' := 24) rfl (by decide) (off := 108) (tgt := 120) (by decide) (by decide +kernel) ⟨fun c1 => ?_, fun c1 => ?_⟩
  · have k := k.1 c1
    refine xr_aload_n (n := 0) (i := 0) rfl (List.mem_of_getElem? (i := 0) rfl) (by decide +kernel) ?_
    refine xr_getI rfl fl_Mod_147 (by decide) (by decide +kernel) ?_
    exact xr_iret rfl (by decide +kernel) k
  · have k := k.2 c1
    refine xr_iload (i := 7) (List.mem_of_getElem? (i := 4) rfl) (by decide +kernel) ?_
    refine xr_bipush (n := 8) (v := 8) (by decide) (by decide +kernel) ?_
    refine xr_icmp_ge (a' := (i3 (x7 : Int))) (b' := 8) rfl (by decide) (off := 7) (tgt := 26) (by decide) (by decide +kernel) ⟨fun c2 => ?_, fun c2 => ?_⟩
    · have k := k.1 c2
      refine xr_iload (i := 7) (List.mem_of_getElem? (i := 4) rfl) (by decide +kernel) ?_
      refine xr_bipush (n := 16) (v := 16) (by decide) (by decide +kernel) ?_
      refine xr_icmp_ge (a' := (i3 (x7 : Int))) (b' := 16) rfl (by decide) (off := 7) (tgt := 37) (by decide) (by decide +kernel) ⟨fun c3 => ?_, fun c3 => ?_⟩
      · have k := k.1 c3
        refine xr_lload (i := 5) (List.mem_of_getElem? (i := 3) rfl) (by decide +kernel) ?_
        refine xr_sub (lo' := [(0, (sh_r 96)), (1, (sh_l a)), (3, (sh_l b)), (5, (sh_l cc)), (7, (sh_i (x7 : Int)))]) [0, 1, 2, 3, 4] rfl ?_
        exact k
      · have k := k.2 c3
        refine xr_lload_n (n := 3) (i := 3) rfl (List.mem_of_getElem? (i := 2) rfl) (by decide +kernel) ?_
        refine xr_goto (off := 5) (tgt := 39) (by decide) (by decide +kernel) ?_
        refine xr_sub (lo' := [(0, (sh_r 96)), (1, (sh_l a)), (3, (sh_l b)), (5, (sh_l cc)), (7, (sh_i (x7 : Int)))]) [0, 1, 2, 3, 4] rfl ?_
        exact k
    · have k := k.2 c2
      refine xr_lload_n (n := 1) (i := 1) rfl (List.mem_of_getElem? (i := 1) rfl) (by decide +kernel) ?_
      refine xr_goto (off := 16) (tgt := 39) (by decide) (by decide +kernel) ?_
      refine xr_sub (lo' := [(0, (sh_r 96)), (1, (sh_l a)), (3, (sh_l b)), (5, (sh_l cc)), (7, (sh_i (x7 : Int)))]) [0, 1, 2, 3, 4] rfl ?_
      exact k
theorem v_Mod_feed_39 {g : sh_G} {d : Nat} {a : Int} {b : Int} {cc : Int}  {mem : sh_Mem} {Q : Option sh_V → sh_Mem → Prop}  {x7 : Nat} {y0 : Int} (k : ((1000 ≤ (i3 (mem 96 1)) → sh_X g d m_Mod_feed 8 [(0, (sh_r 96)), (1, (sh_l a)), (3, (sh_l b)), (5, (sh_l cc)), (7, (sh_i (((x7 + 1) : Nat) : Int)))] [] mem (sh_K m_Mod_feed Q)) ∧ (¬ 1000 ≤ (i3 (mem 96 1)) → (((l_2i (l_and (l_ushr y0 (56 - (8 * (i_and (x7 : Int) 7)))) 255)) = 10 → ((0 ≤ (mem 96 1) ∧ (mem 96 1) < 1000) ∧ (∀ m1 : sh_Mem, m1 = ms mem 97 (ru (mem 97) ((mem 96 1)).toNat (l_2i (l_and (l_ushr y0 (56 - (8 * (i_and (x7 : Int) 7)))) 255))) → (∀ m2 : sh_Mem, m2 = ms m1 96 (ru (m1 96) 1 ((m1 96 1) + 1)) → sh_X g d m_Mod_feed 8 [(0, (sh_r 96)), (1, (sh_l a)), (3, (sh_l b)), (5, (sh_l cc)), (7, (sh_i (((x7 + 1) : Nat) : Int)))] [] m2 (sh_K m_Mod_feed Q))))) ∧ (¬ (l_2i (l_and (l_ushr y0 (56 - (8 * (i_and (x7 : Int) 7)))) 255)) = 10 → (((l_2i (l_and (l_ushr y0 (56 - (8 * (i_and (x7 : Int) 7)))) 255)) < 32 → sh_X g d m_Mod_feed 8 [(0, (sh_r 96)), (1, (sh_l a)), (3, (sh_l b)), (5, (sh_l cc)), (7, (sh_i (((x7 + 1) : Nat) : Int)))] [] mem (sh_K m_Mod_feed Q)) ∧ (¬ (l_2i (l_and (l_ushr y0 (56 - (8 * (i_and (x7 : Int) 7)))) 255)) < 32 → ((126 < (l_2i (l_and (l_ushr y0 (56 - (8 * (i_and (x7 : Int) 7)))) 255)) → sh_X g d m_Mod_feed 8 [(0, (sh_r 96)), (1, (sh_l a)), (3, (sh_l b)), (5, (sh_l cc)), (7, (sh_i (((x7 + 1) : Nat) : Int)))] [] mem (sh_K m_Mod_feed Q)) ∧ (¬ 126 < (l_2i (l_and (l_ushr y0 (56 - (8 * (i_and (x7 : Int) 7)))) 255)) → ((0 ≤ (mem 96 1) ∧ (mem 96 1) < 1000) ∧ (∀ m3 : sh_Mem, m3 = ms mem 97 (ru (mem 97) ((mem 96 1)).toNat (l_2i (l_and (l_ushr y0 (56 - (8 * (i_and (x7 : Int) 7)))) 255))) → (∀ m4 : sh_Mem, m4 = ms m3 96 (ru (m3 96) 1 ((m3 96 1) + 1)) → sh_X g d m_Mod_feed 8 [(0, (sh_r 96)), (1, (sh_l a)), (3, (sh_l b)), (5, (sh_l cc)), (7, (sh_i (((x7 + 1) : Nat) : Int)))] [] m4 (sh_K m_Mod_feed Q))))))))))))) : sh_X g d m_Mod_feed 39 [(0, (sh_r 96)), (1, (sh_l a)), (3, (sh_l b)), (5, (sh_l cc)), (7, (sh_i (x7 : Int)))] [(sh_l y0)] mem (sh_K m_Mod_feed Q) := by
  refine xr_lstore (i := 8) (by decide) rfl (by decide +kernel) ?_
  refine xr_lload (i := 8) (List.mem_of_getElem? (i := 0) rfl) (by decide +kernel) ?_
  refine xr_bipush (n := 56) (v := 56) (by decide) (by decide +kernel) ?_
  refine xr_bipush (n := 8) (v := 8) (by decide) (by decide +kernel) ?_
  refine xr_iload (i := 7) (List.mem_of_getElem? (i := 5) rfl) (by decide +kernel) ?_
  refine xr_bipush (n := 7) (v := 7) (by decide) (by decide +kernel) ?_
  refine xr_iand (by decide +kernel) ?_
  refine xr_imul (by decide +kernel) ?_
  show sh_X g d m_Mod_feed _ _ ((sh_i (8 * (i_and (x7 : Int) 7))) :: _) _ _
  refine xr_isub (by decide +kernel) ?_
  show sh_X g d m_Mod_feed _ _ ((sh_i (56 - (8 * (i_and (x7 : Int) 7)))) :: _) _ _
  refine xr_lushr (by decide +kernel) ?_
  refine xr_ldc2 (v := 255) (by decide) kl_Mod_145 (by decide +kernel) ?_
  refine xr_land (by decide +kernel) ?_
  refine xr_l2i (by decide +kernel) ?_
  refine xr_istore (i := 10) (by decide) rfl (by decide +kernel) ?_
  refine xr_aload_n (n := 0) (i := 0) rfl (List.mem_of_getElem? (i := 2) rfl) (by decide +kernel) ?_
  refine xr_getI rfl fl_Mod_147 (by decide) (by decide +kernel) ?_
  refine xr_sipush (n := 1000) (v := 1000) (by decide) (by decide +kernel) ?_
  refine xr_icmp_ge (a' := (i3 (mem 96 1))) (b' := 1000) rfl (by decide) (off := 45) (tgt := 114) (by decide) (by decide +kernel) ⟨fun c1 => ?_, fun c1 => ?_⟩
  · have k := k.1 c1
    refine xr_iinc (n := 1) (lo' := [(7, (sh_i (((x7 + 1) : Nat) : Int))), (10, (sh_i (l_2i (l_and (l_ushr y0 (56 - (8 * (i_and (x7 : Int) 7)))) 255)))), (8, (sh_l y0)), (0, (sh_r 96)), (1, (sh_l a)), (3, (sh_l b)), (5, (sh_l cc))]) (List.mem_of_getElem? (i := 6) rfl) (by decide) rfl (by decide +kernel) ?_
    refine xr_goto (off := (-109)) (tgt := 8) (by decide) (by decide +kernel) ?_
    refine xr_sub (lo' := [(0, (sh_r 96)), (1, (sh_l a)), (3, (sh_l b)), (5, (sh_l cc)), (7, (sh_i (((x7 + 1) : Nat) : Int)))]) [3, 4, 5, 6, 0] rfl ?_
    exact k
  · have k := k.2 c1
    refine xr_iload (i := 10) (List.mem_of_getElem? (i := 0) rfl) (by decide +kernel) ?_
    refine xr_bipush (n := 10) (v := 10) (by decide) (by decide +kernel) ?_
    refine xr_icmp_eq (a' := (l_2i (l_and (l_ushr y0 (56 - (8 * (i_and (x7 : Int) 7)))) 255))) (b' := 10) (i3_nrm _) (by decide) (off := 17) (tgt := 93) (by decide) (by decide +kernel) ⟨fun c2 => ?_, fun c2 => ?_⟩
    · have k := k.1 c2
      refine xr_aload_n (n := 0) (i := 0) rfl (List.mem_of_getElem? (i := 2) rfl) (by decide +kernel) ?_
      refine xr_getR (o := 1) rfl fl_Mod_7 rfl (by decide +kernel) ?_
      show sh_X g d m_Mod_feed _ _ ((sh_r 97) :: _) _ _
      refine xr_aload_n (n := 0) (i := 0) rfl (List.mem_of_getElem? (i := 2) rfl) (by decide +kernel) ?_
      refine xr_getI rfl fl_Mod_147 (by decide) (by decide +kernel) ?_
      refine xr_iload (i := 10) (List.mem_of_getElem? (i := 0) rfl) (by decide +kernel) ?_
      have o9 := True.intro
      obtain ⟨o, k⟩ := k
      refine xr_iast rfl o.1 o.2 (by decide +kernel) ?_
      have k := k _ rfl
      generalize hg_m1 : ms mem 97 (ru (mem 97) ((mem 96 1)).toNat (l_2i (l_and (l_ushr y0 (56 - (8 * (i_and (x7 : Int) 7)))) 255))) = m1 at k ⊢
      refine xr_aload_n (n := 0) (i := 0) rfl (List.mem_of_getElem? (i := 2) rfl) (by decide +kernel) ?_
      refine xr_dupR (by decide +kernel) ?_
      refine xr_getI rfl fl_Mod_147 (by decide) (by decide +kernel) ?_
      refine xr_iconst (n := 1) (by decide +kernel) ?_
      refine xr_iadd (by decide +kernel) ?_
      show sh_X g d m_Mod_feed _ _ ((sh_i ((m1 96 1) + 1)) :: _) _ _
      refine xr_putI rfl pl_Mod_147 rfl (by decide +kernel) ?_
      have k := k _ rfl
      generalize hg_m2 : ms m1 96 (ru (m1 96) 1 ((m1 96 1) + 1)) = m2 at k ⊢
      refine xr_iinc (n := 1) (lo' := [(7, (sh_i (((x7 + 1) : Nat) : Int))), (10, (sh_i (l_2i (l_and (l_ushr y0 (56 - (8 * (i_and (x7 : Int) 7)))) 255)))), (8, (sh_l y0)), (0, (sh_r 96)), (1, (sh_l a)), (3, (sh_l b)), (5, (sh_l cc))]) (List.mem_of_getElem? (i := 6) rfl) (by decide) rfl (by decide +kernel) ?_
      refine xr_goto (off := (-109)) (tgt := 8) (by decide) (by decide +kernel) ?_
      refine xr_sub (lo' := [(0, (sh_r 96)), (1, (sh_l a)), (3, (sh_l b)), (5, (sh_l cc)), (7, (sh_i (((x7 + 1) : Nat) : Int)))]) [3, 4, 5, 6, 0] rfl ?_
      exact k
    · have k := k.2 c2
      refine xr_iload (i := 10) (List.mem_of_getElem? (i := 0) rfl) (by decide +kernel) ?_
      refine xr_bipush (n := 32) (v := 32) (by decide) (by decide +kernel) ?_
      refine xr_icmp_lt (a' := (l_2i (l_and (l_ushr y0 (56 - (8 * (i_and (x7 : Int) 7)))) 255))) (b' := 32) (i3_nrm _) (by decide) (off := 31) (tgt := 114) (by decide) (by decide +kernel) ⟨fun c3 => ?_, fun c3 => ?_⟩
      · have k := k.1 c3
        refine xr_iinc (n := 1) (lo' := [(7, (sh_i (((x7 + 1) : Nat) : Int))), (10, (sh_i (l_2i (l_and (l_ushr y0 (56 - (8 * (i_and (x7 : Int) 7)))) 255)))), (8, (sh_l y0)), (0, (sh_r 96)), (1, (sh_l a)), (3, (sh_l b)), (5, (sh_l cc))]) (List.mem_of_getElem? (i := 6) rfl) (by decide) rfl (by decide +kernel) ?_
        refine xr_goto (off := (-109)) (tgt := 8) (by decide) (by decide +kernel) ?_
        refine xr_sub (lo' := [(0, (sh_r 96)), (1, (sh_l a)), (3, (sh_l b)), (5, (sh_l cc)), (7, (sh_i (((x7 + 1) : Nat) : Int)))]) [3, 4, 5, 6, 0] rfl ?_
        exact k
      · have k := k.2 c3
        refine xr_iload (i := 10) (List.mem_of_getElem? (i := 0) rfl) (by decide +kernel) ?_
        refine xr_bipush (n := 126) (v := 126) (by decide) (by decide +kernel) ?_
        refine xr_icmp_gt (a' := (l_2i (l_and (l_ushr y0 (56 - (8 * (i_and (x7 : Int) 7)))) 255))) (b' := 126) (i3_nrm _) (by decide) (off := 24) (tgt := 114) (by decide) (by decide +kernel) ⟨fun c4 => ?_, fun c4 => ?_⟩
        · have k := k.1 c4
          refine xr_iinc (n := 1) (lo' := [(7, (sh_i (((x7 + 1) : Nat) : Int))), (10, (sh_i (l_2i (l_and (l_ushr y0 (56 - (8 * (i_and (x7 : Int) 7)))) 255)))), (8, (sh_l y0)), (0, (sh_r 96)), (1, (sh_l a)), (3, (sh_l b)), (5, (sh_l cc))]) (List.mem_of_getElem? (i := 6) rfl) (by decide) rfl (by decide +kernel) ?_
          refine xr_goto (off := (-109)) (tgt := 8) (by decide) (by decide +kernel) ?_
          refine xr_sub (lo' := [(0, (sh_r 96)), (1, (sh_l a)), (3, (sh_l b)), (5, (sh_l cc)), (7, (sh_i (((x7 + 1) : Nat) : Int)))]) [3, 4, 5, 6, 0] rfl ?_
          exact k
        · have k := k.2 c4
          refine xr_aload_n (n := 0) (i := 0) rfl (List.mem_of_getElem? (i := 2) rfl) (by decide +kernel) ?_
          refine xr_getR (o := 1) rfl fl_Mod_7 rfl (by decide +kernel) ?_
          show sh_X g d m_Mod_feed _ _ ((sh_r 97) :: _) _ _
          refine xr_aload_n (n := 0) (i := 0) rfl (List.mem_of_getElem? (i := 2) rfl) (by decide +kernel) ?_
          refine xr_getI rfl fl_Mod_147 (by decide) (by decide +kernel) ?_
          refine xr_iload (i := 10) (List.mem_of_getElem? (i := 0) rfl) (by decide +kernel) ?_
          have o9 := True.intro
          obtain ⟨o, k⟩ := k
          refine xr_iast rfl o.1 o.2 (by decide +kernel) ?_
          have k := k _ rfl
          generalize hg_m3 : ms mem 97 (ru (mem 97) ((mem 96 1)).toNat (l_2i (l_and (l_ushr y0 (56 - (8 * (i_and (x7 : Int) 7)))) 255))) = m3 at k ⊢
          refine xr_aload_n (n := 0) (i := 0) rfl (List.mem_of_getElem? (i := 2) rfl) (by decide +kernel) ?_
          refine xr_dupR (by decide +kernel) ?_
          refine xr_getI rfl fl_Mod_147 (by decide) (by decide +kernel) ?_
          refine xr_iconst (n := 1) (by decide +kernel) ?_
          refine xr_iadd (by decide +kernel) ?_
          show sh_X g d m_Mod_feed _ _ ((sh_i ((m3 96 1) + 1)) :: _) _ _
          refine xr_putI rfl pl_Mod_147 rfl (by decide +kernel) ?_
          have k := k _ rfl
          generalize hg_m4 : ms m3 96 (ru (m3 96) 1 ((m3 96 1) + 1)) = m4 at k ⊢
          refine xr_iinc (n := 1) (lo' := [(7, (sh_i (((x7 + 1) : Nat) : Int))), (10, (sh_i (l_2i (l_and (l_ushr y0 (56 - (8 * (i_and (x7 : Int) 7)))) 255)))), (8, (sh_l y0)), (0, (sh_r 96)), (1, (sh_l a)), (3, (sh_l b)), (5, (sh_l cc))]) (List.mem_of_getElem? (i := 6) rfl) (by decide) rfl (by decide +kernel) ?_
          refine xr_goto (off := (-109)) (tgt := 8) (by decide) (by decide +kernel) ?_
          refine xr_sub (lo' := [(0, (sh_r 96)), (1, (sh_l a)), (3, (sh_l b)), (5, (sh_l cc)), (7, (sh_i (((x7 + 1) : Nat) : Int)))]) [3, 4, 5, 6, 0] rfl ?_
          exact k

theorem v_Mod_signAt {g : sh_G} {d : Nat} {kk : Nat}  {mem : sh_Mem} {Q : Option sh_V → sh_Mem → Prop}  (k : (((i3 (mem 96 3)) ≤ (i3 (kk : Int)) → Q (some (sh_i 0)) mem) ∧ (¬ (i3 (mem 96 3)) ≤ (i3 (kk : Int)) → (kk < 1000 ∧ Q (some (sh_i (mem 97 kk))) mem)))) : sh_Cal g d m_Mod_signAt [(sh_r 96), (sh_i (kk : Int))] mem Q := by
  refine sh_met (by decide +kernel) (Nat.le_of_ble_eq_true rfl) (lo := [(0, (sh_r 96)), (1, (sh_i (kk : Int)))]) rfl ?_
  refine xr_iload_n (n := 1) (i := 1) rfl (List.mem_of_getElem? (i := 1) rfl) (by decide +kernel) ?_
  refine xr_aload_n (n := 0) (i := 0) rfl (List.mem_of_getElem? (i := 0) rfl) (by decide +kernel) ?_
  refine xr_getI rfl fl_Mod_150 (by decide) (by decide +kernel) ?_
  refine xr_icmp_ge (a' := (i3 (kk : Int))) (b' := (i3 (mem 96 3))) rfl rfl (off := 12) (tgt := 17) (by decide) (by decide +kernel) ⟨fun c1 => ?_, fun c1 => ?_⟩
  · have k := k.1 c1
    refine xr_iconst (n := 0) (by decide +kernel) ?_
    exact xr_iret rfl (by decide +kernel) k
  · have k := k.2 c1
    refine xr_aload_n (n := 0) (i := 0) rfl (List.mem_of_getElem? (i := 0) rfl) (by decide +kernel) ?_
    refine xr_getR (o := 1) rfl fl_Mod_7 rfl (by decide +kernel) ?_
    show sh_X g d m_Mod_signAt _ _ ((sh_r 97) :: _) _ _
    refine xr_iload_n (n := 1) (i := 1) rfl (List.mem_of_getElem? (i := 1) rfl) (by decide +kernel) ?_
    obtain ⟨o, k⟩ := k
    refine xr_ialdN (j := kk) rfl rfl o (by decide +kernel) ?_
    refine xr_goto (off := 4) (tgt := 18) (by decide) (by decide +kernel) ?_
    exact xr_iret rfl (by decide +kernel) k

theorem v_Mod_nextToken {g : sh_G} {d : Nat}   {mem : sh_Mem} {Q : Option sh_V → sh_Mem → Prop}  (k : sh_X g (d + 1) m_Mod_nextToken 0 [(0, (sh_r 96))] [] mem (sh_K m_Mod_nextToken Q)) : sh_Cal g (d + 1) m_Mod_nextToken [(sh_r 96)] mem Q := by
  refine sh_met (by decide +kernel) (Nat.le_of_ble_eq_true rfl) (lo := [(0, (sh_r 96))]) rfl ?_
  refine xr_sub (lo' := [(0, (sh_r 96))]) [0] rfl ?_
  exact k
theorem v_Mod_nextToken_0 {g : sh_G} {d : Nat}   {mem : sh_Mem} {Q : Option sh_V → sh_Mem → Prop}   (k : (((i3 (mem 96 3)) ≤ (i3 (mem 96 4)) → sh_X g (d + 1) m_Mod_nextToken 52 [(0, (sh_r 96))] [] mem (sh_K m_Mod_nextToken Q)) ∧ (¬ (i3 (mem 96 3)) ≤ (i3 (mem 96 4)) → ((0 ≤ (mem 96 4) ∧ (mem 96 4) < 1000) ∧ (((i3 (mem 97 ((mem 96 4)).toNat)) = 32 → (∀ m1 : sh_Mem, m1 = ms mem 96 (ru (mem 96) 4 ((mem 96 4) + 1)) → sh_X g (d + 1) m_Mod_nextToken 0 [(0, (sh_r 96))] [] m1 (sh_K m_Mod_nextToken Q))) ∧ (¬ (i3 (mem 97 ((mem 96 4)).toNat)) = 32 → ((0 ≤ (mem 96 4) ∧ (mem 96 4) < 1000) ∧ ((¬ (i3 (mem 97 ((mem 96 4)).toNat)) = 10 → sh_X g (d + 1) m_Mod_nextToken 52 [(0, (sh_r 96))] [] mem (sh_K m_Mod_nextToken Q)) ∧ ((i3 (mem 97 ((mem 96 4)).toNat)) = 10 → (∀ m2 : sh_Mem, m2 = ms mem 96 (ru (mem 96) 4 ((mem 96 4) + 1)) → sh_X g (d + 1) m_Mod_nextToken 0 [(0, (sh_r 96))] [] m2 (sh_K m_Mod_nextToken Q))))))))))) : sh_X g (d + 1) m_Mod_nextToken 0 [(0, (sh_r 96))] [] mem (sh_K m_Mod_nextToken Q) := by
  refine xr_aload_n (n := 0) (i := 0) rfl (List.mem_of_getElem? (i := 0) rfl) (by decide +kernel) ?_
  refine xr_getI rfl fl_Mod_153 (by decide) (by decide +kernel) ?_
  refine xr_aload_n (n := 0) (i := 0) rfl (List.mem_of_getElem? (i := 0) rfl) (by decide +kernel) ?_
  refine xr_getI rfl fl_Mod_150 (by decide) (by decide +kernel) ?_
  refine xr_icmp_ge (a' := (i3 (mem 96 4))) (b' := (i3 (mem 96 3))) rfl rfl (off := 44) (tgt := 52) (by decide) (by decide +kernel) ⟨fun c1 => ?_, fun c1 => ?_⟩
  · have k := k.1 c1
    refine xr_sub (lo' := [(0, (sh_r 96))]) [0] rfl ?_
    exact k
  · have k := k.2 c1
    refine xr_aload_n (n := 0) (i := 0) rfl (List.mem_of_getElem? (i := 0) rfl) (by decide +kernel) ?_
    refine xr_getR (o := 1) rfl fl_Mod_7 rfl (by decide +kernel) ?_
    show sh_X g (d + 1) m_Mod_nextToken _ _ ((sh_r 97) :: _) _ _
    refine xr_aload_n (n := 0) (i := 0) rfl (List.mem_of_getElem? (i := 0) rfl) (by decide +kernel) ?_
    refine xr_getI rfl fl_Mod_153 (by decide) (by decide +kernel) ?_
    obtain ⟨o, k⟩ := k
    refine xr_iald rfl o.1 o.2 (by decide +kernel) ?_
    refine xr_bipush (n := 32) (v := 32) (by decide) (by decide +kernel) ?_
    refine xr_icmp_eq (a' := (i3 (mem 97 ((mem 96 4)).toNat))) (b' := 32) rfl (by decide) (off := 17) (tgt := 39) (by decide) (by decide +kernel) ⟨fun c2 => ?_, fun c2 => ?_⟩
    · have k := k.1 c2
      refine xr_aload_n (n := 0) (i := 0) rfl (List.mem_of_getElem? (i := 0) rfl) (by decide +kernel) ?_
      refine xr_dupR (by decide +kernel) ?_
      refine xr_getI rfl fl_Mod_153 (by decide) (by decide +kernel) ?_
      refine xr_iconst (n := 1) (by decide +kernel) ?_
      refine xr_iadd (by decide +kernel) ?_
      show sh_X g (d + 1) m_Mod_nextToken _ _ ((sh_i ((mem 96 4) + 1)) :: _) _ _
      refine xr_putI rfl pl_Mod_153 rfl (by decide +kernel) ?_
      have k := k _ rfl
      generalize hg_m1 : ms mem 96 (ru (mem 96) 4 ((mem 96 4) + 1)) = m1 at k ⊢
      refine xr_goto (off := (-49)) (tgt := 0) (by decide) (by decide +kernel) ?_
      refine xr_sub (lo' := [(0, (sh_r 96))]) [0] rfl ?_
      exact k
    · have k := k.2 c2
      refine xr_aload_n (n := 0) (i := 0) rfl (List.mem_of_getElem? (i := 0) rfl) (by decide +kernel) ?_
      refine xr_getR (o := 1) rfl fl_Mod_7 rfl (by decide +kernel) ?_
      show sh_X g (d + 1) m_Mod_nextToken _ _ ((sh_r 97) :: _) _ _
      refine xr_aload_n (n := 0) (i := 0) rfl (List.mem_of_getElem? (i := 0) rfl) (by decide +kernel) ?_
      refine xr_getI rfl fl_Mod_153 (by decide) (by decide +kernel) ?_
      obtain ⟨o, k⟩ := k
      refine xr_iald rfl o.1 o.2 (by decide +kernel) ?_
      refine xr_bipush (n := 10) (v := 10) (by decide) (by decide +kernel) ?_
      refine xr_icmp_ne (a' := (i3 (mem 97 ((mem 96 4)).toNat))) (b' := 10) rfl (by decide) (off := 16) (tgt := 52) (by decide) (by decide +kernel) ⟨fun c3 => ?_, fun c3 => ?_⟩
      · have k := k.1 c3
        refine xr_sub (lo' := [(0, (sh_r 96))]) [0] rfl ?_
        exact k
      · have k := k.2 c3
        refine xr_aload_n (n := 0) (i := 0) rfl (List.mem_of_getElem? (i := 0) rfl) (by decide +kernel) ?_
        refine xr_dupR (by decide +kernel) ?_
        refine xr_getI rfl fl_Mod_153 (by decide) (by decide +kernel) ?_
        refine xr_iconst (n := 1) (by decide +kernel) ?_
        refine xr_iadd (by decide +kernel) ?_
        show sh_X g (d + 1) m_Mod_nextToken _ _ ((sh_i ((mem 96 4) + 1)) :: _) _ _
        refine xr_putI rfl pl_Mod_153 rfl (by decide +kernel) ?_
        have k := k _ rfl
        generalize hg_m2 : ms mem 96 (ru (mem 96) 4 ((mem 96 4) + 1)) = m2 at k ⊢
        refine xr_goto (off := (-49)) (tgt := 0) (by decide) (by decide +kernel) ?_
        refine xr_sub (lo' := [(0, (sh_r 96))]) [0] rfl ?_
        exact k
theorem v_Mod_nextToken_52 {g : sh_G} {d : Nat}   {mem : sh_Mem} {Q : Option sh_V → sh_Mem → Prop}   (k : (∀ m1 : sh_Mem, m1 = ms mem 96 (ru (mem 96) 5 (mem 96 4)) → (∀ m2 : sh_Mem, m2 = ms m1 96 (ru (m1 96) 7 0) → (∀ m3 : sh_Mem, m3 = ms m2 96 (ru (m2 96) 8 0) → ((¬ (i3 (m3 96 4)) = (i3 (m3 96 3)) → ((0 ≤ (m3 96 4) ∧ (m3 96 4) < 1000) ∧ (((i3 (m3 97 ((m3 96 4)).toNat)) < 97 → sh_X g (d + 1) m_Mod_nextToken 212 [(0, (sh_r 96)), (1, (sh_i (m3 97 ((m3 96 4)).toNat)))] [] m3 (sh_K m_Mod_nextToken Q)) ∧ (¬ (i3 (m3 97 ((m3 96 4)).toNat)) < 97 → ((122 < (i3 (m3 97 ((m3 96 4)).toNat)) → sh_X g (d + 1) m_Mod_nextToken 212 [(0, (sh_r 96)), (1, (sh_i (m3 97 ((m3 96 4)).toNat)))] [] m3 (sh_K m_Mod_nextToken Q)) ∧ (¬ 122 < (i3 (m3 97 ((m3 96 4)).toNat)) → sh_X g (d + 1) m_Mod_nextToken 109 [(0, (sh_r 96)), (1, (sh_i (m3 97 ((m3 96 4)).toNat)))] [] m3 (sh_K m_Mod_nextToken Q))))))) ∧ ((i3 (m3 96 4)) = (i3 (m3 96 3)) → (∀ m4 : sh_Mem, m4 = ms m3 96 (ru (m3 96) 6 0) → Q none m4))))))) : sh_X g (d + 1) m_Mod_nextToken 52 [(0, (sh_r 96))] [] mem (sh_K m_Mod_nextToken Q) := by
  refine xr_aload_n (n := 0) (i := 0) rfl (List.mem_of_getElem? (i := 0) rfl) (by decide +kernel) ?_
  refine xr_aload_n (n := 0) (i := 0) rfl (List.mem_of_getElem? (i := 0) rfl) (by decide +kernel) ?_
  refine xr_getI rfl fl_Mod_153 (by decide) (by decide +kernel) ?_
  refine xr_putI rfl pl_Mod_156 rfl (by decide +kernel) ?_
  have k := k _ rfl
  generalize hg_m1 : ms mem 96 (ru (mem 96) 5 (mem 96 4)) = m1 at k ⊢
  refine xr_aload_n (n := 0) (i := 0) rfl (List.mem_of_getElem? (i := 0) rfl) (by decide +kernel) ?_
  refine xr_lconst (n := 0) (v := 0) (by decide) (by decide +kernel) ?_
  refine xr_putL rfl pl_Mod_159 rfl (by decide +kernel) ?_
  have k := k _ rfl
  generalize hg_m2 : ms m1 96 (ru (m1 96) 7 0) = m2 at k ⊢
  refine xr_aload_n (n := 0) (i := 0) rfl (List.mem_of_getElem? (i := 0) rfl) (by decide +kernel) ?_
  refine xr_iconst (n := 0) (by decide +kernel) ?_
  refine xr_putI rfl pl_Mod_163 rfl (by decide +kernel) ?_
  have k := k _ rfl
  generalize hg_m3 : ms m2 96 (ru (m2 96) 8 0) = m3 at k ⊢
  refine xr_aload_n (n := 0) (i := 0) rfl (List.mem_of_getElem? (i := 0) rfl) (by decide +kernel) ?_
  refine xr_getI rfl fl_Mod_153 (by decide) (by decide +kernel) ?_
  refine xr_aload_n (n := 0) (i := 0) rfl (List.mem_of_getElem? (i := 0) rfl) (by decide +kernel) ?_
  refine xr_getI rfl fl_Mod_150 (by decide) (by decide +kernel) ?_
  refine xr_icmp_ne (a' := (i3 (m3 96 4))) (b' := (i3 (m3 96 3))) rfl rfl (off := 9) (tgt := 87) (by decide) (by decide +kernel) ⟨fun c1 => ?_, fun c1 => ?_⟩
  · have k := k.1 c1
    refine xr_aload_n (n := 0) (i := 0) rfl (List.mem_of_getElem? (i := 0) rfl) (by decide +kernel) ?_
    refine xr_getR (o := 1) rfl fl_Mod_7 rfl (by decide +kernel) ?_
    show sh_X g (d + 1) m_Mod_nextToken _ _ ((sh_r 97) :: _) _ _
    refine xr_aload_n (n := 0) (i := 0) rfl (List.mem_of_getElem? (i := 0) rfl) (by decide +kernel) ?_
    refine xr_getI rfl fl_Mod_153 (by decide) (by decide +kernel) ?_
    obtain ⟨o, k⟩ := k
    refine xr_iald rfl o.1 o.2 (by decide +kernel) ?_
    refine xr_istore_n (n := 1) (i := 1) rfl (by decide) rfl (by decide +kernel) ?_
    refine xr_iload_n (n := 1) (i := 1) rfl (List.mem_of_getElem? (i := 0) rfl) (by decide +kernel) ?_
    refine xr_bipush (n := 97) (v := 97) (by decide) (by decide +kernel) ?_
    refine xr_icmp_lt (a' := (i3 (m3 97 ((m3 96 4)).toNat))) (b' := 97) rfl (by decide) (off := 112) (tgt := 212) (by decide) (by decide +kernel) ⟨fun c2 => ?_, fun c2 => ?_⟩
    · have k := k.1 c2
      refine xr_sub (lo' := [(0, (sh_r 96)), (1, (sh_i (m3 97 ((m3 96 4)).toNat)))]) [1, 0] rfl ?_
      exact k
    · have k := k.2 c2
      refine xr_iload_n (n := 1) (i := 1) rfl (List.mem_of_getElem? (i := 0) rfl) (by decide +kernel) ?_
      refine xr_bipush (n := 122) (v := 122) (by decide) (by decide +kernel) ?_
      refine xr_icmp_gt (a' := (i3 (m3 97 ((m3 96 4)).toNat))) (b' := 122) rfl (by decide) (off := 106) (tgt := 212) (by decide) (by decide +kernel) ⟨fun c3 => ?_, fun c3 => ?_⟩
      · have k := k.1 c3
        refine xr_sub (lo' := [(0, (sh_r 96)), (1, (sh_i (m3 97 ((m3 96 4)).toNat)))]) [1, 0] rfl ?_
        exact k
      · have k := k.2 c3
        refine xr_sub (lo' := [(0, (sh_r 96)), (1, (sh_i (m3 97 ((m3 96 4)).toNat)))]) [1, 0] rfl ?_
        exact k
  · have k := k.2 c1
    refine xr_aload_n (n := 0) (i := 0) rfl (List.mem_of_getElem? (i := 0) rfl) (by decide +kernel) ?_
    refine xr_iconst (n := 0) (by decide +kernel) ?_
    refine xr_putI rfl pl_Mod_166 rfl (by decide +kernel) ?_
    have k := k _ rfl
    generalize hg_m4 : ms m3 96 (ru (m3 96) 6 0) = m4 at k ⊢
    exact xr_ret rfl (by decide +kernel) k
theorem v_Mod_nextToken_212 {g : sh_G} {d : Nat}   {mem : sh_Mem} {Q : Option sh_V → sh_Mem → Prop}  {x1 : Int} (k : (((i3 x1) < 48 → sh_X g (d + 1) m_Mod_nextToken 322 [(0, (sh_r 96)), (1, (sh_i x1))] [] mem (sh_K m_Mod_nextToken Q)) ∧ (¬ (i3 x1) < 48 → ((57 < (i3 x1) → sh_X g (d + 1) m_Mod_nextToken 322 [(0, (sh_r 96)), (1, (sh_i x1))] [] mem (sh_K m_Mod_nextToken Q)) ∧ (¬ 57 < (i3 x1) → sh_X g (d + 1) m_Mod_nextToken 224 [(0, (sh_r 96)), (1, (sh_i x1))] [] mem (sh_K m_Mod_nextToken Q)))))) : sh_X g (d + 1) m_Mod_nextToken 212 [(0, (sh_r 96)), (1, (sh_i x1))] [] mem (sh_K m_Mod_nextToken Q) := by
  refine xr_iload_n (n := 1) (i := 1) rfl (List.mem_of_getElem? (i := 1) rfl) (by decide +kernel) ?_
  refine xr_bipush (n := 48) (v := 48) (by decide) (by decide +kernel) ?_
  refine xr_icmp_lt (a' := (i3 x1)) (b' := 48) rfl (by decide) (off := 107) (tgt := 322) (by decide) (by decide +kernel) ⟨fun c1 => ?_, fun c1 => ?_⟩
  · have k := k.1 c1
    refine xr_sub (lo' := [(0, (sh_r 96)), (1, (sh_i x1))]) [0, 1] rfl ?_
    exact k
  · have k := k.2 c1
    refine xr_iload_n (n := 1) (i := 1) rfl (List.mem_of_getElem? (i := 1) rfl) (by decide +kernel) ?_
    refine xr_bipush (n := 57) (v := 57) (by decide) (by decide +kernel) ?_
    refine xr_icmp_gt (a' := (i3 x1)) (b' := 57) rfl (by decide) (off := 101) (tgt := 322) (by decide) (by decide +kernel) ⟨fun c2 => ?_, fun c2 => ?_⟩
    · have k := k.1 c2
      refine xr_sub (lo' := [(0, (sh_r 96)), (1, (sh_i x1))]) [0, 1] rfl ?_
      exact k
    · have k := k.2 c2
      refine xr_sub (lo' := [(0, (sh_r 96)), (1, (sh_i x1))]) [0, 1] rfl ?_
      exact k
theorem v_Mod_nextToken_109 {g : sh_G} {d : Nat}   {mem : sh_Mem} {Q : Option sh_V → sh_Mem → Prop}  {x1 : Int} (k : (sh_Cal g d m_Mod_signAt [(sh_r 96), (sh_i (mem 96 4))] mem fun rv m1 => ∃ r1 : Int, rv = some (sh_i r1) ∧ (((i3 r1) < 97 → (((i3 ((m1 96 4) - (m1 96 5))) ≤ 8 → (∀ m2 : sh_Mem, m2 = ms m1 96 (ru (m1 96) 6 1) → Q none m2)) ∧ (¬ (i3 ((m1 96 4) - (m1 96 5))) ≤ 8 → (∀ m3 : sh_Mem, m3 = ms m1 96 (ru (m1 96) 6 4) → Q none m3)))) ∧ (¬ (i3 r1) < 97 → (sh_Cal g d m_Mod_signAt [(sh_r 96), (sh_i (m1 96 4))] m1 fun rv m4 => ∃ r2 : Int, rv = some (sh_i r2) ∧ ((122 < (i3 r2) → (((i3 ((m4 96 4) - (m4 96 5))) ≤ 8 → (∀ m5 : sh_Mem, m5 = ms m4 96 (ru (m4 96) 6 1) → Q none m5)) ∧ (¬ (i3 ((m4 96 4) - (m4 96 5))) ≤ 8 → (∀ m6 : sh_Mem, m6 = ms m4 96 (ru (m4 96) 6 4) → Q none m6)))) ∧ (¬ 122 < (i3 r2) → ((8 ≤ (i3 ((m4 96 4) - (m4 96 5))) → (∀ m7 : sh_Mem, m7 = ms m4 96 (ru (m4 96) 4 ((m4 96 4) + 1)) → sh_X g (d + 1) m_Mod_nextToken 109 [(0, (sh_r 96)), (1, (sh_i x1))] [] m7 (sh_K m_Mod_nextToken Q))) ∧ (¬ 8 ≤ (i3 ((m4 96 4) - (m4 96 5))) → (sh_Cal g d m_Mod_signAt [(sh_r 96), (sh_i (m4 96 4))] m4 fun rv m8 => ∃ r3 : Int, rv = some (sh_i r3) ∧ (∀ m9 : sh_Mem, m9 = ms m8 96 (ru (m8 96) 7 ((((m4 96 7) * 27) + (i_2l r3)) - 96)) → (∀ m10 : sh_Mem, m10 = ms m9 96 (ru (m9 96) 4 ((m9 96 4) + 1)) → sh_X g (d + 1) m_Mod_nextToken 109 [(0, (sh_r 96)), (1, (sh_i x1))] [] m10 (sh_K m_Mod_nextToken Q))))))))))))) : sh_X g (d + 1) m_Mod_nextToken 109 [(0, (sh_r 96)), (1, (sh_i x1))] [] mem (sh_K m_Mod_nextToken Q) := by
  refine xr_aload_n (n := 0) (i := 0) rfl (List.mem_of_getElem? (i := 0) rfl) (by decide +kernel) ?_
  refine xr_aload_n (n := 0) (i := 0) rfl (List.mem_of_getElem? (i := 0) rfl) (by decide +kernel) ?_
  refine xr_getI rfl fl_Mod_153 (by decide) (by decide +kernel) ?_
  refine xr_callV (av := [(sh_i (mem 96 4))]) rfl rfl rfl mo_Mod_signAt ml_Mod_169 im_Mod_signAt se_Mod_signAt rfl (Nat.le_of_ble_eq_true rfl) (by decide +kernel) (sh_mono k ?_)
  rintro rv m1 ⟨r1, rfl, k⟩
  show sh_X g (d + 1) m_Mod_nextToken _ _ [(sh_i r1)] _ _
  refine xr_bipush (n := 97) (v := 97) (by decide) (by decide +kernel) ?_
  refine xr_icmp_lt (a' := (i3 r1)) (b' := 97) rfl (by decide) (off := 69) (tgt := 188) (by decide) (by decide +kernel) ⟨fun c1 => ?_, fun c1 => ?_⟩
  · have k := k.1 c1
    refine xr_aload_n (n := 0) (i := 0) rfl (List.mem_of_getElem? (i := 0) rfl) (by decide +kernel) ?_
    refine xr_aload_n (n := 0) (i := 0) rfl (List.mem_of_getElem? (i := 0) rfl) (by decide +kernel) ?_
    refine xr_getI rfl fl_Mod_153 (by decide) (by decide +kernel) ?_
    refine xr_aload_n (n := 0) (i := 0) rfl (List.mem_of_getElem? (i := 0) rfl) (by decide +kernel) ?_
    refine xr_getI rfl fl_Mod_156 (by decide) (by decide +kernel) ?_
    refine xr_isub (by decide +kernel) ?_
    show sh_X g (d + 1) m_Mod_nextToken _ _ ((sh_i ((m1 96 4) - (m1 96 5))) :: _) _ _
    refine xr_bipush (n := 8) (v := 8) (by decide) (by decide +kernel) ?_
    refine xr_icmp_le (a' := (i3 ((m1 96 4) - (m1 96 5)))) (b' := 8) rfl (by decide) (off := 7) (tgt := 207) (by decide) (by decide +kernel) ⟨fun c2 => ?_, fun c2 => ?_⟩
    · have k := k.1 c2
      refine xr_iconst (n := 1) (by decide +kernel) ?_
      refine xr_putI rfl pl_Mod_166 rfl (by decide +kernel) ?_
      have k := k _ rfl
      generalize hg_m2 : ms m1 96 (ru (m1 96) 6 1) = m2 at k ⊢
      exact xr_ret rfl (by decide +kernel) k
    · have k := k.2 c2
      refine xr_iconst (n := 4) (by decide +kernel) ?_
      refine xr_goto (off := 4) (tgt := 208) (by decide) (by decide +kernel) ?_
      refine xr_putI rfl pl_Mod_166 rfl (by decide +kernel) ?_
      have k := k _ rfl
      generalize hg_m3 : ms m1 96 (ru (m1 96) 6 4) = m3 at k ⊢
      exact xr_ret rfl (by decide +kernel) k
  · have k := k.2 c1
    refine xr_aload_n (n := 0) (i := 0) rfl (List.mem_of_getElem? (i := 0) rfl) (by decide +kernel) ?_
    refine xr_aload_n (n := 0) (i := 0) rfl (List.mem_of_getElem? (i := 0) rfl) (by decide +kernel) ?_
    refine xr_getI rfl fl_Mod_153 (by decide) (by decide +kernel) ?_
    refine xr_callV (av := [(sh_i (m1 96 4))]) rfl rfl rfl mo_Mod_signAt ml_Mod_169 im_Mod_signAt se_Mod_signAt rfl (Nat.le_of_ble_eq_true rfl) (by decide +kernel) (sh_mono k ?_)
    rintro rv m4 ⟨r2, rfl, k⟩
    show sh_X g (d + 1) m_Mod_nextToken _ _ [(sh_i r2)] _ _
    refine xr_bipush (n := 122) (v := 122) (by decide) (by decide +kernel) ?_
    refine xr_icmp_gt (a' := (i3 r2)) (b' := 122) rfl (by decide) (off := 56) (tgt := 188) (by decide) (by decide +kernel) ⟨fun c3 => ?_, fun c3 => ?_⟩
    · have k := k.1 c3
      refine xr_aload_n (n := 0) (i := 0) rfl (List.mem_of_getElem? (i := 0) rfl) (by decide +kernel) ?_
      refine xr_aload_n (n := 0) (i := 0) rfl (List.mem_of_getElem? (i := 0) rfl) (by decide +kernel) ?_
      refine xr_getI rfl fl_Mod_153 (by decide) (by decide +kernel) ?_
      refine xr_aload_n (n := 0) (i := 0) rfl (List.mem_of_getElem? (i := 0) rfl) (by decide +kernel) ?_
      refine xr_getI rfl fl_Mod_156 (by decide) (by decide +kernel) ?_
      refine xr_isub (by decide +kernel) ?_
      show sh_X g (d + 1) m_Mod_nextToken _ _ ((sh_i ((m4 96 4) - (m4 96 5))) :: _) _ _
      refine xr_bipush (n := 8) (v := 8) (by decide) (by decide +kernel) ?_
      refine xr_icmp_le (a' := (i3 ((m4 96 4) - (m4 96 5)))) (b' := 8) rfl (by decide) (off := 7) (tgt := 207) (by decide) (by decide +kernel) ⟨fun c4 => ?_, fun c4 => ?_⟩
      · have k := k.1 c4
        refine xr_iconst (n := 1) (by decide +kernel) ?_
        refine xr_putI rfl pl_Mod_166 rfl (by decide +kernel) ?_
        have k := k _ rfl
        generalize hg_m5 : ms m4 96 (ru (m4 96) 6 1) = m5 at k ⊢
        exact xr_ret rfl (by decide +kernel) k
      · have k := k.2 c4
        refine xr_iconst (n := 4) (by decide +kernel) ?_
        refine xr_goto (off := 4) (tgt := 208) (by decide) (by decide +kernel) ?_
        refine xr_putI rfl pl_Mod_166 rfl (by decide +kernel) ?_
        have k := k _ rfl
        generalize hg_m6 : ms m4 96 (ru (m4 96) 6 4) = m6 at k ⊢
        exact xr_ret rfl (by decide +kernel) k
    · have k := k.2 c3
      refine xr_aload_n (n := 0) (i := 0) rfl (List.mem_of_getElem? (i := 0) rfl) (by decide +kernel) ?_
      refine xr_getI rfl fl_Mod_153 (by decide) (by decide +kernel) ?_
      refine xr_aload_n (n := 0) (i := 0) rfl (List.mem_of_getElem? (i := 0) rfl) (by decide +kernel) ?_
      refine xr_getI rfl fl_Mod_156 (by decide) (by decide +kernel) ?_
      refine xr_isub (by decide +kernel) ?_
      show sh_X g (d + 1) m_Mod_nextToken _ _ ((sh_i ((m4 96 4) - (m4 96 5))) :: _) _ _
      refine xr_bipush (n := 8) (v := 8) (by decide) (by decide +kernel) ?_
      refine xr_icmp_ge (a' := (i3 ((m4 96 4) - (m4 96 5)))) (b' := 8) rfl (by decide) (off := 29) (tgt := 175) (by decide) (by decide +kernel) ⟨fun c5 => ?_, fun c5 => ?_⟩
      · have k := k.1 c5
        refine xr_aload_n (n := 0) (i := 0) rfl (List.mem_of_getElem? (i := 0) rfl) (by decide +kernel) ?_
        refine xr_dupR (by decide +kernel) ?_
        refine xr_getI rfl fl_Mod_153 (by decide) (by decide +kernel) ?_
        refine xr_iconst (n := 1) (by decide +kernel) ?_
        refine xr_iadd (by decide +kernel) ?_
        show sh_X g (d + 1) m_Mod_nextToken _ _ ((sh_i ((m4 96 4) + 1)) :: _) _ _
        refine xr_putI rfl pl_Mod_153 rfl (by decide +kernel) ?_
        have k := k _ rfl
        generalize hg_m7 : ms m4 96 (ru (m4 96) 4 ((m4 96 4) + 1)) = m7 at k ⊢
        refine xr_goto (off := (-76)) (tgt := 109) (by decide) (by decide +kernel) ?_
        refine xr_sub (lo' := [(0, (sh_r 96)), (1, (sh_i x1))]) [0, 1] rfl ?_
        exact k
      · have k := k.2 c5
        refine xr_aload_n (n := 0) (i := 0) rfl (List.mem_of_getElem? (i := 0) rfl) (by decide +kernel) ?_
        refine xr_aload_n (n := 0) (i := 0) rfl (List.mem_of_getElem? (i := 0) rfl) (by decide +kernel) ?_
        refine xr_getL rfl fl_Mod_159 (by decide) (by decide +kernel) ?_
        refine xr_ldc2 (v := 27) (by decide) kl_Mod_173 (by decide +kernel) ?_
        refine xr_lmul (by decide +kernel) ?_
        show sh_X g (d + 1) m_Mod_nextToken _ _ ((sh_l ((m4 96 7) * 27)) :: _) _ _
        refine xr_aload_n (n := 0) (i := 0) rfl (List.mem_of_getElem? (i := 0) rfl) (by decide +kernel) ?_
        refine xr_aload_n (n := 0) (i := 0) rfl (List.mem_of_getElem? (i := 0) rfl) (by decide +kernel) ?_
        refine xr_getI rfl fl_Mod_153 (by decide) (by decide +kernel) ?_
        refine xr_callV (av := [(sh_i (m4 96 4))]) rfl rfl rfl mo_Mod_signAt ml_Mod_169 im_Mod_signAt se_Mod_signAt rfl (Nat.le_of_ble_eq_true rfl) (by decide +kernel) (sh_mono k ?_)
        rintro rv m8 ⟨r3, rfl, k⟩
        show sh_X g (d + 1) m_Mod_nextToken _ _ [(sh_i r3), (sh_l ((m4 96 7) * 27)), (sh_r 96)] _ _
        refine xr_i2l (by decide +kernel) ?_
        refine xr_ladd (by decide +kernel) ?_
        show sh_X g (d + 1) m_Mod_nextToken _ _ ((sh_l (((m4 96 7) * 27) + (i_2l r3))) :: _) _ _
        refine xr_ldc2 (v := 96) (by decide) kl_Mod_175 (by decide +kernel) ?_
        refine xr_lsub (by decide +kernel) ?_
        show sh_X g (d + 1) m_Mod_nextToken _ _ ((sh_l ((((m4 96 7) * 27) + (i_2l r3)) - 96)) :: _) _ _
        refine xr_putL rfl pl_Mod_159 rfl (by decide +kernel) ?_
        have k := k _ rfl
        generalize hg_m9 : ms m8 96 (ru (m8 96) 7 ((((m4 96 7) * 27) + (i_2l r3)) - 96)) = m9 at k ⊢
        refine xr_aload_n (n := 0) (i := 0) rfl (List.mem_of_getElem? (i := 0) rfl) (by decide +kernel) ?_
        refine xr_dupR (by decide +kernel) ?_
        refine xr_getI rfl fl_Mod_153 (by decide) (by decide +kernel) ?_
        refine xr_iconst (n := 1) (by decide +kernel) ?_
        refine xr_iadd (by decide +kernel) ?_
        show sh_X g (d + 1) m_Mod_nextToken _ _ ((sh_i ((m9 96 4) + 1)) :: _) _ _
        refine xr_putI rfl pl_Mod_153 rfl (by decide +kernel) ?_
        have k := k _ rfl
        generalize hg_m10 : ms m9 96 (ru (m9 96) 4 ((m9 96 4) + 1)) = m10 at k ⊢
        refine xr_goto (off := (-76)) (tgt := 109) (by decide) (by decide +kernel) ?_
        refine xr_sub (lo' := [(0, (sh_r 96)), (1, (sh_i x1))]) [0, 1] rfl ?_
        exact k
theorem v_Mod_nextToken_322 {g : sh_G} {d : Nat}   {mem : sh_Mem} {Q : Option sh_V → sh_Mem → Prop}  {x1 : Int} (k : (∀ m1 : sh_Mem, m1 = ms mem 96 (ru (mem 96) 4 ((mem 96 4) + 1)) → (((i3 x1) < 40 → (((i3 x1) = 45 → (∀ m2 : sh_Mem, m2 = ms m1 96 (ru (m1 96) 6 3) → Q none m2)) ∧ (¬ (i3 x1) = 45 → (((i3 x1) < 59 → (∀ m3 : sh_Mem, m3 = ms m1 96 (ru (m1 96) 6 4) → Q none m3)) ∧ (¬ (i3 x1) < 59 → ((61 < (i3 x1) → (∀ m4 : sh_Mem, m4 = ms m1 96 (ru (m1 96) 6 4) → Q none m4)) ∧ (¬ 61 < (i3 x1) → (∀ m5 : sh_Mem, m5 = ms m1 96 (ru (m1 96) 6 3) → Q none m5)))))))) ∧ (¬ (i3 x1) < 40 → (((i3 x1) ≤ 43 → (∀ m6 : sh_Mem, m6 = ms m1 96 (ru (m1 96) 6 3) → Q none m6)) ∧ (¬ (i3 x1) ≤ 43 → (((i3 x1) = 45 → (∀ m7 : sh_Mem, m7 = ms m1 96 (ru (m1 96) 6 3) → Q none m7)) ∧ (¬ (i3 x1) = 45 → (((i3 x1) < 59 → (∀ m8 : sh_Mem, m8 = ms m1 96 (ru (m1 96) 6 4) → Q none m8)) ∧ (¬ (i3 x1) < 59 → ((61 < (i3 x1) → (∀ m9 : sh_Mem, m9 = ms m1 96 (ru (m1 96) 6 4) → Q none m9)) ∧ (¬ 61 < (i3 x1) → (∀ m10 : sh_Mem, m10 = ms m1 96 (ru (m1 96) 6 3) → Q none m10))))))))))))) : sh_X g (d + 1) m_Mod_nextToken 322 [(0, (sh_r 96)), (1, (sh_i x1))] [] mem (sh_K m_Mod_nextToken Q) := by
  refine xr_aload_n (n := 0) (i := 0) rfl (List.mem_of_getElem? (i := 0) rfl) (by decide +kernel) ?_
  refine xr_dupR (by decide +kernel) ?_
  refine xr_getI rfl fl_Mod_153 (by decide) (by decide +kernel) ?_
  refine xr_iconst (n := 1) (by decide +kernel) ?_
  refine xr_iadd (by decide +kernel) ?_
  show sh_X g (d + 1) m_Mod_nextToken _ _ ((sh_i ((mem 96 4) + 1)) :: _) _ _
  refine xr_putI rfl pl_Mod_153 rfl (by decide +kernel) ?_
  have k := k _ rfl
  generalize hg_m1 : ms mem 96 (ru (mem 96) 4 ((mem 96 4) + 1)) = m1 at k ⊢
  refine xr_aload_n (n := 0) (i := 0) rfl (List.mem_of_getElem? (i := 0) rfl) (by decide +kernel) ?_
  refine xr_iload_n (n := 1) (i := 1) rfl (List.mem_of_getElem? (i := 1) rfl) (by decide +kernel) ?_
  refine xr_bipush (n := 40) (v := 40) (by decide) (by decide +kernel) ?_
  refine xr_icmp_lt (a' := (i3 x1)) (b' := 40) rfl (by decide) (off := 9) (tgt := 345) (by decide) (by decide +kernel) ⟨fun c1 => ?_, fun c1 => ?_⟩
  · have k := k.1 c1
    refine xr_iload_n (n := 1) (i := 1) rfl (List.mem_of_getElem? (i := 1) rfl) (by decide +kernel) ?_
    refine xr_bipush (n := 45) (v := 45) (by decide) (by decide +kernel) ?_
    refine xr_icmp_eq (a' := (i3 x1)) (b' := 45) rfl (by decide) (off := 15) (tgt := 363) (by decide) (by decide +kernel) ⟨fun c2 => ?_, fun c2 => ?_⟩
    · have k := k.1 c2
      refine xr_iconst (n := 3) (by decide +kernel) ?_
      refine xr_goto (off := 4) (tgt := 368) (by decide) (by decide +kernel) ?_
      refine xr_putI rfl pl_Mod_166 rfl (by decide +kernel) ?_
      have k := k _ rfl
      generalize hg_m2 : ms m1 96 (ru (m1 96) 6 3) = m2 at k ⊢
      exact xr_ret rfl (by decide +kernel) k
    · have k := k.2 c2
      refine xr_iload_n (n := 1) (i := 1) rfl (List.mem_of_getElem? (i := 1) rfl) (by decide +kernel) ?_
      refine xr_bipush (n := 59) (v := 59) (by decide) (by decide +kernel) ?_
      refine xr_icmp_lt (a' := (i3 x1)) (b' := 59) rfl (by decide) (off := 13) (tgt := 367) (by decide) (by decide +kernel) ⟨fun c3 => ?_, fun c3 => ?_⟩
      · have k := k.1 c3
        refine xr_iconst (n := 4) (by decide +kernel) ?_
        refine xr_putI rfl pl_Mod_166 rfl (by decide +kernel) ?_
        have k := k _ rfl
        generalize hg_m3 : ms m1 96 (ru (m1 96) 6 4) = m3 at k ⊢
        exact xr_ret rfl (by decide +kernel) k
      · have k := k.2 c3
        refine xr_iload_n (n := 1) (i := 1) rfl (List.mem_of_getElem? (i := 1) rfl) (by decide +kernel) ?_
        refine xr_bipush (n := 61) (v := 61) (by decide) (by decide +kernel) ?_
        refine xr_icmp_gt (a' := (i3 x1)) (b' := 61) rfl (by decide) (off := 7) (tgt := 367) (by decide) (by decide +kernel) ⟨fun c4 => ?_, fun c4 => ?_⟩
        · have k := k.1 c4
          refine xr_iconst (n := 4) (by decide +kernel) ?_
          refine xr_putI rfl pl_Mod_166 rfl (by decide +kernel) ?_
          have k := k _ rfl
          generalize hg_m4 : ms m1 96 (ru (m1 96) 6 4) = m4 at k ⊢
          exact xr_ret rfl (by decide +kernel) k
        · have k := k.2 c4
          refine xr_iconst (n := 3) (by decide +kernel) ?_
          refine xr_goto (off := 4) (tgt := 368) (by decide) (by decide +kernel) ?_
          refine xr_putI rfl pl_Mod_166 rfl (by decide +kernel) ?_
          have k := k _ rfl
          generalize hg_m5 : ms m1 96 (ru (m1 96) 6 3) = m5 at k ⊢
          exact xr_ret rfl (by decide +kernel) k
  · have k := k.2 c1
    refine xr_iload_n (n := 1) (i := 1) rfl (List.mem_of_getElem? (i := 1) rfl) (by decide +kernel) ?_
    refine xr_bipush (n := 43) (v := 43) (by decide) (by decide +kernel) ?_
    refine xr_icmp_le (a' := (i3 x1)) (b' := 43) rfl (by decide) (off := 21) (tgt := 363) (by decide) (by decide +kernel) ⟨fun c5 => ?_, fun c5 => ?_⟩
    · have k := k.1 c5
      refine xr_iconst (n := 3) (by decide +kernel) ?_
      refine xr_goto (off := 4) (tgt := 368) (by decide) (by decide +kernel) ?_
      refine xr_putI rfl pl_Mod_166 rfl (by decide +kernel) ?_
      have k := k _ rfl
      generalize hg_m6 : ms m1 96 (ru (m1 96) 6 3) = m6 at k ⊢
      exact xr_ret rfl (by decide +kernel) k
    · have k := k.2 c5
      refine xr_iload_n (n := 1) (i := 1) rfl (List.mem_of_getElem? (i := 1) rfl) (by decide +kernel) ?_
      refine xr_bipush (n := 45) (v := 45) (by decide) (by decide +kernel) ?_
      refine xr_icmp_eq (a' := (i3 x1)) (b' := 45) rfl (by decide) (off := 15) (tgt := 363) (by decide) (by decide +kernel) ⟨fun c6 => ?_, fun c6 => ?_⟩
      · have k := k.1 c6
        refine xr_iconst (n := 3) (by decide +kernel) ?_
        refine xr_goto (off := 4) (tgt := 368) (by decide) (by decide +kernel) ?_
        refine xr_putI rfl pl_Mod_166 rfl (by decide +kernel) ?_
        have k := k _ rfl
        generalize hg_m7 : ms m1 96 (ru (m1 96) 6 3) = m7 at k ⊢
        exact xr_ret rfl (by decide +kernel) k
      · have k := k.2 c6
        refine xr_iload_n (n := 1) (i := 1) rfl (List.mem_of_getElem? (i := 1) rfl) (by decide +kernel) ?_
        refine xr_bipush (n := 59) (v := 59) (by decide) (by decide +kernel) ?_
        refine xr_icmp_lt (a' := (i3 x1)) (b' := 59) rfl (by decide) (off := 13) (tgt := 367) (by decide) (by decide +kernel) ⟨fun c7 => ?_, fun c7 => ?_⟩
        · have k := k.1 c7
          refine xr_iconst (n := 4) (by decide +kernel) ?_
          refine xr_putI rfl pl_Mod_166 rfl (by decide +kernel) ?_
          have k := k _ rfl
          generalize hg_m8 : ms m1 96 (ru (m1 96) 6 4) = m8 at k ⊢
          exact xr_ret rfl (by decide +kernel) k
        · have k := k.2 c7
          refine xr_iload_n (n := 1) (i := 1) rfl (List.mem_of_getElem? (i := 1) rfl) (by decide +kernel) ?_
          refine xr_bipush (n := 61) (v := 61) (by decide) (by decide +kernel) ?_
          refine xr_icmp_gt (a' := (i3 x1)) (b' := 61) rfl (by decide) (off := 7) (tgt := 367) (by decide) (by decide +kernel) ⟨fun c8 => ?_, fun c8 => ?_⟩
          · have k := k.1 c8
            refine xr_iconst (n := 4) (by decide +kernel) ?_
            refine xr_putI rfl pl_Mod_166 rfl (by decide +kernel) ?_
            have k := k _ rfl
            generalize hg_m9 : ms m1 96 (ru (m1 96) 6 4) = m9 at k ⊢
            exact xr_ret rfl (by decide +kernel) k
          · have k := k.2 c8
            refine xr_iconst (n := 3) (by decide +kernel) ?_
            refine xr_goto (off := 4) (tgt := 368) (by decide) (by decide +kernel) ?_
            refine xr_putI rfl pl_Mod_166 rfl (by decide +kernel) ?_
            have k := k _ rfl
            generalize hg_m10 : ms m1 96 (ru (m1 96) 6 3) = m10 at k ⊢
            exact xr_ret rfl (by decide +kernel) k
theorem v_Mod_nextToken_224 {g : sh_G} {d : Nat}   {mem : sh_Mem} {Q : Option sh_V → sh_Mem → Prop}  {x1 : Int} (k : (sh_Cal g d m_Mod_signAt [(sh_r 96), (sh_i (mem 96 4))] mem fun rv m1 => ∃ r1 : Int, rv = some (sh_i r1) ∧ (((i3 r1) < 48 → (((i3 ((m1 96 4) - (m1 96 5))) ≤ 4 → (∀ m2 : sh_Mem, m2 = ms m1 96 (ru (m1 96) 6 2) → Q none m2)) ∧ (¬ (i3 ((m1 96 4) - (m1 96 5))) ≤ 4 → (∀ m3 : sh_Mem, m3 = ms m1 96 (ru (m1 96) 6 4) → Q none m3)))) ∧ (¬ (i3 r1) < 48 → (sh_Cal g d m_Mod_signAt [(sh_r 96), (sh_i (m1 96 4))] m1 fun rv m4 => ∃ r2 : Int, rv = some (sh_i r2) ∧ ((57 < (i3 r2) → (((i3 ((m4 96 4) - (m4 96 5))) ≤ 4 → (∀ m5 : sh_Mem, m5 = ms m4 96 (ru (m4 96) 6 2) → Q none m5)) ∧ (¬ (i3 ((m4 96 4) - (m4 96 5))) ≤ 4 → (∀ m6 : sh_Mem, m6 = ms m4 96 (ru (m4 96) 6 4) → Q none m6)))) ∧ (¬ 57 < (i3 r2) → ((4 ≤ (i3 ((m4 96 4) - (m4 96 5))) → (∀ m7 : sh_Mem, m7 = ms m4 96 (ru (m4 96) 4 ((m4 96 4) + 1)) → sh_X g (d + 1) m_Mod_nextToken 224 [(0, (sh_r 96)), (1, (sh_i x1))] [] m7 (sh_K m_Mod_nextToken Q))) ∧ (¬ 4 ≤ (i3 ((m4 96 4) - (m4 96 5))) → (sh_Cal g d m_Mod_signAt [(sh_r 96), (sh_i (m4 96 4))] m4 fun rv m8 => ∃ r3 : Int, rv = some (sh_i r3) ∧ (∀ m9 : sh_Mem, m9 = ms m8 96 (ru (m8 96) 8 ((((m4 96 8) * 10) + r3) - 48)) → (∀ m10 : sh_Mem, m10 = ms m9 96 (ru (m9 96) 4 ((m9 96 4) + 1)) → sh_X g (d + 1) m_Mod_nextToken 224 [(0, (sh_r 96)), (1, (sh_i x1))] [] m10 (sh_K m_Mod_nextToken Q))))))))))))) : sh_X g (d + 1) m_Mod_nextToken 224 [(0, (sh_r 96)), (1, (sh_i x1))] [] mem (sh_K m_Mod_nextToken Q) := by
  refine xr_aload_n (n := 0) (i := 0) rfl (List.mem_of_getElem? (i := 0) rfl) (by decide +kernel) ?_
  refine xr_aload_n (n := 0) (i := 0) rfl (List.mem_of_getElem? (i := 0) rfl) (by decide +kernel) ?_
  refine xr_getI rfl fl_Mod_153 (by decide) (by decide +kernel) ?_
  refine xr_callV (av := [(sh_i (mem 96 4))]) rfl rfl rfl mo_Mod_signAt ml_Mod_169 im_Mod_signAt se_Mod_signAt rfl (Nat.le_of_ble_eq_true rfl) (by decide +kernel) (sh_mono k ?_)
  rintro rv m1 ⟨r1, rfl, k⟩
  show sh_X g (d + 1) m_Mod_nextToken _ _ [(sh_i r1)] _ _
  refine xr_bipush (n := 48) (v := 48) (by decide) (by decide +kernel) ?_
  refine xr_icmp_lt (a' := (i3 r1)) (b' := 48) rfl (by decide) (off := 65) (tgt := 299) (by decide) (by decide +kernel) ⟨fun c1 => ?_, fun c1 => ?_⟩
  · have k := k.1 c1
    refine xr_aload_n (n := 0) (i := 0) rfl (List.mem_of_getElem? (i := 0) rfl) (by decide +kernel) ?_
    refine xr_aload_n (n := 0) (i := 0) rfl (List.mem_of_getElem? (i := 0) rfl) (by decide +kernel) ?_
    refine xr_getI rfl fl_Mod_153 (by decide) (by decide +kernel) ?_
    refine xr_aload_n (n := 0) (i := 0) rfl (List.mem_of_getElem? (i := 0) rfl) (by decide +kernel) ?_
    refine xr_getI rfl fl_Mod_156 (by decide) (by decide +kernel) ?_
    refine xr_isub (by decide +kernel) ?_
    show sh_X g (d + 1) m_Mod_nextToken _ _ ((sh_i ((m1 96 4) - (m1 96 5))) :: _) _ _
    refine xr_iconst (n := 4) (by decide +kernel) ?_
    refine xr_icmp_le (a' := (i3 ((m1 96 4) - (m1 96 5)))) (b' := 4) rfl (by decide) (off := 7) (tgt := 317) (by decide) (by decide +kernel) ⟨fun c2 => ?_, fun c2 => ?_⟩
    · have k := k.1 c2
      refine xr_iconst (n := 2) (by decide +kernel) ?_
      refine xr_putI rfl pl_Mod_166 rfl (by decide +kernel) ?_
      have k := k _ rfl
      generalize hg_m2 : ms m1 96 (ru (m1 96) 6 2) = m2 at k ⊢
      exact xr_ret rfl (by decide +kernel) k
    · have k := k.2 c2
      refine xr_iconst (n := 4) (by decide +kernel) ?_
      refine xr_goto (off := 4) (tgt := 318) (by decide) (by decide +kernel) ?_
      refine xr_putI rfl pl_Mod_166 rfl (by decide +kernel) ?_
      have k := k _ rfl
      generalize hg_m3 : ms m1 96 (ru (m1 96) 6 4) = m3 at k ⊢
      exact xr_ret rfl (by decide +kernel) k
  · have k := k.2 c1
    refine xr_aload_n (n := 0) (i := 0) rfl (List.mem_of_getElem? (i := 0) rfl) (by decide +kernel) ?_
    refine xr_aload_n (n := 0) (i := 0) rfl (List.mem_of_getElem? (i := 0) rfl) (by decide +kernel) ?_
    refine xr_getI rfl fl_Mod_153 (by decide) (by decide +kernel) ?_
    refine xr_callV (av := [(sh_i (m1 96 4))]) rfl rfl rfl mo_Mod_signAt ml_Mod_169 im_Mod_signAt se_Mod_signAt rfl (Nat.le_of_ble_eq_true rfl) (by decide +kernel) (sh_mono k ?_)
    rintro rv m4 ⟨r2, rfl, k⟩
    show sh_X g (d + 1) m_Mod_nextToken _ _ [(sh_i r2)] _ _
    refine xr_bipush (n := 57) (v := 57) (by decide) (by decide +kernel) ?_
    refine xr_icmp_gt (a' := (i3 r2)) (b' := 57) rfl (by decide) (off := 52) (tgt := 299) (by decide) (by decide +kernel) ⟨fun c3 => ?_, fun c3 => ?_⟩
    · have k := k.1 c3
      refine xr_aload_n (n := 0) (i := 0) rfl (List.mem_of_getElem? (i := 0) rfl) (by decide +kernel) ?_
      refine xr_aload_n (n := 0) (i := 0) rfl (List.mem_of_getElem? (i := 0) rfl) (by decide +kernel) ?_
      refine xr_getI rfl fl_Mod_153 (by decide) (by decide +kernel) ?_
      refine xr_aload_n (n := 0) (i := 0) rfl (List.mem_of_getElem? (i := 0) rfl) (by decide +kernel) ?_
      refine xr_getI rfl fl_Mod_156 (by decide) (by decide +kernel) ?_
      refine xr_isub (by decide +kernel) ?_
      show sh_X g (d + 1) m_Mod_nextToken _ _ ((sh_i ((m4 96 4) - (m4 96 5))) :: _) _ _
      refine xr_iconst (n := 4) (by decide +kernel) ?_
      refine xr_icmp_le (a' := (i3 ((m4 96 4) - (m4 96 5)))) (b' := 4) rfl (by decide) (off := 7) (tgt := 317) (by decide) (by decide +kernel) ⟨fun c4 => ?_, fun c4 => ?_⟩
      · have k := k.1 c4
        refine xr_iconst (n := 2) (by decide +kernel) ?_
        refine xr_putI rfl pl_Mod_166 rfl (by decide +kernel) ?_
        have k := k _ rfl
        generalize hg_m5 : ms m4 96 (ru (m4 96) 6 2) = m5 at k ⊢
        exact xr_ret rfl (by decide +kernel) k
      · have k := k.2 c4
        refine xr_iconst (n := 4) (by decide +kernel) ?_
        refine xr_goto (off := 4) (tgt := 318) (by decide) (by decide +kernel) ?_
        refine xr_putI rfl pl_Mod_166 rfl (by decide +kernel) ?_
        have k := k _ rfl
        generalize hg_m6 : ms m4 96 (ru (m4 96) 6 4) = m6 at k ⊢
        exact xr_ret rfl (by decide +kernel) k
    · have k := k.2 c3
      refine xr_aload_n (n := 0) (i := 0) rfl (List.mem_of_getElem? (i := 0) rfl) (by decide +kernel) ?_
      refine xr_getI rfl fl_Mod_153 (by decide) (by decide +kernel) ?_
      refine xr_aload_n (n := 0) (i := 0) rfl (List.mem_of_getElem? (i := 0) rfl) (by decide +kernel) ?_
      refine xr_getI rfl fl_Mod_156 (by decide) (by decide +kernel) ?_
      refine xr_isub (by decide +kernel) ?_
      show sh_X g (d + 1) m_Mod_nextToken _ _ ((sh_i ((m4 96 4) - (m4 96 5))) :: _) _ _
      refine xr_iconst (n := 4) (by decide +kernel) ?_
      refine xr_icmp_ge (a' := (i3 ((m4 96 4) - (m4 96 5)))) (b' := 4) rfl (by decide) (off := 26) (tgt := 286) (by decide) (by decide +kernel) ⟨fun c5 => ?_, fun c5 => ?_⟩
      · have k := k.1 c5
        refine xr_aload_n (n := 0) (i := 0) rfl (List.mem_of_getElem? (i := 0) rfl) (by decide +kernel) ?_
        refine xr_dupR (by decide +kernel) ?_
        refine xr_getI rfl fl_Mod_153 (by decide) (by decide +kernel) ?_
        refine xr_iconst (n := 1) (by decide +kernel) ?_
        refine xr_iadd (by decide +kernel) ?_
        show sh_X g (d + 1) m_Mod_nextToken _ _ ((sh_i ((m4 96 4) + 1)) :: _) _ _
        refine xr_putI rfl pl_Mod_153 rfl (by decide +kernel) ?_
        have k := k _ rfl
        generalize hg_m7 : ms m4 96 (ru (m4 96) 4 ((m4 96 4) + 1)) = m7 at k ⊢
        refine xr_goto (off := (-72)) (tgt := 224) (by decide) (by decide +kernel) ?_
        refine xr_sub (lo' := [(0, (sh_r 96)), (1, (sh_i x1))]) [0, 1] rfl ?_
        exact k
      · have k := k.2 c5
        refine xr_aload_n (n := 0) (i := 0) rfl (List.mem_of_getElem? (i := 0) rfl) (by decide +kernel) ?_
        refine xr_aload_n (n := 0) (i := 0) rfl (List.mem_of_getElem? (i := 0) rfl) (by decide +kernel) ?_
        refine xr_getI rfl fl_Mod_163 (by decide) (by decide +kernel) ?_
        refine xr_bipush (n := 10) (v := 10) (by decide) (by decide +kernel) ?_
        refine xr_imul (by decide +kernel) ?_
        show sh_X g (d + 1) m_Mod_nextToken _ _ ((sh_i ((m4 96 8) * 10)) :: _) _ _
        refine xr_aload_n (n := 0) (i := 0) rfl (List.mem_of_getElem? (i := 0) rfl) (by decide +kernel) ?_
        refine xr_aload_n (n := 0) (i := 0) rfl (List.mem_of_getElem? (i := 0) rfl) (by decide +kernel) ?_
        refine xr_getI rfl fl_Mod_153 (by decide) (by decide +kernel) ?_
        refine xr_callV (av := [(sh_i (m4 96 4))]) rfl rfl rfl mo_Mod_signAt ml_Mod_169 im_Mod_signAt se_Mod_signAt rfl (Nat.le_of_ble_eq_true rfl) (by decide +kernel) (sh_mono k ?_)
        rintro rv m8 ⟨r3, rfl, k⟩
        show sh_X g (d + 1) m_Mod_nextToken _ _ [(sh_i r3), (sh_i ((m4 96 8) * 10)), (sh_r 96)] _ _
        refine xr_iadd (by decide +kernel) ?_
        show sh_X g (d + 1) m_Mod_nextToken _ _ ((sh_i (((m4 96 8) * 10) + r3)) :: _) _ _
        refine xr_bipush (n := 48) (v := 48) (by decide) (by decide +kernel) ?_
        refine xr_isub (by decide +kernel) ?_
        show sh_X g (d + 1) m_Mod_nextToken _ _ ((sh_i ((((m4 96 8) * 10) + r3) - 48)) :: _) _ _
        refine xr_putI rfl pl_Mod_163 rfl (by decide +kernel) ?_
        have k := k _ rfl
        generalize hg_m9 : ms m8 96 (ru (m8 96) 8 ((((m4 96 8) * 10) + r3) - 48)) = m9 at k ⊢
        refine xr_aload_n (n := 0) (i := 0) rfl (List.mem_of_getElem? (i := 0) rfl) (by decide +kernel) ?_
        refine xr_dupR (by decide +kernel) ?_
        refine xr_getI rfl fl_Mod_153 (by decide) (by decide +kernel) ?_
        refine xr_iconst (n := 1) (by decide +kernel) ?_
        refine xr_iadd (by decide +kernel) ?_
        show sh_X g (d + 1) m_Mod_nextToken _ _ ((sh_i ((m9 96 4) + 1)) :: _) _ _
        refine xr_putI rfl pl_Mod_153 rfl (by decide +kernel) ?_
        have k := k _ rfl
        generalize hg_m10 : ms m9 96 (ru (m9 96) 4 ((m9 96 4) + 1)) = m10 at k ⊢
        refine xr_goto (off := (-72)) (tgt := 224) (by decide) (by decide +kernel) ?_
        refine xr_sub (lo' := [(0, (sh_r 96)), (1, (sh_i x1))]) [0, 1] rfl ?_
        exact k

theorem v_Mod_isWord {g : sh_G} {d : Nat} {ww : Int}  {mem : sh_Mem} {Q : Option sh_V → sh_Mem → Prop}  (k : ((¬ (i3 (mem 96 6)) = 1 → Q (some (sh_i 0)) mem) ∧ ((i3 (mem 96 6)) = 1 → ((¬ (l_cmp (mem 96 7) ww) = 0 → Q (some (sh_i 0)) mem) ∧ ((l_cmp (mem 96 7) ww) = 0 → Q (some (sh_i 1)) mem))))) : sh_Cal g d m_Mod_isWord [(sh_r 96), (sh_l ww)] mem Q := by
  refine sh_met (by decide +kernel) (Nat.le_of_ble_eq_true rfl) (lo := [(0, (sh_r 96)), (1, (sh_l ww))]) rfl ?_
  refine xr_aload_n (n := 0) (i := 0) rfl (List.mem_of_getElem? (i := 0) rfl) (by decide +kernel) ?_
  refine xr_getI rfl fl_Mod_166 (by decide) (by decide +kernel) ?_
  refine xr_iconst (n := 1) (by decide +kernel) ?_
  refine xr_icmp_ne (a' := (i3 (mem 96 6))) (b' := 1) rfl (by decide) (off := 16) (tgt := 21) (by decide) (by decide +kernel) ⟨fun c1 => ?_, fun c1 => ?_⟩
  · have k := k.1 c1
    refine xr_iconst (n := 0) (by decide +kernel) ?_
    exact xr_zret rfl (by decide +kernel) (by decide) k
  · have k := k.2 c1
    refine xr_aload_n (n := 0) (i := 0) rfl (List.mem_of_getElem? (i := 0) rfl) (by decide +kernel) ?_
    refine xr_getL rfl fl_Mod_159 (by decide) (by decide +kernel) ?_
    refine xr_lload_n (n := 1) (i := 1) rfl (List.mem_of_getElem? (i := 1) rfl) (by decide +kernel) ?_
    refine xr_lcmp (by decide +kernel) ?_
    refine xr_if_ne (a' := (l_cmp (mem 96 7) ww)) (i3_nrm _) (off := 7) (tgt := 21) (by decide) (by decide +kernel) ⟨fun c2 => ?_, fun c2 => ?_⟩
    · have k := k.1 c2
      refine xr_iconst (n := 0) (by decide +kernel) ?_
      exact xr_zret rfl (by decide +kernel) (by decide) k
    · have k := k.2 c2
      refine xr_iconst (n := 1) (by decide +kernel) ?_
      refine xr_goto (off := 4) (tgt := 22) (by decide) (by decide +kernel) ?_
      exact xr_zret rfl (by decide +kernel) (by decide) k

theorem v_Mod_isSign {g : sh_G} {d : Nat} {ss : Int}  {mem : sh_Mem} {Q : Option sh_V → sh_Mem → Prop}  (k : ((¬ (i3 (mem 96 6)) = 3 → Q (some (sh_i 0)) mem) ∧ ((i3 (mem 96 6)) = 3 → ((0 ≤ (mem 96 5) ∧ (mem 96 5) < 1000) ∧ ((¬ (i3 (mem 97 ((mem 96 5)).toNat)) = (i3 ss) → Q (some (sh_i 0)) mem) ∧ ((i3 (mem 97 ((mem 96 5)).toNat)) = (i3 ss) → Q (some (sh_i 1)) mem)))))) : sh_Cal g d m_Mod_isSign [(sh_r 96), (sh_i ss)] mem Q := by
  refine sh_met (by decide +kernel) (Nat.le_of_ble_eq_true rfl) (lo := [(0, (sh_r 96)), (1, (sh_i ss))]) rfl ?_
  refine xr_aload_n (n := 0) (i := 0) rfl (List.mem_of_getElem? (i := 0) rfl) (by decide +kernel) ?_
  refine xr_getI rfl fl_Mod_166 (by decide) (by decide +kernel) ?_
  refine xr_iconst (n := 3) (by decide +kernel) ?_
  refine xr_icmp_ne (a' := (i3 (mem 96 6))) (b' := 3) rfl (by decide) (off := 20) (tgt := 25) (by decide) (by decide +kernel) ⟨fun c1 => ?_, fun c1 => ?_⟩
  · have k := k.1 c1
    refine xr_iconst (n := 0) (by decide +kernel) ?_
    exact xr_zret rfl (by decide +kernel) (by decide) k
  · have k := k.2 c1
    refine xr_aload_n (n := 0) (i := 0) rfl (List.mem_of_getElem? (i := 0) rfl) (by decide +kernel) ?_
    refine xr_getR (o := 1) rfl fl_Mod_7 rfl (by decide +kernel) ?_
    show sh_X g d m_Mod_isSign _ _ ((sh_r 97) :: _) _ _
    refine xr_aload_n (n := 0) (i := 0) rfl (List.mem_of_getElem? (i := 0) rfl) (by decide +kernel) ?_
    refine xr_getI rfl fl_Mod_156 (by decide) (by decide +kernel) ?_
    obtain ⟨o, k⟩ := k
    refine xr_iald rfl o.1 o.2 (by decide +kernel) ?_
    refine xr_iload_n (n := 1) (i := 1) rfl (List.mem_of_getElem? (i := 1) rfl) (by decide +kernel) ?_
    refine xr_icmp_ne (a' := (i3 (mem 97 ((mem 96 5)).toNat))) (b' := (i3 ss)) rfl rfl (off := 7) (tgt := 25) (by decide) (by decide +kernel) ⟨fun c2 => ?_, fun c2 => ?_⟩
    · have k := k.1 c2
      refine xr_iconst (n := 0) (by decide +kernel) ?_
      exact xr_zret rfl (by decide +kernel) (by decide) k
    · have k := k.2 c2
      refine xr_iconst (n := 1) (by decide +kernel) ?_
      refine xr_goto (off := 4) (tgt := 26) (by decide) (by decide +kernel) ?_
      exact xr_zret rfl (by decide +kernel) (by decide) k

theorem v_Mod_fails {g : sh_G} {d : Nat} {kk : Nat}  {mem : sh_Mem} {Q : Option sh_V → sh_Mem → Prop}  (k : (∀ m1 : sh_Mem, m1 = ms mem 96 (ru (mem 96) 9 ((kk : Int) + (16 * (mem 96 5)))) → Q (some (sh_i 0)) m1)) : sh_Cal g d m_Mod_fails [(sh_r 96), (sh_i (kk : Int))] mem Q := by
  refine sh_met (by decide +kernel) (Nat.le_of_ble_eq_true rfl) (lo := [(0, (sh_r 96)), (1, (sh_i (kk : Int)))]) rfl ?_
  refine xr_aload_n (n := 0) (i := 0) rfl (List.mem_of_getElem? (i := 0) rfl) (by decide +kernel) ?_
  refine xr_iload_n (n := 1) (i := 1) rfl (List.mem_of_getElem? (i := 1) rfl) (by decide +kernel) ?_
  refine xr_bipush (n := 16) (v := 16) (by decide) (by decide +kernel) ?_
  refine xr_aload_n (n := 0) (i := 0) rfl (List.mem_of_getElem? (i := 0) rfl) (by decide +kernel) ?_
  refine xr_getI rfl fl_Mod_156 (by decide) (by decide +kernel) ?_
  refine xr_imul (by decide +kernel) ?_
  show sh_X g d m_Mod_fails _ _ ((sh_i (16 * (mem 96 5))) :: _) _ _
  refine xr_iadd (by decide +kernel) ?_
  show sh_X g d m_Mod_fails _ _ ((sh_i ((kk : Int) + (16 * (mem 96 5)))) :: _) _ _
  refine xr_putI rfl pl_Mod_177 rfl (by decide +kernel) ?_
  have k := k _ rfl
  generalize hg_m1 : ms mem 96 (ru (mem 96) 9 ((kk : Int) + (16 * (mem 96 5)))) = m1 at k ⊢
  refine xr_iconst (n := 0) (by decide +kernel) ?_
  exact xr_zret rfl (by decide +kernel) (by decide) k

theorem v_Mod_puts {g : sh_G} {d : Nat} {cc : Int}  {mem : sh_Mem} {Q : Option sh_V → sh_Mem → Prop}  (k : ((0 ≤ (mem 96 21) ∧ (mem 96 21) < 2000) ∧ (∀ m1 : sh_Mem, m1 = ms mem 108 (ru (mem 108) ((mem 96 21)).toNat cc) → (∀ m2 : sh_Mem, m2 = ms m1 96 (ru (m1 96) 21 ((m1 96 21) + 1)) → Q none m2)))) : sh_Cal g d m_Mod_puts [(sh_r 96), (sh_i cc)] mem Q := by
  refine sh_met (by decide +kernel) (Nat.le_of_ble_eq_true rfl) (lo := [(0, (sh_r 96)), (1, (sh_i cc))]) rfl ?_
  refine xr_aload_n (n := 0) (i := 0) rfl (List.mem_of_getElem? (i := 0) rfl) (by decide +kernel) ?_
  refine xr_getR (o := 12) rfl fl_Mod_44 rfl (by decide +kernel) ?_
  show sh_X g d m_Mod_puts _ _ ((sh_r 108) :: _) _ _
  refine xr_aload_n (n := 0) (i := 0) rfl (List.mem_of_getElem? (i := 0) rfl) (by decide +kernel) ?_
  refine xr_getI rfl fl_Mod_180 (by decide) (by decide +kernel) ?_
  refine xr_iload_n (n := 1) (i := 1) rfl (List.mem_of_getElem? (i := 1) rfl) (by decide +kernel) ?_
  have o9 := True.intro
  obtain ⟨o, k⟩ := k
  refine xr_iast rfl o.1 o.2 (by decide +kernel) ?_
  have k := k _ rfl
  generalize hg_m1 : ms mem 108 (ru (mem 108) ((mem 96 21)).toNat cc) = m1 at k ⊢
  refine xr_aload_n (n := 0) (i := 0) rfl (List.mem_of_getElem? (i := 0) rfl) (by decide +kernel) ?_
  refine xr_dupR (by decide +kernel) ?_
  refine xr_getI rfl fl_Mod_180 (by decide) (by decide +kernel) ?_
  refine xr_iconst (n := 1) (by decide +kernel) ?_
  refine xr_iadd (by decide +kernel) ?_
  show sh_X g d m_Mod_puts _ _ ((sh_i ((m1 96 21) + 1)) :: _) _ _
  refine xr_putI rfl pl_Mod_180 rfl (by decide +kernel) ?_
  have k := k _ rfl
  generalize hg_m2 : ms m1 96 (ru (m1 96) 21 ((m1 96 21) + 1)) = m2 at k ⊢
  exact xr_ret rfl (by decide +kernel) k

theorem v_Mod_fact {g : sh_G} {d : Nat}   {mem : sh_Mem} {Q : Option sh_V → sh_Mem → Prop}  (k : (((i3 (mem 96 6)) = 1 → ((¬ (l_cmp (mem 96 7) 271277) = 0 → ((¬ (l_cmp (mem 96 7) 11263) = 0 → ((¬ (l_cmp (mem 96 7) 385418) = 0 → ((¬ (l_cmp (mem 96 7) 80006) = 0 → Q (some (sh_i 0)) mem) ∧ ((l_cmp (mem 96 7) 80006) = 0 → Q (some (sh_i 4)) mem))) ∧ ((l_cmp (mem 96 7) 385418) = 0 → Q (some (sh_i 3)) mem))) ∧ ((l_cmp (mem 96 7) 11263) = 0 → Q (some (sh_i 2)) mem))) ∧ ((l_cmp (mem 96 7) 271277) = 0 → Q (some (sh_i 1)) mem))) ∧ (¬ (i3 (mem 96 6)) = 1 → Q (some (sh_i 0)) mem))) : sh_Cal g d m_Mod_fact [(sh_r 96)] mem Q := by
  refine sh_met (by decide +kernel) (Nat.le_of_ble_eq_true rfl) (lo := [(0, (sh_r 96))]) rfl ?_
  refine xr_aload_n (n := 0) (i := 0) rfl (List.mem_of_getElem? (i := 0) rfl) (by decide +kernel) ?_
  refine xr_getI rfl fl_Mod_166 (by decide) (by decide +kernel) ?_
  refine xr_iconst (n := 1) (by decide +kernel) ?_
  refine xr_icmp_eq (a' := (i3 (mem 96 6))) (b' := 1) rfl (by decide) (off := 5) (tgt := 10) (by decide) (by decide +kernel) ⟨fun c1 => ?_, fun c1 => ?_⟩
  · have k := k.1 c1
    refine xr_aload_n (n := 0) (i := 0) rfl (List.mem_of_getElem? (i := 0) rfl) (by decide +kernel) ?_
    refine xr_getL rfl fl_Mod_159 (by decide) (by decide +kernel) ?_
    refine xr_ldc2 (v := 271277) (by decide) kl_Mod_183 (by decide +kernel) ?_
    refine xr_lcmp (by decide +kernel) ?_
    refine xr_if_ne (a' := (l_cmp (mem 96 7) 271277)) (i3_nrm _) (off := 5) (tgt := 23) (by decide) (by decide +kernel) ⟨fun c2 => ?_, fun c2 => ?_⟩
    · have k := k.1 c2
      refine xr_aload_n (n := 0) (i := 0) rfl (List.mem_of_getElem? (i := 0) rfl) (by decide +kernel) ?_
      refine xr_getL rfl fl_Mod_159 (by decide) (by decide +kernel) ?_
      refine xr_ldc2 (v := 11263) (by decide) kl_Mod_185 (by decide +kernel) ?_
      refine xr_lcmp (by decide +kernel) ?_
      refine xr_if_ne (a' := (l_cmp (mem 96 7) 11263)) (i3_nrm _) (off := 5) (tgt := 36) (by decide) (by decide +kernel) ⟨fun c3 => ?_, fun c3 => ?_⟩
      · have k := k.1 c3
        refine xr_aload_n (n := 0) (i := 0) rfl (List.mem_of_getElem? (i := 0) rfl) (by decide +kernel) ?_
        refine xr_getL rfl fl_Mod_159 (by decide) (by decide +kernel) ?_
        refine xr_ldc2 (v := 385418) (by decide) kl_Mod_187 (by decide +kernel) ?_
        refine xr_lcmp (by decide +kernel) ?_
        refine xr_if_ne (a' := (l_cmp (mem 96 7) 385418)) (i3_nrm _) (off := 7) (tgt := 51) (by decide) (by decide +kernel) ⟨fun c4 => ?_, fun c4 => ?_⟩
        · have k := k.1 c4
          refine xr_aload_n (n := 0) (i := 0) rfl (List.mem_of_getElem? (i := 0) rfl) (by decide +kernel) ?_
          refine xr_getL rfl fl_Mod_159 (by decide) (by decide +kernel) ?_
          refine xr_ldc2 (v := 80006) (by decide) kl_Mod_189 (by decide +kernel) ?_
          refine xr_lcmp (by decide +kernel) ?_
          refine xr_if_ne (a' := (l_cmp (mem 96 7) 80006)) (i3_nrm _) (off := 7) (tgt := 66) (by decide) (by decide +kernel) ⟨fun c5 => ?_, fun c5 => ?_⟩
          · have k := k.1 c5
            refine xr_iconst (n := 0) (by decide +kernel) ?_
            exact xr_iret rfl (by decide +kernel) k
          · have k := k.2 c5
            refine xr_iconst (n := 4) (by decide +kernel) ?_
            refine xr_goto (off := 4) (tgt := 67) (by decide) (by decide +kernel) ?_
            exact xr_iret rfl (by decide +kernel) k
        · have k := k.2 c4
          refine xr_iconst (n := 3) (by decide +kernel) ?_
          refine xr_goto (off := 19) (tgt := 67) (by decide) (by decide +kernel) ?_
          exact xr_iret rfl (by decide +kernel) k
      · have k := k.2 c3
        refine xr_iconst (n := 2) (by decide +kernel) ?_
        exact xr_iret rfl (by decide +kernel) k
    · have k := k.2 c2
      refine xr_iconst (n := 1) (by decide +kernel) ?_
      exact xr_iret rfl (by decide +kernel) k
  · have k := k.2 c1
    refine xr_iconst (n := 0) (by decide +kernel) ?_
    exact xr_iret rfl (by decide +kernel) k

theorem v_Mod_reads {g : sh_G} {d : Nat}   {mem : sh_Mem} {Q : Option sh_V → sh_Mem → Prop}  (k : (∀ m1 : sh_Mem, m1 = ms mem 110 (ru (mem 110) 0 0) → sh_X g (d + 1) m_Mod_reads 11 [(0, (sh_r 96)), (1, (sh_i 0)), (2, (sh_i 1))] [] m1 (sh_K m_Mod_reads Q))) : sh_Cal g (d + 1) m_Mod_reads [(sh_r 96)] mem Q := by
  refine sh_met (by decide +kernel) (Nat.le_of_ble_eq_true rfl) (lo := [(0, (sh_r 96))]) rfl ?_
  refine xr_iconst (n := 0) (by decide +kernel) ?_
  refine xr_istore_n (n := 1) (i := 1) rfl (by decide) rfl (by decide +kernel) ?_
  refine xr_iconst (n := 1) (by decide +kernel) ?_
  refine xr_istore_n (n := 2) (i := 2) rfl (by decide) rfl (by decide +kernel) ?_
  refine xr_aload_n (n := 0) (i := 0) rfl (List.mem_of_getElem? (i := 2) rfl) (by decide +kernel) ?_
  refine xr_getR (o := 14) rfl fl_Mod_50 rfl (by decide +kernel) ?_
  show sh_X g (d + 1) m_Mod_reads _ _ ((sh_r 110) :: _) _ _
  refine xr_iconst (n := 0) (by decide +kernel) ?_
  refine xr_iconst (n := 0) (by decide +kernel) ?_
  have o9 := True.intro
  refine xr_zastN (by decide) (j := 0) rfl rfl (by decide) (by decide +kernel) ?_
  have k := k _ rfl
  generalize hg_m1 : ms mem 110 (ru (mem 110) 0 0) = m1 at k ⊢
  refine xr_sub (lo' := [(0, (sh_r 96)), (1, (sh_i 0)), (2, (sh_i 1))]) [2, 1, 0] rfl ?_
  exact k
theorem v_Mod_reads_11 {g : sh_G} {d : Nat}   {mem : sh_Mem} {Q : Option sh_V → sh_Mem → Prop}  {x1 : Int} {x2 : Nat} (k : (((i3 (x2 : Int)) = 0 → (sh_Cal g d m_Mod_isSign [(sh_r 96), (sh_i 43)] mem fun rv m1 => ∃ r1 : Int, rv = some (sh_i r1) ∧ ((¬ (i3 r1) = 0 → sh_X g (d + 1) m_Mod_reads 206 [(0, (sh_r 96)), (1, (sh_i x1)), (2, (sh_i (x2 : Int)))] [] m1 (sh_K m_Mod_reads Q)) ∧ ((i3 r1) = 0 → (sh_Cal g d m_Mod_isSign [(sh_r 96), (sh_i 45)] m1 fun rv m2 => ∃ r2 : Int, rv = some (sh_i r2) ∧ ((¬ (i3 r2) = 0 → sh_X g (d + 1) m_Mod_reads 206 [(0, (sh_r 96)), (1, (sh_i x1)), (2, (sh_i (x2 : Int)))] [] m2 (sh_K m_Mod_reads Q)) ∧ ((i3 r2) = 0 → (sh_Cal g d m_Mod_isSign [(sh_r 96), (sh_i 42)] m2 fun rv m3 => ∃ r3 : Int, rv = some (sh_i r3) ∧ (((i3 r3) = 0 → (sh_Cal g d m_Mod_isSign [(sh_r 96), (sh_i 60)] m3 fun rv m4 => ∃ r4 : Int, rv = some (sh_i r4) ∧ ((¬ (i3 r4) = 0 → sh_X g (d + 1) m_Mod_reads 263 [(0, (sh_r 96)), (1, (sh_i x1)), (2, (sh_i (x2 : Int)))] [] m4 (sh_K m_Mod_reads Q)) ∧ ((i3 r4) = 0 → (sh_Cal g d m_Mod_isSign [(sh_r 96), (sh_i 61)] m4 fun rv m5 => ∃ r5 : Int, rv = some (sh_i r5) ∧ (((i3 r5) = 0 → sh_X g (d + 1) m_Mod_reads 304 [(0, (sh_r 96)), (1, (sh_i x1)), (2, (sh_i (x2 : Int)))] [] m5 (sh_K m_Mod_reads Q)) ∧ (¬ (i3 r5) = 0 → sh_X g (d + 1) m_Mod_reads 263 [(0, (sh_r 96)), (1, (sh_i x1)), (2, (sh_i (x2 : Int)))] [] m5 (sh_K m_Mod_reads Q)))))))) ∧ (¬ (i3 r3) = 0 → sh_X g (d + 1) m_Mod_reads 206 [(0, (sh_r 96)), (1, (sh_i x1)), (2, (sh_i (x2 : Int)))] [] m3 (sh_K m_Mod_reads Q))))))))))) ∧ (¬ (i3 (x2 : Int)) = 0 → (sh_Cal g d m_Mod_fact [(sh_r 96)] mem fun rv m6 => ∃ r6 : Int, rv = some (sh_i r6) ∧ (sh_Cal g d m_Mod_isWord [(sh_r 96), (sh_l 10631)] m6 fun rv m7 => ∃ r7 : Int, rv = some (sh_i r7) ∧ (sh_Cal g d m_Mod_isSign [(sh_r 96), (sh_i 40)] m7 fun rv m8 => ∃ r8 : Int, rv = some (sh_i r8) ∧ ((¬ (i3 r6) = 0 → sh_X g (d + 1) m_Mod_reads 65 [(0, (sh_r 96)), (1, (sh_i x1)), (2, (sh_i (x2 : Int))), (3, (sh_i r6)), (4, (sh_i r7)), (5, (sh_i r8))] [] m8 (sh_K m_Mod_reads Q)) ∧ ((i3 r6) = 0 → ((¬ (i3 r7) = 0 → sh_X g (d + 1) m_Mod_reads 65 [(0, (sh_r 96)), (1, (sh_i x1)), (2, (sh_i (x2 : Int))), (3, (sh_i r6)), (4, (sh_i r7)), (5, (sh_i r8))] [] m8 (sh_K m_Mod_reads Q)) ∧ ((i3 r7) = 0 → ((¬ (i3 r8) = 0 → sh_X g (d + 1) m_Mod_reads 65 [(0, (sh_r 96)), (1, (sh_i x1)), (2, (sh_i (x2 : Int))), (3, (sh_i r6)), (4, (sh_i r7)), (5, (sh_i r8))] [] m8 (sh_K m_Mod_reads Q)) ∧ ((i3 r8) = 0 → (((i3 (m8 96 6)) = 2 → sh_X g (d + 1) m_Mod_reads 65 [(0, (sh_r 96)), (1, (sh_i x1)), (2, (sh_i (x2 : Int))), (3, (sh_i r6)), (4, (sh_i r7)), (5, (sh_i r8))] [] m8 (sh_K m_Mod_reads Q)) ∧ (¬ (i3 (m8 96 6)) = 2 → (sh_Cal g d m_Mod_fails [(sh_r 96), (sh_i 1)] m8 fun rv m9 => ∃ r9 : Int, rv = some (sh_i r9) ∧ ((r9 = 0 ∨ r9 = 1) ∧ Q (some (sh_i r9)) m9)))))))))))))))) : sh_X g (d + 1) m_Mod_reads 11 [(0, (sh_r 96)), (1, (sh_i x1)), (2, (sh_i (x2 : Int)))] [] mem (sh_K m_Mod_reads Q) := by
  refine xr_iload_n (n := 2) (i := 2) rfl (List.mem_of_getElem? (i := 2) rfl) (by decide +kernel) ?_
  refine xr_if_eq (a' := (i3 (x2 : Int))) rfl (off := 167) (tgt := 179) (by decide) (by decide +kernel) ⟨fun c1 => ?_, fun c1 => ?_⟩
  · have k := k.1 c1
    refine xr_aload_n (n := 0) (i := 0) rfl (List.mem_of_getElem? (i := 0) rfl) (by decide +kernel) ?_
    refine xr_bipush (n := 43) (v := 43) (by decide) (by decide +kernel) ?_
    refine xr_callV (av := [(sh_i 43)]) rfl rfl rfl mo_Mod_isSign ml_Mod_201 im_Mod_isSign se_Mod_isSign rfl (Nat.le_of_ble_eq_true rfl) (by decide +kernel) (sh_mono k ?_)
    rintro rv m1 ⟨r1, rfl, k⟩
    show sh_X g (d + 1) m_Mod_reads _ _ [(sh_i r1)] _ _
    refine xr_if_ne (a' := (i3 r1)) rfl (off := 21) (tgt := 206) (by decide) (by decide +kernel) ⟨fun c2 => ?_, fun c2 => ?_⟩
    · have k := k.1 c2
      refine xr_sub (lo' := [(0, (sh_r 96)), (1, (sh_i x1)), (2, (sh_i (x2 : Int)))]) [0, 1, 2] rfl ?_
      exact k
    · have k := k.2 c2
      refine xr_aload_n (n := 0) (i := 0) rfl (List.mem_of_getElem? (i := 0) rfl) (by decide +kernel) ?_
      refine xr_bipush (n := 45) (v := 45) (by decide) (by decide +kernel) ?_
      refine xr_callV (av := [(sh_i 45)]) rfl rfl rfl mo_Mod_isSign ml_Mod_201 im_Mod_isSign se_Mod_isSign rfl (Nat.le_of_ble_eq_true rfl) (by decide +kernel) (sh_mono k ?_)
      rintro rv m2 ⟨r2, rfl, k⟩
      show sh_X g (d + 1) m_Mod_reads _ _ [(sh_i r2)] _ _
      refine xr_if_ne (a' := (i3 r2)) rfl (off := 12) (tgt := 206) (by decide) (by decide +kernel) ⟨fun c3 => ?_, fun c3 => ?_⟩
      · have k := k.1 c3
        refine xr_sub (lo' := [(0, (sh_r 96)), (1, (sh_i x1)), (2, (sh_i (x2 : Int)))]) [0, 1, 2] rfl ?_
        exact k
      · have k := k.2 c3
        refine xr_aload_n (n := 0) (i := 0) rfl (List.mem_of_getElem? (i := 0) rfl) (by decide +kernel) ?_
        refine xr_bipush (n := 42) (v := 42) (by decide) (by decide +kernel) ?_
        refine xr_callV (av := [(sh_i 42)]) rfl rfl rfl mo_Mod_isSign ml_Mod_201 im_Mod_isSign se_Mod_isSign rfl (Nat.le_of_ble_eq_true rfl) (by decide +kernel) (sh_mono k ?_)
        rintro rv m3 ⟨r3, rfl, k⟩
        show sh_X g (d + 1) m_Mod_reads _ _ [(sh_i r3)] _ _
        refine xr_if_eq (a' := (i3 r3)) rfl (off := 42) (tgt := 245) (by decide) (by decide +kernel) ⟨fun c4 => ?_, fun c4 => ?_⟩
        · have k := k.1 c4
          refine xr_aload_n (n := 0) (i := 0) rfl (List.mem_of_getElem? (i := 0) rfl) (by decide +kernel) ?_
          refine xr_bipush (n := 60) (v := 60) (by decide) (by decide +kernel) ?_
          refine xr_callV (av := [(sh_i 60)]) rfl rfl rfl mo_Mod_isSign ml_Mod_201 im_Mod_isSign se_Mod_isSign rfl (Nat.le_of_ble_eq_true rfl) (by decide +kernel) (sh_mono k ?_)
          rintro rv m4 ⟨r4, rfl, k⟩
          show sh_X g (d + 1) m_Mod_reads _ _ [(sh_i r4)] _ _
          refine xr_if_ne (a' := (i3 r4)) rfl (off := 12) (tgt := 263) (by decide) (by decide +kernel) ⟨fun c5 => ?_, fun c5 => ?_⟩
          · have k := k.1 c5
            refine xr_sub (lo' := [(0, (sh_r 96)), (1, (sh_i x1)), (2, (sh_i (x2 : Int)))]) [0, 1, 2] rfl ?_
            exact k
          · have k := k.2 c5
            refine xr_aload_n (n := 0) (i := 0) rfl (List.mem_of_getElem? (i := 0) rfl) (by decide +kernel) ?_
            refine xr_bipush (n := 61) (v := 61) (by decide) (by decide +kernel) ?_
            refine xr_callV (av := [(sh_i 61)]) rfl rfl rfl mo_Mod_isSign ml_Mod_201 im_Mod_isSign se_Mod_isSign rfl (Nat.le_of_ble_eq_true rfl) (by decide +kernel) (sh_mono k ?_)
            rintro rv m5 ⟨r5, rfl, k⟩
            show sh_X g (d + 1) m_Mod_reads _ _ [(sh_i r5)] _ _
            refine xr_if_eq (a' := (i3 r5)) rfl (off := 44) (tgt := 304) (by decide) (by decide +kernel) ⟨fun c6 => ?_, fun c6 => ?_⟩
            · have k := k.1 c6
              refine xr_sub (lo' := [(0, (sh_r 96)), (1, (sh_i x1)), (2, (sh_i (x2 : Int)))]) [0, 1, 2] rfl ?_
              exact k
            · have k := k.2 c6
              refine xr_sub (lo' := [(0, (sh_r 96)), (1, (sh_i x1)), (2, (sh_i (x2 : Int)))]) [0, 1, 2] rfl ?_
              exact k
        · have k := k.2 c4
          refine xr_sub (lo' := [(0, (sh_r 96)), (1, (sh_i x1)), (2, (sh_i (x2 : Int)))]) [0, 1, 2] rfl ?_
          exact k
  · have k := k.2 c1
    refine xr_aload_n (n := 0) (i := 0) rfl (List.mem_of_getElem? (i := 0) rfl) (by decide +kernel) ?_
    refine xr_callV (av := []) rfl rfl rfl mo_Mod_fact ml_Mod_191 im_Mod_fact se_Mod_fact rfl (Nat.le_of_ble_eq_true rfl) (by decide +kernel) (sh_mono k ?_)
    rintro rv m6 ⟨r6, rfl, k⟩
    show sh_X g (d + 1) m_Mod_reads _ _ [(sh_i r6)] _ _
    refine xr_istore_n (n := 3) (i := 3) rfl (by decide) rfl (by decide +kernel) ?_
    refine xr_aload_n (n := 0) (i := 0) rfl (List.mem_of_getElem? (i := 1) rfl) (by decide +kernel) ?_
    refine xr_ldc2 (v := 10631) (by decide) kl_Mod_195 (by decide +kernel) ?_
    refine xr_callV (av := [(sh_l 10631)]) rfl rfl rfl mo_Mod_isWord ml_Mod_197 im_Mod_isWord se_Mod_isWord rfl (Nat.le_of_ble_eq_true rfl) (by decide +kernel) (sh_mono k ?_)
    rintro rv m7 ⟨r7, rfl, k⟩
    show sh_X g (d + 1) m_Mod_reads _ _ [(sh_i r7)] _ _
    refine xr_istore (i := 4) (by decide) rfl (by decide +kernel) ?_
    refine xr_aload_n (n := 0) (i := 0) rfl (List.mem_of_getElem? (i := 2) rfl) (by decide +kernel) ?_
    refine xr_bipush (n := 40) (v := 40) (by decide) (by decide +kernel) ?_
    refine xr_callV (av := [(sh_i 40)]) rfl rfl rfl mo_Mod_isSign ml_Mod_201 im_Mod_isSign se_Mod_isSign rfl (Nat.le_of_ble_eq_true rfl) (by decide +kernel) (sh_mono k ?_)
    rintro rv m8 ⟨r8, rfl, k⟩
    show sh_X g (d + 1) m_Mod_reads _ _ [(sh_i r8)] _ _
    refine xr_istore (i := 5) (by decide) rfl (by decide +kernel) ?_
    refine xr_iload_n (n := 3) (i := 3) rfl (List.mem_of_getElem? (i := 2) rfl) (by decide +kernel) ?_
    refine xr_if_ne (a' := (i3 r6)) rfl (off := 27) (tgt := 65) (by decide) (by decide +kernel) ⟨fun c7 => ?_, fun c7 => ?_⟩
    · have k := k.1 c7
      refine xr_sub (lo' := [(0, (sh_r 96)), (1, (sh_i x1)), (2, (sh_i (x2 : Int))), (3, (sh_i r6)), (4, (sh_i r7)), (5, (sh_i r8))]) [3, 4, 5, 2, 1, 0] rfl ?_
      exact k
    · have k := k.2 c7
      refine xr_iload (i := 4) (List.mem_of_getElem? (i := 1) rfl) (by decide +kernel) ?_
      refine xr_if_ne (a' := (i3 r7)) rfl (off := 22) (tgt := 65) (by decide) (by decide +kernel) ⟨fun c8 => ?_, fun c8 => ?_⟩
      · have k := k.1 c8
        refine xr_sub (lo' := [(0, (sh_r 96)), (1, (sh_i x1)), (2, (sh_i (x2 : Int))), (3, (sh_i r6)), (4, (sh_i r7)), (5, (sh_i r8))]) [3, 4, 5, 2, 1, 0] rfl ?_
        exact k
      · have k := k.2 c8
        refine xr_iload (i := 5) (List.mem_of_getElem? (i := 0) rfl) (by decide +kernel) ?_
        refine xr_if_ne (a' := (i3 r8)) rfl (off := 17) (tgt := 65) (by decide) (by decide +kernel) ⟨fun c9 => ?_, fun c9 => ?_⟩
        · have k := k.1 c9
          refine xr_sub (lo' := [(0, (sh_r 96)), (1, (sh_i x1)), (2, (sh_i (x2 : Int))), (3, (sh_i r6)), (4, (sh_i r7)), (5, (sh_i r8))]) [3, 4, 5, 2, 1, 0] rfl ?_
          exact k
        · have k := k.2 c9
          refine xr_aload_n (n := 0) (i := 0) rfl (List.mem_of_getElem? (i := 3) rfl) (by decide +kernel) ?_
          refine xr_getI rfl fl_Mod_166 (by decide) (by decide +kernel) ?_
          refine xr_iconst (n := 2) (by decide +kernel) ?_
          refine xr_icmp_eq (a' := (i3 (m8 96 6))) (b' := 2) rfl (by decide) (off := 9) (tgt := 65) (by decide) (by decide +kernel) ⟨fun c10 => ?_, fun c10 => ?_⟩
          · have k := k.1 c10
            refine xr_sub (lo' := [(0, (sh_r 96)), (1, (sh_i x1)), (2, (sh_i (x2 : Int))), (3, (sh_i r6)), (4, (sh_i r7)), (5, (sh_i r8))]) [3, 4, 5, 2, 1, 0] rfl ?_
            exact k
          · have k := k.2 c10
            refine xr_aload_n (n := 0) (i := 0) rfl (List.mem_of_getElem? (i := 3) rfl) (by decide +kernel) ?_
            refine xr_iconst (n := 1) (by decide +kernel) ?_
            refine xr_callV (av := [(sh_i 1)]) rfl rfl rfl mo_Mod_fails ml_Mod_205 im_Mod_fails se_Mod_fails rfl (Nat.le_of_ble_eq_true rfl) (by decide +kernel) (sh_mono k ?_)
            rintro rv m9 ⟨r9, rfl, k⟩
            show sh_X g (d + 1) m_Mod_reads _ _ [(sh_i r9)] _ _
            exact xr_zret rfl (by decide +kernel) k.1 k.2
theorem v_Mod_reads_206 {g : sh_G} {d : Nat}   {mem : sh_Mem} {Q : Option sh_V → sh_Mem → Prop}  {x1 : Int} {x2 : Nat} (k : (sh_Cal g d m_Mod_isSign [(sh_r 96), (sh_i 43)] mem fun rv m1 => ∃ r1 : Int, rv = some (sh_i r1) ∧ (((i3 r1) = 0 → (sh_Cal g d m_Mod_isSign [(sh_r 96), (sh_i 45)] m1 fun rv m2 => ∃ r2 : Int, rv = some (sh_i r2) ∧ (((i3 r2) = 0 → (sh_Cal g d m_Mod_puts [(sh_r 96), (sh_i 22)] m2 fun rv m3 => rv = none ∧ (sh_Cal g d m_Mod_nextToken [(sh_r 96)] m3 fun rv m4 => rv = none ∧ sh_X g (d + 1) m_Mod_reads 11 [(0, (sh_r 96)), (1, (sh_i x1)), (2, (sh_i 1))] [] m4 (sh_K m_Mod_reads Q)))) ∧ (¬ (i3 r2) = 0 → (sh_Cal g d m_Mod_puts [(sh_r 96), (sh_i 21)] m2 fun rv m5 => rv = none ∧ (sh_Cal g d m_Mod_nextToken [(sh_r 96)] m5 fun rv m6 => rv = none ∧ sh_X g (d + 1) m_Mod_reads 11 [(0, (sh_r 96)), (1, (sh_i x1)), (2, (sh_i 1))] [] m6 (sh_K m_Mod_reads Q))))))) ∧ (¬ (i3 r1) = 0 → (sh_Cal g d m_Mod_puts [(sh_r 96), (sh_i 20)] m1 fun rv m7 => rv = none ∧ (sh_Cal g d m_Mod_nextToken [(sh_r 96)] m7 fun rv m8 => rv = none ∧ sh_X g (d + 1) m_Mod_reads 11 [(0, (sh_r 96)), (1, (sh_i x1)), (2, (sh_i 1))] [] m8 (sh_K m_Mod_reads Q))))))) : sh_X g (d + 1) m_Mod_reads 206 [(0, (sh_r 96)), (1, (sh_i x1)), (2, (sh_i (x2 : Int)))] [] mem (sh_K m_Mod_reads Q) := by
  refine xr_aload_n (n := 0) (i := 0) rfl (List.mem_of_getElem? (i := 0) rfl) (by decide +kernel) ?_
  refine xr_aload_n (n := 0) (i := 0) rfl (List.mem_of_getElem? (i := 0) rfl) (by decide +kernel) ?_
  refine xr_bipush (n := 43) (v := 43) (by decide) (by decide +kernel) ?_
  refine xr_callV (av := [(sh_i 43)]) rfl rfl rfl mo_Mod_isSign ml_Mod_201 im_Mod_isSign se_Mod_isSign rfl (Nat.le_of_ble_eq_true rfl) (by decide +kernel) (sh_mono k ?_)
  rintro rv m1 ⟨r1, rfl, k⟩
  show sh_X g (d + 1) m_Mod_reads _ _ [(sh_i r1), (sh_r 96)] _ _
  refine xr_if_eq (a' := (i3 r1)) rfl (off := 8) (tgt := 221) (by decide) (by decide +kernel) ⟨fun c1 => ?_, fun c1 => ?_⟩
  · have k := k.1 c1
    refine xr_aload_n (n := 0) (i := 0) rfl (List.mem_of_getElem? (i := 0) rfl) (by decide +kernel) ?_
    refine xr_bipush (n := 45) (v := 45) (by decide) (by decide +kernel) ?_
    refine xr_callV (av := [(sh_i 45)]) rfl rfl rfl mo_Mod_isSign ml_Mod_201 im_Mod_isSign se_Mod_isSign rfl (Nat.le_of_ble_eq_true rfl) (by decide +kernel) (sh_mono k ?_)
    rintro rv m2 ⟨r2, rfl, k⟩
    show sh_X g (d + 1) m_Mod_reads _ _ [(sh_i r2), (sh_r 96)] _ _
    refine xr_if_eq (a' := (i3 r2)) rfl (off := 8) (tgt := 235) (by decide) (by decide +kernel) ⟨fun c2 => ?_, fun c2 => ?_⟩
    · have k := k.1 c2
      refine xr_bipush (n := 22) (v := 22) (by decide) (by decide +kernel) ?_
      refine xr_callV (av := [(sh_i 22)]) rfl rfl rfl mo_Mod_puts ml_Mod_208 im_Mod_puts se_Mod_puts rfl (Nat.le_of_ble_eq_true rfl) (by decide +kernel) (sh_mono k ?_)
      rintro rv m3 ⟨rfl, k⟩
      show sh_X g (d + 1) m_Mod_reads _ _ [] _ _
      refine xr_iconst (n := 1) (by decide +kernel) ?_
      refine xr_istore_n (n := 2) (i := 2) rfl (by decide) rfl (by decide +kernel) ?_
      refine xr_goto (off := 182) (tgt := 424) (by decide) (by decide +kernel) ?_
      refine xr_aload_n (n := 0) (i := 0) rfl (List.mem_of_getElem? (i := 1) rfl) (by decide +kernel) ?_
      refine xr_callV (av := []) rfl rfl rfl mo_Mod_nextToken ml_Mod_212 im_Mod_nextToken se_Mod_nextToken rfl (Nat.le_of_ble_eq_true rfl) (by decide +kernel) (sh_mono k ?_)
      rintro rv m4 ⟨rfl, k⟩
      show sh_X g (d + 1) m_Mod_reads _ _ [] _ _
      refine xr_goto (off := (-417)) (tgt := 11) (by decide) (by decide +kernel) ?_
      refine xr_sub (lo' := [(0, (sh_r 96)), (1, (sh_i x1)), (2, (sh_i 1))]) [1, 2, 0] rfl ?_
      exact k
    · have k := k.2 c2
      refine xr_bipush (n := 21) (v := 21) (by decide) (by decide +kernel) ?_
      refine xr_goto (off := 5) (tgt := 237) (by decide) (by decide +kernel) ?_
      refine xr_callV (av := [(sh_i 21)]) rfl rfl rfl mo_Mod_puts ml_Mod_208 im_Mod_puts se_Mod_puts rfl (Nat.le_of_ble_eq_true rfl) (by decide +kernel) (sh_mono k ?_)
      rintro rv m5 ⟨rfl, k⟩
      show sh_X g (d + 1) m_Mod_reads _ _ [] _ _
      refine xr_iconst (n := 1) (by decide +kernel) ?_
      refine xr_istore_n (n := 2) (i := 2) rfl (by decide) rfl (by decide +kernel) ?_
      refine xr_goto (off := 182) (tgt := 424) (by decide) (by decide +kernel) ?_
      refine xr_aload_n (n := 0) (i := 0) rfl (List.mem_of_getElem? (i := 1) rfl) (by decide +kernel) ?_
      refine xr_callV (av := []) rfl rfl rfl mo_Mod_nextToken ml_Mod_212 im_Mod_nextToken se_Mod_nextToken rfl (Nat.le_of_ble_eq_true rfl) (by decide +kernel) (sh_mono k ?_)
      rintro rv m6 ⟨rfl, k⟩
      show sh_X g (d + 1) m_Mod_reads _ _ [] _ _
      refine xr_goto (off := (-417)) (tgt := 11) (by decide) (by decide +kernel) ?_
      refine xr_sub (lo' := [(0, (sh_r 96)), (1, (sh_i x1)), (2, (sh_i 1))]) [1, 2, 0] rfl ?_
      exact k
  · have k := k.2 c1
    refine xr_bipush (n := 20) (v := 20) (by decide) (by decide +kernel) ?_
    refine xr_goto (off := 19) (tgt := 237) (by decide) (by decide +kernel) ?_
    refine xr_callV (av := [(sh_i 20)]) rfl rfl rfl mo_Mod_puts ml_Mod_208 im_Mod_puts se_Mod_puts rfl (Nat.le_of_ble_eq_true rfl) (by decide +kernel) (sh_mono k ?_)
    rintro rv m7 ⟨rfl, k⟩
    show sh_X g (d + 1) m_Mod_reads _ _ [] _ _
    refine xr_iconst (n := 1) (by decide +kernel) ?_
    refine xr_istore_n (n := 2) (i := 2) rfl (by decide) rfl (by decide +kernel) ?_
    refine xr_goto (off := 182) (tgt := 424) (by decide) (by decide +kernel) ?_
    refine xr_aload_n (n := 0) (i := 0) rfl (List.mem_of_getElem? (i := 1) rfl) (by decide +kernel) ?_
    refine xr_callV (av := []) rfl rfl rfl mo_Mod_nextToken ml_Mod_212 im_Mod_nextToken se_Mod_nextToken rfl (Nat.le_of_ble_eq_true rfl) (by decide +kernel) (sh_mono k ?_)
    rintro rv m8 ⟨rfl, k⟩
    show sh_X g (d + 1) m_Mod_reads _ _ [] _ _
    refine xr_goto (off := (-417)) (tgt := 11) (by decide) (by decide +kernel) ?_
    refine xr_sub (lo' := [(0, (sh_r 96)), (1, (sh_i x1)), (2, (sh_i 1))]) [1, 2, 0] rfl ?_
    exact k
theorem v_Mod_reads_263 {g : sh_G} {d : Nat}   {mem : sh_Mem} {Q : Option sh_V → sh_Mem → Prop}  {x1 : Int} {x2 : Nat} (k : ((0 ≤ x1 ∧ x1 < 7) ∧ ((¬ (i3 (mem 110 (x1).toNat)) = 0 → sh_X g (d + 1) m_Mod_reads 304 [(0, (sh_r 96)), (1, (sh_i x1)), (2, (sh_i (x2 : Int)))] [] mem (sh_K m_Mod_reads Q)) ∧ ((i3 (mem 110 (x1).toNat)) = 0 → (sh_Cal g d m_Mod_isSign [(sh_r 96), (sh_i 60)] mem fun rv m1 => ∃ r1 : Int, rv = some (sh_i r1) ∧ (((i3 r1) = 0 → (sh_Cal g d m_Mod_puts [(sh_r 96), (sh_i 25)] m1 fun rv m2 => rv = none ∧ ((0 ≤ x1 ∧ x1 < 7) ∧ (∀ m3 : sh_Mem, m3 = ms m2 110 (ru (m2 110) (x1).toNat 1) → (sh_Cal g d m_Mod_nextToken [(sh_r 96)] m3 fun rv m4 => rv = none ∧ sh_X g (d + 1) m_Mod_reads 11 [(0, (sh_r 96)), (1, (sh_i x1)), (2, (sh_i 1))] [] m4 (sh_K m_Mod_reads Q)))))) ∧ (¬ (i3 r1) = 0 → (sh_Cal g d m_Mod_puts [(sh_r 96), (sh_i 24)] m1 fun rv m5 => rv = none ∧ ((0 ≤ x1 ∧ x1 < 7) ∧ (∀ m6 : sh_Mem, m6 = ms m5 110 (ru (m5 110) (x1).toNat 1) → (sh_Cal g d m_Mod_nextToken [(sh_r 96)] m6 fun rv m7 => rv = none ∧ sh_X g (d + 1) m_Mod_reads 11 [(0, (sh_r 96)), (1, (sh_i x1)), (2, (sh_i 1))] [] m7 (sh_K m_Mod_reads Q)))))))))))) : sh_X g (d + 1) m_Mod_reads 263 [(0, (sh_r 96)), (1, (sh_i x1)), (2, (sh_i (x2 : Int)))] [] mem (sh_K m_Mod_reads Q) := by
  refine xr_aload_n (n := 0) (i := 0) rfl (List.mem_of_getElem? (i := 0) rfl) (by decide +kernel) ?_
  refine xr_getR (o := 14) rfl fl_Mod_50 rfl (by decide +kernel) ?_
  show sh_X g (d + 1) m_Mod_reads _ _ ((sh_r 110) :: _) _ _
  refine xr_iload_n (n := 1) (i := 1) rfl (List.mem_of_getElem? (i := 1) rfl) (by decide +kernel) ?_
  obtain ⟨o, k⟩ := k
  refine xr_zald rfl o.1 o.2 (by decide +kernel) ?_
  refine xr_if_ne (a' := (i3 (mem 110 (x1).toNat))) rfl (off := 35) (tgt := 304) (by decide) (by decide +kernel) ⟨fun c1 => ?_, fun c1 => ?_⟩
  · have k := k.1 c1
    refine xr_sub (lo' := [(0, (sh_r 96)), (1, (sh_i x1)), (2, (sh_i (x2 : Int)))]) [0, 1, 2] rfl ?_
    exact k
  · have k := k.2 c1
    refine xr_aload_n (n := 0) (i := 0) rfl (List.mem_of_getElem? (i := 0) rfl) (by decide +kernel) ?_
    refine xr_aload_n (n := 0) (i := 0) rfl (List.mem_of_getElem? (i := 0) rfl) (by decide +kernel) ?_
    refine xr_bipush (n := 60) (v := 60) (by decide) (by decide +kernel) ?_
    refine xr_callV (av := [(sh_i 60)]) rfl rfl rfl mo_Mod_isSign ml_Mod_201 im_Mod_isSign se_Mod_isSign rfl (Nat.le_of_ble_eq_true rfl) (by decide +kernel) (sh_mono k ?_)
    rintro rv m1 ⟨r1, rfl, k⟩
    show sh_X g (d + 1) m_Mod_reads _ _ [(sh_i r1), (sh_r 96)] _ _
    refine xr_if_eq (a' := (i3 r1)) rfl (off := 8) (tgt := 287) (by decide) (by decide +kernel) ⟨fun c2 => ?_, fun c2 => ?_⟩
    · have k := k.1 c2
      refine xr_bipush (n := 25) (v := 25) (by decide) (by decide +kernel) ?_
      refine xr_callV (av := [(sh_i 25)]) rfl rfl rfl mo_Mod_puts ml_Mod_208 im_Mod_puts se_Mod_puts rfl (Nat.le_of_ble_eq_true rfl) (by decide +kernel) (sh_mono k ?_)
      rintro rv m2 ⟨rfl, k⟩
      show sh_X g (d + 1) m_Mod_reads _ _ [] _ _
      refine xr_aload_n (n := 0) (i := 0) rfl (List.mem_of_getElem? (i := 0) rfl) (by decide +kernel) ?_
      refine xr_getR (o := 14) rfl fl_Mod_50 rfl (by decide +kernel) ?_
      show sh_X g (d + 1) m_Mod_reads _ _ ((sh_r 110) :: _) _ _
      refine xr_iload_n (n := 1) (i := 1) rfl (List.mem_of_getElem? (i := 1) rfl) (by decide +kernel) ?_
      refine xr_iconst (n := 1) (by decide +kernel) ?_
      have o9 := True.intro
      obtain ⟨o, k⟩ := k
      refine xr_zast (by decide) rfl o.1 o.2 (by decide +kernel) ?_
      have k := k _ rfl
      generalize hg_m3 : ms m2 110 (ru (m2 110) (x1).toNat 1) = m3 at k ⊢
      refine xr_iconst (n := 1) (by decide +kernel) ?_
      refine xr_istore_n (n := 2) (i := 2) rfl (by decide) rfl (by decide +kernel) ?_
      refine xr_goto (off := 123) (tgt := 424) (by decide) (by decide +kernel) ?_
      refine xr_aload_n (n := 0) (i := 0) rfl (List.mem_of_getElem? (i := 1) rfl) (by decide +kernel) ?_
      refine xr_callV (av := []) rfl rfl rfl mo_Mod_nextToken ml_Mod_212 im_Mod_nextToken se_Mod_nextToken rfl (Nat.le_of_ble_eq_true rfl) (by decide +kernel) (sh_mono k ?_)
      rintro rv m4 ⟨rfl, k⟩
      show sh_X g (d + 1) m_Mod_reads _ _ [] _ _
      refine xr_goto (off := (-417)) (tgt := 11) (by decide) (by decide +kernel) ?_
      refine xr_sub (lo' := [(0, (sh_r 96)), (1, (sh_i x1)), (2, (sh_i 1))]) [1, 2, 0] rfl ?_
      exact k
    · have k := k.2 c2
      refine xr_bipush (n := 24) (v := 24) (by decide) (by decide +kernel) ?_
      refine xr_goto (off := 5) (tgt := 289) (by decide) (by decide +kernel) ?_
      refine xr_callV (av := [(sh_i 24)]) rfl rfl rfl mo_Mod_puts ml_Mod_208 im_Mod_puts se_Mod_puts rfl (Nat.le_of_ble_eq_true rfl) (by decide +kernel) (sh_mono k ?_)
      rintro rv m5 ⟨rfl, k⟩
      show sh_X g (d + 1) m_Mod_reads _ _ [] _ _
      refine xr_aload_n (n := 0) (i := 0) rfl (List.mem_of_getElem? (i := 0) rfl) (by decide +kernel) ?_
      refine xr_getR (o := 14) rfl fl_Mod_50 rfl (by decide +kernel) ?_
      show sh_X g (d + 1) m_Mod_reads _ _ ((sh_r 110) :: _) _ _
      refine xr_iload_n (n := 1) (i := 1) rfl (List.mem_of_getElem? (i := 1) rfl) (by decide +kernel) ?_
      refine xr_iconst (n := 1) (by decide +kernel) ?_
      have o9 := True.intro
      obtain ⟨o, k⟩ := k
      refine xr_zast (by decide) rfl o.1 o.2 (by decide +kernel) ?_
      have k := k _ rfl
      generalize hg_m6 : ms m5 110 (ru (m5 110) (x1).toNat 1) = m6 at k ⊢
      refine xr_iconst (n := 1) (by decide +kernel) ?_
      refine xr_istore_n (n := 2) (i := 2) rfl (by decide) rfl (by decide +kernel) ?_
      refine xr_goto (off := 123) (tgt := 424) (by decide) (by decide +kernel) ?_
      refine xr_aload_n (n := 0) (i := 0) rfl (List.mem_of_getElem? (i := 1) rfl) (by decide +kernel) ?_
      refine xr_callV (av := []) rfl rfl rfl mo_Mod_nextToken ml_Mod_212 im_Mod_nextToken se_Mod_nextToken rfl (Nat.le_of_ble_eq_true rfl) (by decide +kernel) (sh_mono k ?_)
      rintro rv m7 ⟨rfl, k⟩
      show sh_X g (d + 1) m_Mod_reads _ _ [] _ _
      refine xr_goto (off := (-417)) (tgt := 11) (by decide) (by decide +kernel) ?_
      refine xr_sub (lo' := [(0, (sh_r 96)), (1, (sh_i x1)), (2, (sh_i 1))]) [1, 2, 0] rfl ?_
      exact k
theorem v_Mod_reads_304 {g : sh_G} {d : Nat}   {mem : sh_Mem} {Q : Option sh_V → sh_Mem → Prop}  {x1 : Int} {x2 : Nat} (k : (sh_Cal g d m_Mod_isWord [(sh_r 96), (sh_l 1111)] mem fun rv m1 => ∃ r1 : Int, rv = some (sh_i r1) ∧ ((¬ (i3 r1) = 0 → sh_X g (d + 1) m_Mod_reads 324 [(0, (sh_r 96)), (1, (sh_i x1)), (2, (sh_i (x2 : Int)))] [] m1 (sh_K m_Mod_reads Q)) ∧ ((i3 r1) = 0 → (sh_Cal g d m_Mod_isWord [(sh_r 96), (sh_l 423)] m1 fun rv m2 => ∃ r2 : Int, rv = some (sh_i r2) ∧ (((i3 r2) = 0 → (sh_Cal g d m_Mod_isSign [(sh_r 96), (sh_i 41)] m2 fun rv m3 => ∃ r3 : Int, rv = some (sh_i r3) ∧ (((i3 r3) = 0 → ((¬ (i3 x1) = 0 → (sh_Cal g d m_Mod_fails [(sh_r 96), (sh_i 1)] m3 fun rv m4 => ∃ r4 : Int, rv = some (sh_i r4) ∧ ((r4 = 0 ∨ r4 = 1) ∧ Q (some (sh_i r4)) m4))) ∧ ((i3 x1) = 0 → (sh_Cal g d m_Mod_isSign [(sh_r 96), (sh_i 59)] m3 fun rv m5 => ∃ r5 : Int, rv = some (sh_i r5) ∧ (((i3 r5) = 0 → (sh_Cal g d m_Mod_fails [(sh_r 96), (sh_i 1)] m5 fun rv m6 => ∃ r6 : Int, rv = some (sh_i r6) ∧ ((r6 = 0 ∨ r6 = 1) ∧ Q (some (sh_i r6)) m6))) ∧ (¬ (i3 r5) = 0 → (sh_Cal g d m_Mod_nextToken [(sh_r 96)] m5 fun rv m7 => rv = none ∧ Q (some (sh_i 1)) m7))))))) ∧ (¬ (i3 r3) = 0 → (((i3 x1) ≤ 0 → ((¬ (i3 x1) = 0 → (sh_Cal g d m_Mod_fails [(sh_r 96), (sh_i 1)] m3 fun rv m8 => ∃ r7 : Int, rv = some (sh_i r7) ∧ ((r7 = 0 ∨ r7 = 1) ∧ Q (some (sh_i r7)) m8))) ∧ ((i3 x1) = 0 → (sh_Cal g d m_Mod_isSign [(sh_r 96), (sh_i 59)] m3 fun rv m9 => ∃ r8 : Int, rv = some (sh_i r8) ∧ (((i3 r8) = 0 → (sh_Cal g d m_Mod_fails [(sh_r 96), (sh_i 1)] m9 fun rv m10 => ∃ r9 : Int, rv = some (sh_i r9) ∧ ((r9 = 0 ∨ r9 = 1) ∧ Q (some (sh_i r9)) m10))) ∧ (¬ (i3 r8) = 0 → (sh_Cal g d m_Mod_nextToken [(sh_r 96)] m9 fun rv m11 => rv = none ∧ Q (some (sh_i 1)) m11))))))) ∧ (¬ (i3 x1) ≤ 0 → (sh_Cal g d m_Mod_puts [(sh_r 96), (sh_i 29)] m3 fun rv m12 => rv = none ∧ sh_X g (d + 1) m_Mod_reads 379 [(0, (sh_r 96)), (1, (sh_i (x1 + (-1)))), (2, (sh_i (x2 : Int)))] [] m12 (sh_K m_Mod_reads Q)))))))) ∧ (¬ (i3 r2) = 0 → sh_X g (d + 1) m_Mod_reads 324 [(0, (sh_r 96)), (1, (sh_i x1)), (2, (sh_i (x2 : Int)))] [] m2 (sh_K m_Mod_reads Q)))))))) : sh_X g (d + 1) m_Mod_reads 304 [(0, (sh_r 96)), (1, (sh_i x1)), (2, (sh_i (x2 : Int)))] [] mem (sh_K m_Mod_reads Q) := by
  refine xr_aload_n (n := 0) (i := 0) rfl (List.mem_of_getElem? (i := 0) rfl) (by decide +kernel) ?_
  refine xr_ldc2 (v := 1111) (by decide) kl_Mod_215 (by decide +kernel) ?_
  refine xr_callV (av := [(sh_l 1111)]) rfl rfl rfl mo_Mod_isWord ml_Mod_197 im_Mod_isWord se_Mod_isWord rfl (Nat.le_of_ble_eq_true rfl) (by decide +kernel) (sh_mono k ?_)
  rintro rv m1 ⟨r1, rfl, k⟩
  show sh_X g (d + 1) m_Mod_reads _ _ [(sh_i r1)] _ _
  refine xr_if_ne (a' := (i3 r1)) rfl (off := 13) (tgt := 324) (by decide) (by decide +kernel) ⟨fun c1 => ?_, fun c1 => ?_⟩
  · have k := k.1 c1
    refine xr_sub (lo' := [(0, (sh_r 96)), (1, (sh_i x1)), (2, (sh_i (x2 : Int)))]) [0, 1, 2] rfl ?_
    exact k
  · have k := k.2 c1
    refine xr_aload_n (n := 0) (i := 0) rfl (List.mem_of_getElem? (i := 0) rfl) (by decide +kernel) ?_
    refine xr_ldc2 (v := 423) (by decide) kl_Mod_217 (by decide +kernel) ?_
    refine xr_callV (av := [(sh_l 423)]) rfl rfl rfl mo_Mod_isWord ml_Mod_197 im_Mod_isWord se_Mod_isWord rfl (Nat.le_of_ble_eq_true rfl) (by decide +kernel) (sh_mono k ?_)
    rintro rv m2 ⟨r2, rfl, k⟩
    show sh_X g (d + 1) m_Mod_reads _ _ [(sh_i r2)] _ _
    refine xr_if_eq (a' := (i3 r2)) rfl (off := 36) (tgt := 357) (by decide) (by decide +kernel) ⟨fun c2 => ?_, fun c2 => ?_⟩
    · have k := k.1 c2
      refine xr_aload_n (n := 0) (i := 0) rfl (List.mem_of_getElem? (i := 0) rfl) (by decide +kernel) ?_
      refine xr_bipush (n := 41) (v := 41) (by decide) (by decide +kernel) ?_
      refine xr_callV (av := [(sh_i 41)]) rfl rfl rfl mo_Mod_isSign ml_Mod_201 im_Mod_isSign se_Mod_isSign rfl (Nat.le_of_ble_eq_true rfl) (by decide +kernel) (sh_mono k ?_)
      rintro rv m3 ⟨r3, rfl, k⟩
      show sh_X g (d + 1) m_Mod_reads _ _ [(sh_i r3)] _ _
      refine xr_if_eq (a' := (i3 r3)) rfl (off := 36) (tgt := 399) (by decide) (by decide +kernel) ⟨fun c3 => ?_, fun c3 => ?_⟩
      · have k := k.1 c3
        refine xr_iload_n (n := 1) (i := 1) rfl (List.mem_of_getElem? (i := 1) rfl) (by decide +kernel) ?_
        refine xr_if_ne (a' := (i3 x1)) rfl (off := 18) (tgt := 418) (by decide) (by decide +kernel) ⟨fun c4 => ?_, fun c4 => ?_⟩
        · have k := k.1 c4
          refine xr_aload_n (n := 0) (i := 0) rfl (List.mem_of_getElem? (i := 0) rfl) (by decide +kernel) ?_
          refine xr_iconst (n := 1) (by decide +kernel) ?_
          refine xr_callV (av := [(sh_i 1)]) rfl rfl rfl mo_Mod_fails ml_Mod_205 im_Mod_fails se_Mod_fails rfl (Nat.le_of_ble_eq_true rfl) (by decide +kernel) (sh_mono k ?_)
          rintro rv m4 ⟨r4, rfl, k⟩
          show sh_X g (d + 1) m_Mod_reads _ _ [(sh_i r4)] _ _
          exact xr_zret rfl (by decide +kernel) k.1 k.2
        · have k := k.2 c4
          refine xr_aload_n (n := 0) (i := 0) rfl (List.mem_of_getElem? (i := 0) rfl) (by decide +kernel) ?_
          refine xr_bipush (n := 59) (v := 59) (by decide) (by decide +kernel) ?_
          refine xr_callV (av := [(sh_i 59)]) rfl rfl rfl mo_Mod_isSign ml_Mod_201 im_Mod_isSign se_Mod_isSign rfl (Nat.le_of_ble_eq_true rfl) (by decide +kernel) (sh_mono k ?_)
          rintro rv m5 ⟨r5, rfl, k⟩
          show sh_X g (d + 1) m_Mod_reads _ _ [(sh_i r5)] _ _
          refine xr_if_eq (a' := (i3 r5)) rfl (off := 9) (tgt := 418) (by decide) (by decide +kernel) ⟨fun c5 => ?_, fun c5 => ?_⟩
          · have k := k.1 c5
            refine xr_aload_n (n := 0) (i := 0) rfl (List.mem_of_getElem? (i := 0) rfl) (by decide +kernel) ?_
            refine xr_iconst (n := 1) (by decide +kernel) ?_
            refine xr_callV (av := [(sh_i 1)]) rfl rfl rfl mo_Mod_fails ml_Mod_205 im_Mod_fails se_Mod_fails rfl (Nat.le_of_ble_eq_true rfl) (by decide +kernel) (sh_mono k ?_)
            rintro rv m6 ⟨r6, rfl, k⟩
            show sh_X g (d + 1) m_Mod_reads _ _ [(sh_i r6)] _ _
            exact xr_zret rfl (by decide +kernel) k.1 k.2
          · have k := k.2 c5
            refine xr_aload_n (n := 0) (i := 0) rfl (List.mem_of_getElem? (i := 0) rfl) (by decide +kernel) ?_
            refine xr_callV (av := []) rfl rfl rfl mo_Mod_nextToken ml_Mod_212 im_Mod_nextToken se_Mod_nextToken rfl (Nat.le_of_ble_eq_true rfl) (by decide +kernel) (sh_mono k ?_)
            rintro rv m7 ⟨rfl, k⟩
            show sh_X g (d + 1) m_Mod_reads _ _ [] _ _
            refine xr_iconst (n := 1) (by decide +kernel) ?_
            exact xr_zret rfl (by decide +kernel) (by decide) k
      · have k := k.2 c3
        refine xr_iload_n (n := 1) (i := 1) rfl (List.mem_of_getElem? (i := 1) rfl) (by decide +kernel) ?_
        refine xr_if_le (a' := (i3 x1)) rfl (off := 32) (tgt := 399) (by decide) (by decide +kernel) ⟨fun c6 => ?_, fun c6 => ?_⟩
        · have k := k.1 c6
          refine xr_iload_n (n := 1) (i := 1) rfl (List.mem_of_getElem? (i := 1) rfl) (by decide +kernel) ?_
          refine xr_if_ne (a' := (i3 x1)) rfl (off := 18) (tgt := 418) (by decide) (by decide +kernel) ⟨fun c7 => ?_, fun c7 => ?_⟩
          · have k := k.1 c7
            refine xr_aload_n (n := 0) (i := 0) rfl (List.mem_of_getElem? (i := 0) rfl) (by decide +kernel) ?_
            refine xr_iconst (n := 1) (by decide +kernel) ?_
            refine xr_callV (av := [(sh_i 1)]) rfl rfl rfl mo_Mod_fails ml_Mod_205 im_Mod_fails se_Mod_fails rfl (Nat.le_of_ble_eq_true rfl) (by decide +kernel) (sh_mono k ?_)
            rintro rv m8 ⟨r7, rfl, k⟩
            show sh_X g (d + 1) m_Mod_reads _ _ [(sh_i r7)] _ _
            exact xr_zret rfl (by decide +kernel) k.1 k.2
          · have k := k.2 c7
            refine xr_aload_n (n := 0) (i := 0) rfl (List.mem_of_getElem? (i := 0) rfl) (by decide +kernel) ?_
            refine xr_bipush (n := 59) (v := 59) (by decide) (by decide +kernel) ?_
            refine xr_callV (av := [(sh_i 59)]) rfl rfl rfl mo_Mod_isSign ml_Mod_201 im_Mod_isSign se_Mod_isSign rfl (Nat.le_of_ble_eq_true rfl) (by decide +kernel) (sh_mono k ?_)
            rintro rv m9 ⟨r8, rfl, k⟩
            show sh_X g (d + 1) m_Mod_reads _ _ [(sh_i r8)] _ _
            refine xr_if_eq (a' := (i3 r8)) rfl (off := 9) (tgt := 418) (by decide) (by decide +kernel) ⟨fun c8 => ?_, fun c8 => ?_⟩
            · have k := k.1 c8
              refine xr_aload_n (n := 0) (i := 0) rfl (List.mem_of_getElem? (i := 0) rfl) (by decide +kernel) ?_
              refine xr_iconst (n := 1) (by decide +kernel) ?_
              refine xr_callV (av := [(sh_i 1)]) rfl rfl rfl mo_Mod_fails ml_Mod_205 im_Mod_fails se_Mod_fails rfl (Nat.le_of_ble_eq_true rfl) (by decide +kernel) (sh_mono k ?_)
              rintro rv m10 ⟨r9, rfl, k⟩
              show sh_X g (d + 1) m_Mod_reads _ _ [(sh_i r9)] _ _
              exact xr_zret rfl (by decide +kernel) k.1 k.2
            · have k := k.2 c8
              refine xr_aload_n (n := 0) (i := 0) rfl (List.mem_of_getElem? (i := 0) rfl) (by decide +kernel) ?_
              refine xr_callV (av := []) rfl rfl rfl mo_Mod_nextToken ml_Mod_212 im_Mod_nextToken se_Mod_nextToken rfl (Nat.le_of_ble_eq_true rfl) (by decide +kernel) (sh_mono k ?_)
              rintro rv m11 ⟨rfl, k⟩
              show sh_X g (d + 1) m_Mod_reads _ _ [] _ _
              refine xr_iconst (n := 1) (by decide +kernel) ?_
              exact xr_zret rfl (by decide +kernel) (by decide) k
        · have k := k.2 c6
          refine xr_aload_n (n := 0) (i := 0) rfl (List.mem_of_getElem? (i := 0) rfl) (by decide +kernel) ?_
          refine xr_bipush (n := 29) (v := 29) (by decide) (by decide +kernel) ?_
          refine xr_callV (av := [(sh_i 29)]) rfl rfl rfl mo_Mod_puts ml_Mod_208 im_Mod_puts se_Mod_puts rfl (Nat.le_of_ble_eq_true rfl) (by decide +kernel) (sh_mono k ?_)
          rintro rv m12 ⟨rfl, k⟩
          show sh_X g (d + 1) m_Mod_reads _ _ [] _ _
          refine xr_iinc (n := (-1)) (lo' := [(1, (sh_i (x1 + (-1)))), (0, (sh_r 96)), (2, (sh_i (x2 : Int)))]) (List.mem_of_getElem? (i := 1) rfl) (by decide) rfl (by decide +kernel) ?_
          refine xr_sub (lo' := [(0, (sh_r 96)), (1, (sh_i (x1 + (-1)))), (2, (sh_i (x2 : Int)))]) [1, 0, 2] rfl ?_
          exact k
    · have k := k.2 c2
      refine xr_sub (lo' := [(0, (sh_r 96)), (1, (sh_i x1)), (2, (sh_i (x2 : Int)))]) [0, 1, 2] rfl ?_
      exact k
theorem v_Mod_reads_65 {g : sh_G} {d : Nat}   {mem : sh_Mem} {Q : Option sh_V → sh_Mem → Prop}  {x1 : Int} {x2 : Nat} {x3 : Int} {x4 : Int} {x5 : Int} (k : ((¬ (i3 x1) = 5 → ((¬ (i3 x4) = 0 → sh_X g (d + 1) m_Mod_reads 86 [(0, (sh_r 96)), (1, (sh_i x1)), (2, (sh_i (x2 : Int))), (3, (sh_i x3)), (4, (sh_i x4)), (5, (sh_i x5))] [] mem (sh_K m_Mod_reads Q)) ∧ ((i3 x4) = 0 → (((i3 x5) = 0 → (((i3 x3) ≤ 0 → (sh_Cal g d m_Mod_puts [(sh_r 96), (sh_i (100 + (mem 96 8)))] mem fun rv m1 => rv = none ∧ sh_X g (d + 1) m_Mod_reads 152 [(0, (sh_r 96)), (1, (sh_i x1)), (2, (sh_i 0)), (3, (sh_i x3)), (4, (sh_i x4)), (5, (sh_i x5))] [] m1 (sh_K m_Mod_reads Q))) ∧ (¬ (i3 x3) ≤ 0 → (sh_Cal g d m_Mod_puts [(sh_r 96), (sh_i x3)] mem fun rv m2 => rv = none ∧ sh_X g (d + 1) m_Mod_reads 152 [(0, (sh_r 96)), (1, (sh_i x1)), (2, (sh_i 0)), (3, (sh_i x3)), (4, (sh_i x4)), (5, (sh_i x5))] [] m2 (sh_K m_Mod_reads Q))))) ∧ (¬ (i3 x5) = 0 → sh_X g (d + 1) m_Mod_reads 86 [(0, (sh_r 96)), (1, (sh_i x1)), (2, (sh_i (x2 : Int))), (3, (sh_i x3)), (4, (sh_i x4)), (5, (sh_i x5))] [] mem (sh_K m_Mod_reads Q)))))) ∧ ((i3 x1) = 5 → (sh_Cal g d m_Mod_fails [(sh_r 96), (sh_i 5)] mem fun rv m3 => ∃ r1 : Int, rv = some (sh_i r1) ∧ ((r1 = 0 ∨ r1 = 1) ∧ Q (some (sh_i r1)) m3))))) : sh_X g (d + 1) m_Mod_reads 65 [(0, (sh_r 96)), (1, (sh_i x1)), (2, (sh_i (x2 : Int))), (3, (sh_i x3)), (4, (sh_i x4)), (5, (sh_i x5))] [] mem (sh_K m_Mod_reads Q) := by
  refine xr_iload_n (n := 1) (i := 1) rfl (List.mem_of_getElem? (i := 1) rfl) (by decide +kernel) ?_
  refine xr_iconst (n := 5) (by decide +kernel) ?_
  refine xr_icmp_ne (a' := (i3 x1)) (b' := 5) rfl (by decide) (off := 9) (tgt := 76) (by decide) (by decide +kernel) ⟨fun c1 => ?_, fun c1 => ?_⟩
  · have k := k.1 c1
    refine xr_iload (i := 4) (List.mem_of_getElem? (i := 4) rfl) (by decide +kernel) ?_
    refine xr_if_ne (a' := (i3 x4)) rfl (off := 8) (tgt := 86) (by decide) (by decide +kernel) ⟨fun c2 => ?_, fun c2 => ?_⟩
    · have k := k.1 c2
      refine xr_sub (lo' := [(0, (sh_r 96)), (1, (sh_i x1)), (2, (sh_i (x2 : Int))), (3, (sh_i x3)), (4, (sh_i x4)), (5, (sh_i x5))]) [0, 1, 2, 3, 4, 5] rfl ?_
      exact k
    · have k := k.2 c2
      refine xr_iload (i := 5) (List.mem_of_getElem? (i := 5) rfl) (by decide +kernel) ?_
      refine xr_if_eq (a' := (i3 x5)) rfl (off := 48) (tgt := 131) (by decide) (by decide +kernel) ⟨fun c3 => ?_, fun c3 => ?_⟩
      · have k := k.1 c3
        refine xr_aload_n (n := 0) (i := 0) rfl (List.mem_of_getElem? (i := 0) rfl) (by decide +kernel) ?_
        refine xr_iload_n (n := 3) (i := 3) rfl (List.mem_of_getElem? (i := 3) rfl) (by decide +kernel) ?_
        refine xr_if_le (a' := (i3 x3)) rfl (off := 7) (tgt := 140) (by decide) (by decide +kernel) ⟨fun c4 => ?_, fun c4 => ?_⟩
        · have k := k.1 c4
          refine xr_bipush (n := 100) (v := 100) (by decide) (by decide +kernel) ?_
          refine xr_aload_n (n := 0) (i := 0) rfl (List.mem_of_getElem? (i := 0) rfl) (by decide +kernel) ?_
          refine xr_getI rfl fl_Mod_163 (by decide) (by decide +kernel) ?_
          refine xr_iadd (by decide +kernel) ?_
          show sh_X g (d + 1) m_Mod_reads _ _ ((sh_i (100 + (mem 96 8))) :: _) _ _
          refine xr_callV (av := [(sh_i (100 + (mem 96 8)))]) rfl rfl rfl mo_Mod_puts ml_Mod_208 im_Mod_puts se_Mod_puts rfl (Nat.le_of_ble_eq_true rfl) (by decide +kernel) (sh_mono k ?_)
          rintro rv m1 ⟨rfl, k⟩
          show sh_X g (d + 1) m_Mod_reads _ _ [] _ _
          refine xr_iconst (n := 0) (by decide +kernel) ?_
          refine xr_istore_n (n := 2) (i := 2) rfl (by decide) rfl (by decide +kernel) ?_
          refine xr_sub (lo' := [(0, (sh_r 96)), (1, (sh_i x1)), (2, (sh_i 0)), (3, (sh_i x3)), (4, (sh_i x4)), (5, (sh_i x5))]) [1, 2, 0, 3, 4, 5] rfl ?_
          exact k
        · have k := k.2 c4
          refine xr_iload_n (n := 3) (i := 3) rfl (List.mem_of_getElem? (i := 3) rfl) (by decide +kernel) ?_
          refine xr_goto (off := 10) (tgt := 147) (by decide) (by decide +kernel) ?_
          refine xr_callV (av := [(sh_i x3)]) rfl rfl rfl mo_Mod_puts ml_Mod_208 im_Mod_puts se_Mod_puts rfl (Nat.le_of_ble_eq_true rfl) (by decide +kernel) (sh_mono k ?_)
          rintro rv m2 ⟨rfl, k⟩
          show sh_X g (d + 1) m_Mod_reads _ _ [] _ _
          refine xr_iconst (n := 0) (by decide +kernel) ?_
          refine xr_istore_n (n := 2) (i := 2) rfl (by decide) rfl (by decide +kernel) ?_
          refine xr_sub (lo' := [(0, (sh_r 96)), (1, (sh_i x1)), (2, (sh_i 0)), (3, (sh_i x3)), (4, (sh_i x4)), (5, (sh_i x5))]) [1, 2, 0, 3, 4, 5] rfl ?_
          exact k
      · have k := k.2 c3
        refine xr_sub (lo' := [(0, (sh_r 96)), (1, (sh_i x1)), (2, (sh_i (x2 : Int))), (3, (sh_i x3)), (4, (sh_i x4)), (5, (sh_i x5))]) [0, 1, 2, 3, 4, 5] rfl ?_
        exact k
  · have k := k.2 c1
    refine xr_aload_n (n := 0) (i := 0) rfl (List.mem_of_getElem? (i := 0) rfl) (by decide +kernel) ?_
    refine xr_iconst (n := 5) (by decide +kernel) ?_
    refine xr_callV (av := [(sh_i 5)]) rfl rfl rfl mo_Mod_fails ml_Mod_205 im_Mod_fails se_Mod_fails rfl (Nat.le_of_ble_eq_true rfl) (by decide +kernel) (sh_mono k ?_)
    rintro rv m3 ⟨r1, rfl, k⟩
    show sh_X g (d + 1) m_Mod_reads _ _ [(sh_i r1)] _ _
    exact xr_zret rfl (by decide +kernel) k.1 k.2
theorem v_Mod_reads_324 {g : sh_G} {d : Nat}   {mem : sh_Mem} {Q : Option sh_V → sh_Mem → Prop}  {x1 : Int} {x2 : Nat} (k : (sh_Cal g d m_Mod_isWord [(sh_r 96), (sh_l 1111)] mem fun rv m1 => ∃ r1 : Int, rv = some (sh_i r1) ∧ (((i3 r1) = 0 → (sh_Cal g d m_Mod_puts [(sh_r 96), (sh_i 27)] m1 fun rv m2 => rv = none ∧ ((0 ≤ x1 ∧ x1 < 7) ∧ (∀ m3 : sh_Mem, m3 = ms m2 110 (ru (m2 110) (x1).toNat 0) → (sh_Cal g d m_Mod_nextToken [(sh_r 96)] m3 fun rv m4 => rv = none ∧ sh_X g (d + 1) m_Mod_reads 11 [(0, (sh_r 96)), (1, (sh_i x1)), (2, (sh_i 1))] [] m4 (sh_K m_Mod_reads Q)))))) ∧ (¬ (i3 r1) = 0 → (sh_Cal g d m_Mod_puts [(sh_r 96), (sh_i 26)] m1 fun rv m5 => rv = none ∧ ((0 ≤ x1 ∧ x1 < 7) ∧ (∀ m6 : sh_Mem, m6 = ms m5 110 (ru (m5 110) (x1).toNat 0) → (sh_Cal g d m_Mod_nextToken [(sh_r 96)] m6 fun rv m7 => rv = none ∧ sh_X g (d + 1) m_Mod_reads 11 [(0, (sh_r 96)), (1, (sh_i x1)), (2, (sh_i 1))] [] m7 (sh_K m_Mod_reads Q))))))))) : sh_X g (d + 1) m_Mod_reads 324 [(0, (sh_r 96)), (1, (sh_i x1)), (2, (sh_i (x2 : Int)))] [] mem (sh_K m_Mod_reads Q) := by
  refine xr_aload_n (n := 0) (i := 0) rfl (List.mem_of_getElem? (i := 0) rfl) (by decide +kernel) ?_
  refine xr_aload_n (n := 0) (i := 0) rfl (List.mem_of_getElem? (i := 0) rfl) (by decide +kernel) ?_
  refine xr_ldc2 (v := 1111) (by decide) kl_Mod_215 (by decide +kernel) ?_
  refine xr_callV (av := [(sh_l 1111)]) rfl rfl rfl mo_Mod_isWord ml_Mod_197 im_Mod_isWord se_Mod_isWord rfl (Nat.le_of_ble_eq_true rfl) (by decide +kernel) (sh_mono k ?_)
  rintro rv m1 ⟨r1, rfl, k⟩
  show sh_X g (d + 1) m_Mod_reads _ _ [(sh_i r1), (sh_r 96)] _ _
  refine xr_if_eq (a' := (i3 r1)) rfl (off := 8) (tgt := 340) (by decide) (by decide +kernel) ⟨fun c1 => ?_, fun c1 => ?_⟩
  · have k := k.1 c1
    refine xr_bipush (n := 27) (v := 27) (by decide) (by decide +kernel) ?_
    refine xr_callV (av := [(sh_i 27)]) rfl rfl rfl mo_Mod_puts ml_Mod_208 im_Mod_puts se_Mod_puts rfl (Nat.le_of_ble_eq_true rfl) (by decide +kernel) (sh_mono k ?_)
    rintro rv m2 ⟨rfl, k⟩
    show sh_X g (d + 1) m_Mod_reads _ _ [] _ _
    refine xr_aload_n (n := 0) (i := 0) rfl (List.mem_of_getElem? (i := 0) rfl) (by decide +kernel) ?_
    refine xr_getR (o := 14) rfl fl_Mod_50 rfl (by decide +kernel) ?_
    show sh_X g (d + 1) m_Mod_reads _ _ ((sh_r 110) :: _) _ _
    refine xr_iload_n (n := 1) (i := 1) rfl (List.mem_of_getElem? (i := 1) rfl) (by decide +kernel) ?_
    refine xr_iconst (n := 0) (by decide +kernel) ?_
    have o9 := True.intro
    obtain ⟨o, k⟩ := k
    refine xr_zast (by decide) rfl o.1 o.2 (by decide +kernel) ?_
    have k := k _ rfl
    generalize hg_m3 : ms m2 110 (ru (m2 110) (x1).toNat 0) = m3 at k ⊢
    refine xr_iconst (n := 1) (by decide +kernel) ?_
    refine xr_istore_n (n := 2) (i := 2) rfl (by decide) rfl (by decide +kernel) ?_
    refine xr_goto (off := 70) (tgt := 424) (by decide) (by decide +kernel) ?_
    refine xr_aload_n (n := 0) (i := 0) rfl (List.mem_of_getElem? (i := 1) rfl) (by decide +kernel) ?_
    refine xr_callV (av := []) rfl rfl rfl mo_Mod_nextToken ml_Mod_212 im_Mod_nextToken se_Mod_nextToken rfl (Nat.le_of_ble_eq_true rfl) (by decide +kernel) (sh_mono k ?_)
    rintro rv m4 ⟨rfl, k⟩
    show sh_X g (d + 1) m_Mod_reads _ _ [] _ _
    refine xr_goto (off := (-417)) (tgt := 11) (by decide) (by decide +kernel) ?_
    refine xr_sub (lo' := [(0, (sh_r 96)), (1, (sh_i x1)), (2, (sh_i 1))]) [1, 2, 0] rfl ?_
    exact k
  · have k := k.2 c1
    refine xr_bipush (n := 26) (v := 26) (by decide) (by decide +kernel) ?_
    refine xr_goto (off := 5) (tgt := 342) (by decide) (by decide +kernel) ?_
    refine xr_callV (av := [(sh_i 26)]) rfl rfl rfl mo_Mod_puts ml_Mod_208 im_Mod_puts se_Mod_puts rfl (Nat.le_of_ble_eq_true rfl) (by decide +kernel) (sh_mono k ?_)
    rintro rv m5 ⟨rfl, k⟩
    show sh_X g (d + 1) m_Mod_reads _ _ [] _ _
    refine xr_aload_n (n := 0) (i := 0) rfl (List.mem_of_getElem? (i := 0) rfl) (by decide +kernel) ?_
    refine xr_getR (o := 14) rfl fl_Mod_50 rfl (by decide +kernel) ?_
    show sh_X g (d + 1) m_Mod_reads _ _ ((sh_r 110) :: _) _ _
    refine xr_iload_n (n := 1) (i := 1) rfl (List.mem_of_getElem? (i := 1) rfl) (by decide +kernel) ?_
    refine xr_iconst (n := 0) (by decide +kernel) ?_
    have o9 := True.intro
    obtain ⟨o, k⟩ := k
    refine xr_zast (by decide) rfl o.1 o.2 (by decide +kernel) ?_
    have k := k _ rfl
    generalize hg_m6 : ms m5 110 (ru (m5 110) (x1).toNat 0) = m6 at k ⊢
    refine xr_iconst (n := 1) (by decide +kernel) ?_
    refine xr_istore_n (n := 2) (i := 2) rfl (by decide) rfl (by decide +kernel) ?_
    refine xr_goto (off := 70) (tgt := 424) (by decide) (by decide +kernel) ?_
    refine xr_aload_n (n := 0) (i := 0) rfl (List.mem_of_getElem? (i := 1) rfl) (by decide +kernel) ?_
    refine xr_callV (av := []) rfl rfl rfl mo_Mod_nextToken ml_Mod_212 im_Mod_nextToken se_Mod_nextToken rfl (Nat.le_of_ble_eq_true rfl) (by decide +kernel) (sh_mono k ?_)
    rintro rv m7 ⟨rfl, k⟩
    show sh_X g (d + 1) m_Mod_reads _ _ [] _ _
    refine xr_goto (off := (-417)) (tgt := 11) (by decide) (by decide +kernel) ?_
    refine xr_sub (lo' := [(0, (sh_r 96)), (1, (sh_i x1)), (2, (sh_i 1))]) [1, 2, 0] rfl ?_
    exact k
theorem v_Mod_reads_379 {g : sh_G} {d : Nat}   {mem : sh_Mem} {Q : Option sh_V → sh_Mem → Prop}  {x1 : Int} {x2 : Nat} (k : (((i3 x1) ≤ 0 → (sh_Cal g d m_Mod_nextToken [(sh_r 96)] mem fun rv m1 => rv = none ∧ sh_X g (d + 1) m_Mod_reads 11 [(0, (sh_r 96)), (1, (sh_i x1)), (2, (sh_i (x2 : Int)))] [] m1 (sh_K m_Mod_reads Q))) ∧ (¬ (i3 x1) ≤ 0 → ((0 ≤ x1 ∧ x1 < 7) ∧ ((¬ (i3 (mem 109 (x1).toNat)) = 1 → (sh_Cal g d m_Mod_nextToken [(sh_r 96)] mem fun rv m2 => rv = none ∧ sh_X g (d + 1) m_Mod_reads 11 [(0, (sh_r 96)), (1, (sh_i x1)), (2, (sh_i (x2 : Int)))] [] m2 (sh_K m_Mod_reads Q))) ∧ ((i3 (mem 109 (x1).toNat)) = 1 → sh_X g (d + 1) m_Mod_reads 379 [(0, (sh_r 96)), (1, (sh_i (x1 + (-1)))), (2, (sh_i (x2 : Int)))] [] mem (sh_K m_Mod_reads Q))))))) : sh_X g (d + 1) m_Mod_reads 379 [(0, (sh_r 96)), (1, (sh_i x1)), (2, (sh_i (x2 : Int)))] [] mem (sh_K m_Mod_reads Q) := by
  refine xr_iload_n (n := 1) (i := 1) rfl (List.mem_of_getElem? (i := 1) rfl) (by decide +kernel) ?_
  refine xr_if_le (a' := (i3 x1)) rfl (off := 44) (tgt := 424) (by decide) (by decide +kernel) ⟨fun c1 => ?_, fun c1 => ?_⟩
  · have k := k.1 c1
    refine xr_aload_n (n := 0) (i := 0) rfl (List.mem_of_getElem? (i := 0) rfl) (by decide +kernel) ?_
    refine xr_callV (av := []) rfl rfl rfl mo_Mod_nextToken ml_Mod_212 im_Mod_nextToken se_Mod_nextToken rfl (Nat.le_of_ble_eq_true rfl) (by decide +kernel) (sh_mono k ?_)
    rintro rv m1 ⟨rfl, k⟩
    show sh_X g (d + 1) m_Mod_reads _ _ [] _ _
    refine xr_goto (off := (-417)) (tgt := 11) (by decide) (by decide +kernel) ?_
    refine xr_sub (lo' := [(0, (sh_r 96)), (1, (sh_i x1)), (2, (sh_i (x2 : Int)))]) [0, 1, 2] rfl ?_
    exact k
  · have k := k.2 c1
    refine xr_aload_n (n := 0) (i := 0) rfl (List.mem_of_getElem? (i := 0) rfl) (by decide +kernel) ?_
    refine xr_getR (o := 13) rfl fl_Mod_47 rfl (by decide +kernel) ?_
    show sh_X g (d + 1) m_Mod_reads _ _ ((sh_r 109) :: _) _ _
    refine xr_iload_n (n := 1) (i := 1) rfl (List.mem_of_getElem? (i := 1) rfl) (by decide +kernel) ?_
    obtain ⟨o, k⟩ := k
    refine xr_iald rfl o.1 o.2 (by decide +kernel) ?_
    refine xr_iconst (n := 1) (by decide +kernel) ?_
    refine xr_icmp_ne (a' := (i3 (mem 109 (x1).toNat))) (b' := 1) rfl (by decide) (off := 34) (tgt := 424) (by decide) (by decide +kernel) ⟨fun c2 => ?_, fun c2 => ?_⟩
    · have k := k.1 c2
      refine xr_aload_n (n := 0) (i := 0) rfl (List.mem_of_getElem? (i := 0) rfl) (by decide +kernel) ?_
      refine xr_callV (av := []) rfl rfl rfl mo_Mod_nextToken ml_Mod_212 im_Mod_nextToken se_Mod_nextToken rfl (Nat.le_of_ble_eq_true rfl) (by decide +kernel) (sh_mono k ?_)
      rintro rv m2 ⟨rfl, k⟩
      show sh_X g (d + 1) m_Mod_reads _ _ [] _ _
      refine xr_goto (off := (-417)) (tgt := 11) (by decide) (by decide +kernel) ?_
      refine xr_sub (lo' := [(0, (sh_r 96)), (1, (sh_i x1)), (2, (sh_i (x2 : Int)))]) [0, 1, 2] rfl ?_
      exact k
    · have k := k.2 c2
      refine xr_iinc (n := (-1)) (lo' := [(1, (sh_i (x1 + (-1)))), (0, (sh_r 96)), (2, (sh_i (x2 : Int)))]) (List.mem_of_getElem? (i := 1) rfl) (by decide) rfl (by decide +kernel) ?_
      refine xr_goto (off := (-17)) (tgt := 379) (by decide) (by decide +kernel) ?_
      refine xr_sub (lo' := [(0, (sh_r 96)), (1, (sh_i (x1 + (-1)))), (2, (sh_i (x2 : Int)))]) [1, 0, 2] rfl ?_
      exact k
theorem v_Mod_reads_86 {g : sh_G} {d : Nat}   {mem : sh_Mem} {Q : Option sh_V → sh_Mem → Prop}  {x1 : Int} {x2 : Nat} {x3 : Int} {x4 : Int} {x5 : Int} (k : (((i3 x4) = 0 → sh_X g (d + 1) m_Mod_reads 99 [(0, (sh_r 96)), (1, (sh_i x1)), (2, (sh_i (x2 : Int))), (3, (sh_i x3)), (4, (sh_i x4)), (5, (sh_i x5))] [(sh_i 28), (sh_r 96)] mem (sh_K m_Mod_reads Q)) ∧ (¬ (i3 x4) = 0 → sh_X g (d + 1) m_Mod_reads 99 [(0, (sh_r 96)), (1, (sh_i x1)), (2, (sh_i (x2 : Int))), (3, (sh_i x3)), (4, (sh_i x4)), (5, (sh_i x5))] [(sh_i 30), (sh_r 96)] mem (sh_K m_Mod_reads Q)))) : sh_X g (d + 1) m_Mod_reads 86 [(0, (sh_r 96)), (1, (sh_i x1)), (2, (sh_i (x2 : Int))), (3, (sh_i x3)), (4, (sh_i x4)), (5, (sh_i x5))] [] mem (sh_K m_Mod_reads Q) := by
  refine xr_aload_n (n := 0) (i := 0) rfl (List.mem_of_getElem? (i := 0) rfl) (by decide +kernel) ?_
  refine xr_iload (i := 4) (List.mem_of_getElem? (i := 4) rfl) (by decide +kernel) ?_
  refine xr_if_eq (a' := (i3 x4)) rfl (off := 8) (tgt := 97) (by decide) (by decide +kernel) ⟨fun c1 => ?_, fun c1 => ?_⟩
  · have k := k.1 c1
    refine xr_bipush (n := 28) (v := 28) (by decide) (by decide +kernel) ?_
    refine xr_sub (lo' := [(0, (sh_r 96)), (1, (sh_i x1)), (2, (sh_i (x2 : Int))), (3, (sh_i x3)), (4, (sh_i x4)), (5, (sh_i x5))]) [0, 1, 2, 3, 4, 5] rfl ?_
    exact k
  · have k := k.2 c1
    refine xr_bipush (n := 30) (v := 30) (by decide) (by decide +kernel) ?_
    refine xr_goto (off := 5) (tgt := 99) (by decide) (by decide +kernel) ?_
    refine xr_sub (lo' := [(0, (sh_r 96)), (1, (sh_i x1)), (2, (sh_i (x2 : Int))), (3, (sh_i x3)), (4, (sh_i x4)), (5, (sh_i x5))]) [0, 1, 2, 3, 4, 5] rfl ?_
    exact k
theorem v_Mod_reads_152 {g : sh_G} {d : Nat}   {mem : sh_Mem} {Q : Option sh_V → sh_Mem → Prop}  {x1 : Int} {x2 : Nat} {x3 : Int} {x4 : Int} {x5 : Int} (k : (((i3 x1) ≤ 0 → (sh_Cal g d m_Mod_nextToken [(sh_r 96)] mem fun rv m1 => rv = none ∧ sh_X g (d + 1) m_Mod_reads 11 [(0, (sh_r 96)), (1, (sh_i x1)), (2, (sh_i (x2 : Int)))] [] m1 (sh_K m_Mod_reads Q))) ∧ (¬ (i3 x1) ≤ 0 → ((0 ≤ x1 ∧ x1 < 7) ∧ ((¬ (i3 (mem 109 (x1).toNat)) = 1 → (sh_Cal g d m_Mod_nextToken [(sh_r 96)] mem fun rv m2 => rv = none ∧ sh_X g (d + 1) m_Mod_reads 11 [(0, (sh_r 96)), (1, (sh_i x1)), (2, (sh_i (x2 : Int)))] [] m2 (sh_K m_Mod_reads Q))) ∧ ((i3 (mem 109 (x1).toNat)) = 1 → sh_X g (d + 1) m_Mod_reads 152 [(0, (sh_r 96)), (1, (sh_i (x1 + (-1)))), (2, (sh_i (x2 : Int))), (3, (sh_i x3)), (4, (sh_i x4)), (5, (sh_i x5))] [] mem (sh_K m_Mod_reads Q))))))) : sh_X g (d + 1) m_Mod_reads 152 [(0, (sh_r 96)), (1, (sh_i x1)), (2, (sh_i (x2 : Int))), (3, (sh_i x3)), (4, (sh_i x4)), (5, (sh_i x5))] [] mem (sh_K m_Mod_reads Q) := by
  refine xr_iload_n (n := 1) (i := 1) rfl (List.mem_of_getElem? (i := 1) rfl) (by decide +kernel) ?_
  refine xr_if_le (a' := (i3 x1)) rfl (off := 19) (tgt := 172) (by decide) (by decide +kernel) ⟨fun c1 => ?_, fun c1 => ?_⟩
  · have k := k.1 c1
    refine xr_aload_n (n := 0) (i := 0) rfl (List.mem_of_getElem? (i := 0) rfl) (by decide +kernel) ?_
    refine xr_callV (av := []) rfl rfl rfl mo_Mod_nextToken ml_Mod_212 im_Mod_nextToken se_Mod_nextToken rfl (Nat.le_of_ble_eq_true rfl) (by decide +kernel) (sh_mono k ?_)
    rintro rv m1 ⟨rfl, k⟩
    show sh_X g (d + 1) m_Mod_reads _ _ [] _ _
    refine xr_goto (off := (-165)) (tgt := 11) (by decide) (by decide +kernel) ?_
    refine xr_sub (lo' := [(0, (sh_r 96)), (1, (sh_i x1)), (2, (sh_i (x2 : Int)))]) [0, 1, 2] rfl ?_
    exact k
  · have k := k.2 c1
    refine xr_aload_n (n := 0) (i := 0) rfl (List.mem_of_getElem? (i := 0) rfl) (by decide +kernel) ?_
    refine xr_getR (o := 13) rfl fl_Mod_47 rfl (by decide +kernel) ?_
    show sh_X g (d + 1) m_Mod_reads _ _ ((sh_r 109) :: _) _ _
    refine xr_iload_n (n := 1) (i := 1) rfl (List.mem_of_getElem? (i := 1) rfl) (by decide +kernel) ?_
    obtain ⟨o, k⟩ := k
    refine xr_iald rfl o.1 o.2 (by decide +kernel) ?_
    refine xr_iconst (n := 1) (by decide +kernel) ?_
    refine xr_icmp_ne (a' := (i3 (mem 109 (x1).toNat))) (b' := 1) rfl (by decide) (off := 9) (tgt := 172) (by decide) (by decide +kernel) ⟨fun c2 => ?_, fun c2 => ?_⟩
    · have k := k.1 c2
      refine xr_aload_n (n := 0) (i := 0) rfl (List.mem_of_getElem? (i := 0) rfl) (by decide +kernel) ?_
      refine xr_callV (av := []) rfl rfl rfl mo_Mod_nextToken ml_Mod_212 im_Mod_nextToken se_Mod_nextToken rfl (Nat.le_of_ble_eq_true rfl) (by decide +kernel) (sh_mono k ?_)
      rintro rv m2 ⟨rfl, k⟩
      show sh_X g (d + 1) m_Mod_reads _ _ [] _ _
      refine xr_goto (off := (-165)) (tgt := 11) (by decide) (by decide +kernel) ?_
      refine xr_sub (lo' := [(0, (sh_r 96)), (1, (sh_i x1)), (2, (sh_i (x2 : Int)))]) [0, 1, 2] rfl ?_
      exact k
    · have k := k.2 c2
      refine xr_iinc (n := (-1)) (lo' := [(1, (sh_i (x1 + (-1)))), (0, (sh_r 96)), (2, (sh_i (x2 : Int))), (3, (sh_i x3)), (4, (sh_i x4)), (5, (sh_i x5))]) (List.mem_of_getElem? (i := 1) rfl) (by decide) rfl (by decide +kernel) ?_
      refine xr_goto (off := (-17)) (tgt := 152) (by decide) (by decide +kernel) ?_
      refine xr_sub (lo' := [(0, (sh_r 96)), (1, (sh_i (x1 + (-1)))), (2, (sh_i (x2 : Int))), (3, (sh_i x3)), (4, (sh_i x4)), (5, (sh_i x5))]) [1, 0, 2, 3, 4, 5] rfl ?_
      exact k
theorem v_Mod_reads_99 {g : sh_G} {d : Nat}   {mem : sh_Mem} {Q : Option sh_V → sh_Mem → Prop}  {x1 : Int} {x2 : Nat} {x3 : Int} {x4 : Int} {x5 : Int} {y0 : Int} (k : (sh_Cal g d m_Mod_puts [(sh_r 96), (sh_i y0)] mem fun rv m1 => rv = none ∧ (((i3 x4) = 0 → ((0 ≤ (x1 + 1) ∧ (x1 + 1) < 7) ∧ (∀ m2 : sh_Mem, m2 = ms m1 109 (ru (m1 109) ((x1 + 1)).toNat 2) → ((0 ≤ (x1 + 1) ∧ (x1 + 1) < 7) ∧ (∀ m3 : sh_Mem, m3 = ms m2 110 (ru (m2 110) ((x1 + 1)).toNat 0) → (sh_Cal g d m_Mod_nextToken [(sh_r 96)] m3 fun rv m4 => rv = none ∧ sh_X g (d + 1) m_Mod_reads 11 [(0, (sh_r 96)), (1, (sh_i (x1 + 1))), (2, (sh_i (x2 : Int)))] [] m4 (sh_K m_Mod_reads Q))))))) ∧ (¬ (i3 x4) = 0 → ((0 ≤ (x1 + 1) ∧ (x1 + 1) < 7) ∧ (∀ m5 : sh_Mem, m5 = ms m1 109 (ru (m1 109) ((x1 + 1)).toNat 1) → ((0 ≤ (x1 + 1) ∧ (x1 + 1) < 7) ∧ (∀ m6 : sh_Mem, m6 = ms m5 110 (ru (m5 110) ((x1 + 1)).toNat 0) → (sh_Cal g d m_Mod_nextToken [(sh_r 96)] m6 fun rv m7 => rv = none ∧ sh_X g (d + 1) m_Mod_reads 11 [(0, (sh_r 96)), (1, (sh_i (x1 + 1))), (2, (sh_i (x2 : Int)))] [] m7 (sh_K m_Mod_reads Q)))))))))) : sh_X g (d + 1) m_Mod_reads 99 [(0, (sh_r 96)), (1, (sh_i x1)), (2, (sh_i (x2 : Int))), (3, (sh_i x3)), (4, (sh_i x4)), (5, (sh_i x5))] [(sh_i y0), (sh_r 96)] mem (sh_K m_Mod_reads Q) := by
  refine xr_callV (av := [(sh_i y0)]) rfl rfl rfl mo_Mod_puts ml_Mod_208 im_Mod_puts se_Mod_puts rfl (Nat.le_of_ble_eq_true rfl) (by decide +kernel) (sh_mono k ?_)
  rintro rv m1 ⟨rfl, k⟩
  show sh_X g (d + 1) m_Mod_reads _ _ [] _ _
  refine xr_iinc (n := 1) (lo' := [(1, (sh_i (x1 + 1))), (0, (sh_r 96)), (2, (sh_i (x2 : Int))), (3, (sh_i x3)), (4, (sh_i x4)), (5, (sh_i x5))]) (List.mem_of_getElem? (i := 1) rfl) (by decide) rfl (by decide +kernel) ?_
  refine xr_aload_n (n := 0) (i := 0) rfl (List.mem_of_getElem? (i := 1) rfl) (by decide +kernel) ?_
  refine xr_getR (o := 13) rfl fl_Mod_47 rfl (by decide +kernel) ?_
  show sh_X g (d + 1) m_Mod_reads _ _ ((sh_r 109) :: _) _ _
  refine xr_iload_n (n := 1) (i := 1) rfl (List.mem_of_getElem? (i := 0) rfl) (by decide +kernel) ?_
  refine xr_iload (i := 4) (List.mem_of_getElem? (i := 4) rfl) (by decide +kernel) ?_
  refine xr_if_eq (a' := (i3 x4)) rfl (off := 7) (tgt := 119) (by decide) (by decide +kernel) ⟨fun c1 => ?_, fun c1 => ?_⟩
  · have k := k.1 c1
    refine xr_iconst (n := 2) (by decide +kernel) ?_
    have o9 := True.intro
    obtain ⟨o, k⟩ := k
    refine xr_iast rfl o.1 o.2 (by decide +kernel) ?_
    have k := k _ rfl
    generalize hg_m2 : ms m1 109 (ru (m1 109) ((x1 + 1)).toNat 2) = m2 at k ⊢
    refine xr_aload_n (n := 0) (i := 0) rfl (List.mem_of_getElem? (i := 1) rfl) (by decide +kernel) ?_
    refine xr_getR (o := 14) rfl fl_Mod_50 rfl (by decide +kernel) ?_
    show sh_X g (d + 1) m_Mod_reads _ _ ((sh_r 110) :: _) _ _
    refine xr_iload_n (n := 1) (i := 1) rfl (List.mem_of_getElem? (i := 0) rfl) (by decide +kernel) ?_
    refine xr_iconst (n := 0) (by decide +kernel) ?_
    have o9 := True.intro
    obtain ⟨o, k⟩ := k
    refine xr_zast (by decide) rfl o.1 o.2 (by decide +kernel) ?_
    have k := k _ rfl
    generalize hg_m3 : ms m2 110 (ru (m2 110) ((x1 + 1)).toNat 0) = m3 at k ⊢
    refine xr_goto (off := 44) (tgt := 172) (by decide) (by decide +kernel) ?_
    refine xr_aload_n (n := 0) (i := 0) rfl (List.mem_of_getElem? (i := 1) rfl) (by decide +kernel) ?_
    refine xr_callV (av := []) rfl rfl rfl mo_Mod_nextToken ml_Mod_212 im_Mod_nextToken se_Mod_nextToken rfl (Nat.le_of_ble_eq_true rfl) (by decide +kernel) (sh_mono k ?_)
    rintro rv m4 ⟨rfl, k⟩
    show sh_X g (d + 1) m_Mod_reads _ _ [] _ _
    refine xr_goto (off := (-165)) (tgt := 11) (by decide) (by decide +kernel) ?_
    refine xr_sub (lo' := [(0, (sh_r 96)), (1, (sh_i (x1 + 1))), (2, (sh_i (x2 : Int)))]) [1, 0, 2] rfl ?_
    exact k
  · have k := k.2 c1
    refine xr_iconst (n := 1) (by decide +kernel) ?_
    refine xr_goto (off := 4) (tgt := 120) (by decide) (by decide +kernel) ?_
    have o9 := True.intro
    obtain ⟨o, k⟩ := k
    refine xr_iast rfl o.1 o.2 (by decide +kernel) ?_
    have k := k _ rfl
    generalize hg_m5 : ms m1 109 (ru (m1 109) ((x1 + 1)).toNat 1) = m5 at k ⊢
    refine xr_aload_n (n := 0) (i := 0) rfl (List.mem_of_getElem? (i := 1) rfl) (by decide +kernel) ?_
    refine xr_getR (o := 14) rfl fl_Mod_50 rfl (by decide +kernel) ?_
    show sh_X g (d + 1) m_Mod_reads _ _ ((sh_r 110) :: _) _ _
    refine xr_iload_n (n := 1) (i := 1) rfl (List.mem_of_getElem? (i := 0) rfl) (by decide +kernel) ?_
    refine xr_iconst (n := 0) (by decide +kernel) ?_
    have o9 := True.intro
    obtain ⟨o, k⟩ := k
    refine xr_zast (by decide) rfl o.1 o.2 (by decide +kernel) ?_
    have k := k _ rfl
    generalize hg_m6 : ms m5 110 (ru (m5 110) ((x1 + 1)).toNat 0) = m6 at k ⊢
    refine xr_goto (off := 44) (tgt := 172) (by decide) (by decide +kernel) ?_
    refine xr_aload_n (n := 0) (i := 0) rfl (List.mem_of_getElem? (i := 1) rfl) (by decide +kernel) ?_
    refine xr_callV (av := []) rfl rfl rfl mo_Mod_nextToken ml_Mod_212 im_Mod_nextToken se_Mod_nextToken rfl (Nat.le_of_ble_eq_true rfl) (by decide +kernel) (sh_mono k ?_)
    rintro rv m7 ⟨rfl, k⟩
    show sh_X g (d + 1) m_Mod_reads _ _ [] _ _
    refine xr_goto (off := (-165)) (tgt := 11) (by decide) (by decide +kernel) ?_
    refine xr_sub (lo' := [(0, (sh_r 96)), (1, (sh_i (x1 + 1))), (2, (sh_i (x2 : Int)))]) [1, 0, 2] rfl ?_
    exact k

theorem v_Mod_openings {g : sh_G} {d : Nat} {e : Nat}  {mem : sh_Mem} {Q : Option sh_V → sh_Mem → Prop}  (k : (e < 7 ∧ (∀ m1 : sh_Mem, m1 = ms mem 112 (ru (mem 112) e 0) → (e < 7 ∧ (∀ m2 : sh_Mem, m2 = ms m1 114 (ru (m1 114) e 0) → (e < 7 ∧ (∀ m3 : sh_Mem, m3 = ms m2 115 (ru (m2 115) e 0) → (e < 7 ∧ (∀ m4 : sh_Mem, m4 = ms m3 116 (ru (m3 116) e 20) → (e < 7 ∧ (∀ m5 : sh_Mem, m5 = ms m4 118 (ru (m4 118) e 0) → Q none m5))))))))))) : sh_Cal g d m_Mod_openings [(sh_r 96), (sh_i (e : Int))] mem Q := by
  refine sh_met (by decide +kernel) (Nat.le_of_ble_eq_true rfl) (lo := [(0, (sh_r 96)), (1, (sh_i (e : Int)))]) rfl ?_
  refine xr_aload_n (n := 0) (i := 0) rfl (List.mem_of_getElem? (i := 0) rfl) (by decide +kernel) ?_
  refine xr_getR (o := 16) rfl fl_Mod_57 rfl (by decide +kernel) ?_
  show sh_X g d m_Mod_openings _ _ ((sh_r 112) :: _) _ _
  refine xr_iload_n (n := 1) (i := 1) rfl (List.mem_of_getElem? (i := 1) rfl) (by decide +kernel) ?_
  refine xr_iconst (n := 0) (by decide +kernel) ?_
  have o9 := True.intro
  obtain ⟨o, k⟩ := k
  refine xr_iastN (j := e) rfl rfl o (by decide +kernel) ?_
  have k := k _ rfl
  generalize hg_m1 : ms mem 112 (ru (mem 112) e 0) = m1 at k ⊢
  refine xr_aload_n (n := 0) (i := 0) rfl (List.mem_of_getElem? (i := 0) rfl) (by decide +kernel) ?_
  refine xr_getR (o := 18) rfl fl_Mod_63 rfl (by decide +kernel) ?_
  show sh_X g d m_Mod_openings _ _ ((sh_r 114) :: _) _ _
  refine xr_iload_n (n := 1) (i := 1) rfl (List.mem_of_getElem? (i := 1) rfl) (by decide +kernel) ?_
  refine xr_iconst (n := 0) (by decide +kernel) ?_
  have o9 := True.intro
  obtain ⟨o, k⟩ := k
  refine xr_iastN (j := e) rfl rfl o (by decide +kernel) ?_
  have k := k _ rfl
  generalize hg_m2 : ms m1 114 (ru (m1 114) e 0) = m2 at k ⊢
  refine xr_aload_n (n := 0) (i := 0) rfl (List.mem_of_getElem? (i := 0) rfl) (by decide +kernel) ?_
  refine xr_getR (o := 19) rfl fl_Mod_66 rfl (by decide +kernel) ?_
  show sh_X g d m_Mod_openings _ _ ((sh_r 115) :: _) _ _
  refine xr_iload_n (n := 1) (i := 1) rfl (List.mem_of_getElem? (i := 1) rfl) (by decide +kernel) ?_
  refine xr_iconst (n := 0) (by decide +kernel) ?_
  have o9 := True.intro
  obtain ⟨o, k⟩ := k
  refine xr_iastN (j := e) rfl rfl o (by decide +kernel) ?_
  have k := k _ rfl
  generalize hg_m3 : ms m2 115 (ru (m2 115) e 0) = m3 at k ⊢
  refine xr_aload_n (n := 0) (i := 0) rfl (List.mem_of_getElem? (i := 0) rfl) (by decide +kernel) ?_
  refine xr_getR (o := 20) rfl fl_Mod_69 rfl (by decide +kernel) ?_
  show sh_X g d m_Mod_openings _ _ ((sh_r 116) :: _) _ _
  refine xr_iload_n (n := 1) (i := 1) rfl (List.mem_of_getElem? (i := 1) rfl) (by decide +kernel) ?_
  refine xr_bipush (n := 20) (v := 20) (by decide) (by decide +kernel) ?_
  have o9 := True.intro
  obtain ⟨o, k⟩ := k
  refine xr_iastN (j := e) rfl rfl o (by decide +kernel) ?_
  have k := k _ rfl
  generalize hg_m4 : ms m3 116 (ru (m3 116) e 20) = m4 at k ⊢
  refine xr_aload_n (n := 0) (i := 0) rfl (List.mem_of_getElem? (i := 0) rfl) (by decide +kernel) ?_
  refine xr_getR (o := 22) rfl fl_Mod_75 rfl (by decide +kernel) ?_
  show sh_X g d m_Mod_openings _ _ ((sh_r 118) :: _) _ _
  refine xr_iload_n (n := 1) (i := 1) rfl (List.mem_of_getElem? (i := 1) rfl) (by decide +kernel) ?_
  refine xr_iconst (n := 0) (by decide +kernel) ?_
  have o9 := True.intro
  obtain ⟨o, k⟩ := k
  refine xr_iastN (j := e) rfl rfl o (by decide +kernel) ?_
  have k := k _ rfl
  generalize hg_m5 : ms m4 118 (ru (m4 118) e 0) = m5 at k ⊢
  exact xr_ret rfl (by decide +kernel) k

theorem v_Mod_sums {g : sh_G} {d : Nat} {e : Nat}  {mem : sh_Mem} {Q : Option sh_V → sh_Mem → Prop}  (k : (e < 7 ∧ ((¬ (i3 (mem 116 e)) = 21 → (e < 7 ∧ (e < 7 ∧ (e < 7 ∧ (∀ m1 : sh_Mem, m1 = ms mem 115 (ru (mem 115) e ((mem 115 e) + (mem 117 e))) → (e < 7 ∧ (∀ m2 : sh_Mem, m2 = ms m1 118 (ru (m1 118) e 0) → Q none m2))))))) ∧ ((i3 (mem 116 e)) = 21 → (e < 7 ∧ (e < 7 ∧ (e < 7 ∧ (∀ m3 : sh_Mem, m3 = ms mem 115 (ru (mem 115) e ((mem 115 e) - (mem 117 e))) → (e < 7 ∧ (∀ m4 : sh_Mem, m4 = ms m3 118 (ru (m3 118) e 0) → Q none m4)))))))))) : sh_Cal g d m_Mod_sums [(sh_r 96), (sh_i (e : Int))] mem Q := by
  refine sh_met (by decide +kernel) (Nat.le_of_ble_eq_true rfl) (lo := [(0, (sh_r 96)), (1, (sh_i (e : Int)))]) rfl ?_
  refine xr_aload_n (n := 0) (i := 0) rfl (List.mem_of_getElem? (i := 0) rfl) (by decide +kernel) ?_
  refine xr_getR (o := 19) rfl fl_Mod_66 rfl (by decide +kernel) ?_
  show sh_X g d m_Mod_sums _ _ ((sh_r 115) :: _) _ _
  refine xr_iload_n (n := 1) (i := 1) rfl (List.mem_of_getElem? (i := 1) rfl) (by decide +kernel) ?_
  refine xr_aload_n (n := 0) (i := 0) rfl (List.mem_of_getElem? (i := 0) rfl) (by decide +kernel) ?_
  refine xr_getR (o := 20) rfl fl_Mod_69 rfl (by decide +kernel) ?_
  show sh_X g d m_Mod_sums _ _ ((sh_r 116) :: _) _ _
  refine xr_iload_n (n := 1) (i := 1) rfl (List.mem_of_getElem? (i := 1) rfl) (by decide +kernel) ?_
  obtain ⟨o, k⟩ := k
  refine xr_ialdN (j := e) rfl rfl o (by decide +kernel) ?_
  refine xr_bipush (n := 21) (v := 21) (by decide) (by decide +kernel) ?_
  refine xr_icmp_ne (a' := (i3 (mem 116 e))) (b' := 21) rfl (by decide) (off := 19) (tgt := 32) (by decide) (by decide +kernel) ⟨fun c1 => ?_, fun c1 => ?_⟩
  · have k := k.1 c1
    refine xr_aload_n (n := 0) (i := 0) rfl (List.mem_of_getElem? (i := 0) rfl) (by decide +kernel) ?_
    refine xr_getR (o := 19) rfl fl_Mod_66 rfl (by decide +kernel) ?_
    show sh_X g d m_Mod_sums _ _ ((sh_r 115) :: _) _ _
    refine xr_iload_n (n := 1) (i := 1) rfl (List.mem_of_getElem? (i := 1) rfl) (by decide +kernel) ?_
    obtain ⟨o, k⟩ := k
    refine xr_ialdN (j := e) rfl rfl o (by decide +kernel) ?_
    refine xr_aload_n (n := 0) (i := 0) rfl (List.mem_of_getElem? (i := 0) rfl) (by decide +kernel) ?_
    refine xr_getR (o := 21) rfl fl_Mod_72 rfl (by decide +kernel) ?_
    show sh_X g d m_Mod_sums _ _ ((sh_r 117) :: _) _ _
    refine xr_iload_n (n := 1) (i := 1) rfl (List.mem_of_getElem? (i := 1) rfl) (by decide +kernel) ?_
    obtain ⟨o, k⟩ := k
    refine xr_ialdN (j := e) rfl rfl o (by decide +kernel) ?_
    refine xr_iadd (by decide +kernel) ?_
    show sh_X g d m_Mod_sums _ _ ((sh_i ((mem 115 e) + (mem 117 e))) :: _) _ _
    have o9 := True.intro
    obtain ⟨o, k⟩ := k
    refine xr_iastN (j := e) rfl rfl o (by decide +kernel) ?_
    have k := k _ rfl
    generalize hg_m1 : ms mem 115 (ru (mem 115) e ((mem 115 e) + (mem 117 e))) = m1 at k ⊢
    refine xr_aload_n (n := 0) (i := 0) rfl (List.mem_of_getElem? (i := 0) rfl) (by decide +kernel) ?_
    refine xr_getR (o := 22) rfl fl_Mod_75 rfl (by decide +kernel) ?_
    show sh_X g d m_Mod_sums _ _ ((sh_r 118) :: _) _ _
    refine xr_iload_n (n := 1) (i := 1) rfl (List.mem_of_getElem? (i := 1) rfl) (by decide +kernel) ?_
    refine xr_iconst (n := 0) (by decide +kernel) ?_
    have o9 := True.intro
    obtain ⟨o, k⟩ := k
    refine xr_iastN (j := e) rfl rfl o (by decide +kernel) ?_
    have k := k _ rfl
    generalize hg_m2 : ms m1 118 (ru (m1 118) e 0) = m2 at k ⊢
    exact xr_ret rfl (by decide +kernel) k
  · have k := k.2 c1
    refine xr_aload_n (n := 0) (i := 0) rfl (List.mem_of_getElem? (i := 0) rfl) (by decide +kernel) ?_
    refine xr_getR (o := 19) rfl fl_Mod_66 rfl (by decide +kernel) ?_
    show sh_X g d m_Mod_sums _ _ ((sh_r 115) :: _) _ _
    refine xr_iload_n (n := 1) (i := 1) rfl (List.mem_of_getElem? (i := 1) rfl) (by decide +kernel) ?_
    obtain ⟨o, k⟩ := k
    refine xr_ialdN (j := e) rfl rfl o (by decide +kernel) ?_
    refine xr_aload_n (n := 0) (i := 0) rfl (List.mem_of_getElem? (i := 0) rfl) (by decide +kernel) ?_
    refine xr_getR (o := 21) rfl fl_Mod_72 rfl (by decide +kernel) ?_
    show sh_X g d m_Mod_sums _ _ ((sh_r 117) :: _) _ _
    refine xr_iload_n (n := 1) (i := 1) rfl (List.mem_of_getElem? (i := 1) rfl) (by decide +kernel) ?_
    obtain ⟨o, k⟩ := k
    refine xr_ialdN (j := e) rfl rfl o (by decide +kernel) ?_
    refine xr_isub (by decide +kernel) ?_
    show sh_X g d m_Mod_sums _ _ ((sh_i ((mem 115 e) - (mem 117 e))) :: _) _ _
    refine xr_goto (off := 16) (tgt := 45) (by decide) (by decide +kernel) ?_
    have o9 := True.intro
    obtain ⟨o, k⟩ := k
    refine xr_iastN (j := e) rfl rfl o (by decide +kernel) ?_
    have k := k _ rfl
    generalize hg_m3 : ms mem 115 (ru (mem 115) e ((mem 115 e) - (mem 117 e))) = m3 at k ⊢
    refine xr_aload_n (n := 0) (i := 0) rfl (List.mem_of_getElem? (i := 0) rfl) (by decide +kernel) ?_
    refine xr_getR (o := 22) rfl fl_Mod_75 rfl (by decide +kernel) ?_
    show sh_X g d m_Mod_sums _ _ ((sh_r 118) :: _) _ _
    refine xr_iload_n (n := 1) (i := 1) rfl (List.mem_of_getElem? (i := 1) rfl) (by decide +kernel) ?_
    refine xr_iconst (n := 0) (by decide +kernel) ?_
    have o9 := True.intro
    obtain ⟨o, k⟩ := k
    refine xr_iastN (j := e) rfl rfl o (by decide +kernel) ?_
    have k := k _ rfl
    generalize hg_m4 : ms m3 118 (ru (m3 118) e 0) = m4 at k ⊢
    exact xr_ret rfl (by decide +kernel) k

theorem v_Mod_tests {g : sh_G} {d : Nat} {e : Nat}  {mem : sh_Mem} {Q : Option sh_V → sh_Mem → Prop}  (k : (sh_Cal g d m_Mod_sums [(sh_r 96), (sh_i (e : Int))] mem fun rv m1 => rv = none ∧ (e < 7 ∧ (e < 7 ∧ ((¬ (i3 (m1 114 e)) = 24 → sh_X g (d + 1) m_Mod_tests 44 [(0, (sh_r 96)), (1, (sh_i (e : Int))), (2, (sh_i (m1 115 e)))] [] m1 (sh_K m_Mod_tests Q)) ∧ ((i3 (m1 114 e)) = 24 → (e < 7 ∧ (e < 7 ∧ (((i3 (m1 115 e)) ≤ (i3 (m1 113 e)) → sh_X g (d + 1) m_Mod_tests 43 [(0, (sh_r 96)), (1, (sh_i (e : Int))), (2, (sh_i (m1 115 e)))] [(sh_i 0)] m1 (sh_K m_Mod_tests Q)) ∧ (¬ (i3 (m1 115 e)) ≤ (i3 (m1 113 e)) → sh_X g (d + 1) m_Mod_tests 43 [(0, (sh_r 96)), (1, (sh_i (e : Int))), (2, (sh_i (m1 115 e)))] [(sh_i 1)] m1 (sh_K m_Mod_tests Q))))))))))) : sh_Cal g (d + 1) m_Mod_tests [(sh_r 96), (sh_i (e : Int))] mem Q := by
  refine sh_met (by decide +kernel) (Nat.le_of_ble_eq_true rfl) (lo := [(0, (sh_r 96)), (1, (sh_i (e : Int)))]) rfl ?_
  refine xr_aload_n (n := 0) (i := 0) rfl (List.mem_of_getElem? (i := 0) rfl) (by decide +kernel) ?_
  refine xr_iload_n (n := 1) (i := 1) rfl (List.mem_of_getElem? (i := 1) rfl) (by decide +kernel) ?_
  refine xr_callV (av := [(sh_i (e : Int))]) rfl rfl rfl mo_Mod_sums ml_Mod_219 im_Mod_sums se_Mod_sums rfl (Nat.le_of_ble_eq_true rfl) (by decide +kernel) (sh_mono k ?_)
  rintro rv m1 ⟨rfl, k⟩
  show sh_X g (d + 1) m_Mod_tests _ _ [] _ _
  refine xr_aload_n (n := 0) (i := 0) rfl (List.mem_of_getElem? (i := 0) rfl) (by decide +kernel) ?_
  refine xr_getR (o := 19) rfl fl_Mod_66 rfl (by decide +kernel) ?_
  show sh_X g (d + 1) m_Mod_tests _ _ ((sh_r 115) :: _) _ _
  refine xr_iload_n (n := 1) (i := 1) rfl (List.mem_of_getElem? (i := 1) rfl) (by decide +kernel) ?_
  obtain ⟨o, k⟩ := k
  refine xr_ialdN (j := e) rfl rfl o (by decide +kernel) ?_
  refine xr_istore_n (n := 2) (i := 2) rfl (by decide) rfl (by decide +kernel) ?_
  refine xr_aload_n (n := 0) (i := 0) rfl (List.mem_of_getElem? (i := 1) rfl) (by decide +kernel) ?_
  refine xr_getR (o := 18) rfl fl_Mod_63 rfl (by decide +kernel) ?_
  show sh_X g (d + 1) m_Mod_tests _ _ ((sh_r 114) :: _) _ _
  refine xr_iload_n (n := 1) (i := 1) rfl (List.mem_of_getElem? (i := 2) rfl) (by decide +kernel) ?_
  obtain ⟨o, k⟩ := k
  refine xr_ialdN (j := e) rfl rfl o (by decide +kernel) ?_
  refine xr_bipush (n := 24) (v := 24) (by decide) (by decide +kernel) ?_
  refine xr_icmp_ne (a' := (i3 (m1 114 e))) (b' := 24) rfl (by decide) (off := 24) (tgt := 44) (by decide) (by decide +kernel) ⟨fun c1 => ?_, fun c1 => ?_⟩
  · have k := k.1 c1
    refine xr_sub (lo' := [(0, (sh_r 96)), (1, (sh_i (e : Int))), (2, (sh_i (m1 115 e)))]) [1, 2, 0] rfl ?_
    exact k
  · have k := k.2 c1
    refine xr_aload_n (n := 0) (i := 0) rfl (List.mem_of_getElem? (i := 1) rfl) (by decide +kernel) ?_
    refine xr_getR (o := 17) rfl fl_Mod_60 rfl (by decide +kernel) ?_
    show sh_X g (d + 1) m_Mod_tests _ _ ((sh_r 113) :: _) _ _
    refine xr_iload_n (n := 1) (i := 1) rfl (List.mem_of_getElem? (i := 2) rfl) (by decide +kernel) ?_
    obtain ⟨o, k⟩ := k
    refine xr_ialdN (j := e) rfl rfl o (by decide +kernel) ?_
    refine xr_aload_n (n := 0) (i := 0) rfl (List.mem_of_getElem? (i := 1) rfl) (by decide +kernel) ?_
    refine xr_getR (o := 19) rfl fl_Mod_66 rfl (by decide +kernel) ?_
    show sh_X g (d + 1) m_Mod_tests _ _ ((sh_r 115) :: _) _ _
    refine xr_iload_n (n := 1) (i := 1) rfl (List.mem_of_getElem? (i := 2) rfl) (by decide +kernel) ?_
    obtain ⟨o, k⟩ := k
    refine xr_ialdN (j := e) rfl rfl o (by decide +kernel) ?_
    refine xr_icmp_ge (a' := (i3 (m1 113 e))) (b' := (i3 (m1 115 e))) rfl rfl (off := 7) (tgt := 42) (by decide) (by decide +kernel) ⟨fun c2 => ?_, fun c2 => ?_⟩
    · have k := k.1 c2
      refine xr_iconst (n := 0) (by decide +kernel) ?_
      refine xr_sub (lo' := [(0, (sh_r 96)), (1, (sh_i (e : Int))), (2, (sh_i (m1 115 e)))]) [1, 2, 0] rfl ?_
      exact k
    · have k := k.2 c2
      refine xr_iconst (n := 1) (by decide +kernel) ?_
      refine xr_goto (off := 4) (tgt := 43) (by decide) (by decide +kernel) ?_
      refine xr_sub (lo' := [(0, (sh_r 96)), (1, (sh_i (e : Int))), (2, (sh_i (m1 115 e)))]) [1, 2, 0] rfl ?_
      exact k
theorem v_Mod_tests_44 {g : sh_G} {d : Nat} {e : Nat}  {mem : sh_Mem} {Q : Option sh_V → sh_Mem → Prop}  {x2 : Int} (k : (e < 7 ∧ ((¬ (i3 (mem 114 e)) = 25 → sh_X g (d + 1) m_Mod_tests 76 [(0, (sh_r 96)), (1, (sh_i (e : Int))), (2, (sh_i x2))] [] mem (sh_K m_Mod_tests Q)) ∧ ((i3 (mem 114 e)) = 25 → (e < 7 ∧ (e < 7 ∧ ((¬ (i3 (mem 113 e)) = (i3 (mem 115 e)) → sh_X g (d + 1) m_Mod_tests 75 [(0, (sh_r 96)), (1, (sh_i (e : Int))), (2, (sh_i x2))] [(sh_i 0)] mem (sh_K m_Mod_tests Q)) ∧ ((i3 (mem 113 e)) = (i3 (mem 115 e)) → sh_X g (d + 1) m_Mod_tests 75 [(0, (sh_r 96)), (1, (sh_i (e : Int))), (2, (sh_i x2))] [(sh_i 1)] mem (sh_K m_Mod_tests Q))))))))) : sh_X g (d + 1) m_Mod_tests 44 [(0, (sh_r 96)), (1, (sh_i (e : Int))), (2, (sh_i x2))] [] mem (sh_K m_Mod_tests Q) := by
  refine xr_aload_n (n := 0) (i := 0) rfl (List.mem_of_getElem? (i := 0) rfl) (by decide +kernel) ?_
  refine xr_getR (o := 18) rfl fl_Mod_63 rfl (by decide +kernel) ?_
  show sh_X g (d + 1) m_Mod_tests _ _ ((sh_r 114) :: _) _ _
  refine xr_iload_n (n := 1) (i := 1) rfl (List.mem_of_getElem? (i := 1) rfl) (by decide +kernel) ?_
  obtain ⟨o, k⟩ := k
  refine xr_ialdN (j := e) rfl rfl o (by decide +kernel) ?_
  refine xr_bipush (n := 25) (v := 25) (by decide) (by decide +kernel) ?_
  refine xr_icmp_ne (a' := (i3 (mem 114 e))) (b' := 25) rfl (by decide) (off := 24) (tgt := 76) (by decide) (by decide +kernel) ⟨fun c1 => ?_, fun c1 => ?_⟩
  · have k := k.1 c1
    refine xr_sub (lo' := [(0, (sh_r 96)), (1, (sh_i (e : Int))), (2, (sh_i x2))]) [0, 1, 2] rfl ?_
    exact k
  · have k := k.2 c1
    refine xr_aload_n (n := 0) (i := 0) rfl (List.mem_of_getElem? (i := 0) rfl) (by decide +kernel) ?_
    refine xr_getR (o := 17) rfl fl_Mod_60 rfl (by decide +kernel) ?_
    show sh_X g (d + 1) m_Mod_tests _ _ ((sh_r 113) :: _) _ _
    refine xr_iload_n (n := 1) (i := 1) rfl (List.mem_of_getElem? (i := 1) rfl) (by decide +kernel) ?_
    obtain ⟨o, k⟩ := k
    refine xr_ialdN (j := e) rfl rfl o (by decide +kernel) ?_
    refine xr_aload_n (n := 0) (i := 0) rfl (List.mem_of_getElem? (i := 0) rfl) (by decide +kernel) ?_
    refine xr_getR (o := 19) rfl fl_Mod_66 rfl (by decide +kernel) ?_
    show sh_X g (d + 1) m_Mod_tests _ _ ((sh_r 115) :: _) _ _
    refine xr_iload_n (n := 1) (i := 1) rfl (List.mem_of_getElem? (i := 1) rfl) (by decide +kernel) ?_
    obtain ⟨o, k⟩ := k
    refine xr_ialdN (j := e) rfl rfl o (by decide +kernel) ?_
    refine xr_icmp_ne (a' := (i3 (mem 113 e))) (b' := (i3 (mem 115 e))) rfl rfl (off := 7) (tgt := 74) (by decide) (by decide +kernel) ⟨fun c2 => ?_, fun c2 => ?_⟩
    · have k := k.1 c2
      refine xr_iconst (n := 0) (by decide +kernel) ?_
      refine xr_sub (lo' := [(0, (sh_r 96)), (1, (sh_i (e : Int))), (2, (sh_i x2))]) [0, 1, 2] rfl ?_
      exact k
    · have k := k.2 c2
      refine xr_iconst (n := 1) (by decide +kernel) ?_
      refine xr_goto (off := 4) (tgt := 75) (by decide) (by decide +kernel) ?_
      refine xr_sub (lo' := [(0, (sh_r 96)), (1, (sh_i (e : Int))), (2, (sh_i x2))]) [0, 1, 2] rfl ?_
      exact k
theorem v_Mod_tests_43 {g : sh_G} {d : Nat} {e : Nat}  {mem : sh_Mem} {Q : Option sh_V → sh_Mem → Prop}  {x2 : Int} {y0 : Int} (k : sh_X g (d + 1) m_Mod_tests 44 [(0, (sh_r 96)), (1, (sh_i (e : Int))), (2, (sh_i y0))] [] mem (sh_K m_Mod_tests Q)) : sh_X g (d + 1) m_Mod_tests 43 [(0, (sh_r 96)), (1, (sh_i (e : Int))), (2, (sh_i x2))] [(sh_i y0)] mem (sh_K m_Mod_tests Q) := by
  refine xr_istore_n (n := 2) (i := 2) rfl (by decide) rfl (by decide +kernel) ?_
  refine xr_sub (lo' := [(0, (sh_r 96)), (1, (sh_i (e : Int))), (2, (sh_i y0))]) [1, 2, 0] rfl ?_
  exact k
theorem v_Mod_tests_76 {g : sh_G} {d : Nat} {e : Nat}  {mem : sh_Mem} {Q : Option sh_V → sh_Mem → Prop}  {x2 : Int} (k : (e < 7 ∧ ((¬ (i3 (mem 112 e)) = 26 → sh_X g (d + 1) m_Mod_tests 106 [(0, (sh_r 96)), (1, (sh_i (e : Int))), (2, (sh_i x2))] [] mem (sh_K m_Mod_tests Q)) ∧ ((i3 (mem 112 e)) = 26 → (e < 7 ∧ (((i3 (mem 111 e)) = 0 → sh_X g (d + 1) m_Mod_tests 104 [(0, (sh_r 96)), (1, (sh_i (e : Int))), (2, (sh_i x2))] [] mem (sh_K m_Mod_tests Q)) ∧ (¬ (i3 (mem 111 e)) = 0 → (((i3 x2) = 0 → sh_X g (d + 1) m_Mod_tests 104 [(0, (sh_r 96)), (1, (sh_i (e : Int))), (2, (sh_i x2))] [] mem (sh_K m_Mod_tests Q)) ∧ (¬ (i3 x2) = 0 → sh_X g (d + 1) m_Mod_tests 105 [(0, (sh_r 96)), (1, (sh_i (e : Int))), (2, (sh_i x2))] [(sh_i 1)] mem (sh_K m_Mod_tests Q)))))))))) : sh_X g (d + 1) m_Mod_tests 76 [(0, (sh_r 96)), (1, (sh_i (e : Int))), (2, (sh_i x2))] [] mem (sh_K m_Mod_tests Q) := by
  refine xr_aload_n (n := 0) (i := 0) rfl (List.mem_of_getElem? (i := 0) rfl) (by decide +kernel) ?_
  refine xr_getR (o := 16) rfl fl_Mod_57 rfl (by decide +kernel) ?_
  show sh_X g (d + 1) m_Mod_tests _ _ ((sh_r 112) :: _) _ _
  refine xr_iload_n (n := 1) (i := 1) rfl (List.mem_of_getElem? (i := 1) rfl) (by decide +kernel) ?_
  obtain ⟨o, k⟩ := k
  refine xr_ialdN (j := e) rfl rfl o (by decide +kernel) ?_
  refine xr_bipush (n := 26) (v := 26) (by decide) (by decide +kernel) ?_
  refine xr_icmp_ne (a' := (i3 (mem 112 e))) (b' := 26) rfl (by decide) (off := 22) (tgt := 106) (by decide) (by decide +kernel) ⟨fun c1 => ?_, fun c1 => ?_⟩
  · have k := k.1 c1
    refine xr_sub (lo' := [(0, (sh_r 96)), (1, (sh_i (e : Int))), (2, (sh_i x2))]) [0, 1, 2] rfl ?_
    exact k
  · have k := k.2 c1
    refine xr_aload_n (n := 0) (i := 0) rfl (List.mem_of_getElem? (i := 0) rfl) (by decide +kernel) ?_
    refine xr_getR (o := 15) rfl fl_Mod_54 rfl (by decide +kernel) ?_
    show sh_X g (d + 1) m_Mod_tests _ _ ((sh_r 111) :: _) _ _
    refine xr_iload_n (n := 1) (i := 1) rfl (List.mem_of_getElem? (i := 1) rfl) (by decide +kernel) ?_
    obtain ⟨o, k⟩ := k
    refine xr_ialdN (j := e) rfl rfl o (by decide +kernel) ?_
    refine xr_if_eq (a' := (i3 (mem 111 e))) rfl (off := 11) (tgt := 104) (by decide) (by decide +kernel) ⟨fun c2 => ?_, fun c2 => ?_⟩
    · have k := k.1 c2
      refine xr_sub (lo' := [(0, (sh_r 96)), (1, (sh_i (e : Int))), (2, (sh_i x2))]) [0, 1, 2] rfl ?_
      exact k
    · have k := k.2 c2
      refine xr_iload_n (n := 2) (i := 2) rfl (List.mem_of_getElem? (i := 2) rfl) (by decide +kernel) ?_
      refine xr_if_eq (a' := (i3 x2)) rfl (off := 7) (tgt := 104) (by decide) (by decide +kernel) ⟨fun c3 => ?_, fun c3 => ?_⟩
      · have k := k.1 c3
        refine xr_sub (lo' := [(0, (sh_r 96)), (1, (sh_i (e : Int))), (2, (sh_i x2))]) [0, 1, 2] rfl ?_
        exact k
      · have k := k.2 c3
        refine xr_iconst (n := 1) (by decide +kernel) ?_
        refine xr_goto (off := 4) (tgt := 105) (by decide) (by decide +kernel) ?_
        refine xr_sub (lo' := [(0, (sh_r 96)), (1, (sh_i (e : Int))), (2, (sh_i x2))]) [0, 1, 2] rfl ?_
        exact k
theorem v_Mod_tests_75 {g : sh_G} {d : Nat} {e : Nat}  {mem : sh_Mem} {Q : Option sh_V → sh_Mem → Prop}  {x2 : Int} {y0 : Int} (k : sh_X g (d + 1) m_Mod_tests 76 [(0, (sh_r 96)), (1, (sh_i (e : Int))), (2, (sh_i y0))] [] mem (sh_K m_Mod_tests Q)) : sh_X g (d + 1) m_Mod_tests 75 [(0, (sh_r 96)), (1, (sh_i (e : Int))), (2, (sh_i x2))] [(sh_i y0)] mem (sh_K m_Mod_tests Q) := by
  refine xr_istore_n (n := 2) (i := 2) rfl (by decide) rfl (by decide +kernel) ?_
  refine xr_sub (lo' := [(0, (sh_r 96)), (1, (sh_i (e : Int))), (2, (sh_i y0))]) [1, 2, 0] rfl ?_
  exact k
theorem v_Mod_tests_106 {g : sh_G} {d : Nat} {e : Nat}  {mem : sh_Mem} {Q : Option sh_V → sh_Mem → Prop}  {x2 : Int} (k : (e < 7 ∧ ((¬ (i3 (mem 112 e)) = 27 → sh_X g (d + 1) m_Mod_tests 136 [(0, (sh_r 96)), (1, (sh_i (e : Int))), (2, (sh_i x2))] [] mem (sh_K m_Mod_tests Q)) ∧ ((i3 (mem 112 e)) = 27 → (e < 7 ∧ ((¬ (i3 (mem 111 e)) = 0 → sh_X g (d + 1) m_Mod_tests 130 [(0, (sh_r 96)), (1, (sh_i (e : Int))), (2, (sh_i x2))] [] mem (sh_K m_Mod_tests Q)) ∧ ((i3 (mem 111 e)) = 0 → (((i3 x2) = 0 → sh_X g (d + 1) m_Mod_tests 135 [(0, (sh_r 96)), (1, (sh_i (e : Int))), (2, (sh_i x2))] [(sh_i 0)] mem (sh_K m_Mod_tests Q)) ∧ (¬ (i3 x2) = 0 → sh_X g (d + 1) m_Mod_tests 130 [(0, (sh_r 96)), (1, (sh_i (e : Int))), (2, (sh_i x2))] [] mem (sh_K m_Mod_tests Q)))))))))) : sh_X g (d + 1) m_Mod_tests 106 [(0, (sh_r 96)), (1, (sh_i (e : Int))), (2, (sh_i x2))] [] mem (sh_K m_Mod_tests Q) := by
  refine xr_aload_n (n := 0) (i := 0) rfl (List.mem_of_getElem? (i := 0) rfl) (by decide +kernel) ?_
  refine xr_getR (o := 16) rfl fl_Mod_57 rfl (by decide +kernel) ?_
  show sh_X g (d + 1) m_Mod_tests _ _ ((sh_r 112) :: _) _ _
  refine xr_iload_n (n := 1) (i := 1) rfl (List.mem_of_getElem? (i := 1) rfl) (by decide +kernel) ?_
  obtain ⟨o, k⟩ := k
  refine xr_ialdN (j := e) rfl rfl o (by decide +kernel) ?_
  refine xr_bipush (n := 27) (v := 27) (by decide) (by decide +kernel) ?_
  refine xr_icmp_ne (a' := (i3 (mem 112 e))) (b' := 27) rfl (by decide) (off := 22) (tgt := 136) (by decide) (by decide +kernel) ⟨fun c1 => ?_, fun c1 => ?_⟩
  · have k := k.1 c1
    refine xr_sub (lo' := [(0, (sh_r 96)), (1, (sh_i (e : Int))), (2, (sh_i x2))]) [0, 1, 2] rfl ?_
    exact k
  · have k := k.2 c1
    refine xr_aload_n (n := 0) (i := 0) rfl (List.mem_of_getElem? (i := 0) rfl) (by decide +kernel) ?_
    refine xr_getR (o := 15) rfl fl_Mod_54 rfl (by decide +kernel) ?_
    show sh_X g (d + 1) m_Mod_tests _ _ ((sh_r 111) :: _) _ _
    refine xr_iload_n (n := 1) (i := 1) rfl (List.mem_of_getElem? (i := 1) rfl) (by decide +kernel) ?_
    obtain ⟨o, k⟩ := k
    refine xr_ialdN (j := e) rfl rfl o (by decide +kernel) ?_
    refine xr_if_ne (a' := (i3 (mem 111 e))) rfl (off := 7) (tgt := 130) (by decide) (by decide +kernel) ⟨fun c2 => ?_, fun c2 => ?_⟩
    · have k := k.1 c2
      refine xr_sub (lo' := [(0, (sh_r 96)), (1, (sh_i (e : Int))), (2, (sh_i x2))]) [0, 1, 2] rfl ?_
      exact k
    · have k := k.2 c2
      refine xr_iload_n (n := 2) (i := 2) rfl (List.mem_of_getElem? (i := 2) rfl) (by decide +kernel) ?_
      refine xr_if_eq (a' := (i3 x2)) rfl (off := 7) (tgt := 134) (by decide) (by decide +kernel) ⟨fun c3 => ?_, fun c3 => ?_⟩
      · have k := k.1 c3
        refine xr_iconst (n := 0) (by decide +kernel) ?_
        refine xr_sub (lo' := [(0, (sh_r 96)), (1, (sh_i (e : Int))), (2, (sh_i x2))]) [0, 1, 2] rfl ?_
        exact k
      · have k := k.2 c3
        refine xr_sub (lo' := [(0, (sh_r 96)), (1, (sh_i (e : Int))), (2, (sh_i x2))]) [0, 1, 2] rfl ?_
        exact k
theorem v_Mod_tests_104 {g : sh_G} {d : Nat} {e : Nat}  {mem : sh_Mem} {Q : Option sh_V → sh_Mem → Prop}  {x2 : Int} (k : sh_X g (d + 1) m_Mod_tests 105 [(0, (sh_r 96)), (1, (sh_i (e : Int))), (2, (sh_i x2))] [(sh_i 0)] mem (sh_K m_Mod_tests Q)) : sh_X g (d + 1) m_Mod_tests 104 [(0, (sh_r 96)), (1, (sh_i (e : Int))), (2, (sh_i x2))] [] mem (sh_K m_Mod_tests Q) := by
  refine xr_iconst (n := 0) (by decide +kernel) ?_
  refine xr_sub (lo' := [(0, (sh_r 96)), (1, (sh_i (e : Int))), (2, (sh_i x2))]) [0, 1, 2] rfl ?_
  exact k
theorem v_Mod_tests_105 {g : sh_G} {d : Nat} {e : Nat}  {mem : sh_Mem} {Q : Option sh_V → sh_Mem → Prop}  {x2 : Int} {y0 : Int} (k : sh_X g (d + 1) m_Mod_tests 106 [(0, (sh_r 96)), (1, (sh_i (e : Int))), (2, (sh_i y0))] [] mem (sh_K m_Mod_tests Q)) : sh_X g (d + 1) m_Mod_tests 105 [(0, (sh_r 96)), (1, (sh_i (e : Int))), (2, (sh_i x2))] [(sh_i y0)] mem (sh_K m_Mod_tests Q) := by
  refine xr_istore_n (n := 2) (i := 2) rfl (by decide) rfl (by decide +kernel) ?_
  refine xr_sub (lo' := [(0, (sh_r 96)), (1, (sh_i (e : Int))), (2, (sh_i y0))]) [1, 2, 0] rfl ?_
  exact k
theorem v_Mod_tests_136 {g : sh_G} {d : Nat} {e : Nat}  {mem : sh_Mem} {Q : Option sh_V → sh_Mem → Prop}  {x2 : Int} (k : (e < 7 ∧ (∀ m1 : sh_Mem, m1 = ms mem 111 (ru (mem 111) e x2) → (e < 7 ∧ (∀ m2 : sh_Mem, m2 = ms m1 114 (ru (m1 114) e 0) → (e < 7 ∧ (∀ m3 : sh_Mem, m3 = ms m2 115 (ru (m2 115) e 0) → (e < 7 ∧ (∀ m4 : sh_Mem, m4 = ms m3 116 (ru (m3 116) e 20) → Q none m4))))))))) : sh_X g (d + 1) m_Mod_tests 136 [(0, (sh_r 96)), (1, (sh_i (e : Int))), (2, (sh_i x2))] [] mem (sh_K m_Mod_tests Q) := by
  refine xr_aload_n (n := 0) (i := 0) rfl (List.mem_of_getElem? (i := 0) rfl) (by decide +kernel) ?_
  refine xr_getR (o := 15) rfl fl_Mod_54 rfl (by decide +kernel) ?_
  show sh_X g (d + 1) m_Mod_tests _ _ ((sh_r 111) :: _) _ _
  refine xr_iload_n (n := 1) (i := 1) rfl (List.mem_of_getElem? (i := 1) rfl) (by decide +kernel) ?_
  refine xr_iload_n (n := 2) (i := 2) rfl (List.mem_of_getElem? (i := 2) rfl) (by decide +kernel) ?_
  have o9 := True.intro
  obtain ⟨o, k⟩ := k
  refine xr_iastN (j := e) rfl rfl o (by decide +kernel) ?_
  have k := k _ rfl
  generalize hg_m1 : ms mem 111 (ru (mem 111) e x2) = m1 at k ⊢
  refine xr_aload_n (n := 0) (i := 0) rfl (List.mem_of_getElem? (i := 0) rfl) (by decide +kernel) ?_
  refine xr_getR (o := 18) rfl fl_Mod_63 rfl (by decide +kernel) ?_
  show sh_X g (d + 1) m_Mod_tests _ _ ((sh_r 114) :: _) _ _
  refine xr_iload_n (n := 1) (i := 1) rfl (List.mem_of_getElem? (i := 1) rfl) (by decide +kernel) ?_
  refine xr_iconst (n := 0) (by decide +kernel) ?_
  have o9 := True.intro
  obtain ⟨o, k⟩ := k
  refine xr_iastN (j := e) rfl rfl o (by decide +kernel) ?_
  have k := k _ rfl
  generalize hg_m2 : ms m1 114 (ru (m1 114) e 0) = m2 at k ⊢
  refine xr_aload_n (n := 0) (i := 0) rfl (List.mem_of_getElem? (i := 0) rfl) (by decide +kernel) ?_
  refine xr_getR (o := 19) rfl fl_Mod_66 rfl (by decide +kernel) ?_
  show sh_X g (d + 1) m_Mod_tests _ _ ((sh_r 115) :: _) _ _
  refine xr_iload_n (n := 1) (i := 1) rfl (List.mem_of_getElem? (i := 1) rfl) (by decide +kernel) ?_
  refine xr_iconst (n := 0) (by decide +kernel) ?_
  have o9 := True.intro
  obtain ⟨o, k⟩ := k
  refine xr_iastN (j := e) rfl rfl o (by decide +kernel) ?_
  have k := k _ rfl
  generalize hg_m3 : ms m2 115 (ru (m2 115) e 0) = m3 at k ⊢
  refine xr_aload_n (n := 0) (i := 0) rfl (List.mem_of_getElem? (i := 0) rfl) (by decide +kernel) ?_
  refine xr_getR (o := 20) rfl fl_Mod_69 rfl (by decide +kernel) ?_
  show sh_X g (d + 1) m_Mod_tests _ _ ((sh_r 116) :: _) _ _
  refine xr_iload_n (n := 1) (i := 1) rfl (List.mem_of_getElem? (i := 1) rfl) (by decide +kernel) ?_
  refine xr_bipush (n := 20) (v := 20) (by decide) (by decide +kernel) ?_
  have o9 := True.intro
  obtain ⟨o, k⟩ := k
  refine xr_iastN (j := e) rfl rfl o (by decide +kernel) ?_
  have k := k _ rfl
  generalize hg_m4 : ms m3 116 (ru (m3 116) e 20) = m4 at k ⊢
  exact xr_ret rfl (by decide +kernel) k
theorem v_Mod_tests_130 {g : sh_G} {d : Nat} {e : Nat}  {mem : sh_Mem} {Q : Option sh_V → sh_Mem → Prop}  {x2 : Int} (k : sh_X g (d + 1) m_Mod_tests 135 [(0, (sh_r 96)), (1, (sh_i (e : Int))), (2, (sh_i x2))] [(sh_i 1)] mem (sh_K m_Mod_tests Q)) : sh_X g (d + 1) m_Mod_tests 130 [(0, (sh_r 96)), (1, (sh_i (e : Int))), (2, (sh_i x2))] [] mem (sh_K m_Mod_tests Q) := by
  refine xr_iconst (n := 1) (by decide +kernel) ?_
  refine xr_goto (off := 4) (tgt := 135) (by decide) (by decide +kernel) ?_
  refine xr_sub (lo' := [(0, (sh_r 96)), (1, (sh_i (e : Int))), (2, (sh_i x2))]) [0, 1, 2] rfl ?_
  exact k
theorem v_Mod_tests_135 {g : sh_G} {d : Nat} {e : Nat}  {mem : sh_Mem} {Q : Option sh_V → sh_Mem → Prop}  {x2 : Int} {y0 : Int} (k : sh_X g (d + 1) m_Mod_tests 136 [(0, (sh_r 96)), (1, (sh_i (e : Int))), (2, (sh_i y0))] [] mem (sh_K m_Mod_tests Q)) : sh_X g (d + 1) m_Mod_tests 135 [(0, (sh_r 96)), (1, (sh_i (e : Int))), (2, (sh_i x2))] [(sh_i y0)] mem (sh_K m_Mod_tests Q) := by
  refine xr_istore_n (n := 2) (i := 2) rfl (by decide) rfl (by decide +kernel) ?_
  refine xr_sub (lo' := [(0, (sh_r 96)), (1, (sh_i (e : Int))), (2, (sh_i y0))]) [1, 2, 0] rfl ?_
  exact k

theorem v_Mod_worked {g : sh_G} {d : Nat} {line : Nat}  {mem : sh_Mem} {Q : Option sh_V → sh_Mem → Prop}  (k : (sh_Cal g d m_Mod_openings [(sh_r 96), (sh_i 0)] mem fun rv m1 => rv = none ∧ (line < 2 ∧ sh_X g (d + 1) m_Mod_worked 14 [(0, (sh_r 96)), (1, (sh_i (line : Int))), (2, (sh_i 0)), (3, (sh_i (m1 106 line)))] [] m1 (sh_K m_Mod_worked Q)))) : sh_Cal g (d + 1) m_Mod_worked [(sh_r 96), (sh_i (line : Int))] mem Q := by
  refine sh_met (by decide +kernel) (Nat.le_of_ble_eq_true rfl) (lo := [(0, (sh_r 96)), (1, (sh_i (line : Int)))]) rfl ?_
  refine xr_iconst (n := 0) (by decide +kernel) ?_
  refine xr_istore_n (n := 2) (i := 2) rfl (by decide) rfl (by decide +kernel) ?_
  refine xr_aload_n (n := 0) (i := 0) rfl (List.mem_of_getElem? (i := 1) rfl) (by decide +kernel) ?_
  refine xr_iconst (n := 0) (by decide +kernel) ?_
  refine xr_callV (av := [(sh_i 0)]) rfl rfl rfl mo_Mod_openings ml_Mod_222 im_Mod_openings se_Mod_openings rfl (Nat.le_of_ble_eq_true rfl) (by decide +kernel) (sh_mono k ?_)
  rintro rv m1 ⟨rfl, k⟩
  show sh_X g (d + 1) m_Mod_worked _ _ [] _ _
  refine xr_aload_n (n := 0) (i := 0) rfl (List.mem_of_getElem? (i := 1) rfl) (by decide +kernel) ?_
  refine xr_getR (o := 10) rfl fl_Mod_38 rfl (by decide +kernel) ?_
  show sh_X g (d + 1) m_Mod_worked _ _ ((sh_r 106) :: _) _ _
  refine xr_iload_n (n := 1) (i := 1) rfl (List.mem_of_getElem? (i := 2) rfl) (by decide +kernel) ?_
  obtain ⟨o, k⟩ := k
  refine xr_ialdN (j := line) rfl rfl o (by decide +kernel) ?_
  refine xr_istore_n (n := 3) (i := 3) rfl (by decide) rfl (by decide +kernel) ?_
  refine xr_sub (lo' := [(0, (sh_r 96)), (1, (sh_i (line : Int))), (2, (sh_i 0)), (3, (sh_i (m1 106 line)))]) [2, 3, 1, 0] rfl ?_
  exact k
theorem v_Mod_worked_14 {g : sh_G} {d : Nat} {line : Nat}  {mem : sh_Mem} {Q : Option sh_V → sh_Mem → Prop}  {x2 : Int} {x3 : Int} (k : (line < 2 ∧ (((i3 (mem 107 line)) ≤ (i3 x3) → (sh_Cal g d m_Mod_tests [(sh_r 96), (sh_i 0)] mem fun rv m1 => rv = none ∧ Q (some (sh_i (m1 111 0))) m1)) ∧ (¬ (i3 (mem 107 line)) ≤ (i3 x3) → ((0 ≤ x3 ∧ x3 < 2000) ∧ (((i3 (mem 108 (x3).toNat)) = 28 → sh_X g (d + 1) m_Mod_worked 46 [(0, (sh_r 96)), (1, (sh_i (line : Int))), (2, (sh_i x2)), (3, (sh_i x3)), (4, (sh_i (mem 108 (x3).toNat)))] [] mem (sh_K m_Mod_worked Q)) ∧ (¬ (i3 (mem 108 (x3).toNat)) = 28 → ((¬ (i3 (mem 108 (x3).toNat)) = 30 → (((i3 (mem 108 (x3).toNat)) = 20 → (sh_Cal g d m_Mod_sums [(sh_r 96), (sh_i x2)] mem fun rv m2 => rv = none ∧ ((0 ≤ x2 ∧ x2 < 7) ∧ (∀ m3 : sh_Mem, m3 = ms m2 116 (ru (m2 116) (x2).toNat (mem 108 (x3).toNat)) → sh_X g (d + 1) m_Mod_worked 14 [(0, (sh_r 96)), (1, (sh_i (line : Int))), (2, (sh_i x2)), (3, (sh_i (x3 + 1)))] [] m3 (sh_K m_Mod_worked Q))))) ∧ (¬ (i3 (mem 108 (x3).toNat)) = 20 → ((¬ (i3 (mem 108 (x3).toNat)) = 21 → ((¬ (i3 (mem 108 (x3).toNat)) = 22 → (((i3 (mem 108 (x3).toNat)) = 24 → sh_X g (d + 1) m_Mod_worked 137 [(0, (sh_r 96)), (1, (sh_i (line : Int))), (2, (sh_i x2)), (3, (sh_i x3)), (4, (sh_i (mem 108 (x3).toNat)))] [] mem (sh_K m_Mod_worked Q)) ∧ (¬ (i3 (mem 108 (x3).toNat)) = 24 → ((¬ (i3 (mem 108 (x3).toNat)) = 25 → (((i3 (mem 108 (x3).toNat)) = 26 → (sh_Cal g d m_Mod_tests [(sh_r 96), (sh_i x2)] mem fun rv m4 => rv = none ∧ ((0 ≤ x2 ∧ x2 < 7) ∧ (∀ m5 : sh_Mem, m5 = ms m4 112 (ru (m4 112) (x2).toNat (mem 108 (x3).toNat)) → sh_X g (d + 1) m_Mod_worked 14 [(0, (sh_r 96)), (1, (sh_i (line : Int))), (2, (sh_i x2)), (3, (sh_i (x3 + 1)))] [] m5 (sh_K m_Mod_worked Q))))) ∧ (¬ (i3 (mem 108 (x3).toNat)) = 26 → ((¬ (i3 (mem 108 (x3).toNat)) = 27 → (((i3 (mem 108 (x3).toNat)) < 100 → ((20 ≤ (i3 (mem 108 (x3).toNat)) → sh_X g (d + 1) m_Mod_worked 243 [(0, (sh_r 96)), (1, (sh_i (line : Int))), (2, (sh_i x2)), (3, (sh_i x3)), (4, (sh_i (mem 108 (x3).toNat)))] [(sh_i 0)] mem (sh_K m_Mod_worked Q)) ∧ (¬ 20 ≤ (i3 (mem 108 (x3).toNat)) → ((0 ≤ (mem 108 (x3).toNat) ∧ (mem 108 (x3).toNat) < 20) ∧ sh_X g (d + 1) m_Mod_worked 243 [(0, (sh_r 96)), (1, (sh_i (line : Int))), (2, (sh_i x2)), (3, (sh_i x3)), (4, (sh_i (mem 108 (x3).toNat)))] [(sh_i (mem 120 ((mem 108 (x3).toNat)).toNat))] mem (sh_K m_Mod_worked Q))))) ∧ (¬ (i3 (mem 108 (x3).toNat)) < 100 → sh_X g (d + 1) m_Mod_worked 243 [(0, (sh_r 96)), (1, (sh_i (line : Int))), (2, (sh_i x2)), (3, (sh_i x3)), (4, (sh_i (mem 108 (x3).toNat)))] [(sh_i ((mem 108 (x3).toNat) - 100))] mem (sh_K m_Mod_worked Q)))) ∧ ((i3 (mem 108 (x3).toNat)) = 27 → (sh_Cal g d m_Mod_tests [(sh_r 96), (sh_i x2)] mem fun rv m6 => rv = none ∧ ((0 ≤ x2 ∧ x2 < 7) ∧ (∀ m7 : sh_Mem, m7 = ms m6 112 (ru (m6 112) (x2).toNat (mem 108 (x3).toNat)) → sh_X g (d + 1) m_Mod_worked 14 [(0, (sh_r 96)), (1, (sh_i (line : Int))), (2, (sh_i x2)), (3, (sh_i (x3 + 1)))] [] m7 (sh_K m_Mod_worked Q))))))))) ∧ ((i3 (mem 108 (x3).toNat)) = 25 → sh_X g (d + 1) m_Mod_worked 137 [(0, (sh_r 96)), (1, (sh_i (line : Int))), (2, (sh_i x2)), (3, (sh_i x3)), (4, (sh_i (mem 108 (x3).toNat)))] [] mem (sh_K m_Mod_worked Q)))))) ∧ ((i3 (mem 108 (x3).toNat)) = 22 → ((0 ≤ x2 ∧ x2 < 7) ∧ (∀ m8 : sh_Mem, m8 = ms mem 118 (ru (mem 118) (x2).toNat (mem 108 (x3).toNat)) → sh_X g (d + 1) m_Mod_worked 14 [(0, (sh_r 96)), (1, (sh_i (line : Int))), (2, (sh_i x2)), (3, (sh_i (x3 + 1)))] [] m8 (sh_K m_Mod_worked Q)))))) ∧ ((i3 (mem 108 (x3).toNat)) = 21 → (sh_Cal g d m_Mod_sums [(sh_r 96), (sh_i x2)] mem fun rv m9 => rv = none ∧ ((0 ≤ x2 ∧ x2 < 7) ∧ (∀ m10 : sh_Mem, m10 = ms m9 116 (ru (m9 116) (x2).toNat (mem 108 (x3).toNat)) → sh_X g (d + 1) m_Mod_worked 14 [(0, (sh_r 96)), (1, (sh_i (line : Int))), (2, (sh_i x2)), (3, (sh_i (x3 + 1)))] [] m10 (sh_K m_Mod_worked Q))))))))) ∧ ((i3 (mem 108 (x3).toNat)) = 30 → sh_X g (d + 1) m_Mod_worked 46 [(0, (sh_r 96)), (1, (sh_i (line : Int))), (2, (sh_i x2)), (3, (sh_i x3)), (4, (sh_i (mem 108 (x3).toNat)))] [] mem (sh_K m_Mod_worked Q)))))))))) : sh_X g (d + 1) m_Mod_worked 14 [(0, (sh_r 96)), (1, (sh_i (line : Int))), (2, (sh_i x2)), (3, (sh_i x3))] [] mem (sh_K m_Mod_worked Q) := by
  refine xr_iload_n (n := 3) (i := 3) rfl (List.mem_of_getElem? (i := 3) rfl) (by decide +kernel) ?_
  refine xr_aload_n (n := 0) (i := 0) rfl (List.mem_of_getElem? (i := 0) rfl) (by decide +kernel) ?_
  refine xr_getR (o := 11) rfl fl_Mod_41 rfl (by decide +kernel) ?_
  show sh_X g (d + 1) m_Mod_worked _ _ ((sh_r 107) :: _) _ _
  refine xr_iload_n (n := 1) (i := 1) rfl (List.mem_of_getElem? (i := 1) rfl) (by decide +kernel) ?_
  obtain ⟨o, k⟩ := k
  refine xr_ialdN (j := line) rfl rfl o (by decide +kernel) ?_
  refine xr_icmp_ge (a' := (i3 x3)) (b' := (i3 (mem 107 line))) rfl rfl (off := 314) (tgt := 335) (by decide) (by decide +kernel) ⟨fun c1 => ?_, fun c1 => ?_⟩
  · have k := k.1 c1
    refine xr_aload_n (n := 0) (i := 0) rfl (List.mem_of_getElem? (i := 0) rfl) (by decide +kernel) ?_
    refine xr_iconst (n := 0) (by decide +kernel) ?_
    refine xr_callV (av := [(sh_i 0)]) rfl rfl rfl mo_Mod_tests ml_Mod_225 im_Mod_tests se_Mod_tests rfl (Nat.le_of_ble_eq_true rfl) (by decide +kernel) (sh_mono k ?_)
    rintro rv m1 ⟨rfl, k⟩
    show sh_X g (d + 1) m_Mod_worked _ _ [] _ _
    refine xr_aload_n (n := 0) (i := 0) rfl (List.mem_of_getElem? (i := 0) rfl) (by decide +kernel) ?_
    refine xr_getR (o := 15) rfl fl_Mod_54 rfl (by decide +kernel) ?_
    show sh_X g (d + 1) m_Mod_worked _ _ ((sh_r 111) :: _) _ _
    refine xr_iconst (n := 0) (by decide +kernel) ?_
    refine xr_ialdN (j := 0) rfl rfl (by decide) (by decide +kernel) ?_
    exact xr_iret rfl (by decide +kernel) k
  · have k := k.2 c1
    refine xr_aload_n (n := 0) (i := 0) rfl (List.mem_of_getElem? (i := 0) rfl) (by decide +kernel) ?_
    refine xr_getR (o := 12) rfl fl_Mod_44 rfl (by decide +kernel) ?_
    show sh_X g (d + 1) m_Mod_worked _ _ ((sh_r 108) :: _) _ _
    refine xr_iload_n (n := 3) (i := 3) rfl (List.mem_of_getElem? (i := 3) rfl) (by decide +kernel) ?_
    obtain ⟨o, k⟩ := k
    refine xr_iald rfl o.1 o.2 (by decide +kernel) ?_
    refine xr_istore (i := 4) (by decide) rfl (by decide +kernel) ?_
    refine xr_iload (i := 4) (List.mem_of_getElem? (i := 0) rfl) (by decide +kernel) ?_
    refine xr_bipush (n := 28) (v := 28) (by decide) (by decide +kernel) ?_
    refine xr_icmp_eq (a' := (i3 (mem 108 (x3).toNat))) (b' := 28) rfl (by decide) (off := 10) (tgt := 46) (by decide) (by decide +kernel) ⟨fun c2 => ?_, fun c2 => ?_⟩
    · have k := k.1 c2
      refine xr_sub (lo' := [(0, (sh_r 96)), (1, (sh_i (line : Int))), (2, (sh_i x2)), (3, (sh_i x3)), (4, (sh_i (mem 108 (x3).toNat)))]) [1, 2, 3, 4, 0] rfl ?_
      exact k
    · have k := k.2 c2
      refine xr_iload (i := 4) (List.mem_of_getElem? (i := 0) rfl) (by decide +kernel) ?_
      refine xr_bipush (n := 30) (v := 30) (by decide) (by decide +kernel) ?_
      refine xr_icmp_ne (a' := (i3 (mem 108 (x3).toNat))) (b' := 30) rfl (by decide) (off := 32) (tgt := 75) (by decide) (by decide +kernel) ⟨fun c3 => ?_, fun c3 => ?_⟩
      · have k := k.1 c3
        refine xr_iload (i := 4) (List.mem_of_getElem? (i := 0) rfl) (by decide +kernel) ?_
        refine xr_bipush (n := 20) (v := 20) (by decide) (by decide +kernel) ?_
        refine xr_icmp_eq (a' := (i3 (mem 108 (x3).toNat))) (b' := 20) rfl (by decide) (off := 10) (tgt := 89) (by decide) (by decide +kernel) ⟨fun c4 => ?_, fun c4 => ?_⟩
        · have k := k.1 c4
          refine xr_aload_n (n := 0) (i := 0) rfl (List.mem_of_getElem? (i := 1) rfl) (by decide +kernel) ?_
          refine xr_iload_n (n := 2) (i := 2) rfl (List.mem_of_getElem? (i := 3) rfl) (by decide +kernel) ?_
          refine xr_callV (av := [(sh_i x2)]) rfl rfl rfl mo_Mod_sums ml_Mod_219 im_Mod_sums se_Mod_sums rfl (Nat.le_of_ble_eq_true rfl) (by decide +kernel) (sh_mono k ?_)
          rintro rv m2 ⟨rfl, k⟩
          show sh_X g (d + 1) m_Mod_worked _ _ [] _ _
          refine xr_aload_n (n := 0) (i := 0) rfl (List.mem_of_getElem? (i := 1) rfl) (by decide +kernel) ?_
          refine xr_getR (o := 20) rfl fl_Mod_69 rfl (by decide +kernel) ?_
          show sh_X g (d + 1) m_Mod_worked _ _ ((sh_r 116) :: _) _ _
          refine xr_iload_n (n := 2) (i := 2) rfl (List.mem_of_getElem? (i := 3) rfl) (by decide +kernel) ?_
          refine xr_iload (i := 4) (List.mem_of_getElem? (i := 0) rfl) (by decide +kernel) ?_
          have o9 := True.intro
          obtain ⟨o, k⟩ := k
          refine xr_iast rfl o.1 o.2 (by decide +kernel) ?_
          have k := k _ rfl
          generalize hg_m3 : ms m2 116 (ru (m2 116) (x2).toNat (mem 108 (x3).toNat)) = m3 at k ⊢
          refine xr_goto (off := 227) (tgt := 329) (by decide) (by decide +kernel) ?_
          refine xr_iinc (n := 1) (lo' := [(3, (sh_i (x3 + 1))), (4, (sh_i (mem 108 (x3).toNat))), (0, (sh_r 96)), (1, (sh_i (line : Int))), (2, (sh_i x2))]) (List.mem_of_getElem? (i := 4) rfl) (by decide) rfl (by decide +kernel) ?_
          refine xr_goto (off := (-318)) (tgt := 14) (by decide) (by decide +kernel) ?_
          refine xr_sub (lo' := [(0, (sh_r 96)), (1, (sh_i (line : Int))), (2, (sh_i x2)), (3, (sh_i (x3 + 1)))]) [2, 3, 4, 0] rfl ?_
          exact k
        · have k := k.2 c4
          refine xr_iload (i := 4) (List.mem_of_getElem? (i := 0) rfl) (by decide +kernel) ?_
          refine xr_bipush (n := 21) (v := 21) (by decide) (by decide +kernel) ?_
          refine xr_icmp_ne (a' := (i3 (mem 108 (x3).toNat))) (b' := 21) rfl (by decide) (off := 19) (tgt := 105) (by decide) (by decide +kernel) ⟨fun c5 => ?_, fun c5 => ?_⟩
          · have k := k.1 c5
            refine xr_iload (i := 4) (List.mem_of_getElem? (i := 0) rfl) (by decide +kernel) ?_
            refine xr_bipush (n := 22) (v := 22) (by decide) (by decide +kernel) ?_
            refine xr_icmp_ne (a' := (i3 (mem 108 (x3).toNat))) (b' := 22) rfl (by decide) (off := 14) (tgt := 123) (by decide) (by decide +kernel) ⟨fun c6 => ?_, fun c6 => ?_⟩
            · have k := k.1 c6
              refine xr_iload (i := 4) (List.mem_of_getElem? (i := 0) rfl) (by decide +kernel) ?_
              refine xr_bipush (n := 24) (v := 24) (by decide) (by decide +kernel) ?_
              refine xr_icmp_eq (a' := (i3 (mem 108 (x3).toNat))) (b' := 24) rfl (by decide) (off := 10) (tgt := 137) (by decide) (by decide +kernel) ⟨fun c7 => ?_, fun c7 => ?_⟩
              · have k := k.1 c7
                refine xr_sub (lo' := [(0, (sh_r 96)), (1, (sh_i (line : Int))), (2, (sh_i x2)), (3, (sh_i x3)), (4, (sh_i (mem 108 (x3).toNat)))]) [1, 2, 3, 4, 0] rfl ?_
                exact k
              · have k := k.2 c7
                refine xr_iload (i := 4) (List.mem_of_getElem? (i := 0) rfl) (by decide +kernel) ?_
                refine xr_bipush (n := 25) (v := 25) (by decide) (by decide +kernel) ?_
                refine xr_icmp_ne (a' := (i3 (mem 108 (x3).toNat))) (b' := 25) rfl (by decide) (off := 46) (tgt := 180) (by decide) (by decide +kernel) ⟨fun c8 => ?_, fun c8 => ?_⟩
                · have k := k.1 c8
                  refine xr_iload (i := 4) (List.mem_of_getElem? (i := 0) rfl) (by decide +kernel) ?_
                  refine xr_bipush (n := 26) (v := 26) (by decide) (by decide +kernel) ?_
                  refine xr_icmp_eq (a' := (i3 (mem 108 (x3).toNat))) (b' := 26) rfl (by decide) (off := 10) (tgt := 194) (by decide) (by decide +kernel) ⟨fun c9 => ?_, fun c9 => ?_⟩
                  · have k := k.1 c9
                    refine xr_aload_n (n := 0) (i := 0) rfl (List.mem_of_getElem? (i := 1) rfl) (by decide +kernel) ?_
                    refine xr_iload_n (n := 2) (i := 2) rfl (List.mem_of_getElem? (i := 3) rfl) (by decide +kernel) ?_
                    refine xr_callV (av := [(sh_i x2)]) rfl rfl rfl mo_Mod_tests ml_Mod_225 im_Mod_tests se_Mod_tests rfl (Nat.le_of_ble_eq_true rfl) (by decide +kernel) (sh_mono k ?_)
                    rintro rv m4 ⟨rfl, k⟩
                    show sh_X g (d + 1) m_Mod_worked _ _ [] _ _
                    refine xr_aload_n (n := 0) (i := 0) rfl (List.mem_of_getElem? (i := 1) rfl) (by decide +kernel) ?_
                    refine xr_getR (o := 16) rfl fl_Mod_57 rfl (by decide +kernel) ?_
                    show sh_X g (d + 1) m_Mod_worked _ _ ((sh_r 112) :: _) _ _
                    refine xr_iload_n (n := 2) (i := 2) rfl (List.mem_of_getElem? (i := 3) rfl) (by decide +kernel) ?_
                    refine xr_iload (i := 4) (List.mem_of_getElem? (i := 0) rfl) (by decide +kernel) ?_
                    have o9 := True.intro
                    obtain ⟨o, k⟩ := k
                    refine xr_iast rfl o.1 o.2 (by decide +kernel) ?_
                    have k := k _ rfl
                    generalize hg_m5 : ms m4 112 (ru (m4 112) (x2).toNat (mem 108 (x3).toNat)) = m5 at k ⊢
                    refine xr_goto (off := 122) (tgt := 329) (by decide) (by decide +kernel) ?_
                    refine xr_iinc (n := 1) (lo' := [(3, (sh_i (x3 + 1))), (4, (sh_i (mem 108 (x3).toNat))), (0, (sh_r 96)), (1, (sh_i (line : Int))), (2, (sh_i x2))]) (List.mem_of_getElem? (i := 4) rfl) (by decide) rfl (by decide +kernel) ?_
                    refine xr_goto (off := (-318)) (tgt := 14) (by decide) (by decide +kernel) ?_
                    refine xr_sub (lo' := [(0, (sh_r 96)), (1, (sh_i (line : Int))), (2, (sh_i x2)), (3, (sh_i (x3 + 1)))]) [2, 3, 4, 0] rfl ?_
                    exact k
                  · have k := k.2 c9
                    refine xr_iload (i := 4) (List.mem_of_getElem? (i := 0) rfl) (by decide +kernel) ?_
                    refine xr_bipush (n := 27) (v := 27) (by decide) (by decide +kernel) ?_
                    refine xr_icmp_ne (a' := (i3 (mem 108 (x3).toNat))) (b' := 27) rfl (by decide) (off := 19) (tgt := 210) (by decide) (by decide +kernel) ⟨fun c10 => ?_, fun c10 => ?_⟩
                    · have k := k.1 c10
                      refine xr_iload (i := 4) (List.mem_of_getElem? (i := 0) rfl) (by decide +kernel) ?_
                      refine xr_bipush (n := 100) (v := 100) (by decide) (by decide +kernel) ?_
                      refine xr_icmp_lt (a' := (i3 (mem 108 (x3).toNat))) (b' := 100) rfl (by decide) (off := 11) (tgt := 225) (by decide) (by decide +kernel) ⟨fun c11 => ?_, fun c11 => ?_⟩
                      · have k := k.1 c11
                        refine xr_iload (i := 4) (List.mem_of_getElem? (i := 0) rfl) (by decide +kernel) ?_
                        refine xr_bipush (n := 20) (v := 20) (by decide) (by decide +kernel) ?_
                        refine xr_icmp_ge (a' := (i3 (mem 108 (x3).toNat))) (b' := 20) rfl (by decide) (off := 13) (tgt := 242) (by decide) (by decide +kernel) ⟨fun c12 => ?_, fun c12 => ?_⟩
                        · have k := k.1 c12
                          refine xr_iconst (n := 0) (by decide +kernel) ?_
                          refine xr_sub (lo' := [(0, (sh_r 96)), (1, (sh_i (line : Int))), (2, (sh_i x2)), (3, (sh_i x3)), (4, (sh_i (mem 108 (x3).toNat)))]) [1, 2, 3, 4, 0] rfl ?_
                          exact k
                        · have k := k.2 c12
                          refine xr_aload_n (n := 0) (i := 0) rfl (List.mem_of_getElem? (i := 1) rfl) (by decide +kernel) ?_
                          refine xr_getR (o := 24) rfl fl_Mod_81 rfl (by decide +kernel) ?_
                          show sh_X g (d + 1) m_Mod_worked _ _ ((sh_r 120) :: _) _ _
                          refine xr_iload (i := 4) (List.mem_of_getElem? (i := 0) rfl) (by decide +kernel) ?_
                          obtain ⟨o, k⟩ := k
                          refine xr_iald rfl o.1 o.2 (by decide +kernel) ?_
                          refine xr_goto (off := 4) (tgt := 243) (by decide) (by decide +kernel) ?_
                          refine xr_sub (lo' := [(0, (sh_r 96)), (1, (sh_i (line : Int))), (2, (sh_i x2)), (3, (sh_i x3)), (4, (sh_i (mem 108 (x3).toNat)))]) [1, 2, 3, 4, 0] rfl ?_
                          exact k
                      · have k := k.2 c11
                        refine xr_iload (i := 4) (List.mem_of_getElem? (i := 0) rfl) (by decide +kernel) ?_
                        refine xr_bipush (n := 100) (v := 100) (by decide) (by decide +kernel) ?_
                        refine xr_isub (by decide +kernel) ?_
                        show sh_X g (d + 1) m_Mod_worked _ _ ((sh_i ((mem 108 (x3).toNat) - 100)) :: _) _ _
                        refine xr_goto (off := 21) (tgt := 243) (by decide) (by decide +kernel) ?_
                        refine xr_sub (lo' := [(0, (sh_r 96)), (1, (sh_i (line : Int))), (2, (sh_i x2)), (3, (sh_i x3)), (4, (sh_i (mem 108 (x3).toNat)))]) [1, 2, 3, 4, 0] rfl ?_
                        exact k
                    · have k := k.2 c10
                      refine xr_aload_n (n := 0) (i := 0) rfl (List.mem_of_getElem? (i := 1) rfl) (by decide +kernel) ?_
                      refine xr_iload_n (n := 2) (i := 2) rfl (List.mem_of_getElem? (i := 3) rfl) (by decide +kernel) ?_
                      refine xr_callV (av := [(sh_i x2)]) rfl rfl rfl mo_Mod_tests ml_Mod_225 im_Mod_tests se_Mod_tests rfl (Nat.le_of_ble_eq_true rfl) (by decide +kernel) (sh_mono k ?_)
                      rintro rv m6 ⟨rfl, k⟩
                      show sh_X g (d + 1) m_Mod_worked _ _ [] _ _
                      refine xr_aload_n (n := 0) (i := 0) rfl (List.mem_of_getElem? (i := 1) rfl) (by decide +kernel) ?_
                      refine xr_getR (o := 16) rfl fl_Mod_57 rfl (by decide +kernel) ?_
                      show sh_X g (d + 1) m_Mod_worked _ _ ((sh_r 112) :: _) _ _
                      refine xr_iload_n (n := 2) (i := 2) rfl (List.mem_of_getElem? (i := 3) rfl) (by decide +kernel) ?_
                      refine xr_iload (i := 4) (List.mem_of_getElem? (i := 0) rfl) (by decide +kernel) ?_
                      have o9 := True.intro
                      obtain ⟨o, k⟩ := k
                      refine xr_iast rfl o.1 o.2 (by decide +kernel) ?_
                      have k := k _ rfl
                      generalize hg_m7 : ms m6 112 (ru (m6 112) (x2).toNat (mem 108 (x3).toNat)) = m7 at k ⊢
                      refine xr_goto (off := 122) (tgt := 329) (by decide) (by decide +kernel) ?_
                      refine xr_iinc (n := 1) (lo' := [(3, (sh_i (x3 + 1))), (4, (sh_i (mem 108 (x3).toNat))), (0, (sh_r 96)), (1, (sh_i (line : Int))), (2, (sh_i x2))]) (List.mem_of_getElem? (i := 4) rfl) (by decide) rfl (by decide +kernel) ?_
                      refine xr_goto (off := (-318)) (tgt := 14) (by decide) (by decide +kernel) ?_
                      refine xr_sub (lo' := [(0, (sh_r 96)), (1, (sh_i (line : Int))), (2, (sh_i x2)), (3, (sh_i (x3 + 1)))]) [2, 3, 4, 0] rfl ?_
                      exact k
                · have k := k.2 c8
                  refine xr_sub (lo' := [(0, (sh_r 96)), (1, (sh_i (line : Int))), (2, (sh_i x2)), (3, (sh_i x3)), (4, (sh_i (mem 108 (x3).toNat)))]) [1, 2, 3, 4, 0] rfl ?_
                  exact k
            · have k := k.2 c6
              refine xr_aload_n (n := 0) (i := 0) rfl (List.mem_of_getElem? (i := 1) rfl) (by decide +kernel) ?_
              refine xr_getR (o := 22) rfl fl_Mod_75 rfl (by decide +kernel) ?_
              show sh_X g (d + 1) m_Mod_worked _ _ ((sh_r 118) :: _) _ _
              refine xr_iload_n (n := 2) (i := 2) rfl (List.mem_of_getElem? (i := 3) rfl) (by decide +kernel) ?_
              refine xr_iload (i := 4) (List.mem_of_getElem? (i := 0) rfl) (by decide +kernel) ?_
              have o9 := True.intro
              obtain ⟨o, k⟩ := k
              refine xr_iast rfl o.1 o.2 (by decide +kernel) ?_
              have k := k _ rfl
              generalize hg_m8 : ms mem 118 (ru (mem 118) (x2).toNat (mem 108 (x3).toNat)) = m8 at k ⊢
              refine xr_goto (off := 209) (tgt := 329) (by decide) (by decide +kernel) ?_
              refine xr_iinc (n := 1) (lo' := [(3, (sh_i (x3 + 1))), (4, (sh_i (mem 108 (x3).toNat))), (0, (sh_r 96)), (1, (sh_i (line : Int))), (2, (sh_i x2))]) (List.mem_of_getElem? (i := 4) rfl) (by decide) rfl (by decide +kernel) ?_
              refine xr_goto (off := (-318)) (tgt := 14) (by decide) (by decide +kernel) ?_
              refine xr_sub (lo' := [(0, (sh_r 96)), (1, (sh_i (line : Int))), (2, (sh_i x2)), (3, (sh_i (x3 + 1)))]) [2, 3, 4, 0] rfl ?_
              exact k
          · have k := k.2 c5
            refine xr_aload_n (n := 0) (i := 0) rfl (List.mem_of_getElem? (i := 1) rfl) (by decide +kernel) ?_
            refine xr_iload_n (n := 2) (i := 2) rfl (List.mem_of_getElem? (i := 3) rfl) (by decide +kernel) ?_
            refine xr_callV (av := [(sh_i x2)]) rfl rfl rfl mo_Mod_sums ml_Mod_219 im_Mod_sums se_Mod_sums rfl (Nat.le_of_ble_eq_true rfl) (by decide +kernel) (sh_mono k ?_)
            rintro rv m9 ⟨rfl, k⟩
            show sh_X g (d + 1) m_Mod_worked _ _ [] _ _
            refine xr_aload_n (n := 0) (i := 0) rfl (List.mem_of_getElem? (i := 1) rfl) (by decide +kernel) ?_
            refine xr_getR (o := 20) rfl fl_Mod_69 rfl (by decide +kernel) ?_
            show sh_X g (d + 1) m_Mod_worked _ _ ((sh_r 116) :: _) _ _
            refine xr_iload_n (n := 2) (i := 2) rfl (List.mem_of_getElem? (i := 3) rfl) (by decide +kernel) ?_
            refine xr_iload (i := 4) (List.mem_of_getElem? (i := 0) rfl) (by decide +kernel) ?_
            have o9 := True.intro
            obtain ⟨o, k⟩ := k
            refine xr_iast rfl o.1 o.2 (by decide +kernel) ?_
            have k := k _ rfl
            generalize hg_m10 : ms m9 116 (ru (m9 116) (x2).toNat (mem 108 (x3).toNat)) = m10 at k ⊢
            refine xr_goto (off := 227) (tgt := 329) (by decide) (by decide +kernel) ?_
            refine xr_iinc (n := 1) (lo' := [(3, (sh_i (x3 + 1))), (4, (sh_i (mem 108 (x3).toNat))), (0, (sh_r 96)), (1, (sh_i (line : Int))), (2, (sh_i x2))]) (List.mem_of_getElem? (i := 4) rfl) (by decide) rfl (by decide +kernel) ?_
            refine xr_goto (off := (-318)) (tgt := 14) (by decide) (by decide +kernel) ?_
            refine xr_sub (lo' := [(0, (sh_r 96)), (1, (sh_i (line : Int))), (2, (sh_i x2)), (3, (sh_i (x3 + 1)))]) [2, 3, 4, 0] rfl ?_
            exact k
      · have k := k.2 c3
        refine xr_sub (lo' := [(0, (sh_r 96)), (1, (sh_i (line : Int))), (2, (sh_i x2)), (3, (sh_i x3)), (4, (sh_i (mem 108 (x3).toNat)))]) [1, 2, 3, 4, 0] rfl ?_
        exact k
theorem v_Mod_worked_46 {g : sh_G} {d : Nat} {line : Nat}  {mem : sh_Mem} {Q : Option sh_V → sh_Mem → Prop}  {x2 : Int} {x3 : Int} {x4 : Int} (k : ((¬ (i3 x4) = 30 → ((0 ≤ (x2 + 1) ∧ (x2 + 1) < 7) ∧ (∀ m1 : sh_Mem, m1 = ms mem 119 (ru (mem 119) ((x2 + 1)).toNat 0) → (sh_Cal g d m_Mod_openings [(sh_r 96), (sh_i (x2 + 1))] m1 fun rv m2 => rv = none ∧ sh_X g (d + 1) m_Mod_worked 14 [(0, (sh_r 96)), (1, (sh_i (line : Int))), (2, (sh_i (x2 + 1))), (3, (sh_i (x3 + 1)))] [] m2 (sh_K m_Mod_worked Q))))) ∧ ((i3 x4) = 30 → ((0 ≤ (x2 + 1) ∧ (x2 + 1) < 7) ∧ (∀ m3 : sh_Mem, m3 = ms mem 119 (ru (mem 119) ((x2 + 1)).toNat 1) → (sh_Cal g d m_Mod_openings [(sh_r 96), (sh_i (x2 + 1))] m3 fun rv m4 => rv = none ∧ sh_X g (d + 1) m_Mod_worked 14 [(0, (sh_r 96)), (1, (sh_i (line : Int))), (2, (sh_i (x2 + 1))), (3, (sh_i (x3 + 1)))] [] m4 (sh_K m_Mod_worked Q))))))) : sh_X g (d + 1) m_Mod_worked 46 [(0, (sh_r 96)), (1, (sh_i (line : Int))), (2, (sh_i x2)), (3, (sh_i x3)), (4, (sh_i x4))] [] mem (sh_K m_Mod_worked Q) := by
  refine xr_iinc (n := 1) (lo' := [(2, (sh_i (x2 + 1))), (0, (sh_r 96)), (1, (sh_i (line : Int))), (3, (sh_i x3)), (4, (sh_i x4))]) (List.mem_of_getElem? (i := 2) rfl) (by decide) rfl (by decide +kernel) ?_
  refine xr_aload_n (n := 0) (i := 0) rfl (List.mem_of_getElem? (i := 1) rfl) (by decide +kernel) ?_
  refine xr_getR (o := 23) rfl fl_Mod_78 rfl (by decide +kernel) ?_
  show sh_X g (d + 1) m_Mod_worked _ _ ((sh_r 119) :: _) _ _
  refine xr_iload_n (n := 2) (i := 2) rfl (List.mem_of_getElem? (i := 0) rfl) (by decide +kernel) ?_
  refine xr_iload (i := 4) (List.mem_of_getElem? (i := 4) rfl) (by decide +kernel) ?_
  refine xr_bipush (n := 30) (v := 30) (by decide) (by decide +kernel) ?_
  refine xr_icmp_ne (a' := (i3 x4)) (b' := 30) rfl (by decide) (off := 7) (tgt := 65) (by decide) (by decide +kernel) ⟨fun c1 => ?_, fun c1 => ?_⟩
  · have k := k.1 c1
    refine xr_iconst (n := 0) (by decide +kernel) ?_
    have o9 := True.intro
    obtain ⟨o, k⟩ := k
    refine xr_iast rfl o.1 o.2 (by decide +kernel) ?_
    have k := k _ rfl
    generalize hg_m1 : ms mem 119 (ru (mem 119) ((x2 + 1)).toNat 0) = m1 at k ⊢
    refine xr_aload_n (n := 0) (i := 0) rfl (List.mem_of_getElem? (i := 1) rfl) (by decide +kernel) ?_
    refine xr_iload_n (n := 2) (i := 2) rfl (List.mem_of_getElem? (i := 0) rfl) (by decide +kernel) ?_
    refine xr_callV (av := [(sh_i (x2 + 1))]) rfl rfl rfl mo_Mod_openings ml_Mod_222 im_Mod_openings se_Mod_openings rfl (Nat.le_of_ble_eq_true rfl) (by decide +kernel) (sh_mono k ?_)
    rintro rv m2 ⟨rfl, k⟩
    show sh_X g (d + 1) m_Mod_worked _ _ [] _ _
    refine xr_goto (off := 257) (tgt := 329) (by decide) (by decide +kernel) ?_
    refine xr_iinc (n := 1) (lo' := [(3, (sh_i (x3 + 1))), (2, (sh_i (x2 + 1))), (0, (sh_r 96)), (1, (sh_i (line : Int))), (4, (sh_i x4))]) (List.mem_of_getElem? (i := 3) rfl) (by decide) rfl (by decide +kernel) ?_
    refine xr_goto (off := (-318)) (tgt := 14) (by decide) (by decide +kernel) ?_
    refine xr_sub (lo' := [(0, (sh_r 96)), (1, (sh_i (line : Int))), (2, (sh_i (x2 + 1))), (3, (sh_i (x3 + 1)))]) [2, 3, 1, 0] rfl ?_
    exact k
  · have k := k.2 c1
    refine xr_iconst (n := 1) (by decide +kernel) ?_
    refine xr_goto (off := 4) (tgt := 66) (by decide) (by decide +kernel) ?_
    have o9 := True.intro
    obtain ⟨o, k⟩ := k
    refine xr_iast rfl o.1 o.2 (by decide +kernel) ?_
    have k := k _ rfl
    generalize hg_m3 : ms mem 119 (ru (mem 119) ((x2 + 1)).toNat 1) = m3 at k ⊢
    refine xr_aload_n (n := 0) (i := 0) rfl (List.mem_of_getElem? (i := 1) rfl) (by decide +kernel) ?_
    refine xr_iload_n (n := 2) (i := 2) rfl (List.mem_of_getElem? (i := 0) rfl) (by decide +kernel) ?_
    refine xr_callV (av := [(sh_i (x2 + 1))]) rfl rfl rfl mo_Mod_openings ml_Mod_222 im_Mod_openings se_Mod_openings rfl (Nat.le_of_ble_eq_true rfl) (by decide +kernel) (sh_mono k ?_)
    rintro rv m4 ⟨rfl, k⟩
    show sh_X g (d + 1) m_Mod_worked _ _ [] _ _
    refine xr_goto (off := 257) (tgt := 329) (by decide) (by decide +kernel) ?_
    refine xr_iinc (n := 1) (lo' := [(3, (sh_i (x3 + 1))), (2, (sh_i (x2 + 1))), (0, (sh_r 96)), (1, (sh_i (line : Int))), (4, (sh_i x4))]) (List.mem_of_getElem? (i := 3) rfl) (by decide) rfl (by decide +kernel) ?_
    refine xr_goto (off := (-318)) (tgt := 14) (by decide) (by decide +kernel) ?_
    refine xr_sub (lo' := [(0, (sh_r 96)), (1, (sh_i (line : Int))), (2, (sh_i (x2 + 1))), (3, (sh_i (x3 + 1)))]) [2, 3, 1, 0] rfl ?_
    exact k
theorem v_Mod_worked_137 {g : sh_G} {d : Nat} {line : Nat}  {mem : sh_Mem} {Q : Option sh_V → sh_Mem → Prop}  {x2 : Int} {x3 : Int} {x4 : Int} (k : (sh_Cal g d m_Mod_sums [(sh_r 96), (sh_i x2)] mem fun rv m1 => rv = none ∧ ((0 ≤ x2 ∧ x2 < 7) ∧ ((0 ≤ x2 ∧ x2 < 7) ∧ (∀ m2 : sh_Mem, m2 = ms m1 113 (ru (m1 113) (x2).toNat (m1 115 (x2).toNat)) → ((0 ≤ x2 ∧ x2 < 7) ∧ (∀ m3 : sh_Mem, m3 = ms m2 114 (ru (m2 114) (x2).toNat x4) → ((0 ≤ x2 ∧ x2 < 7) ∧ (∀ m4 : sh_Mem, m4 = ms m3 115 (ru (m3 115) (x2).toNat 0) → ((0 ≤ x2 ∧ x2 < 7) ∧ (∀ m5 : sh_Mem, m5 = ms m4 116 (ru (m4 116) (x2).toNat 20) → sh_X g (d + 1) m_Mod_worked 14 [(0, (sh_r 96)), (1, (sh_i (line : Int))), (2, (sh_i x2)), (3, (sh_i (x3 + 1)))] [] m5 (sh_K m_Mod_worked Q)))))))))))) : sh_X g (d + 1) m_Mod_worked 137 [(0, (sh_r 96)), (1, (sh_i (line : Int))), (2, (sh_i x2)), (3, (sh_i x3)), (4, (sh_i x4))] [] mem (sh_K m_Mod_worked Q) := by
  refine xr_aload_n (n := 0) (i := 0) rfl (List.mem_of_getElem? (i := 0) rfl) (by decide +kernel) ?_
  refine xr_iload_n (n := 2) (i := 2) rfl (List.mem_of_getElem? (i := 2) rfl) (by decide +kernel) ?_
  refine xr_callV (av := [(sh_i x2)]) rfl rfl rfl mo_Mod_sums ml_Mod_219 im_Mod_sums se_Mod_sums rfl (Nat.le_of_ble_eq_true rfl) (by decide +kernel) (sh_mono k ?_)
  rintro rv m1 ⟨rfl, k⟩
  show sh_X g (d + 1) m_Mod_worked _ _ [] _ _
  refine xr_aload_n (n := 0) (i := 0) rfl (List.mem_of_getElem? (i := 0) rfl) (by decide +kernel) ?_
  refine xr_getR (o := 17) rfl fl_Mod_60 rfl (by decide +kernel) ?_
  show sh_X g (d + 1) m_Mod_worked _ _ ((sh_r 113) :: _) _ _
  refine xr_iload_n (n := 2) (i := 2) rfl (List.mem_of_getElem? (i := 2) rfl) (by decide +kernel) ?_
  refine xr_aload_n (n := 0) (i := 0) rfl (List.mem_of_getElem? (i := 0) rfl) (by decide +kernel) ?_
  refine xr_getR (o := 19) rfl fl_Mod_66 rfl (by decide +kernel) ?_
  show sh_X g (d + 1) m_Mod_worked _ _ ((sh_r 115) :: _) _ _
  refine xr_iload_n (n := 2) (i := 2) rfl (List.mem_of_getElem? (i := 2) rfl) (by decide +kernel) ?_
  obtain ⟨o, k⟩ := k
  refine xr_iald rfl o.1 o.2 (by decide +kernel) ?_
  have o9 := True.intro
  obtain ⟨o, k⟩ := k
  refine xr_iast rfl o.1 o.2 (by decide +kernel) ?_
  have k := k _ rfl
  generalize hg_m2 : ms m1 113 (ru (m1 113) (x2).toNat (m1 115 (x2).toNat)) = m2 at k ⊢
  refine xr_aload_n (n := 0) (i := 0) rfl (List.mem_of_getElem? (i := 0) rfl) (by decide +kernel) ?_
  refine xr_getR (o := 18) rfl fl_Mod_63 rfl (by decide +kernel) ?_
  show sh_X g (d + 1) m_Mod_worked _ _ ((sh_r 114) :: _) _ _
  refine xr_iload_n (n := 2) (i := 2) rfl (List.mem_of_getElem? (i := 2) rfl) (by decide +kernel) ?_
  refine xr_iload (i := 4) (List.mem_of_getElem? (i := 4) rfl) (by decide +kernel) ?_
  have o9 := True.intro
  obtain ⟨o, k⟩ := k
  refine xr_iast rfl o.1 o.2 (by decide +kernel) ?_
  have k := k _ rfl
  generalize hg_m3 : ms m2 114 (ru (m2 114) (x2).toNat x4) = m3 at k ⊢
  refine xr_aload_n (n := 0) (i := 0) rfl (List.mem_of_getElem? (i := 0) rfl) (by decide +kernel) ?_
  refine xr_getR (o := 19) rfl fl_Mod_66 rfl (by decide +kernel) ?_
  show sh_X g (d + 1) m_Mod_worked _ _ ((sh_r 115) :: _) _ _
  refine xr_iload_n (n := 2) (i := 2) rfl (List.mem_of_getElem? (i := 2) rfl) (by decide +kernel) ?_
  refine xr_iconst (n := 0) (by decide +kernel) ?_
  have o9 := True.intro
  obtain ⟨o, k⟩ := k
  refine xr_iast rfl o.1 o.2 (by decide +kernel) ?_
  have k := k _ rfl
  generalize hg_m4 : ms m3 115 (ru (m3 115) (x2).toNat 0) = m4 at k ⊢
  refine xr_aload_n (n := 0) (i := 0) rfl (List.mem_of_getElem? (i := 0) rfl) (by decide +kernel) ?_
  refine xr_getR (o := 20) rfl fl_Mod_69 rfl (by decide +kernel) ?_
  show sh_X g (d + 1) m_Mod_worked _ _ ((sh_r 116) :: _) _ _
  refine xr_iload_n (n := 2) (i := 2) rfl (List.mem_of_getElem? (i := 2) rfl) (by decide +kernel) ?_
  refine xr_bipush (n := 20) (v := 20) (by decide) (by decide +kernel) ?_
  have o9 := True.intro
  obtain ⟨o, k⟩ := k
  refine xr_iast rfl o.1 o.2 (by decide +kernel) ?_
  have k := k _ rfl
  generalize hg_m5 : ms m4 116 (ru (m4 116) (x2).toNat 20) = m5 at k ⊢
  refine xr_goto (off := 152) (tgt := 329) (by decide) (by decide +kernel) ?_
  refine xr_iinc (n := 1) (lo' := [(3, (sh_i (x3 + 1))), (0, (sh_r 96)), (1, (sh_i (line : Int))), (2, (sh_i x2)), (4, (sh_i x4))]) (List.mem_of_getElem? (i := 3) rfl) (by decide) rfl (by decide +kernel) ?_
  refine xr_goto (off := (-318)) (tgt := 14) (by decide) (by decide +kernel) ?_
  refine xr_sub (lo' := [(0, (sh_r 96)), (1, (sh_i (line : Int))), (2, (sh_i x2)), (3, (sh_i (x3 + 1)))]) [1, 2, 3, 0] rfl ?_
  exact k
theorem v_Mod_worked_243 {g : sh_G} {d : Nat} {line : Nat}  {mem : sh_Mem} {Q : Option sh_V → sh_Mem → Prop}  {x2 : Int} {x3 : Int} {x4 : Int} {y0 : Int} (k : ((¬ (i3 x4) = 29 → sh_X g (d + 1) m_Mod_worked 268 [(0, (sh_r 96)), (1, (sh_i (line : Int))), (2, (sh_i x2)), (3, (sh_i x3)), (4, (sh_i x4)), (5, (sh_i y0))] [] mem (sh_K m_Mod_worked Q)) ∧ ((i3 x4) = 29 → (sh_Cal g d m_Mod_tests [(sh_r 96), (sh_i x2)] mem fun rv m1 => rv = none ∧ ((0 ≤ x2 ∧ x2 < 7) ∧ sh_X g (d + 1) m_Mod_worked 268 [(0, (sh_r 96)), (1, (sh_i (line : Int))), (2, (sh_i (x2 + (-1)))), (3, (sh_i x3)), (4, (sh_i x4)), (5, (sh_i (m1 111 (x2).toNat)))] [] m1 (sh_K m_Mod_worked Q)))))) : sh_X g (d + 1) m_Mod_worked 243 [(0, (sh_r 96)), (1, (sh_i (line : Int))), (2, (sh_i x2)), (3, (sh_i x3)), (4, (sh_i x4))] [(sh_i y0)] mem (sh_K m_Mod_worked Q) := by
  refine xr_istore (i := 5) (by decide) rfl (by decide +kernel) ?_
  refine xr_iload (i := 4) (List.mem_of_getElem? (i := 5) rfl) (by decide +kernel) ?_
  refine xr_bipush (n := 29) (v := 29) (by decide) (by decide +kernel) ?_
  refine xr_icmp_ne (a' := (i3 x4)) (b' := 29) rfl (by decide) (off := 19) (tgt := 268) (by decide) (by decide +kernel) ⟨fun c1 => ?_, fun c1 => ?_⟩
  · have k := k.1 c1
    refine xr_sub (lo' := [(0, (sh_r 96)), (1, (sh_i (line : Int))), (2, (sh_i x2)), (3, (sh_i x3)), (4, (sh_i x4)), (5, (sh_i y0))]) [1, 2, 3, 4, 5, 0] rfl ?_
    exact k
  · have k := k.2 c1
    refine xr_aload_n (n := 0) (i := 0) rfl (List.mem_of_getElem? (i := 1) rfl) (by decide +kernel) ?_
    refine xr_iload_n (n := 2) (i := 2) rfl (List.mem_of_getElem? (i := 3) rfl) (by decide +kernel) ?_
    refine xr_callV (av := [(sh_i x2)]) rfl rfl rfl mo_Mod_tests ml_Mod_225 im_Mod_tests se_Mod_tests rfl (Nat.le_of_ble_eq_true rfl) (by decide +kernel) (sh_mono k ?_)
    rintro rv m1 ⟨rfl, k⟩
    show sh_X g (d + 1) m_Mod_worked _ _ [] _ _
    refine xr_aload_n (n := 0) (i := 0) rfl (List.mem_of_getElem? (i := 1) rfl) (by decide +kernel) ?_
    refine xr_getR (o := 15) rfl fl_Mod_54 rfl (by decide +kernel) ?_
    show sh_X g (d + 1) m_Mod_worked _ _ ((sh_r 111) :: _) _ _
    refine xr_iload_n (n := 2) (i := 2) rfl (List.mem_of_getElem? (i := 3) rfl) (by decide +kernel) ?_
    obtain ⟨o, k⟩ := k
    refine xr_iald rfl o.1 o.2 (by decide +kernel) ?_
    refine xr_istore (i := 5) (by decide) rfl (by decide +kernel) ?_
    refine xr_iinc (n := (-1)) (lo' := [(2, (sh_i (x2 + (-1)))), (5, (sh_i (m1 111 (x2).toNat))), (0, (sh_r 96)), (1, (sh_i (line : Int))), (3, (sh_i x3)), (4, (sh_i x4))]) (List.mem_of_getElem? (i := 3) rfl) (by decide) rfl (by decide +kernel) ?_
    refine xr_sub (lo' := [(0, (sh_r 96)), (1, (sh_i (line : Int))), (2, (sh_i (x2 + (-1)))), (3, (sh_i x3)), (4, (sh_i x4)), (5, (sh_i (m1 111 (x2).toNat)))]) [2, 3, 0, 4, 5, 1] rfl ?_
    exact k
theorem v_Mod_worked_268 {g : sh_G} {d : Nat} {line : Nat}  {mem : sh_Mem} {Q : Option sh_V → sh_Mem → Prop}  {x2 : Int} {x3 : Int} {x4 : Int} {x5 : Int} (k : (((i3 x2) ≤ 0 → sh_X g (d + 1) m_Mod_worked 300 [(0, (sh_r 96)), (1, (sh_i (line : Int))), (2, (sh_i x2)), (3, (sh_i x3)), (4, (sh_i x4)), (5, (sh_i x5))] [] mem (sh_K m_Mod_worked Q)) ∧ (¬ (i3 x2) ≤ 0 → ((0 ≤ x2 ∧ x2 < 7) ∧ ((¬ (i3 (mem 119 (x2).toNat)) = 1 → sh_X g (d + 1) m_Mod_worked 300 [(0, (sh_r 96)), (1, (sh_i (line : Int))), (2, (sh_i x2)), (3, (sh_i x3)), (4, (sh_i x4)), (5, (sh_i x5))] [] mem (sh_K m_Mod_worked Q)) ∧ ((i3 (mem 119 (x2).toNat)) = 1 → ((¬ (i3 x5) = 0 → sh_X g (d + 1) m_Mod_worked 268 [(0, (sh_r 96)), (1, (sh_i (line : Int))), (2, (sh_i (x2 + (-1)))), (3, (sh_i x3)), (4, (sh_i x4)), (5, (sh_i 0))] [] mem (sh_K m_Mod_worked Q)) ∧ ((i3 x5) = 0 → sh_X g (d + 1) m_Mod_worked 268 [(0, (sh_r 96)), (1, (sh_i (line : Int))), (2, (sh_i (x2 + (-1)))), (3, (sh_i x3)), (4, (sh_i x4)), (5, (sh_i 1))] [] mem (sh_K m_Mod_worked Q))))))))) : sh_X g (d + 1) m_Mod_worked 268 [(0, (sh_r 96)), (1, (sh_i (line : Int))), (2, (sh_i x2)), (3, (sh_i x3)), (4, (sh_i x4)), (5, (sh_i x5))] [] mem (sh_K m_Mod_worked Q) := by
  refine xr_iload_n (n := 2) (i := 2) rfl (List.mem_of_getElem? (i := 2) rfl) (by decide +kernel) ?_
  refine xr_if_le (a' := (i3 x2)) rfl (off := 31) (tgt := 300) (by decide) (by decide +kernel) ⟨fun c1 => ?_, fun c1 => ?_⟩
  · have k := k.1 c1
    refine xr_sub (lo' := [(0, (sh_r 96)), (1, (sh_i (line : Int))), (2, (sh_i x2)), (3, (sh_i x3)), (4, (sh_i x4)), (5, (sh_i x5))]) [0, 1, 2, 3, 4, 5] rfl ?_
    exact k
  · have k := k.2 c1
    refine xr_aload_n (n := 0) (i := 0) rfl (List.mem_of_getElem? (i := 0) rfl) (by decide +kernel) ?_
    refine xr_getR (o := 23) rfl fl_Mod_78 rfl (by decide +kernel) ?_
    show sh_X g (d + 1) m_Mod_worked _ _ ((sh_r 119) :: _) _ _
    refine xr_iload_n (n := 2) (i := 2) rfl (List.mem_of_getElem? (i := 2) rfl) (by decide +kernel) ?_
    obtain ⟨o, k⟩ := k
    refine xr_iald rfl o.1 o.2 (by decide +kernel) ?_
    refine xr_iconst (n := 1) (by decide +kernel) ?_
    refine xr_icmp_ne (a' := (i3 (mem 119 (x2).toNat))) (b' := 1) rfl (by decide) (off := 21) (tgt := 300) (by decide) (by decide +kernel) ⟨fun c2 => ?_, fun c2 => ?_⟩
    · have k := k.1 c2
      refine xr_sub (lo' := [(0, (sh_r 96)), (1, (sh_i (line : Int))), (2, (sh_i x2)), (3, (sh_i x3)), (4, (sh_i x4)), (5, (sh_i x5))]) [0, 1, 2, 3, 4, 5] rfl ?_
      exact k
    · have k := k.2 c2
      refine xr_iload (i := 5) (List.mem_of_getElem? (i := 5) rfl) (by decide +kernel) ?_
      refine xr_if_ne (a' := (i3 x5)) rfl (off := 7) (tgt := 291) (by decide) (by decide +kernel) ⟨fun c3 => ?_, fun c3 => ?_⟩
      · have k := k.1 c3
        refine xr_iconst (n := 0) (by decide +kernel) ?_
        refine xr_istore (i := 5) (by decide) rfl (by decide +kernel) ?_
        refine xr_iinc (n := (-1)) (lo' := [(2, (sh_i (x2 + (-1)))), (5, (sh_i 0)), (0, (sh_r 96)), (1, (sh_i (line : Int))), (3, (sh_i x3)), (4, (sh_i x4))]) (List.mem_of_getElem? (i := 3) rfl) (by decide) rfl (by decide +kernel) ?_
        refine xr_goto (off := (-29)) (tgt := 268) (by decide) (by decide +kernel) ?_
        refine xr_sub (lo' := [(0, (sh_r 96)), (1, (sh_i (line : Int))), (2, (sh_i (x2 + (-1)))), (3, (sh_i x3)), (4, (sh_i x4)), (5, (sh_i 0))]) [2, 3, 0, 4, 5, 1] rfl ?_
        exact k
      · have k := k.2 c3
        refine xr_iconst (n := 1) (by decide +kernel) ?_
        refine xr_goto (off := 4) (tgt := 292) (by decide) (by decide +kernel) ?_
        refine xr_istore (i := 5) (by decide) rfl (by decide +kernel) ?_
        refine xr_iinc (n := (-1)) (lo' := [(2, (sh_i (x2 + (-1)))), (5, (sh_i 1)), (0, (sh_r 96)), (1, (sh_i (line : Int))), (3, (sh_i x3)), (4, (sh_i x4))]) (List.mem_of_getElem? (i := 3) rfl) (by decide) rfl (by decide +kernel) ?_
        refine xr_goto (off := (-29)) (tgt := 268) (by decide) (by decide +kernel) ?_
        refine xr_sub (lo' := [(0, (sh_r 96)), (1, (sh_i (line : Int))), (2, (sh_i (x2 + (-1)))), (3, (sh_i x3)), (4, (sh_i x4)), (5, (sh_i 1))]) [2, 3, 0, 4, 5, 1] rfl ?_
        exact k
theorem v_Mod_worked_300 {g : sh_G} {d : Nat} {line : Nat}  {mem : sh_Mem} {Q : Option sh_V → sh_Mem → Prop}  {x2 : Int} {x3 : Int} {x4 : Int} {x5 : Int} (k : ((0 ≤ x2 ∧ x2 < 7) ∧ ((¬ (i3 (mem 118 (x2).toNat)) = 0 → ((0 ≤ x2 ∧ x2 < 7) ∧ ((0 ≤ x2 ∧ x2 < 7) ∧ (∀ m1 : sh_Mem, m1 = ms mem 117 (ru (mem 117) (x2).toNat ((mem 117 (x2).toNat) * x5)) → sh_X g (d + 1) m_Mod_worked 14 [(0, (sh_r 96)), (1, (sh_i (line : Int))), (2, (sh_i x2)), (3, (sh_i (x3 + 1)))] [] m1 (sh_K m_Mod_worked Q))))) ∧ ((i3 (mem 118 (x2).toNat)) = 0 → ((0 ≤ x2 ∧ x2 < 7) ∧ (∀ m2 : sh_Mem, m2 = ms mem 117 (ru (mem 117) (x2).toNat x5) → sh_X g (d + 1) m_Mod_worked 14 [(0, (sh_r 96)), (1, (sh_i (line : Int))), (2, (sh_i x2)), (3, (sh_i (x3 + 1)))] [] m2 (sh_K m_Mod_worked Q))))))) : sh_X g (d + 1) m_Mod_worked 300 [(0, (sh_r 96)), (1, (sh_i (line : Int))), (2, (sh_i x2)), (3, (sh_i x3)), (4, (sh_i x4)), (5, (sh_i x5))] [] mem (sh_K m_Mod_worked Q) := by
  refine xr_aload_n (n := 0) (i := 0) rfl (List.mem_of_getElem? (i := 0) rfl) (by decide +kernel) ?_
  refine xr_getR (o := 21) rfl fl_Mod_72 rfl (by decide +kernel) ?_
  show sh_X g (d + 1) m_Mod_worked _ _ ((sh_r 117) :: _) _ _
  refine xr_iload_n (n := 2) (i := 2) rfl (List.mem_of_getElem? (i := 2) rfl) (by decide +kernel) ?_
  refine xr_aload_n (n := 0) (i := 0) rfl (List.mem_of_getElem? (i := 0) rfl) (by decide +kernel) ?_
  refine xr_getR (o := 22) rfl fl_Mod_75 rfl (by decide +kernel) ?_
  show sh_X g (d + 1) m_Mod_worked _ _ ((sh_r 118) :: _) _ _
  refine xr_iload_n (n := 2) (i := 2) rfl (List.mem_of_getElem? (i := 2) rfl) (by decide +kernel) ?_
  obtain ⟨o, k⟩ := k
  refine xr_iald rfl o.1 o.2 (by decide +kernel) ?_
  refine xr_if_ne (a' := (i3 (mem 118 (x2).toNat))) rfl (off := 8) (tgt := 319) (by decide) (by decide +kernel) ⟨fun c1 => ?_, fun c1 => ?_⟩
  · have k := k.1 c1
    refine xr_aload_n (n := 0) (i := 0) rfl (List.mem_of_getElem? (i := 0) rfl) (by decide +kernel) ?_
    refine xr_getR (o := 21) rfl fl_Mod_72 rfl (by decide +kernel) ?_
    show sh_X g (d + 1) m_Mod_worked _ _ ((sh_r 117) :: _) _ _
    refine xr_iload_n (n := 2) (i := 2) rfl (List.mem_of_getElem? (i := 2) rfl) (by decide +kernel) ?_
    obtain ⟨o, k⟩ := k
    refine xr_iald rfl o.1 o.2 (by decide +kernel) ?_
    refine xr_iload (i := 5) (List.mem_of_getElem? (i := 5) rfl) (by decide +kernel) ?_
    refine xr_imul (by decide +kernel) ?_
    show sh_X g (d + 1) m_Mod_worked _ _ ((sh_i ((mem 117 (x2).toNat) * x5)) :: _) _ _
    have o9 := True.intro
    obtain ⟨o, k⟩ := k
    refine xr_iast rfl o.1 o.2 (by decide +kernel) ?_
    have k := k _ rfl
    generalize hg_m1 : ms mem 117 (ru (mem 117) (x2).toNat ((mem 117 (x2).toNat) * x5)) = m1 at k ⊢
    refine xr_iinc (n := 1) (lo' := [(3, (sh_i (x3 + 1))), (0, (sh_r 96)), (1, (sh_i (line : Int))), (2, (sh_i x2)), (4, (sh_i x4)), (5, (sh_i x5))]) (List.mem_of_getElem? (i := 3) rfl) (by decide) rfl (by decide +kernel) ?_
    refine xr_goto (off := (-318)) (tgt := 14) (by decide) (by decide +kernel) ?_
    refine xr_sub (lo' := [(0, (sh_r 96)), (1, (sh_i (line : Int))), (2, (sh_i x2)), (3, (sh_i (x3 + 1)))]) [1, 2, 3, 0] rfl ?_
    exact k
  · have k := k.2 c1
    refine xr_iload (i := 5) (List.mem_of_getElem? (i := 5) rfl) (by decide +kernel) ?_
    refine xr_goto (off := 12) (tgt := 328) (by decide) (by decide +kernel) ?_
    have o9 := True.intro
    obtain ⟨o, k⟩ := k
    refine xr_iast rfl o.1 o.2 (by decide +kernel) ?_
    have k := k _ rfl
    generalize hg_m2 : ms mem 117 (ru (mem 117) (x2).toNat x5) = m2 at k ⊢
    refine xr_iinc (n := 1) (lo' := [(3, (sh_i (x3 + 1))), (0, (sh_r 96)), (1, (sh_i (line : Int))), (2, (sh_i x2)), (4, (sh_i x4)), (5, (sh_i x5))]) (List.mem_of_getElem? (i := 3) rfl) (by decide) rfl (by decide +kernel) ?_
    refine xr_goto (off := (-318)) (tgt := 14) (by decide) (by decide +kernel) ?_
    refine xr_sub (lo' := [(0, (sh_r 96)), (1, (sh_i (line : Int))), (2, (sh_i x2)), (3, (sh_i (x3 + 1)))]) [1, 2, 3, 0] rfl ?_
    exact k

theorem v_Mod_isKept {g : sh_G} {d : Nat}   {mem : sh_Mem} {Q : Option sh_V → sh_Mem → Prop}  (k : (((i3 (mem 96 6)) = 1 → (((l_cmp (mem 96 7) 2968) = 0 → sh_X g d m_Mod_isKept 219 [(0, (sh_r 96))] [] mem (sh_K m_Mod_isKept Q)) ∧ (¬ (l_cmp (mem 96 7) 2968) = 0 → (((l_cmp (mem 96 7) 12532058) = 0 → sh_X g d m_Mod_isKept 219 [(0, (sh_r 96))] [] mem (sh_K m_Mod_isKept Q)) ∧ (¬ (l_cmp (mem 96 7) 12532058) = 0 → (((l_cmp (mem 96 7) 4134649) = 0 → sh_X g d m_Mod_isKept 219 [(0, (sh_r 96))] [] mem (sh_K m_Mod_isKept Q)) ∧ (¬ (l_cmp (mem 96 7) 4134649) = 0 → (((l_cmp (mem 96 7) 10792986) = 0 → sh_X g d m_Mod_isKept 219 [(0, (sh_r 96))] [] mem (sh_K m_Mod_isKept Q)) ∧ (¬ (l_cmp (mem 96 7) 10792986) = 0 → (((l_cmp (mem 96 7) 10320789) = 0 → sh_X g d m_Mod_isKept 219 [(0, (sh_r 96))] [] mem (sh_K m_Mod_isKept Q)) ∧ (¬ (l_cmp (mem 96 7) 10320789) = 0 → (((l_cmp (mem 96 7) 374798) = 0 → sh_X g d m_Mod_isKept 219 [(0, (sh_r 96))] [] mem (sh_K m_Mod_isKept Q)) ∧ (¬ (l_cmp (mem 96 7) 374798) = 0 → (((l_cmp (mem 96 7) 316351) = 0 → sh_X g d m_Mod_isKept 219 [(0, (sh_r 96))] [] mem (sh_K m_Mod_isKept Q)) ∧ (¬ (l_cmp (mem 96 7) 316351) = 0 → (((l_cmp (mem 96 7) 7622660) = 0 → sh_X g d m_Mod_isKept 219 [(0, (sh_r 96))] [] mem (sh_K m_Mod_isKept Q)) ∧ (¬ (l_cmp (mem 96 7) 7622660) = 0 → (((l_cmp (mem 96 7) 10494723) = 0 → sh_X g d m_Mod_isKept 219 [(0, (sh_r 96))] [] mem (sh_K m_Mod_isKept Q)) ∧ (¬ (l_cmp (mem 96 7) 10494723) = 0 → (((l_cmp (mem 96 7) 377958) = 0 → sh_X g d m_Mod_isKept 219 [(0, (sh_r 96))] [] mem (sh_K m_Mod_isKept Q)) ∧ (¬ (l_cmp (mem 96 7) 377958) = 0 → (((l_cmp (mem 96 7) 10416334) = 0 → sh_X g d m_Mod_isKept 219 [(0, (sh_r 96))] [] mem (sh_K m_Mod_isKept Q)) ∧ (¬ (l_cmp (mem 96 7) 10416334) = 0 → (((l_cmp (mem 96 7) 390787) = 0 → sh_X g d m_Mod_isKept 219 [(0, (sh_r 96))] [] mem (sh_K m_Mod_isKept Q)) ∧ (¬ (l_cmp (mem 96 7) 390787) = 0 → (((l_cmp (mem 96 7) 8740238) = 0 → sh_X g d m_Mod_isKept 219 [(0, (sh_r 96))] [] mem (sh_K m_Mod_isKept Q)) ∧ (¬ (l_cmp (mem 96 7) 8740238) = 0 → (((l_cmp (mem 96 7) 284068024) = 0 → sh_X g d m_Mod_isKept 219 [(0, (sh_r 96))] [] mem (sh_K m_Mod_isKept Q)) ∧ (¬ (l_cmp (mem 96 7) 284068024) = 0 → (((l_cmp (mem 96 7) 16922) = 0 → sh_X g d m_Mod_isKept 219 [(0, (sh_r 96))] [] mem (sh_K m_Mod_isKept Q)) ∧ (¬ (l_cmp (mem 96 7) 16922) = 0 → (((l_cmp (mem 96 7) 3288323) = 0 → sh_X g d m_Mod_isKept 219 [(0, (sh_r 96))] [] mem (sh_K m_Mod_isKept Q)) ∧ (¬ (l_cmp (mem 96 7) 3288323) = 0 → (((l_cmp (mem 96 7) 10631) = 0 → sh_X g d m_Mod_isKept 219 [(0, (sh_r 96))] [] mem (sh_K m_Mod_isKept Q)) ∧ (¬ (l_cmp (mem 96 7) 10631) = 0 → (((l_cmp (mem 96 7) 1111) = 0 → sh_X g d m_Mod_isKept 219 [(0, (sh_r 96))] [] mem (sh_K m_Mod_isKept Q)) ∧ (¬ (l_cmp (mem 96 7) 1111) = 0 → ((¬ (l_cmp (mem 96 7) 423) = 0 → Q (some (sh_i 0)) mem) ∧ ((l_cmp (mem 96 7) 423) = 0 → sh_X g d m_Mod_isKept 219 [(0, (sh_r 96))] [] mem (sh_K m_Mod_isKept Q)))))))))))))))))))))))))))))))))))))))) ∧ (¬ (i3 (mem 96 6)) = 1 → Q (some (sh_i 1)) mem))) : sh_Cal g d m_Mod_isKept [(sh_r 96)] mem Q := by
  refine sh_met (by decide +kernel) (Nat.le_of_ble_eq_true rfl) (lo := [(0, (sh_r 96))]) rfl ?_
  refine xr_aload_n (n := 0) (i := 0) rfl (List.mem_of_getElem? (i := 0) rfl) (by decide +kernel) ?_
  refine xr_getI rfl fl_Mod_166 (by decide) (by decide +kernel) ?_
  refine xr_iconst (n := 1) (by decide +kernel) ?_
  refine xr_icmp_eq (a' := (i3 (mem 96 6))) (b' := 1) rfl (by decide) (off := 5) (tgt := 10) (by decide) (by decide +kernel) ⟨fun c1 => ?_, fun c1 => ?_⟩
  · have k := k.1 c1
    refine xr_aload_n (n := 0) (i := 0) rfl (List.mem_of_getElem? (i := 0) rfl) (by decide +kernel) ?_
    refine xr_getL rfl fl_Mod_159 (by decide) (by decide +kernel) ?_
    refine xr_ldc2 (v := 2968) (by decide) kl_Mod_228 (by decide +kernel) ?_
    refine xr_lcmp (by decide +kernel) ?_
    refine xr_if_eq (a' := (l_cmp (mem 96 7) 2968)) (i3_nrm _) (off := 201) (tgt := 219) (by decide) (by decide +kernel) ⟨fun c2 => ?_, fun c2 => ?_⟩
    · have k := k.1 c2
      refine xr_sub (lo' := [(0, (sh_r 96))]) [0] rfl ?_
      exact k
    · have k := k.2 c2
      refine xr_aload_n (n := 0) (i := 0) rfl (List.mem_of_getElem? (i := 0) rfl) (by decide +kernel) ?_
      refine xr_getL rfl fl_Mod_159 (by decide) (by decide +kernel) ?_
      refine xr_ldc2 (v := 12532058) (by decide) kl_Mod_230 (by decide +kernel) ?_
      refine xr_lcmp (by decide +kernel) ?_
      refine xr_if_eq (a' := (l_cmp (mem 96 7) 12532058)) (i3_nrm _) (off := 190) (tgt := 219) (by decide) (by decide +kernel) ⟨fun c3 => ?_, fun c3 => ?_⟩
      · have k := k.1 c3
        refine xr_sub (lo' := [(0, (sh_r 96))]) [0] rfl ?_
        exact k
      · have k := k.2 c3
        refine xr_aload_n (n := 0) (i := 0) rfl (List.mem_of_getElem? (i := 0) rfl) (by decide +kernel) ?_
        refine xr_getL rfl fl_Mod_159 (by decide) (by decide +kernel) ?_
        refine xr_ldc2 (v := 4134649) (by decide) kl_Mod_232 (by decide +kernel) ?_
        refine xr_lcmp (by decide +kernel) ?_
        refine xr_if_eq (a' := (l_cmp (mem 96 7) 4134649)) (i3_nrm _) (off := 179) (tgt := 219) (by decide) (by decide +kernel) ⟨fun c4 => ?_, fun c4 => ?_⟩
        · have k := k.1 c4
          refine xr_sub (lo' := [(0, (sh_r 96))]) [0] rfl ?_
          exact k
        · have k := k.2 c4
          refine xr_aload_n (n := 0) (i := 0) rfl (List.mem_of_getElem? (i := 0) rfl) (by decide +kernel) ?_
          refine xr_getL rfl fl_Mod_159 (by decide) (by decide +kernel) ?_
          refine xr_ldc2 (v := 10792986) (by decide) kl_Mod_234 (by decide +kernel) ?_
          refine xr_lcmp (by decide +kernel) ?_
          refine xr_if_eq (a' := (l_cmp (mem 96 7) 10792986)) (i3_nrm _) (off := 168) (tgt := 219) (by decide) (by decide +kernel) ⟨fun c5 => ?_, fun c5 => ?_⟩
          · have k := k.1 c5
            refine xr_sub (lo' := [(0, (sh_r 96))]) [0] rfl ?_
            exact k
          · have k := k.2 c5
            refine xr_aload_n (n := 0) (i := 0) rfl (List.mem_of_getElem? (i := 0) rfl) (by decide +kernel) ?_
            refine xr_getL rfl fl_Mod_159 (by decide) (by decide +kernel) ?_
            refine xr_ldc2 (v := 10320789) (by decide) kl_Mod_236 (by decide +kernel) ?_
            refine xr_lcmp (by decide +kernel) ?_
            refine xr_if_eq (a' := (l_cmp (mem 96 7) 10320789)) (i3_nrm _) (off := 157) (tgt := 219) (by decide) (by decide +kernel) ⟨fun c6 => ?_, fun c6 => ?_⟩
            · have k := k.1 c6
              refine xr_sub (lo' := [(0, (sh_r 96))]) [0] rfl ?_
              exact k
            · have k := k.2 c6
              refine xr_aload_n (n := 0) (i := 0) rfl (List.mem_of_getElem? (i := 0) rfl) (by decide +kernel) ?_
              refine xr_getL rfl fl_Mod_159 (by decide) (by decide +kernel) ?_
              refine xr_ldc2 (v := 374798) (by decide) kl_Mod_238 (by decide +kernel) ?_
              refine xr_lcmp (by decide +kernel) ?_
              refine xr_if_eq (a' := (l_cmp (mem 96 7) 374798)) (i3_nrm _) (off := 146) (tgt := 219) (by decide) (by decide +kernel) ⟨fun c7 => ?_, fun c7 => ?_⟩
              · have k := k.1 c7
                refine xr_sub (lo' := [(0, (sh_r 96))]) [0] rfl ?_
                exact k
              · have k := k.2 c7
                refine xr_aload_n (n := 0) (i := 0) rfl (List.mem_of_getElem? (i := 0) rfl) (by decide +kernel) ?_
                refine xr_getL rfl fl_Mod_159 (by decide) (by decide +kernel) ?_
                refine xr_ldc2 (v := 316351) (by decide) kl_Mod_240 (by decide +kernel) ?_
                refine xr_lcmp (by decide +kernel) ?_
                refine xr_if_eq (a' := (l_cmp (mem 96 7) 316351)) (i3_nrm _) (off := 135) (tgt := 219) (by decide) (by decide +kernel) ⟨fun c8 => ?_, fun c8 => ?_⟩
                · have k := k.1 c8
                  refine xr_sub (lo' := [(0, (sh_r 96))]) [0] rfl ?_
                  exact k
                · have k := k.2 c8
                  refine xr_aload_n (n := 0) (i := 0) rfl (List.mem_of_getElem? (i := 0) rfl) (by decide +kernel) ?_
                  refine xr_getL rfl fl_Mod_159 (by decide) (by decide +kernel) ?_
                  refine xr_ldc2 (v := 7622660) (by decide) kl_Mod_242 (by decide +kernel) ?_
                  refine xr_lcmp (by decide +kernel) ?_
                  refine xr_if_eq (a' := (l_cmp (mem 96 7) 7622660)) (i3_nrm _) (off := 124) (tgt := 219) (by decide) (by decide +kernel) ⟨fun c9 => ?_, fun c9 => ?_⟩
                  · have k := k.1 c9
                    refine xr_sub (lo' := [(0, (sh_r 96))]) [0] rfl ?_
                    exact k
                  · have k := k.2 c9
                    refine xr_aload_n (n := 0) (i := 0) rfl (List.mem_of_getElem? (i := 0) rfl) (by decide +kernel) ?_
                    refine xr_getL rfl fl_Mod_159 (by decide) (by decide +kernel) ?_
                    refine xr_ldc2 (v := 10494723) (by decide) kl_Mod_244 (by decide +kernel) ?_
                    refine xr_lcmp (by decide +kernel) ?_
                    refine xr_if_eq (a' := (l_cmp (mem 96 7) 10494723)) (i3_nrm _) (off := 113) (tgt := 219) (by decide) (by decide +kernel) ⟨fun c10 => ?_, fun c10 => ?_⟩
                    · have k := k.1 c10
                      refine xr_sub (lo' := [(0, (sh_r 96))]) [0] rfl ?_
                      exact k
                    · have k := k.2 c10
                      refine xr_aload_n (n := 0) (i := 0) rfl (List.mem_of_getElem? (i := 0) rfl) (by decide +kernel) ?_
                      refine xr_getL rfl fl_Mod_159 (by decide) (by decide +kernel) ?_
                      refine xr_ldc2 (v := 377958) (by decide) kl_Mod_246 (by decide +kernel) ?_
                      refine xr_lcmp (by decide +kernel) ?_
                      refine xr_if_eq (a' := (l_cmp (mem 96 7) 377958)) (i3_nrm _) (off := 102) (tgt := 219) (by decide) (by decide +kernel) ⟨fun c11 => ?_, fun c11 => ?_⟩
                      · have k := k.1 c11
                        refine xr_sub (lo' := [(0, (sh_r 96))]) [0] rfl ?_
                        exact k
                      · have k := k.2 c11
                        refine xr_aload_n (n := 0) (i := 0) rfl (List.mem_of_getElem? (i := 0) rfl) (by decide +kernel) ?_
                        refine xr_getL rfl fl_Mod_159 (by decide) (by decide +kernel) ?_
                        refine xr_ldc2 (v := 10416334) (by decide) kl_Mod_248 (by decide +kernel) ?_
                        refine xr_lcmp (by decide +kernel) ?_
                        refine xr_if_eq (a' := (l_cmp (mem 96 7) 10416334)) (i3_nrm _) (off := 91) (tgt := 219) (by decide) (by decide +kernel) ⟨fun c12 => ?_, fun c12 => ?_⟩
                        · have k := k.1 c12
                          refine xr_sub (lo' := [(0, (sh_r 96))]) [0] rfl ?_
                          exact k
                        · have k := k.2 c12
                          refine xr_aload_n (n := 0) (i := 0) rfl (List.mem_of_getElem? (i := 0) rfl) (by decide +kernel) ?_
                          refine xr_getL rfl fl_Mod_159 (by decide) (by decide +kernel) ?_
                          refine xr_ldc2 (v := 390787) (by decide) kl_Mod_250 (by decide +kernel) ?_
                          refine xr_lcmp (by decide +kernel) ?_
                          refine xr_if_eq (a' := (l_cmp (mem 96 7) 390787)) (i3_nrm _) (off := 80) (tgt := 219) (by decide) (by decide +kernel) ⟨fun c13 => ?_, fun c13 => ?_⟩
                          · have k := k.1 c13
                            refine xr_sub (lo' := [(0, (sh_r 96))]) [0] rfl ?_
                            exact k
                          · have k := k.2 c13
                            refine xr_aload_n (n := 0) (i := 0) rfl (List.mem_of_getElem? (i := 0) rfl) (by decide +kernel) ?_
                            refine xr_getL rfl fl_Mod_159 (by decide) (by decide +kernel) ?_
                            refine xr_ldc2 (v := 8740238) (by decide) kl_Mod_252 (by decide +kernel) ?_
                            refine xr_lcmp (by decide +kernel) ?_
                            refine xr_if_eq (a' := (l_cmp (mem 96 7) 8740238)) (i3_nrm _) (off := 69) (tgt := 219) (by decide) (by decide +kernel) ⟨fun c14 => ?_, fun c14 => ?_⟩
                            · have k := k.1 c14
                              refine xr_sub (lo' := [(0, (sh_r 96))]) [0] rfl ?_
                              exact k
                            · have k := k.2 c14
                              refine xr_aload_n (n := 0) (i := 0) rfl (List.mem_of_getElem? (i := 0) rfl) (by decide +kernel) ?_
                              refine xr_getL rfl fl_Mod_159 (by decide) (by decide +kernel) ?_
                              refine xr_ldc2 (v := 284068024) (by decide) kl_Mod_254 (by decide +kernel) ?_
                              refine xr_lcmp (by decide +kernel) ?_
                              refine xr_if_eq (a' := (l_cmp (mem 96 7) 284068024)) (i3_nrm _) (off := 58) (tgt := 219) (by decide) (by decide +kernel) ⟨fun c15 => ?_, fun c15 => ?_⟩
                              · have k := k.1 c15
                                refine xr_sub (lo' := [(0, (sh_r 96))]) [0] rfl ?_
                                exact k
                              · have k := k.2 c15
                                refine xr_aload_n (n := 0) (i := 0) rfl (List.mem_of_getElem? (i := 0) rfl) (by decide +kernel) ?_
                                refine xr_getL rfl fl_Mod_159 (by decide) (by decide +kernel) ?_
                                refine xr_ldc2 (v := 16922) (by decide) kl_Mod_256 (by decide +kernel) ?_
                                refine xr_lcmp (by decide +kernel) ?_
                                refine xr_if_eq (a' := (l_cmp (mem 96 7) 16922)) (i3_nrm _) (off := 47) (tgt := 219) (by decide) (by decide +kernel) ⟨fun c16 => ?_, fun c16 => ?_⟩
                                · have k := k.1 c16
                                  refine xr_sub (lo' := [(0, (sh_r 96))]) [0] rfl ?_
                                  exact k
                                · have k := k.2 c16
                                  refine xr_aload_n (n := 0) (i := 0) rfl (List.mem_of_getElem? (i := 0) rfl) (by decide +kernel) ?_
                                  refine xr_getL rfl fl_Mod_159 (by decide) (by decide +kernel) ?_
                                  refine xr_ldc2 (v := 3288323) (by decide) kl_Mod_258 (by decide +kernel) ?_
                                  refine xr_lcmp (by decide +kernel) ?_
                                  refine xr_if_eq (a' := (l_cmp (mem 96 7) 3288323)) (i3_nrm _) (off := 36) (tgt := 219) (by decide) (by decide +kernel) ⟨fun c17 => ?_, fun c17 => ?_⟩
                                  · have k := k.1 c17
                                    refine xr_sub (lo' := [(0, (sh_r 96))]) [0] rfl ?_
                                    exact k
                                  · have k := k.2 c17
                                    refine xr_aload_n (n := 0) (i := 0) rfl (List.mem_of_getElem? (i := 0) rfl) (by decide +kernel) ?_
                                    refine xr_getL rfl fl_Mod_159 (by decide) (by decide +kernel) ?_
                                    refine xr_ldc2 (v := 10631) (by decide) kl_Mod_195 (by decide +kernel) ?_
                                    refine xr_lcmp (by decide +kernel) ?_
                                    refine xr_if_eq (a' := (l_cmp (mem 96 7) 10631)) (i3_nrm _) (off := 25) (tgt := 219) (by decide) (by decide +kernel) ⟨fun c18 => ?_, fun c18 => ?_⟩
                                    · have k := k.1 c18
                                      refine xr_sub (lo' := [(0, (sh_r 96))]) [0] rfl ?_
                                      exact k
                                    · have k := k.2 c18
                                      refine xr_aload_n (n := 0) (i := 0) rfl (List.mem_of_getElem? (i := 0) rfl) (by decide +kernel) ?_
                                      refine xr_getL rfl fl_Mod_159 (by decide) (by decide +kernel) ?_
                                      refine xr_ldc2 (v := 1111) (by decide) kl_Mod_215 (by decide +kernel) ?_
                                      refine xr_lcmp (by decide +kernel) ?_
                                      refine xr_if_eq (a' := (l_cmp (mem 96 7) 1111)) (i3_nrm _) (off := 14) (tgt := 219) (by decide) (by decide +kernel) ⟨fun c19 => ?_, fun c19 => ?_⟩
                                      · have k := k.1 c19
                                        refine xr_sub (lo' := [(0, (sh_r 96))]) [0] rfl ?_
                                        exact k
                                      · have k := k.2 c19
                                        refine xr_aload_n (n := 0) (i := 0) rfl (List.mem_of_getElem? (i := 0) rfl) (by decide +kernel) ?_
                                        refine xr_getL rfl fl_Mod_159 (by decide) (by decide +kernel) ?_
                                        refine xr_ldc2 (v := 423) (by decide) kl_Mod_217 (by decide +kernel) ?_
                                        refine xr_lcmp (by decide +kernel) ?_
                                        refine xr_if_ne (a' := (l_cmp (mem 96 7) 423)) (i3_nrm _) (off := 7) (tgt := 223) (by decide) (by decide +kernel) ⟨fun c20 => ?_, fun c20 => ?_⟩
                                        · have k := k.1 c20
                                          refine xr_iconst (n := 0) (by decide +kernel) ?_
                                          exact xr_zret rfl (by decide +kernel) (by decide) k
                                        · have k := k.2 c20
                                          refine xr_sub (lo' := [(0, (sh_r 96))]) [0] rfl ?_
                                          exact k
  · have k := k.2 c1
    refine xr_iconst (n := 1) (by decide +kernel) ?_
    exact xr_zret rfl (by decide +kernel) (by decide) k
theorem v_Mod_isKept_219 {g : sh_G} {d : Nat}   {mem : sh_Mem} {Q : Option sh_V → sh_Mem → Prop}   (k : Q (some (sh_i 1)) mem) : sh_X g d m_Mod_isKept 219 [(0, (sh_r 96))] [] mem (sh_K m_Mod_isKept Q) := by
  refine xr_iconst (n := 1) (by decide +kernel) ?_
  refine xr_goto (off := 4) (tgt := 224) (by decide) (by decide +kernel) ?_
  exact xr_zret rfl (by decide +kernel) (by decide) k

theorem v_Mod_namedIn {g : sh_G} {d : Nat} {namesa : Nat} {n_namesa : Nat} {fr : Nat} {many : Nat}  {mem : sh_Mem} {Q : Option sh_V → sh_Mem → Prop} (hnamesa : sh_shp namesa = some (.inr (1, n_namesa))) (k : sh_X g d m_Mod_namedIn 3 [(0, (sh_r 96)), (1, (sh_r namesa)), (2, (sh_i (fr : Int))), (3, (sh_i (many : Int))), (4, (sh_i (fr : Int)))] [] mem (sh_K m_Mod_namedIn Q)) : sh_Cal g d m_Mod_namedIn [(sh_r 96), (sh_r namesa), (sh_i (fr : Int)), (sh_i (many : Int))] mem Q := by
  refine sh_met (by decide +kernel) (Nat.le_of_ble_eq_true rfl) (lo := [(0, (sh_r 96)), (1, (sh_r namesa)), (2, (sh_i (fr : Int))), (3, (sh_i (many : Int)))]) rfl ?_
  refine xr_iload_n (n := 2) (i := 2) rfl (List.mem_of_getElem? (i := 2) rfl) (by decide +kernel) ?_
  refine xr_istore (i := 4) (by decide) rfl (by decide +kernel) ?_
  refine xr_sub (lo' := [(0, (sh_r 96)), (1, (sh_r namesa)), (2, (sh_i (fr : Int))), (3, (sh_i (many : Int))), (4, (sh_i (fr : Int)))]) [1, 2, 3, 4, 0] rfl ?_
  exact k
theorem v_Mod_namedIn_3 {g : sh_G} {d : Nat} {namesa : Nat} {n_namesa : Nat} {fr : Nat} {many : Nat}  {mem : sh_Mem} {Q : Option sh_V → sh_Mem → Prop} (hnamesa : sh_shp namesa = some (.inr (1, n_namesa))) {x4 : Nat} (k : (((i3 (((fr + many) : Nat) : Int)) ≤ (i3 (x4 : Int)) → Q (some (sh_i (-1))) mem) ∧ (¬ (i3 (((fr + many) : Nat) : Int)) ≤ (i3 (x4 : Int)) → (x4 < n_namesa ∧ ((¬ (l_cmp (mem namesa x4) (mem 96 7)) = 0 → sh_X g d m_Mod_namedIn 3 [(0, (sh_r 96)), (1, (sh_r namesa)), (2, (sh_i (fr : Int))), (3, (sh_i (many : Int))), (4, (sh_i (((x4 + 1) : Nat) : Int)))] [] mem (sh_K m_Mod_namedIn Q)) ∧ ((l_cmp (mem namesa x4) (mem 96 7)) = 0 → Q (some (sh_i ((x4 : Int) - (fr : Int)))) mem)))))) : sh_X g d m_Mod_namedIn 3 [(0, (sh_r 96)), (1, (sh_r namesa)), (2, (sh_i (fr : Int))), (3, (sh_i (many : Int))), (4, (sh_i (x4 : Int)))] [] mem (sh_K m_Mod_namedIn Q) := by
  refine xr_iload (i := 4) (List.mem_of_getElem? (i := 4) rfl) (by decide +kernel) ?_
  refine xr_iload_n (n := 2) (i := 2) rfl (List.mem_of_getElem? (i := 2) rfl) (by decide +kernel) ?_
  refine xr_iload_n (n := 3) (i := 3) rfl (List.mem_of_getElem? (i := 3) rfl) (by decide +kernel) ?_
  refine xr_iadd (by decide +kernel) ?_
  show sh_X g d m_Mod_namedIn _ _ ((sh_i (((fr + many) : Nat) : Int)) :: _) _ _
  refine xr_icmp_ge (a' := (i3 (x4 : Int))) (b' := (i3 (((fr + many) : Nat) : Int))) rfl rfl (off := 26) (tgt := 34) (by decide) (by decide +kernel) ⟨fun c1 => ?_, fun c1 => ?_⟩
  · have k := k.1 c1
    refine xr_iconst (n := (-1)) (by decide +kernel) ?_
    exact xr_iret rfl (by decide +kernel) k
  · have k := k.2 c1
    refine xr_aload_n (n := 1) (i := 1) rfl (List.mem_of_getElem? (i := 1) rfl) (by decide +kernel) ?_
    refine xr_iload (i := 4) (List.mem_of_getElem? (i := 4) rfl) (by decide +kernel) ?_
    obtain ⟨o, k⟩ := k
    refine xr_laldN (j := x4) rfl hnamesa o (by decide +kernel) ?_
    refine xr_aload_n (n := 0) (i := 0) rfl (List.mem_of_getElem? (i := 0) rfl) (by decide +kernel) ?_
    refine xr_getL rfl fl_Mod_159 (by decide) (by decide +kernel) ?_
    refine xr_lcmp (by decide +kernel) ?_
    refine xr_if_ne (a' := (l_cmp (mem namesa x4) (mem 96 7))) (i3_nrm _) (off := 8) (tgt := 28) (by decide) (by decide +kernel) ⟨fun c2 => ?_, fun c2 => ?_⟩
    · have k := k.1 c2
      refine xr_iinc (n := 1) (lo' := [(4, (sh_i (((x4 + 1) : Nat) : Int))), (0, (sh_r 96)), (1, (sh_r namesa)), (2, (sh_i (fr : Int))), (3, (sh_i (many : Int)))]) (List.mem_of_getElem? (i := 4) rfl) (by decide) rfl (by decide +kernel) ?_
      refine xr_goto (off := (-28)) (tgt := 3) (by decide) (by decide +kernel) ?_
      refine xr_sub (lo' := [(0, (sh_r 96)), (1, (sh_r namesa)), (2, (sh_i (fr : Int))), (3, (sh_i (many : Int))), (4, (sh_i (((x4 + 1) : Nat) : Int)))]) [1, 2, 3, 4, 0] rfl ?_
      exact k
    · have k := k.2 c2
      refine xr_iload (i := 4) (List.mem_of_getElem? (i := 4) rfl) (by decide +kernel) ?_
      refine xr_iload_n (n := 2) (i := 2) rfl (List.mem_of_getElem? (i := 2) rfl) (by decide +kernel) ?_
      refine xr_isub (by decide +kernel) ?_
      show sh_X g d m_Mod_namedIn _ _ ((sh_i ((x4 : Int) - (fr : Int))) :: _) _ _
      exact xr_iret rfl (by decide +kernel) k

theorem v_Mod_dayNamed {g : sh_G} {d : Nat} {r : Nat}  {mem : sh_Mem} {Q : Option sh_V → sh_Mem → Prop}  (k : (((2 * r) + 0) < 4 ∧ (sh_Cal g d m_Mod_namedIn [(sh_r 96), (sh_r 99), (sh_i (((8 * r) : Nat) : Int)), (sh_i (mem 98 ((2 * r) + 0)))] mem fun rv m1 => ∃ r1 : Int, rv = some (sh_i r1) ∧ Q (some (sh_i r1)) m1))) : sh_Cal g (d + 1) m_Mod_dayNamed [(sh_r 96), (sh_i (r : Int))] mem Q := by
  refine sh_met (by decide +kernel) (Nat.le_of_ble_eq_true rfl) (lo := [(0, (sh_r 96)), (1, (sh_i (r : Int)))]) rfl ?_
  refine xr_aload_n (n := 0) (i := 0) rfl (List.mem_of_getElem? (i := 0) rfl) (by decide +kernel) ?_
  refine xr_aload_n (n := 0) (i := 0) rfl (List.mem_of_getElem? (i := 0) rfl) (by decide +kernel) ?_
  refine xr_getR (o := 3) rfl fl_Mod_16 rfl (by decide +kernel) ?_
  show sh_X g (d + 1) m_Mod_dayNamed _ _ ((sh_r 99) :: _) _ _
  refine xr_bipush (n := 8) (v := 8) (by decide) (by decide +kernel) ?_
  refine xr_iload_n (n := 1) (i := 1) rfl (List.mem_of_getElem? (i := 1) rfl) (by decide +kernel) ?_
  refine xr_imul (by decide +kernel) ?_
  show sh_X g (d + 1) m_Mod_dayNamed _ _ ((sh_i (((8 * r) : Nat) : Int)) :: _) _ _
  refine xr_aload_n (n := 0) (i := 0) rfl (List.mem_of_getElem? (i := 0) rfl) (by decide +kernel) ?_
  refine xr_getR (o := 2) rfl fl_Mod_13 rfl (by decide +kernel) ?_
  show sh_X g (d + 1) m_Mod_dayNamed _ _ ((sh_r 98) :: _) _ _
  refine xr_iconst (n := 2) (by decide +kernel) ?_
  refine xr_iload_n (n := 1) (i := 1) rfl (List.mem_of_getElem? (i := 1) rfl) (by decide +kernel) ?_
  refine xr_imul (by decide +kernel) ?_
  show sh_X g (d + 1) m_Mod_dayNamed _ _ ((sh_i (((2 * r) : Nat) : Int)) :: _) _ _
  refine xr_iconst (n := 0) (by decide +kernel) ?_
  refine xr_iadd (by decide +kernel) ?_
  show sh_X g (d + 1) m_Mod_dayNamed _ _ ((sh_i ((((2 * r) + 0) : Nat) : Int)) :: _) _ _
  obtain ⟨o, k⟩ := k
  refine xr_ialdN (j := ((2 * r) + 0)) rfl rfl o (by decide +kernel) ?_
  refine xr_callV (av := [(sh_r 99), (sh_i (((8 * r) : Nat) : Int)), (sh_i (mem 98 ((2 * r) + 0)))]) rfl rfl rfl mo_Mod_namedIn ml_Mod_260 im_Mod_namedIn se_Mod_namedIn rfl (Nat.le_of_ble_eq_true rfl) (by decide +kernel) (sh_mono k ?_)
  rintro rv m1 ⟨r1, rfl, k⟩
  show sh_X g (d + 1) m_Mod_dayNamed _ _ [(sh_i r1)] _ _
  exact xr_iret rfl (by decide +kernel) k

theorem v_Mod_thiefNamed {g : sh_G} {d : Nat} {r : Nat}  {mem : sh_Mem} {Q : Option sh_V → sh_Mem → Prop}  (k : (((2 * r) + 1) < 4 ∧ (sh_Cal g d m_Mod_namedIn [(sh_r 96), (sh_r 100), (sh_i (((4 * r) : Nat) : Int)), (sh_i (mem 98 ((2 * r) + 1)))] mem fun rv m1 => ∃ r1 : Int, rv = some (sh_i r1) ∧ Q (some (sh_i r1)) m1))) : sh_Cal g (d + 1) m_Mod_thiefNamed [(sh_r 96), (sh_i (r : Int))] mem Q := by
  refine sh_met (by decide +kernel) (Nat.le_of_ble_eq_true rfl) (lo := [(0, (sh_r 96)), (1, (sh_i (r : Int)))]) rfl ?_
  refine xr_aload_n (n := 0) (i := 0) rfl (List.mem_of_getElem? (i := 0) rfl) (by decide +kernel) ?_
  refine xr_aload_n (n := 0) (i := 0) rfl (List.mem_of_getElem? (i := 0) rfl) (by decide +kernel) ?_
  refine xr_getR (o := 4) rfl fl_Mod_20 rfl (by decide +kernel) ?_
  show sh_X g (d + 1) m_Mod_thiefNamed _ _ ((sh_r 100) :: _) _ _
  refine xr_iconst (n := 4) (by decide +kernel) ?_
  refine xr_iload_n (n := 1) (i := 1) rfl (List.mem_of_getElem? (i := 1) rfl) (by decide +kernel) ?_
  refine xr_imul (by decide +kernel) ?_
  show sh_X g (d + 1) m_Mod_thiefNamed _ _ ((sh_i (((4 * r) : Nat) : Int)) :: _) _ _
  refine xr_aload_n (n := 0) (i := 0) rfl (List.mem_of_getElem? (i := 0) rfl) (by decide +kernel) ?_
  refine xr_getR (o := 2) rfl fl_Mod_13 rfl (by decide +kernel) ?_
  show sh_X g (d + 1) m_Mod_thiefNamed _ _ ((sh_r 98) :: _) _ _
  refine xr_iconst (n := 2) (by decide +kernel) ?_
  refine xr_iload_n (n := 1) (i := 1) rfl (List.mem_of_getElem? (i := 1) rfl) (by decide +kernel) ?_
  refine xr_imul (by decide +kernel) ?_
  show sh_X g (d + 1) m_Mod_thiefNamed _ _ ((sh_i (((2 * r) : Nat) : Int)) :: _) _ _
  refine xr_iconst (n := 1) (by decide +kernel) ?_
  refine xr_iadd (by decide +kernel) ?_
  show sh_X g (d + 1) m_Mod_thiefNamed _ _ ((sh_i ((((2 * r) + 1) : Nat) : Int)) :: _) _ _
  obtain ⟨o, k⟩ := k
  refine xr_ialdN (j := ((2 * r) + 1)) rfl rfl o (by decide +kernel) ?_
  refine xr_callV (av := [(sh_r 100), (sh_i (((4 * r) : Nat) : Int)), (sh_i (mem 98 ((2 * r) + 1)))]) rfl rfl rfl mo_Mod_namedIn ml_Mod_260 im_Mod_namedIn se_Mod_namedIn rfl (Nat.le_of_ble_eq_true rfl) (by decide +kernel) (sh_mono k ?_)
  rintro rv m1 ⟨r1, rfl, k⟩
  show sh_X g (d + 1) m_Mod_thiefNamed _ _ [(sh_i r1)] _ _
  exact xr_iret rfl (by decide +kernel) k

theorem v_Mod_needsNumber {g : sh_G} {d : Nat} {least0 : Int} {most0 : Int}  {mem : sh_Mem} {Q : Option sh_V → sh_Mem → Prop}  (k : (((i3 (mem 96 6)) = 2 → (sh_Cal g d m_Mod_within [(sh_i (mem 96 8)), (sh_i least0), (sh_i most0)] mem fun rv m1 => ∃ r1 : Int, rv = some (sh_i r1) ∧ ((¬ (i3 r1) = 0 → (∀ m2 : sh_Mem, m2 = ms m1 96 (ru (m1 96) 34 (m1 96 8)) → (sh_Cal g d m_Mod_nextToken [(sh_r 96)] m2 fun rv m3 => rv = none ∧ Q (some (sh_i 1)) m3))) ∧ ((i3 r1) = 0 → (sh_Cal g d m_Mod_fails [(sh_r 96), (sh_i 4)] m1 fun rv m4 => ∃ r2 : Int, rv = some (sh_i r2) ∧ ((r2 = 0 ∨ r2 = 1) ∧ Q (some (sh_i r2)) m4)))))) ∧ (¬ (i3 (mem 96 6)) = 2 → (sh_Cal g d m_Mod_fails [(sh_r 96), (sh_i 1)] mem fun rv m5 => ∃ r3 : Int, rv = some (sh_i r3) ∧ ((r3 = 0 ∨ r3 = 1) ∧ Q (some (sh_i r3)) m5))))) : sh_Cal g (d + 1) m_Mod_needsNumber [(sh_r 96), (sh_i least0), (sh_i most0)] mem Q := by
  refine sh_met (by decide +kernel) (Nat.le_of_ble_eq_true rfl) (lo := [(0, (sh_r 96)), (1, (sh_i least0)), (2, (sh_i most0))]) rfl ?_
  refine xr_aload_n (n := 0) (i := 0) rfl (List.mem_of_getElem? (i := 0) rfl) (by decide +kernel) ?_
  refine xr_getI rfl fl_Mod_166 (by decide) (by decide +kernel) ?_
  refine xr_iconst (n := 2) (by decide +kernel) ?_
  refine xr_icmp_eq (a' := (i3 (mem 96 6))) (b' := 2) rfl (by decide) (off := 9) (tgt := 14) (by decide) (by decide +kernel) ⟨fun c1 => ?_, fun c1 => ?_⟩
  · have k := k.1 c1
    refine xr_aload_n (n := 0) (i := 0) rfl (List.mem_of_getElem? (i := 0) rfl) (by decide +kernel) ?_
    refine xr_getI rfl fl_Mod_163 (by decide) (by decide +kernel) ?_
    refine xr_iload_n (n := 1) (i := 1) rfl (List.mem_of_getElem? (i := 1) rfl) (by decide +kernel) ?_
    refine xr_iload_n (n := 2) (i := 2) rfl (List.mem_of_getElem? (i := 2) rfl) (by decide +kernel) ?_
    refine xr_callS (av := [(sh_i (mem 96 8)), (sh_i least0), (sh_i most0)]) mo_Mod_within ml_Mod_264 sa_Mod_within rfl (Nat.le_of_ble_eq_true rfl) (by decide +kernel) (sh_mono k ?_)
    rintro rv m1 ⟨r1, rfl, k⟩
    show sh_X g (d + 1) m_Mod_needsNumber _ _ [(sh_i r1)] _ _
    refine xr_if_ne (a' := (i3 r1)) rfl (off := 9) (tgt := 32) (by decide) (by decide +kernel) ⟨fun c2 => ?_, fun c2 => ?_⟩
    · have k := k.1 c2
      refine xr_aload_n (n := 0) (i := 0) rfl (List.mem_of_getElem? (i := 0) rfl) (by decide +kernel) ?_
      refine xr_aload_n (n := 0) (i := 0) rfl (List.mem_of_getElem? (i := 0) rfl) (by decide +kernel) ?_
      refine xr_getI rfl fl_Mod_163 (by decide) (by decide +kernel) ?_
      refine xr_putI rfl pl_Mod_268 rfl (by decide +kernel) ?_
      have k := k _ rfl
      generalize hg_m2 : ms m1 96 (ru (m1 96) 34 (m1 96 8)) = m2 at k ⊢
      refine xr_aload_n (n := 0) (i := 0) rfl (List.mem_of_getElem? (i := 0) rfl) (by decide +kernel) ?_
      refine xr_callV (av := []) rfl rfl rfl mo_Mod_nextToken ml_Mod_212 im_Mod_nextToken se_Mod_nextToken rfl (Nat.le_of_ble_eq_true rfl) (by decide +kernel) (sh_mono k ?_)
      rintro rv m3 ⟨rfl, k⟩
      show sh_X g (d + 1) m_Mod_needsNumber _ _ [] _ _
      refine xr_iconst (n := 1) (by decide +kernel) ?_
      exact xr_zret rfl (by decide +kernel) (by decide) k
    · have k := k.2 c2
      refine xr_aload_n (n := 0) (i := 0) rfl (List.mem_of_getElem? (i := 0) rfl) (by decide +kernel) ?_
      refine xr_iconst (n := 4) (by decide +kernel) ?_
      refine xr_callV (av := [(sh_i 4)]) rfl rfl rfl mo_Mod_fails ml_Mod_205 im_Mod_fails se_Mod_fails rfl (Nat.le_of_ble_eq_true rfl) (by decide +kernel) (sh_mono k ?_)
      rintro rv m4 ⟨r2, rfl, k⟩
      show sh_X g (d + 1) m_Mod_needsNumber _ _ [(sh_i r2)] _ _
      exact xr_zret rfl (by decide +kernel) k.1 k.2
  · have k := k.2 c1
    refine xr_aload_n (n := 0) (i := 0) rfl (List.mem_of_getElem? (i := 0) rfl) (by decide +kernel) ?_
    refine xr_iconst (n := 1) (by decide +kernel) ?_
    refine xr_callV (av := [(sh_i 1)]) rfl rfl rfl mo_Mod_fails ml_Mod_205 im_Mod_fails se_Mod_fails rfl (Nat.le_of_ble_eq_true rfl) (by decide +kernel) (sh_mono k ?_)
    rintro rv m5 ⟨r3, rfl, k⟩
    show sh_X g (d + 1) m_Mod_needsNumber _ _ [(sh_i r3)] _ _
    exact xr_zret rfl (by decide +kernel) k.1 k.2

theorem v_Mod_needsBoth {g : sh_G} {d : Nat} {ww : Int} {least0 : Int} {most0 : Int}  {mem : sh_Mem} {Q : Option sh_V → sh_Mem → Prop}  (k : (sh_Cal g d m_Mod_isWord [(sh_r 96), (sh_l ww)] mem fun rv m1 => ∃ r1 : Int, rv = some (sh_i r1) ∧ ((¬ (i3 r1) = 0 → (sh_Cal g d m_Mod_nextToken [(sh_r 96)] m1 fun rv m2 => rv = none ∧ (sh_Cal g d m_Mod_needsNumber [(sh_r 96), (sh_i least0), (sh_i most0)] m2 fun rv m3 => ∃ r2 : Int, rv = some (sh_i r2) ∧ ((r2 = 0 ∨ r2 = 1) ∧ Q (some (sh_i r2)) m3)))) ∧ ((i3 r1) = 0 → (sh_Cal g d m_Mod_fails [(sh_r 96), (sh_i 1)] m1 fun rv m4 => ∃ r3 : Int, rv = some (sh_i r3) ∧ ((r3 = 0 ∨ r3 = 1) ∧ Q (some (sh_i r3)) m4)))))) : sh_Cal g (d + 1) m_Mod_needsBoth [(sh_r 96), (sh_l ww), (sh_i least0), (sh_i most0)] mem Q := by
  refine sh_met (by decide +kernel) (Nat.le_of_ble_eq_true rfl) (lo := [(0, (sh_r 96)), (1, (sh_l ww)), (3, (sh_i least0)), (4, (sh_i most0))]) rfl ?_
  refine xr_aload_n (n := 0) (i := 0) rfl (List.mem_of_getElem? (i := 0) rfl) (by decide +kernel) ?_
  refine xr_lload_n (n := 1) (i := 1) rfl (List.mem_of_getElem? (i := 1) rfl) (by decide +kernel) ?_
  refine xr_callV (av := [(sh_l ww)]) rfl rfl rfl mo_Mod_isWord ml_Mod_197 im_Mod_isWord se_Mod_isWord rfl (Nat.le_of_ble_eq_true rfl) (by decide +kernel) (sh_mono k ?_)
  rintro rv m1 ⟨r1, rfl, k⟩
  show sh_X g (d + 1) m_Mod_needsBoth _ _ [(sh_i r1)] _ _
  refine xr_if_ne (a' := (i3 r1)) rfl (off := 9) (tgt := 14) (by decide) (by decide +kernel) ⟨fun c1 => ?_, fun c1 => ?_⟩
  · have k := k.1 c1
    refine xr_aload_n (n := 0) (i := 0) rfl (List.mem_of_getElem? (i := 0) rfl) (by decide +kernel) ?_
    refine xr_callV (av := []) rfl rfl rfl mo_Mod_nextToken ml_Mod_212 im_Mod_nextToken se_Mod_nextToken rfl (Nat.le_of_ble_eq_true rfl) (by decide +kernel) (sh_mono k ?_)
    rintro rv m2 ⟨rfl, k⟩
    show sh_X g (d + 1) m_Mod_needsBoth _ _ [] _ _
    refine xr_aload_n (n := 0) (i := 0) rfl (List.mem_of_getElem? (i := 0) rfl) (by decide +kernel) ?_
    refine xr_iload_n (n := 3) (i := 3) rfl (List.mem_of_getElem? (i := 2) rfl) (by decide +kernel) ?_
    refine xr_iload (i := 4) (List.mem_of_getElem? (i := 3) rfl) (by decide +kernel) ?_
    refine xr_callV (av := [(sh_i least0), (sh_i most0)]) rfl rfl rfl mo_Mod_needsNumber ml_Mod_271 im_Mod_needsNumber se_Mod_needsNumber rfl (Nat.le_of_ble_eq_true rfl) (by decide +kernel) (sh_mono k ?_)
    rintro rv m3 ⟨r2, rfl, k⟩
    show sh_X g (d + 1) m_Mod_needsBoth _ _ [(sh_i r2)] _ _
    exact xr_zret rfl (by decide +kernel) k.1 k.2
  · have k := k.2 c1
    refine xr_aload_n (n := 0) (i := 0) rfl (List.mem_of_getElem? (i := 0) rfl) (by decide +kernel) ?_
    refine xr_iconst (n := 1) (by decide +kernel) ?_
    refine xr_callV (av := [(sh_i 1)]) rfl rfl rfl mo_Mod_fails ml_Mod_205 im_Mod_fails se_Mod_fails rfl (Nat.le_of_ble_eq_true rfl) (by decide +kernel) (sh_mono k ?_)
    rintro rv m4 ⟨r3, rfl, k⟩
    show sh_X g (d + 1) m_Mod_needsBoth _ _ [(sh_i r3)] _ _
    exact xr_zret rfl (by decide +kernel) k.1 k.2

theorem v_Mod_closes {g : sh_G} {d : Nat}   {mem : sh_Mem} {Q : Option sh_V → sh_Mem → Prop}  (k : (sh_Cal g d m_Mod_isSign [(sh_r 96), (sh_i 59)] mem fun rv m1 => ∃ r1 : Int, rv = some (sh_i r1) ∧ ((¬ (i3 r1) = 0 → (sh_Cal g d m_Mod_nextToken [(sh_r 96)] m1 fun rv m2 => rv = none ∧ Q (some (sh_i 1)) m2)) ∧ ((i3 r1) = 0 → (sh_Cal g d m_Mod_fails [(sh_r 96), (sh_i 1)] m1 fun rv m3 => ∃ r2 : Int, rv = some (sh_i r2) ∧ ((r2 = 0 ∨ r2 = 1) ∧ Q (some (sh_i r2)) m3)))))) : sh_Cal g (d + 1) m_Mod_closes [(sh_r 96)] mem Q := by
  refine sh_met (by decide +kernel) (Nat.le_of_ble_eq_true rfl) (lo := [(0, (sh_r 96))]) rfl ?_
  refine xr_aload_n (n := 0) (i := 0) rfl (List.mem_of_getElem? (i := 0) rfl) (by decide +kernel) ?_
  refine xr_bipush (n := 59) (v := 59) (by decide) (by decide +kernel) ?_
  refine xr_callV (av := [(sh_i 59)]) rfl rfl rfl mo_Mod_isSign ml_Mod_201 im_Mod_isSign se_Mod_isSign rfl (Nat.le_of_ble_eq_true rfl) (by decide +kernel) (sh_mono k ?_)
  rintro rv m1 ⟨r1, rfl, k⟩
  show sh_X g (d + 1) m_Mod_closes _ _ [(sh_i r1)] _ _
  refine xr_if_ne (a' := (i3 r1)) rfl (off := 9) (tgt := 15) (by decide) (by decide +kernel) ⟨fun c1 => ?_, fun c1 => ?_⟩
  · have k := k.1 c1
    refine xr_aload_n (n := 0) (i := 0) rfl (List.mem_of_getElem? (i := 0) rfl) (by decide +kernel) ?_
    refine xr_callV (av := []) rfl rfl rfl mo_Mod_nextToken ml_Mod_212 im_Mod_nextToken se_Mod_nextToken rfl (Nat.le_of_ble_eq_true rfl) (by decide +kernel) (sh_mono k ?_)
    rintro rv m2 ⟨rfl, k⟩
    show sh_X g (d + 1) m_Mod_closes _ _ [] _ _
    refine xr_iconst (n := 1) (by decide +kernel) ?_
    exact xr_zret rfl (by decide +kernel) (by decide) k
  · have k := k.2 c1
    refine xr_aload_n (n := 0) (i := 0) rfl (List.mem_of_getElem? (i := 0) rfl) (by decide +kernel) ?_
    refine xr_iconst (n := 1) (by decide +kernel) ?_
    refine xr_callV (av := [(sh_i 1)]) rfl rfl rfl mo_Mod_fails ml_Mod_205 im_Mod_fails se_Mod_fails rfl (Nat.le_of_ble_eq_true rfl) (by decide +kernel) (sh_mono k ?_)
    rintro rv m3 ⟨r2, rfl, k⟩
    show sh_X g (d + 1) m_Mod_closes _ _ [(sh_i r2)] _ _
    exact xr_zret rfl (by decide +kernel) k.1 k.2

theorem v_Mod_needsNew {g : sh_G} {d : Nat}   {mem : sh_Mem} {Q : Option sh_V → sh_Mem → Prop}  (k : (sh_Cal g d m_Mod_isKept [(sh_r 96)] mem fun rv m1 => ∃ r1 : Int, rv = some (sh_i r1) ∧ (((i3 r1) = 0 → (sh_Cal g d m_Mod_dayNamed [(sh_r 96), (sh_i 1)] m1 fun rv m2 => ∃ r2 : Int, rv = some (sh_i r2) ∧ ((0 ≤ (i3 r2) → (sh_Cal g d m_Mod_fails [(sh_r 96), (sh_i 3)] m2 fun rv m3 => ∃ r3 : Int, rv = some (sh_i r3) ∧ ((r3 = 0 ∨ r3 = 1) ∧ Q (some (sh_i r3)) m3))) ∧ (¬ 0 ≤ (i3 r2) → (sh_Cal g d m_Mod_thiefNamed [(sh_r 96), (sh_i 1)] m2 fun rv m4 => ∃ r4 : Int, rv = some (sh_i r4) ∧ (((i3 r4) < 0 → (∀ m5 : sh_Mem, m5 = ms m4 96 (ru (m4 96) 35 (m4 96 7)) → (sh_Cal g d m_Mod_nextToken [(sh_r 96)] m5 fun rv m6 => rv = none ∧ Q (some (sh_i 1)) m6))) ∧ (¬ (i3 r4) < 0 → (sh_Cal g d m_Mod_fails [(sh_r 96), (sh_i 3)] m4 fun rv m7 => ∃ r5 : Int, rv = some (sh_i r5) ∧ ((r5 = 0 ∨ r5 = 1) ∧ Q (some (sh_i r5)) m7))))))))) ∧ (¬ (i3 r1) = 0 → (sh_Cal g d m_Mod_fails [(sh_r 96), (sh_i 1)] m1 fun rv m8 => ∃ r6 : Int, rv = some (sh_i r6) ∧ ((r6 = 0 ∨ r6 = 1) ∧ Q (some (sh_i r6)) m8)))))) : sh_Cal g (d + 1) m_Mod_needsNew [(sh_r 96)] mem Q := by
  refine sh_met (by decide +kernel) (Nat.le_of_ble_eq_true rfl) (lo := [(0, (sh_r 96))]) rfl ?_
  refine xr_aload_n (n := 0) (i := 0) rfl (List.mem_of_getElem? (i := 0) rfl) (by decide +kernel) ?_
  refine xr_callV (av := []) rfl rfl rfl mo_Mod_isKept ml_Mod_275 im_Mod_isKept se_Mod_isKept rfl (Nat.le_of_ble_eq_true rfl) (by decide +kernel) (sh_mono k ?_)
  rintro rv m1 ⟨r1, rfl, k⟩
  show sh_X g (d + 1) m_Mod_needsNew _ _ [(sh_i r1)] _ _
  refine xr_if_eq (a' := (i3 r1)) rfl (off := 9) (tgt := 13) (by decide) (by decide +kernel) ⟨fun c1 => ?_, fun c1 => ?_⟩
  · have k := k.1 c1
    refine xr_aload_n (n := 0) (i := 0) rfl (List.mem_of_getElem? (i := 0) rfl) (by decide +kernel) ?_
    refine xr_iconst (n := 1) (by decide +kernel) ?_
    refine xr_callV (av := [(sh_i 1)]) rfl rfl rfl mo_Mod_dayNamed ml_Mod_279 im_Mod_dayNamed se_Mod_dayNamed rfl (Nat.le_of_ble_eq_true rfl) (by decide +kernel) (sh_mono k ?_)
    rintro rv m2 ⟨r2, rfl, k⟩
    show sh_X g (d + 1) m_Mod_needsNew _ _ [(sh_i r2)] _ _
    refine xr_if_ge (a' := (i3 r2)) rfl (off := 11) (tgt := 29) (by decide) (by decide +kernel) ⟨fun c2 => ?_, fun c2 => ?_⟩
    · have k := k.1 c2
      refine xr_aload_n (n := 0) (i := 0) rfl (List.mem_of_getElem? (i := 0) rfl) (by decide +kernel) ?_
      refine xr_iconst (n := 3) (by decide +kernel) ?_
      refine xr_callV (av := [(sh_i 3)]) rfl rfl rfl mo_Mod_fails ml_Mod_205 im_Mod_fails se_Mod_fails rfl (Nat.le_of_ble_eq_true rfl) (by decide +kernel) (sh_mono k ?_)
      rintro rv m3 ⟨r3, rfl, k⟩
      show sh_X g (d + 1) m_Mod_needsNew _ _ [(sh_i r3)] _ _
      exact xr_zret rfl (by decide +kernel) k.1 k.2
    · have k := k.2 c2
      refine xr_aload_n (n := 0) (i := 0) rfl (List.mem_of_getElem? (i := 0) rfl) (by decide +kernel) ?_
      refine xr_iconst (n := 1) (by decide +kernel) ?_
      refine xr_callV (av := [(sh_i 1)]) rfl rfl rfl mo_Mod_thiefNamed ml_Mod_282 im_Mod_thiefNamed se_Mod_thiefNamed rfl (Nat.le_of_ble_eq_true rfl) (by decide +kernel) (sh_mono k ?_)
      rintro rv m4 ⟨r4, rfl, k⟩
      show sh_X g (d + 1) m_Mod_needsNew _ _ [(sh_i r4)] _ _
      refine xr_if_lt (a' := (i3 r4)) rfl (off := 9) (tgt := 35) (by decide) (by decide +kernel) ⟨fun c3 => ?_, fun c3 => ?_⟩
      · have k := k.1 c3
        refine xr_aload_n (n := 0) (i := 0) rfl (List.mem_of_getElem? (i := 0) rfl) (by decide +kernel) ?_
        refine xr_aload_n (n := 0) (i := 0) rfl (List.mem_of_getElem? (i := 0) rfl) (by decide +kernel) ?_
        refine xr_getL rfl fl_Mod_159 (by decide) (by decide +kernel) ?_
        refine xr_putL rfl pl_Mod_285 rfl (by decide +kernel) ?_
        have k := k _ rfl
        generalize hg_m5 : ms m4 96 (ru (m4 96) 35 (m4 96 7)) = m5 at k ⊢
        refine xr_aload_n (n := 0) (i := 0) rfl (List.mem_of_getElem? (i := 0) rfl) (by decide +kernel) ?_
        refine xr_callV (av := []) rfl rfl rfl mo_Mod_nextToken ml_Mod_212 im_Mod_nextToken se_Mod_nextToken rfl (Nat.le_of_ble_eq_true rfl) (by decide +kernel) (sh_mono k ?_)
        rintro rv m6 ⟨rfl, k⟩
        show sh_X g (d + 1) m_Mod_needsNew _ _ [] _ _
        refine xr_iconst (n := 1) (by decide +kernel) ?_
        exact xr_zret rfl (by decide +kernel) (by decide) k
      · have k := k.2 c3
        refine xr_aload_n (n := 0) (i := 0) rfl (List.mem_of_getElem? (i := 0) rfl) (by decide +kernel) ?_
        refine xr_iconst (n := 3) (by decide +kernel) ?_
        refine xr_callV (av := [(sh_i 3)]) rfl rfl rfl mo_Mod_fails ml_Mod_205 im_Mod_fails se_Mod_fails rfl (Nat.le_of_ble_eq_true rfl) (by decide +kernel) (sh_mono k ?_)
        rintro rv m7 ⟨r5, rfl, k⟩
        show sh_X g (d + 1) m_Mod_needsNew _ _ [(sh_i r5)] _ _
        exact xr_zret rfl (by decide +kernel) k.1 k.2
  · have k := k.2 c1
    refine xr_aload_n (n := 0) (i := 0) rfl (List.mem_of_getElem? (i := 0) rfl) (by decide +kernel) ?_
    refine xr_iconst (n := 1) (by decide +kernel) ?_
    refine xr_callV (av := [(sh_i 1)]) rfl rfl rfl mo_Mod_fails ml_Mod_205 im_Mod_fails se_Mod_fails rfl (Nat.le_of_ble_eq_true rfl) (by decide +kernel) (sh_mono k ?_)
    rintro rv m8 ⟨r6, rfl, k⟩
    show sh_X g (d + 1) m_Mod_needsNew _ _ [(sh_i r6)] _ _
    exact xr_zret rfl (by decide +kernel) k.1 k.2

theorem v_Mod_isFound {g : sh_G} {d : Nat} {found : Int}  {mem : sh_Mem} {Q : Option sh_V → sh_Mem → Prop}  (k : (sh_Cal g d m_Mod_isKept [(sh_r 96)] mem fun rv m1 => ∃ r1 : Int, rv = some (sh_i r1) ∧ (((i3 r1) = 0 → (∀ m2 : sh_Mem, m2 = ms m1 96 (ru (m1 96) 34 found) → ((0 ≤ (i3 (m2 96 34)) → Q (some (sh_i 1)) m2) ∧ (¬ 0 ≤ (i3 (m2 96 34)) → (sh_Cal g d m_Mod_fails [(sh_r 96), (sh_i 2)] m2 fun rv m3 => ∃ r2 : Int, rv = some (sh_i r2) ∧ (((i3 r2) = 0 → Q (some (sh_i 0)) m3) ∧ (¬ (i3 r2) = 0 → Q (some (sh_i 1)) m3))))))) ∧ (¬ (i3 r1) = 0 → (sh_Cal g d m_Mod_fails [(sh_r 96), (sh_i 1)] m1 fun rv m4 => ∃ r3 : Int, rv = some (sh_i r3) ∧ ((r3 = 0 ∨ r3 = 1) ∧ Q (some (sh_i r3)) m4)))))) : sh_Cal g (d + 1) m_Mod_isFound [(sh_r 96), (sh_i found)] mem Q := by
  refine sh_met (by decide +kernel) (Nat.le_of_ble_eq_true rfl) (lo := [(0, (sh_r 96)), (1, (sh_i found))]) rfl ?_
  refine xr_aload_n (n := 0) (i := 0) rfl (List.mem_of_getElem? (i := 0) rfl) (by decide +kernel) ?_
  refine xr_callV (av := []) rfl rfl rfl mo_Mod_isKept ml_Mod_275 im_Mod_isKept se_Mod_isKept rfl (Nat.le_of_ble_eq_true rfl) (by decide +kernel) (sh_mono k ?_)
  rintro rv m1 ⟨r1, rfl, k⟩
  show sh_X g (d + 1) m_Mod_isFound _ _ [(sh_i r1)] _ _
  refine xr_if_eq (a' := (i3 r1)) rfl (off := 9) (tgt := 13) (by decide) (by decide +kernel) ⟨fun c1 => ?_, fun c1 => ?_⟩
  · have k := k.1 c1
    refine xr_aload_n (n := 0) (i := 0) rfl (List.mem_of_getElem? (i := 0) rfl) (by decide +kernel) ?_
    refine xr_iload_n (n := 1) (i := 1) rfl (List.mem_of_getElem? (i := 1) rfl) (by decide +kernel) ?_
    refine xr_putI rfl pl_Mod_268 rfl (by decide +kernel) ?_
    have k := k _ rfl
    generalize hg_m2 : ms m1 96 (ru (m1 96) 34 found) = m2 at k ⊢
    refine xr_aload_n (n := 0) (i := 0) rfl (List.mem_of_getElem? (i := 0) rfl) (by decide +kernel) ?_
    refine xr_getI rfl fl_Mod_268 (by decide) (by decide +kernel) ?_
    refine xr_if_ge (a' := (i3 (m2 96 34))) rfl (off := 11) (tgt := 33) (by decide) (by decide +kernel) ⟨fun c2 => ?_, fun c2 => ?_⟩
    · have k := k.1 c2
      refine xr_iconst (n := 1) (by decide +kernel) ?_
      refine xr_goto (off := 4) (tgt := 38) (by decide) (by decide +kernel) ?_
      exact xr_zret rfl (by decide +kernel) (by decide) k
    · have k := k.2 c2
      refine xr_aload_n (n := 0) (i := 0) rfl (List.mem_of_getElem? (i := 0) rfl) (by decide +kernel) ?_
      refine xr_iconst (n := 2) (by decide +kernel) ?_
      refine xr_callV (av := [(sh_i 2)]) rfl rfl rfl mo_Mod_fails ml_Mod_205 im_Mod_fails se_Mod_fails rfl (Nat.le_of_ble_eq_true rfl) (by decide +kernel) (sh_mono k ?_)
      rintro rv m3 ⟨r2, rfl, k⟩
      show sh_X g (d + 1) m_Mod_isFound _ _ [(sh_i r2)] _ _
      refine xr_if_eq (a' := (i3 r2)) rfl (off := 7) (tgt := 37) (by decide) (by decide +kernel) ⟨fun c3 => ?_, fun c3 => ?_⟩
      · have k := k.1 c3
        refine xr_iconst (n := 0) (by decide +kernel) ?_
        exact xr_zret rfl (by decide +kernel) (by decide) k
      · have k := k.2 c3
        refine xr_iconst (n := 1) (by decide +kernel) ?_
        refine xr_goto (off := 4) (tgt := 38) (by decide) (by decide +kernel) ?_
        exact xr_zret rfl (by decide +kernel) (by decide) k
  · have k := k.2 c1
    refine xr_aload_n (n := 0) (i := 0) rfl (List.mem_of_getElem? (i := 0) rfl) (by decide +kernel) ?_
    refine xr_iconst (n := 1) (by decide +kernel) ?_
    refine xr_callV (av := [(sh_i 1)]) rfl rfl rfl mo_Mod_fails ml_Mod_205 im_Mod_fails se_Mod_fails rfl (Nat.le_of_ble_eq_true rfl) (by decide +kernel) (sh_mono k ?_)
    rintro rv m4 ⟨r3, rfl, k⟩
    show sh_X g (d + 1) m_Mod_isFound _ _ [(sh_i r3)] _ _
    exact xr_zret rfl (by decide +kernel) k.1 k.2

theorem v_Mod_passesFound {g : sh_G} {d : Nat} {found : Int}  {mem : sh_Mem} {Q : Option sh_V → sh_Mem → Prop}  (k : (sh_Cal g d m_Mod_isFound [(sh_r 96), (sh_i found)] mem fun rv m1 => ∃ r1 : Int, rv = some (sh_i r1) ∧ ((¬ (i3 r1) = 0 → (sh_Cal g d m_Mod_nextToken [(sh_r 96)] m1 fun rv m2 => rv = none ∧ Q (some (sh_i 1)) m2)) ∧ ((i3 r1) = 0 → Q (some (sh_i 0)) m1)))) : sh_Cal g (d + 1) m_Mod_passesFound [(sh_r 96), (sh_i found)] mem Q := by
  refine sh_met (by decide +kernel) (Nat.le_of_ble_eq_true rfl) (lo := [(0, (sh_r 96)), (1, (sh_i found))]) rfl ?_
  refine xr_aload_n (n := 0) (i := 0) rfl (List.mem_of_getElem? (i := 0) rfl) (by decide +kernel) ?_
  refine xr_iload_n (n := 1) (i := 1) rfl (List.mem_of_getElem? (i := 1) rfl) (by decide +kernel) ?_
  refine xr_callV (av := [(sh_i found)]) rfl rfl rfl mo_Mod_isFound ml_Mod_288 im_Mod_isFound se_Mod_isFound rfl (Nat.le_of_ble_eq_true rfl) (by decide +kernel) (sh_mono k ?_)
  rintro rv m1 ⟨r1, rfl, k⟩
  show sh_X g (d + 1) m_Mod_passesFound _ _ [(sh_i r1)] _ _
  refine xr_if_ne (a' := (i3 r1)) rfl (off := 5) (tgt := 10) (by decide) (by decide +kernel) ⟨fun c1 => ?_, fun c1 => ?_⟩
  · have k := k.1 c1
    refine xr_aload_n (n := 0) (i := 0) rfl (List.mem_of_getElem? (i := 0) rfl) (by decide +kernel) ?_
    refine xr_callV (av := []) rfl rfl rfl mo_Mod_nextToken ml_Mod_212 im_Mod_nextToken se_Mod_nextToken rfl (Nat.le_of_ble_eq_true rfl) (by decide +kernel) (sh_mono k ?_)
    rintro rv m2 ⟨rfl, k⟩
    show sh_X g (d + 1) m_Mod_passesFound _ _ [] _ _
    refine xr_iconst (n := 1) (by decide +kernel) ?_
    exact xr_zret rfl (by decide +kernel) (by decide) k
  · have k := k.2 c1
    refine xr_iconst (n := 0) (by decide +kernel) ?_
    exact xr_zret rfl (by decide +kernel) (by decide) k

theorem v_Mod_readsDay {g : sh_G} {d : Nat}   {mem : sh_Mem} {Q : Option sh_V → sh_Mem → Prop}  (k : ((¬ (i3 (8 + (mem 98 2))) = 16 → (sh_Cal g d m_Mod_nextToken [(sh_r 96)] mem fun rv m1 => rv = none ∧ (sh_Cal g d m_Mod_needsNew [(sh_r 96)] m1 fun rv m2 => ∃ r1 : Int, rv = some (sh_i r1) ∧ ((¬ (i3 r1) = 0 → (sh_Cal g d m_Mod_isWord [(sh_r 96), (sh_l 8740238)] m2 fun rv m3 => ∃ r2 : Int, rv = some (sh_i r2) ∧ (((i3 r2) = 0 → (sh_Cal g d m_Mod_isWord [(sh_r 96), (sh_l 284068024)] m3 fun rv m4 => ∃ r3 : Int, rv = some (sh_i r3) ∧ (((i3 r3) = 0 → (sh_Cal g d m_Mod_isWord [(sh_r 96), (sh_l 16922)] m4 fun rv m5 => ∃ r4 : Int, rv = some (sh_i r4) ∧ (((i3 r4) = 0 → (sh_Cal g d m_Mod_isWord [(sh_r 96), (sh_l 3288323)] m5 fun rv m6 => ∃ r5 : Int, rv = some (sh_i r5) ∧ (((i3 r5) = 0 → sh_X g (d + 1) m_Mod_readsDay 97 [(0, (sh_r 96)), (1, (sh_i (8 + (mem 98 2))))] [(sh_i (-1)), (sh_i (8 + (mem 98 2))), (sh_r 101)] m6 (sh_K m_Mod_readsDay Q)) ∧ (¬ (i3 r5) = 0 → sh_X g (d + 1) m_Mod_readsDay 97 [(0, (sh_r 96)), (1, (sh_i (8 + (mem 98 2))))] [(sh_i 3), (sh_i (8 + (mem 98 2))), (sh_r 101)] m6 (sh_K m_Mod_readsDay Q))))) ∧ (¬ (i3 r4) = 0 → sh_X g (d + 1) m_Mod_readsDay 97 [(0, (sh_r 96)), (1, (sh_i (8 + (mem 98 2))))] [(sh_i 2), (sh_i (8 + (mem 98 2))), (sh_r 101)] m5 (sh_K m_Mod_readsDay Q))))) ∧ (¬ (i3 r3) = 0 → sh_X g (d + 1) m_Mod_readsDay 97 [(0, (sh_r 96)), (1, (sh_i (8 + (mem 98 2))))] [(sh_i 1), (sh_i (8 + (mem 98 2))), (sh_r 101)] m4 (sh_K m_Mod_readsDay Q))))) ∧ (¬ (i3 r2) = 0 → sh_X g (d + 1) m_Mod_readsDay 97 [(0, (sh_r 96)), (1, (sh_i (8 + (mem 98 2))))] [(sh_i 0), (sh_i (8 + (mem 98 2))), (sh_r 101)] m3 (sh_K m_Mod_readsDay Q))))) ∧ ((i3 r1) = 0 → Q (some (sh_i 0)) m2))))) ∧ ((i3 (8 + (mem 98 2))) = 16 → (sh_Cal g d m_Mod_fails [(sh_r 96), (sh_i 5)] mem fun rv m7 => ∃ r6 : Int, rv = some (sh_i r6) ∧ ((r6 = 0 ∨ r6 = 1) ∧ Q (some (sh_i r6)) m7))))) : sh_Cal g (d + 1) m_Mod_readsDay [(sh_r 96)] mem Q := by
  refine sh_met (by decide +kernel) (Nat.le_of_ble_eq_true rfl) (lo := [(0, (sh_r 96))]) rfl ?_
  refine xr_bipush (n := 8) (v := 8) (by decide) (by decide +kernel) ?_
  refine xr_aload_n (n := 0) (i := 0) rfl (List.mem_of_getElem? (i := 0) rfl) (by decide +kernel) ?_
  refine xr_getR (o := 2) rfl fl_Mod_13 rfl (by decide +kernel) ?_
  show sh_X g (d + 1) m_Mod_readsDay _ _ ((sh_r 98) :: _) _ _
  refine xr_iconst (n := 2) (by decide +kernel) ?_
  refine xr_ialdN (j := 2) rfl rfl (by decide) (by decide +kernel) ?_
  refine xr_iadd (by decide +kernel) ?_
  show sh_X g (d + 1) m_Mod_readsDay _ _ ((sh_i (8 + (mem 98 2))) :: _) _ _
  refine xr_istore_n (n := 1) (i := 1) rfl (by decide) rfl (by decide +kernel) ?_
  refine xr_iload_n (n := 1) (i := 1) rfl (List.mem_of_getElem? (i := 0) rfl) (by decide +kernel) ?_
  refine xr_bipush (n := 16) (v := 16) (by decide) (by decide +kernel) ?_
  refine xr_icmp_ne (a' := (i3 (8 + (mem 98 2)))) (b' := 16) rfl (by decide) (off := 9) (tgt := 22) (by decide) (by decide +kernel) ⟨fun c1 => ?_, fun c1 => ?_⟩
  · have k := k.1 c1
    refine xr_aload_n (n := 0) (i := 0) rfl (List.mem_of_getElem? (i := 1) rfl) (by decide +kernel) ?_
    refine xr_callV (av := []) rfl rfl rfl mo_Mod_nextToken ml_Mod_212 im_Mod_nextToken se_Mod_nextToken rfl (Nat.le_of_ble_eq_true rfl) (by decide +kernel) (sh_mono k ?_)
    rintro rv m1 ⟨rfl, k⟩
    show sh_X g (d + 1) m_Mod_readsDay _ _ [] _ _
    refine xr_aload_n (n := 0) (i := 0) rfl (List.mem_of_getElem? (i := 1) rfl) (by decide +kernel) ?_
    refine xr_callV (av := []) rfl rfl rfl mo_Mod_needsNew ml_Mod_291 im_Mod_needsNew se_Mod_needsNew rfl (Nat.le_of_ble_eq_true rfl) (by decide +kernel) (sh_mono k ?_)
    rintro rv m2 ⟨r1, rfl, k⟩
    show sh_X g (d + 1) m_Mod_readsDay _ _ [(sh_i r1)] _ _
    refine xr_if_ne (a' := (i3 r1)) rfl (off := 5) (tgt := 35) (by decide) (by decide +kernel) ⟨fun c2 => ?_, fun c2 => ?_⟩
    · have k := k.1 c2
      refine xr_aload_n (n := 0) (i := 0) rfl (List.mem_of_getElem? (i := 1) rfl) (by decide +kernel) ?_
      refine xr_getR (o := 5) rfl fl_Mod_23 rfl (by decide +kernel) ?_
      show sh_X g (d + 1) m_Mod_readsDay _ _ ((sh_r 101) :: _) _ _
      refine xr_iload_n (n := 1) (i := 1) rfl (List.mem_of_getElem? (i := 0) rfl) (by decide +kernel) ?_
      refine xr_aload_n (n := 0) (i := 0) rfl (List.mem_of_getElem? (i := 1) rfl) (by decide +kernel) ?_
      refine xr_ldc2 (v := 8740238) (by decide) kl_Mod_252 (by decide +kernel) ?_
      refine xr_callV (av := [(sh_l 8740238)]) rfl rfl rfl mo_Mod_isWord ml_Mod_197 im_Mod_isWord se_Mod_isWord rfl (Nat.le_of_ble_eq_true rfl) (by decide +kernel) (sh_mono k ?_)
      rintro rv m3 ⟨r2, rfl, k⟩
      show sh_X g (d + 1) m_Mod_readsDay _ _ [(sh_i r2), (sh_i (8 + (mem 98 2))), (sh_r 101)] _ _
      refine xr_if_eq (a' := (i3 r2)) rfl (off := 7) (tgt := 54) (by decide) (by decide +kernel) ⟨fun c3 => ?_, fun c3 => ?_⟩
      · have k := k.1 c3
        refine xr_aload_n (n := 0) (i := 0) rfl (List.mem_of_getElem? (i := 1) rfl) (by decide +kernel) ?_
        refine xr_ldc2 (v := 284068024) (by decide) kl_Mod_254 (by decide +kernel) ?_
        refine xr_callV (av := [(sh_l 284068024)]) rfl rfl rfl mo_Mod_isWord ml_Mod_197 im_Mod_isWord se_Mod_isWord rfl (Nat.le_of_ble_eq_true rfl) (by decide +kernel) (sh_mono k ?_)
        rintro rv m4 ⟨r3, rfl, k⟩
        show sh_X g (d + 1) m_Mod_readsDay _ _ [(sh_i r3), (sh_i (8 + (mem 98 2))), (sh_r 101)] _ _
        refine xr_if_eq (a' := (i3 r3)) rfl (off := 7) (tgt := 68) (by decide) (by decide +kernel) ⟨fun c4 => ?_, fun c4 => ?_⟩
        · have k := k.1 c4
          refine xr_aload_n (n := 0) (i := 0) rfl (List.mem_of_getElem? (i := 1) rfl) (by decide +kernel) ?_
          refine xr_ldc2 (v := 16922) (by decide) kl_Mod_256 (by decide +kernel) ?_
          refine xr_callV (av := [(sh_l 16922)]) rfl rfl rfl mo_Mod_isWord ml_Mod_197 im_Mod_isWord se_Mod_isWord rfl (Nat.le_of_ble_eq_true rfl) (by decide +kernel) (sh_mono k ?_)
          rintro rv m5 ⟨r4, rfl, k⟩
          show sh_X g (d + 1) m_Mod_readsDay _ _ [(sh_i r4), (sh_i (8 + (mem 98 2))), (sh_r 101)] _ _
          refine xr_if_eq (a' := (i3 r4)) rfl (off := 7) (tgt := 82) (by decide) (by decide +kernel) ⟨fun c5 => ?_, fun c5 => ?_⟩
          · have k := k.1 c5
            refine xr_aload_n (n := 0) (i := 0) rfl (List.mem_of_getElem? (i := 1) rfl) (by decide +kernel) ?_
            refine xr_ldc2 (v := 3288323) (by decide) kl_Mod_258 (by decide +kernel) ?_
            refine xr_callV (av := [(sh_l 3288323)]) rfl rfl rfl mo_Mod_isWord ml_Mod_197 im_Mod_isWord se_Mod_isWord rfl (Nat.le_of_ble_eq_true rfl) (by decide +kernel) (sh_mono k ?_)
            rintro rv m6 ⟨r5, rfl, k⟩
            show sh_X g (d + 1) m_Mod_readsDay _ _ [(sh_i r5), (sh_i (8 + (mem 98 2))), (sh_r 101)] _ _
            refine xr_if_eq (a' := (i3 r5)) rfl (off := 7) (tgt := 96) (by decide) (by decide +kernel) ⟨fun c6 => ?_, fun c6 => ?_⟩
            · have k := k.1 c6
              refine xr_iconst (n := (-1)) (by decide +kernel) ?_
              refine xr_sub (lo' := [(0, (sh_r 96)), (1, (sh_i (8 + (mem 98 2))))]) [1, 0] rfl ?_
              exact k
            · have k := k.2 c6
              refine xr_iconst (n := 3) (by decide +kernel) ?_
              refine xr_goto (off := 4) (tgt := 97) (by decide) (by decide +kernel) ?_
              refine xr_sub (lo' := [(0, (sh_r 96)), (1, (sh_i (8 + (mem 98 2))))]) [1, 0] rfl ?_
              exact k
          · have k := k.2 c5
            refine xr_iconst (n := 2) (by decide +kernel) ?_
            refine xr_goto (off := 18) (tgt := 97) (by decide) (by decide +kernel) ?_
            refine xr_sub (lo' := [(0, (sh_r 96)), (1, (sh_i (8 + (mem 98 2))))]) [1, 0] rfl ?_
            exact k
        · have k := k.2 c4
          refine xr_iconst (n := 1) (by decide +kernel) ?_
          refine xr_goto (off := 32) (tgt := 97) (by decide) (by decide +kernel) ?_
          refine xr_sub (lo' := [(0, (sh_r 96)), (1, (sh_i (8 + (mem 98 2))))]) [1, 0] rfl ?_
          exact k
      · have k := k.2 c3
        refine xr_iconst (n := 0) (by decide +kernel) ?_
        refine xr_goto (off := 46) (tgt := 97) (by decide) (by decide +kernel) ?_
        refine xr_sub (lo' := [(0, (sh_r 96)), (1, (sh_i (8 + (mem 98 2))))]) [1, 0] rfl ?_
        exact k
    · have k := k.2 c2
      refine xr_iconst (n := 0) (by decide +kernel) ?_
      exact xr_zret rfl (by decide +kernel) (by decide) k
  · have k := k.2 c1
    refine xr_aload_n (n := 0) (i := 0) rfl (List.mem_of_getElem? (i := 1) rfl) (by decide +kernel) ?_
    refine xr_iconst (n := 5) (by decide +kernel) ?_
    refine xr_callV (av := [(sh_i 5)]) rfl rfl rfl mo_Mod_fails ml_Mod_205 im_Mod_fails se_Mod_fails rfl (Nat.le_of_ble_eq_true rfl) (by decide +kernel) (sh_mono k ?_)
    rintro rv m7 ⟨r6, rfl, k⟩
    show sh_X g (d + 1) m_Mod_readsDay _ _ [(sh_i r6)] _ _
    exact xr_zret rfl (by decide +kernel) k.1 k.2
theorem v_Mod_readsDay_97 {g : sh_G} {d : Nat}   {mem : sh_Mem} {Q : Option sh_V → sh_Mem → Prop}  {x1 : Int} {y0 : Int} {y1 : Int} (k : ((0 ≤ y1 ∧ y1 < 16) ∧ (∀ m1 : sh_Mem, m1 = ms mem 101 (ru (mem 101) (y1).toNat y0) → ((0 ≤ x1 ∧ x1 < 16) ∧ ((0 ≤ (i3 (m1 101 (x1).toNat)) → (sh_Cal g d m_Mod_nextToken [(sh_r 96)] m1 fun rv m2 => rv = none ∧ (sh_Cal g d m_Mod_needsBoth [(sh_r 96), (sh_l 12532058), (sh_i 1), (sh_i 24)] m2 fun rv m3 => ∃ r1 : Int, rv = some (sh_i r1) ∧ ((¬ (i3 r1) = 0 → ((0 ≤ x1 ∧ x1 < 16) ∧ (∀ m4 : sh_Mem, m4 = ms m3 102 (ru (m3 102) (x1).toNat (m3 96 34)) → (sh_Cal g d m_Mod_needsBoth [(sh_r 96), (sh_l 4134649), (sh_i 0), (sh_i 9)] m4 fun rv m5 => ∃ r2 : Int, rv = some (sh_i r2) ∧ ((¬ (i3 r2) = 0 → ((0 ≤ x1 ∧ x1 < 16) ∧ (∀ m6 : sh_Mem, m6 = ms m5 103 (ru (m5 103) (x1).toNat (m5 96 34)) → ((0 ≤ x1 ∧ x1 < 16) ∧ (∀ m7 : sh_Mem, m7 = ms m6 99 (ru (m6 99) (x1).toNat (m6 96 35)) → (∀ m8 : sh_Mem, m8 = ms m7 98 (ru (m7 98) 2 ((m7 98 2) + 1)) → (sh_Cal g d m_Mod_closes [(sh_r 96)] m8 fun rv m9 => ∃ r3 : Int, rv = some (sh_i r3) ∧ ((r3 = 0 ∨ r3 = 1) ∧ Q (some (sh_i r3)) m9)))))))) ∧ ((i3 r2) = 0 → Q (some (sh_i 0)) m5)))))) ∧ ((i3 r1) = 0 → Q (some (sh_i 0)) m3))))) ∧ (¬ 0 ≤ (i3 (m1 101 (x1).toNat)) → (sh_Cal g d m_Mod_fails [(sh_r 96), (sh_i 1)] m1 fun rv m10 => ∃ r4 : Int, rv = some (sh_i r4) ∧ ((r4 = 0 ∨ r4 = 1) ∧ Q (some (sh_i r4)) m10)))))))) : sh_X g (d + 1) m_Mod_readsDay 97 [(0, (sh_r 96)), (1, (sh_i x1))] [(sh_i y0), (sh_i y1), (sh_r 101)] mem (sh_K m_Mod_readsDay Q) := by
  have o9 := True.intro
  obtain ⟨o, k⟩ := k
  refine xr_iast rfl o.1 o.2 (by decide +kernel) ?_
  have k := k _ rfl
  generalize hg_m1 : ms mem 101 (ru (mem 101) (y1).toNat y0) = m1 at k ⊢
  refine xr_aload_n (n := 0) (i := 0) rfl (List.mem_of_getElem? (i := 0) rfl) (by decide +kernel) ?_
  refine xr_getR (o := 5) rfl fl_Mod_23 rfl (by decide +kernel) ?_
  show sh_X g (d + 1) m_Mod_readsDay _ _ ((sh_r 101) :: _) _ _
  refine xr_iload_n (n := 1) (i := 1) rfl (List.mem_of_getElem? (i := 1) rfl) (by decide +kernel) ?_
  obtain ⟨o, k⟩ := k
  refine xr_iald rfl o.1 o.2 (by decide +kernel) ?_
  refine xr_if_ge (a' := (i3 (m1 101 (x1).toNat))) rfl (off := 9) (tgt := 113) (by decide) (by decide +kernel) ⟨fun c1 => ?_, fun c1 => ?_⟩
  · have k := k.1 c1
    refine xr_aload_n (n := 0) (i := 0) rfl (List.mem_of_getElem? (i := 0) rfl) (by decide +kernel) ?_
    refine xr_callV (av := []) rfl rfl rfl mo_Mod_nextToken ml_Mod_212 im_Mod_nextToken se_Mod_nextToken rfl (Nat.le_of_ble_eq_true rfl) (by decide +kernel) (sh_mono k ?_)
    rintro rv m2 ⟨rfl, k⟩
    show sh_X g (d + 1) m_Mod_readsDay _ _ [] _ _
    refine xr_aload_n (n := 0) (i := 0) rfl (List.mem_of_getElem? (i := 0) rfl) (by decide +kernel) ?_
    refine xr_ldc2 (v := 12532058) (by decide) kl_Mod_230 (by decide +kernel) ?_
    refine xr_iconst (n := 1) (by decide +kernel) ?_
    refine xr_bipush (n := 24) (v := 24) (by decide) (by decide +kernel) ?_
    refine xr_callV (av := [(sh_l 12532058), (sh_i 1), (sh_i 24)]) rfl rfl rfl mo_Mod_needsBoth ml_Mod_294 im_Mod_needsBoth se_Mod_needsBoth rfl (Nat.le_of_ble_eq_true rfl) (by decide +kernel) (sh_mono k ?_)
    rintro rv m3 ⟨r1, rfl, k⟩
    show sh_X g (d + 1) m_Mod_readsDay _ _ [(sh_i r1)] _ _
    refine xr_if_ne (a' := (i3 r1)) rfl (off := 5) (tgt := 132) (by decide) (by decide +kernel) ⟨fun c2 => ?_, fun c2 => ?_⟩
    · have k := k.1 c2
      refine xr_aload_n (n := 0) (i := 0) rfl (List.mem_of_getElem? (i := 0) rfl) (by decide +kernel) ?_
      refine xr_getR (o := 6) rfl fl_Mod_26 rfl (by decide +kernel) ?_
      show sh_X g (d + 1) m_Mod_readsDay _ _ ((sh_r 102) :: _) _ _
      refine xr_iload_n (n := 1) (i := 1) rfl (List.mem_of_getElem? (i := 1) rfl) (by decide +kernel) ?_
      refine xr_aload_n (n := 0) (i := 0) rfl (List.mem_of_getElem? (i := 0) rfl) (by decide +kernel) ?_
      refine xr_getI rfl fl_Mod_268 (by decide) (by decide +kernel) ?_
      have o9 := True.intro
      obtain ⟨o, k⟩ := k
      refine xr_iast rfl o.1 o.2 (by decide +kernel) ?_
      have k := k _ rfl
      generalize hg_m4 : ms m3 102 (ru (m3 102) (x1).toNat (m3 96 34)) = m4 at k ⊢
      refine xr_aload_n (n := 0) (i := 0) rfl (List.mem_of_getElem? (i := 0) rfl) (by decide +kernel) ?_
      refine xr_ldc2 (v := 4134649) (by decide) kl_Mod_232 (by decide +kernel) ?_
      refine xr_iconst (n := 0) (by decide +kernel) ?_
      refine xr_bipush (n := 9) (v := 9) (by decide) (by decide +kernel) ?_
      refine xr_callV (av := [(sh_l 4134649), (sh_i 0), (sh_i 9)]) rfl rfl rfl mo_Mod_needsBoth ml_Mod_294 im_Mod_needsBoth se_Mod_needsBoth rfl (Nat.le_of_ble_eq_true rfl) (by decide +kernel) (sh_mono k ?_)
      rintro rv m5 ⟨r2, rfl, k⟩
      show sh_X g (d + 1) m_Mod_readsDay _ _ [(sh_i r2)] _ _
      refine xr_if_ne (a' := (i3 r2)) rfl (off := 5) (tgt := 157) (by decide) (by decide +kernel) ⟨fun c3 => ?_, fun c3 => ?_⟩
      · have k := k.1 c3
        refine xr_aload_n (n := 0) (i := 0) rfl (List.mem_of_getElem? (i := 0) rfl) (by decide +kernel) ?_
        refine xr_getR (o := 7) rfl fl_Mod_29 rfl (by decide +kernel) ?_
        show sh_X g (d + 1) m_Mod_readsDay _ _ ((sh_r 103) :: _) _ _
        refine xr_iload_n (n := 1) (i := 1) rfl (List.mem_of_getElem? (i := 1) rfl) (by decide +kernel) ?_
        refine xr_aload_n (n := 0) (i := 0) rfl (List.mem_of_getElem? (i := 0) rfl) (by decide +kernel) ?_
        refine xr_getI rfl fl_Mod_268 (by decide) (by decide +kernel) ?_
        have o9 := True.intro
        obtain ⟨o, k⟩ := k
        refine xr_iast rfl o.1 o.2 (by decide +kernel) ?_
        have k := k _ rfl
        generalize hg_m6 : ms m5 103 (ru (m5 103) (x1).toNat (m5 96 34)) = m6 at k ⊢
        refine xr_aload_n (n := 0) (i := 0) rfl (List.mem_of_getElem? (i := 0) rfl) (by decide +kernel) ?_
        refine xr_getR (o := 3) rfl fl_Mod_16 rfl (by decide +kernel) ?_
        show sh_X g (d + 1) m_Mod_readsDay _ _ ((sh_r 99) :: _) _ _
        refine xr_iload_n (n := 1) (i := 1) rfl (List.mem_of_getElem? (i := 1) rfl) (by decide +kernel) ?_
        refine xr_aload_n (n := 0) (i := 0) rfl (List.mem_of_getElem? (i := 0) rfl) (by decide +kernel) ?_
        refine xr_getL rfl fl_Mod_285 (by decide) (by decide +kernel) ?_
        have o9 := True.intro
        obtain ⟨o, k⟩ := k
        refine xr_last rfl o.1 o.2 (by decide +kernel) ?_
        have k := k _ rfl
        generalize hg_m7 : ms m6 99 (ru (m6 99) (x1).toNat (m6 96 35)) = m7 at k ⊢
        refine xr_aload_n (n := 0) (i := 0) rfl (List.mem_of_getElem? (i := 0) rfl) (by decide +kernel) ?_
        refine xr_getR (o := 2) rfl fl_Mod_13 rfl (by decide +kernel) ?_
        show sh_X g (d + 1) m_Mod_readsDay _ _ ((sh_r 98) :: _) _ _
        refine xr_iconst (n := 2) (by decide +kernel) ?_
        refine xr_dup2 (by decide +kernel) ?_
        refine xr_ialdN (j := 2) rfl rfl (by decide) (by decide +kernel) ?_
        refine xr_iconst (n := 1) (by decide +kernel) ?_
        refine xr_iadd (by decide +kernel) ?_
        show sh_X g (d + 1) m_Mod_readsDay _ _ ((sh_i ((m7 98 2) + 1)) :: _) _ _
        have o9 := True.intro
        refine xr_iastN (j := 2) rfl rfl (by decide) (by decide +kernel) ?_
        have k := k _ rfl
        generalize hg_m8 : ms m7 98 (ru (m7 98) 2 ((m7 98 2) + 1)) = m8 at k ⊢
        refine xr_aload_n (n := 0) (i := 0) rfl (List.mem_of_getElem? (i := 0) rfl) (by decide +kernel) ?_
        refine xr_callV (av := []) rfl rfl rfl mo_Mod_closes ml_Mod_298 im_Mod_closes se_Mod_closes rfl (Nat.le_of_ble_eq_true rfl) (by decide +kernel) (sh_mono k ?_)
        rintro rv m9 ⟨r3, rfl, k⟩
        show sh_X g (d + 1) m_Mod_readsDay _ _ [(sh_i r3)] _ _
        exact xr_zret rfl (by decide +kernel) k.1 k.2
      · have k := k.2 c3
        refine xr_iconst (n := 0) (by decide +kernel) ?_
        exact xr_zret rfl (by decide +kernel) (by decide) k
    · have k := k.2 c2
      refine xr_iconst (n := 0) (by decide +kernel) ?_
      exact xr_zret rfl (by decide +kernel) (by decide) k
  · have k := k.2 c1
    refine xr_aload_n (n := 0) (i := 0) rfl (List.mem_of_getElem? (i := 0) rfl) (by decide +kernel) ?_
    refine xr_iconst (n := 1) (by decide +kernel) ?_
    refine xr_callV (av := [(sh_i 1)]) rfl rfl rfl mo_Mod_fails ml_Mod_205 im_Mod_fails se_Mod_fails rfl (Nat.le_of_ble_eq_true rfl) (by decide +kernel) (sh_mono k ?_)
    rintro rv m10 ⟨r4, rfl, k⟩
    show sh_X g (d + 1) m_Mod_readsDay _ _ [(sh_i r4)] _ _
    exact xr_zret rfl (by decide +kernel) k.1 k.2

theorem v_Mod_readsThief {g : sh_G} {d : Nat}   {mem : sh_Mem} {Q : Option sh_V → sh_Mem → Prop}  (k : ((¬ (i3 (4 + (mem 98 3))) = 8 → (sh_Cal g d m_Mod_nextToken [(sh_r 96)] mem fun rv m1 => rv = none ∧ (sh_Cal g d m_Mod_needsNew [(sh_r 96)] m1 fun rv m2 => ∃ r1 : Int, rv = some (sh_i r1) ∧ (((i3 r1) = 0 → Q (some (sh_i 0)) m2) ∧ (¬ (i3 r1) = 0 → (sh_Cal g d m_Mod_needsBoth [(sh_r 96), (sh_l 10320789), (sh_i 0), (sh_i 9)] m2 fun rv m3 => ∃ r2 : Int, rv = some (sh_i r2) ∧ ((¬ (i3 r2) = 0 → ((0 ≤ (4 + (mem 98 3)) ∧ (4 + (mem 98 3)) < 8) ∧ (∀ m4 : sh_Mem, m4 = ms m3 104 (ru (m3 104) ((4 + (mem 98 3))).toNat (m3 96 34)) → (sh_Cal g d m_Mod_needsBoth [(sh_r 96), (sh_l 374798), (sh_i 1), (sh_i 12)] m4 fun rv m5 => ∃ r3 : Int, rv = some (sh_i r3) ∧ ((¬ (i3 r3) = 0 → ((0 ≤ (4 + (mem 98 3)) ∧ (4 + (mem 98 3)) < 8) ∧ (∀ m6 : sh_Mem, m6 = ms m5 105 (ru (m5 105) ((4 + (mem 98 3))).toNat (m5 96 34)) → ((0 ≤ (4 + (mem 98 3)) ∧ (4 + (mem 98 3)) < 8) ∧ (∀ m7 : sh_Mem, m7 = ms m6 100 (ru (m6 100) ((4 + (mem 98 3))).toNat (m6 96 35)) → (∀ m8 : sh_Mem, m8 = ms m7 98 (ru (m7 98) 3 ((m7 98 3) + 1)) → (sh_Cal g d m_Mod_closes [(sh_r 96)] m8 fun rv m9 => ∃ r4 : Int, rv = some (sh_i r4) ∧ ((r4 = 0 ∨ r4 = 1) ∧ Q (some (sh_i r4)) m9)))))))) ∧ ((i3 r3) = 0 → Q (some (sh_i 0)) m5)))))) ∧ ((i3 r2) = 0 → Q (some (sh_i 0)) m3)))))))) ∧ ((i3 (4 + (mem 98 3))) = 8 → (sh_Cal g d m_Mod_fails [(sh_r 96), (sh_i 5)] mem fun rv m10 => ∃ r5 : Int, rv = some (sh_i r5) ∧ ((r5 = 0 ∨ r5 = 1) ∧ Q (some (sh_i r5)) m10))))) : sh_Cal g (d + 1) m_Mod_readsThief [(sh_r 96)] mem Q := by
  refine sh_met (by decide +kernel) (Nat.le_of_ble_eq_true rfl) (lo := [(0, (sh_r 96))]) rfl ?_
  refine xr_iconst (n := 4) (by decide +kernel) ?_
  refine xr_aload_n (n := 0) (i := 0) rfl (List.mem_of_getElem? (i := 0) rfl) (by decide +kernel) ?_
  refine xr_getR (o := 2) rfl fl_Mod_13 rfl (by decide +kernel) ?_
  show sh_X g (d + 1) m_Mod_readsThief _ _ ((sh_r 98) :: _) _ _
  refine xr_iconst (n := 3) (by decide +kernel) ?_
  refine xr_ialdN (j := 3) rfl rfl (by decide) (by decide +kernel) ?_
  refine xr_iadd (by decide +kernel) ?_
  show sh_X g (d + 1) m_Mod_readsThief _ _ ((sh_i (4 + (mem 98 3))) :: _) _ _
  refine xr_istore_n (n := 1) (i := 1) rfl (by decide) rfl (by decide +kernel) ?_
  refine xr_iload_n (n := 1) (i := 1) rfl (List.mem_of_getElem? (i := 0) rfl) (by decide +kernel) ?_
  refine xr_bipush (n := 8) (v := 8) (by decide) (by decide +kernel) ?_
  refine xr_icmp_ne (a' := (i3 (4 + (mem 98 3)))) (b' := 8) rfl (by decide) (off := 9) (tgt := 21) (by decide) (by decide +kernel) ⟨fun c1 => ?_, fun c1 => ?_⟩
  · have k := k.1 c1
    refine xr_aload_n (n := 0) (i := 0) rfl (List.mem_of_getElem? (i := 1) rfl) (by decide +kernel) ?_
    refine xr_callV (av := []) rfl rfl rfl mo_Mod_nextToken ml_Mod_212 im_Mod_nextToken se_Mod_nextToken rfl (Nat.le_of_ble_eq_true rfl) (by decide +kernel) (sh_mono k ?_)
    rintro rv m1 ⟨rfl, k⟩
    show sh_X g (d + 1) m_Mod_readsThief _ _ [] _ _
    refine xr_aload_n (n := 0) (i := 0) rfl (List.mem_of_getElem? (i := 1) rfl) (by decide +kernel) ?_
    refine xr_callV (av := []) rfl rfl rfl mo_Mod_needsNew ml_Mod_291 im_Mod_needsNew se_Mod_needsNew rfl (Nat.le_of_ble_eq_true rfl) (by decide +kernel) (sh_mono k ?_)
    rintro rv m2 ⟨r1, rfl, k⟩
    show sh_X g (d + 1) m_Mod_readsThief _ _ [(sh_i r1)] _ _
    refine xr_if_eq (a' := (i3 r1)) rfl (off := 16) (tgt := 45) (by decide) (by decide +kernel) ⟨fun c2 => ?_, fun c2 => ?_⟩
    · have k := k.1 c2
      refine xr_iconst (n := 0) (by decide +kernel) ?_
      exact xr_zret rfl (by decide +kernel) (by decide) k
    · have k := k.2 c2
      refine xr_aload_n (n := 0) (i := 0) rfl (List.mem_of_getElem? (i := 1) rfl) (by decide +kernel) ?_
      refine xr_ldc2 (v := 10320789) (by decide) kl_Mod_236 (by decide +kernel) ?_
      refine xr_iconst (n := 0) (by decide +kernel) ?_
      refine xr_bipush (n := 9) (v := 9) (by decide) (by decide +kernel) ?_
      refine xr_callV (av := [(sh_l 10320789), (sh_i 0), (sh_i 9)]) rfl rfl rfl mo_Mod_needsBoth ml_Mod_294 im_Mod_needsBoth se_Mod_needsBoth rfl (Nat.le_of_ble_eq_true rfl) (by decide +kernel) (sh_mono k ?_)
      rintro rv m3 ⟨r2, rfl, k⟩
      show sh_X g (d + 1) m_Mod_readsThief _ _ [(sh_i r2)] _ _
      refine xr_if_ne (a' := (i3 r2)) rfl (off := 5) (tgt := 47) (by decide) (by decide +kernel) ⟨fun c3 => ?_, fun c3 => ?_⟩
      · have k := k.1 c3
        refine xr_aload_n (n := 0) (i := 0) rfl (List.mem_of_getElem? (i := 1) rfl) (by decide +kernel) ?_
        refine xr_getR (o := 8) rfl fl_Mod_32 rfl (by decide +kernel) ?_
        show sh_X g (d + 1) m_Mod_readsThief _ _ ((sh_r 104) :: _) _ _
        refine xr_iload_n (n := 1) (i := 1) rfl (List.mem_of_getElem? (i := 0) rfl) (by decide +kernel) ?_
        refine xr_aload_n (n := 0) (i := 0) rfl (List.mem_of_getElem? (i := 1) rfl) (by decide +kernel) ?_
        refine xr_getI rfl fl_Mod_268 (by decide) (by decide +kernel) ?_
        have o9 := True.intro
        obtain ⟨o, k⟩ := k
        refine xr_iast rfl o.1 o.2 (by decide +kernel) ?_
        have k := k _ rfl
        generalize hg_m4 : ms m3 104 (ru (m3 104) ((4 + (mem 98 3))).toNat (m3 96 34)) = m4 at k ⊢
        refine xr_aload_n (n := 0) (i := 0) rfl (List.mem_of_getElem? (i := 1) rfl) (by decide +kernel) ?_
        refine xr_ldc2 (v := 374798) (by decide) kl_Mod_238 (by decide +kernel) ?_
        refine xr_iconst (n := 1) (by decide +kernel) ?_
        refine xr_bipush (n := 12) (v := 12) (by decide) (by decide +kernel) ?_
        refine xr_callV (av := [(sh_l 374798), (sh_i 1), (sh_i 12)]) rfl rfl rfl mo_Mod_needsBoth ml_Mod_294 im_Mod_needsBoth se_Mod_needsBoth rfl (Nat.le_of_ble_eq_true rfl) (by decide +kernel) (sh_mono k ?_)
        rintro rv m5 ⟨r3, rfl, k⟩
        show sh_X g (d + 1) m_Mod_readsThief _ _ [(sh_i r3)] _ _
        refine xr_if_ne (a' := (i3 r3)) rfl (off := 5) (tgt := 72) (by decide) (by decide +kernel) ⟨fun c4 => ?_, fun c4 => ?_⟩
        · have k := k.1 c4
          refine xr_aload_n (n := 0) (i := 0) rfl (List.mem_of_getElem? (i := 1) rfl) (by decide +kernel) ?_
          refine xr_getR (o := 9) rfl fl_Mod_35 rfl (by decide +kernel) ?_
          show sh_X g (d + 1) m_Mod_readsThief _ _ ((sh_r 105) :: _) _ _
          refine xr_iload_n (n := 1) (i := 1) rfl (List.mem_of_getElem? (i := 0) rfl) (by decide +kernel) ?_
          refine xr_aload_n (n := 0) (i := 0) rfl (List.mem_of_getElem? (i := 1) rfl) (by decide +kernel) ?_
          refine xr_getI rfl fl_Mod_268 (by decide) (by decide +kernel) ?_
          have o9 := True.intro
          obtain ⟨o, k⟩ := k
          refine xr_iast rfl o.1 o.2 (by decide +kernel) ?_
          have k := k _ rfl
          generalize hg_m6 : ms m5 105 (ru (m5 105) ((4 + (mem 98 3))).toNat (m5 96 34)) = m6 at k ⊢
          refine xr_aload_n (n := 0) (i := 0) rfl (List.mem_of_getElem? (i := 1) rfl) (by decide +kernel) ?_
          refine xr_getR (o := 4) rfl fl_Mod_20 rfl (by decide +kernel) ?_
          show sh_X g (d + 1) m_Mod_readsThief _ _ ((sh_r 100) :: _) _ _
          refine xr_iload_n (n := 1) (i := 1) rfl (List.mem_of_getElem? (i := 0) rfl) (by decide +kernel) ?_
          refine xr_aload_n (n := 0) (i := 0) rfl (List.mem_of_getElem? (i := 1) rfl) (by decide +kernel) ?_
          refine xr_getL rfl fl_Mod_285 (by decide) (by decide +kernel) ?_
          have o9 := True.intro
          obtain ⟨o, k⟩ := k
          refine xr_last rfl o.1 o.2 (by decide +kernel) ?_
          have k := k _ rfl
          generalize hg_m7 : ms m6 100 (ru (m6 100) ((4 + (mem 98 3))).toNat (m6 96 35)) = m7 at k ⊢
          refine xr_aload_n (n := 0) (i := 0) rfl (List.mem_of_getElem? (i := 1) rfl) (by decide +kernel) ?_
          refine xr_getR (o := 2) rfl fl_Mod_13 rfl (by decide +kernel) ?_
          show sh_X g (d + 1) m_Mod_readsThief _ _ ((sh_r 98) :: _) _ _
          refine xr_iconst (n := 3) (by decide +kernel) ?_
          refine xr_dup2 (by decide +kernel) ?_
          refine xr_ialdN (j := 3) rfl rfl (by decide) (by decide +kernel) ?_
          refine xr_iconst (n := 1) (by decide +kernel) ?_
          refine xr_iadd (by decide +kernel) ?_
          show sh_X g (d + 1) m_Mod_readsThief _ _ ((sh_i ((m7 98 3) + 1)) :: _) _ _
          have o9 := True.intro
          refine xr_iastN (j := 3) rfl rfl (by decide) (by decide +kernel) ?_
          have k := k _ rfl
          generalize hg_m8 : ms m7 98 (ru (m7 98) 3 ((m7 98 3) + 1)) = m8 at k ⊢
          refine xr_aload_n (n := 0) (i := 0) rfl (List.mem_of_getElem? (i := 1) rfl) (by decide +kernel) ?_
          refine xr_callV (av := []) rfl rfl rfl mo_Mod_closes ml_Mod_298 im_Mod_closes se_Mod_closes rfl (Nat.le_of_ble_eq_true rfl) (by decide +kernel) (sh_mono k ?_)
          rintro rv m9 ⟨r4, rfl, k⟩
          show sh_X g (d + 1) m_Mod_readsThief _ _ [(sh_i r4)] _ _
          exact xr_zret rfl (by decide +kernel) k.1 k.2
        · have k := k.2 c4
          refine xr_iconst (n := 0) (by decide +kernel) ?_
          exact xr_zret rfl (by decide +kernel) (by decide) k
      · have k := k.2 c3
        refine xr_iconst (n := 0) (by decide +kernel) ?_
        exact xr_zret rfl (by decide +kernel) (by decide) k
  · have k := k.2 c1
    refine xr_aload_n (n := 0) (i := 0) rfl (List.mem_of_getElem? (i := 1) rfl) (by decide +kernel) ?_
    refine xr_iconst (n := 5) (by decide +kernel) ?_
    refine xr_callV (av := [(sh_i 5)]) rfl rfl rfl mo_Mod_fails ml_Mod_205 im_Mod_fails se_Mod_fails rfl (Nat.le_of_ble_eq_true rfl) (by decide +kernel) (sh_mono k ?_)
    rintro rv m10 ⟨r5, rfl, k⟩
    show sh_X g (d + 1) m_Mod_readsThief _ _ [(sh_i r5)] _ _
    exact xr_zret rfl (by decide +kernel) k.1 k.2

theorem v_Mod_readsPays {g : sh_G} {d : Nat}   {mem : sh_Mem} {Q : Option sh_V → sh_Mem → Prop}  (k : (((i3 (mem 107 1)) ≤ (i3 (mem 106 1)) → (sh_Cal g d m_Mod_nextToken [(sh_r 96)] mem fun rv m1 => rv = none ∧ (∀ m2 : sh_Mem, m2 = ms m1 106 (ru (m1 106) 1 (m1 96 21)) → (sh_Cal g d m_Mod_reads [(sh_r 96)] m2 fun rv m3 => ∃ r1 : Int, rv = some (sh_i r1) ∧ ((¬ (i3 r1) = 0 → (∀ m4 : sh_Mem, m4 = ms m3 107 (ru (m3 107) 1 (m3 96 21)) → Q (some (sh_i 1)) m4)) ∧ ((i3 r1) = 0 → Q (some (sh_i 0)) m3)))))) ∧ (¬ (i3 (mem 107 1)) ≤ (i3 (mem 106 1)) → (sh_Cal g d m_Mod_fails [(sh_r 96), (sh_i 3)] mem fun rv m5 => ∃ r2 : Int, rv = some (sh_i r2) ∧ ((r2 = 0 ∨ r2 = 1) ∧ Q (some (sh_i r2)) m5))))) : sh_Cal g (d + 1) m_Mod_readsPays [(sh_r 96)] mem Q := by
  refine sh_met (by decide +kernel) (Nat.le_of_ble_eq_true rfl) (lo := [(0, (sh_r 96))]) rfl ?_
  refine xr_aload_n (n := 0) (i := 0) rfl (List.mem_of_getElem? (i := 0) rfl) (by decide +kernel) ?_
  refine xr_getR (o := 11) rfl fl_Mod_41 rfl (by decide +kernel) ?_
  show sh_X g (d + 1) m_Mod_readsPays _ _ ((sh_r 107) :: _) _ _
  refine xr_iconst (n := 1) (by decide +kernel) ?_
  refine xr_ialdN (j := 1) rfl rfl (by decide) (by decide +kernel) ?_
  refine xr_aload_n (n := 0) (i := 0) rfl (List.mem_of_getElem? (i := 0) rfl) (by decide +kernel) ?_
  refine xr_getR (o := 10) rfl fl_Mod_38 rfl (by decide +kernel) ?_
  show sh_X g (d + 1) m_Mod_readsPays _ _ ((sh_r 106) :: _) _ _
  refine xr_iconst (n := 1) (by decide +kernel) ?_
  refine xr_ialdN (j := 1) rfl rfl (by decide) (by decide +kernel) ?_
  refine xr_icmp_le (a' := (i3 (mem 107 1))) (b' := (i3 (mem 106 1))) rfl rfl (off := 9) (tgt := 21) (by decide) (by decide +kernel) ⟨fun c1 => ?_, fun c1 => ?_⟩
  · have k := k.1 c1
    refine xr_aload_n (n := 0) (i := 0) rfl (List.mem_of_getElem? (i := 0) rfl) (by decide +kernel) ?_
    refine xr_callV (av := []) rfl rfl rfl mo_Mod_nextToken ml_Mod_212 im_Mod_nextToken se_Mod_nextToken rfl (Nat.le_of_ble_eq_true rfl) (by decide +kernel) (sh_mono k ?_)
    rintro rv m1 ⟨rfl, k⟩
    show sh_X g (d + 1) m_Mod_readsPays _ _ [] _ _
    refine xr_aload_n (n := 0) (i := 0) rfl (List.mem_of_getElem? (i := 0) rfl) (by decide +kernel) ?_
    refine xr_getR (o := 10) rfl fl_Mod_38 rfl (by decide +kernel) ?_
    show sh_X g (d + 1) m_Mod_readsPays _ _ ((sh_r 106) :: _) _ _
    refine xr_iconst (n := 1) (by decide +kernel) ?_
    refine xr_aload_n (n := 0) (i := 0) rfl (List.mem_of_getElem? (i := 0) rfl) (by decide +kernel) ?_
    refine xr_getI rfl fl_Mod_180 (by decide) (by decide +kernel) ?_
    have o9 := True.intro
    refine xr_iastN (j := 1) rfl rfl (by decide) (by decide +kernel) ?_
    have k := k _ rfl
    generalize hg_m2 : ms m1 106 (ru (m1 106) 1 (m1 96 21)) = m2 at k ⊢
    refine xr_aload_n (n := 0) (i := 0) rfl (List.mem_of_getElem? (i := 0) rfl) (by decide +kernel) ?_
    refine xr_callV (av := []) rfl rfl rfl mo_Mod_reads ml_Mod_301 im_Mod_reads se_Mod_reads rfl (Nat.le_of_ble_eq_true rfl) (by decide +kernel) (sh_mono k ?_)
    rintro rv m3 ⟨r1, rfl, k⟩
    show sh_X g (d + 1) m_Mod_readsPays _ _ [(sh_i r1)] _ _
    refine xr_if_ne (a' := (i3 r1)) rfl (off := 5) (tgt := 44) (by decide) (by decide +kernel) ⟨fun c2 => ?_, fun c2 => ?_⟩
    · have k := k.1 c2
      refine xr_aload_n (n := 0) (i := 0) rfl (List.mem_of_getElem? (i := 0) rfl) (by decide +kernel) ?_
      refine xr_getR (o := 11) rfl fl_Mod_41 rfl (by decide +kernel) ?_
      show sh_X g (d + 1) m_Mod_readsPays _ _ ((sh_r 107) :: _) _ _
      refine xr_iconst (n := 1) (by decide +kernel) ?_
      refine xr_aload_n (n := 0) (i := 0) rfl (List.mem_of_getElem? (i := 0) rfl) (by decide +kernel) ?_
      refine xr_getI rfl fl_Mod_180 (by decide) (by decide +kernel) ?_
      have o9 := True.intro
      refine xr_iastN (j := 1) rfl rfl (by decide) (by decide +kernel) ?_
      have k := k _ rfl
      generalize hg_m4 : ms m3 107 (ru (m3 107) 1 (m3 96 21)) = m4 at k ⊢
      refine xr_iconst (n := 1) (by decide +kernel) ?_
      exact xr_zret rfl (by decide +kernel) (by decide) k
    · have k := k.2 c2
      refine xr_iconst (n := 0) (by decide +kernel) ?_
      exact xr_zret rfl (by decide +kernel) (by decide) k
  · have k := k.2 c1
    refine xr_aload_n (n := 0) (i := 0) rfl (List.mem_of_getElem? (i := 0) rfl) (by decide +kernel) ?_
    refine xr_iconst (n := 3) (by decide +kernel) ?_
    refine xr_callV (av := [(sh_i 3)]) rfl rfl rfl mo_Mod_fails ml_Mod_205 im_Mod_fails se_Mod_fails rfl (Nat.le_of_ble_eq_true rfl) (by decide +kernel) (sh_mono k ?_)
    rintro rv m5 ⟨r2, rfl, k⟩
    show sh_X g (d + 1) m_Mod_readsPays _ _ [(sh_i r2)] _ _
    exact xr_zret rfl (by decide +kernel) k.1 k.2

theorem v_Mod_begins {g : sh_G} {d : Nat}   {mem : sh_Mem} {Q : Option sh_V → sh_Mem → Prop}  (k : (∀ m1 : sh_Mem, m1 = ms mem 96 (ru (mem 96) 3 (mem 96 1)) → (∀ m2 : sh_Mem, m2 = ms m1 96 (ru (m1 96) 1 0) → (∀ m3 : sh_Mem, m3 = ms m2 96 (ru (m2 96) 4 0) → (sh_Cal g d m_Mod_nextToken [(sh_r 96)] m3 fun rv m4 => rv = none ∧ Q none m4))))) : sh_Cal g (d + 1) m_Mod_begins [(sh_r 96)] mem Q := by
  refine sh_met (by decide +kernel) (Nat.le_of_ble_eq_true rfl) (lo := [(0, (sh_r 96))]) rfl ?_
  refine xr_aload_n (n := 0) (i := 0) rfl (List.mem_of_getElem? (i := 0) rfl) (by decide +kernel) ?_
  refine xr_aload_n (n := 0) (i := 0) rfl (List.mem_of_getElem? (i := 0) rfl) (by decide +kernel) ?_
  refine xr_getI rfl fl_Mod_147 (by decide) (by decide +kernel) ?_
  refine xr_putI rfl pl_Mod_150 rfl (by decide +kernel) ?_
  have k := k _ rfl
  generalize hg_m1 : ms mem 96 (ru (mem 96) 3 (mem 96 1)) = m1 at k ⊢
  refine xr_aload_n (n := 0) (i := 0) rfl (List.mem_of_getElem? (i := 0) rfl) (by decide +kernel) ?_
  refine xr_iconst (n := 0) (by decide +kernel) ?_
  refine xr_putI rfl pl_Mod_147 rfl (by decide +kernel) ?_
  have k := k _ rfl
  generalize hg_m2 : ms m1 96 (ru (m1 96) 1 0) = m2 at k ⊢
  refine xr_aload_n (n := 0) (i := 0) rfl (List.mem_of_getElem? (i := 0) rfl) (by decide +kernel) ?_
  refine xr_iconst (n := 0) (by decide +kernel) ?_
  refine xr_putI rfl pl_Mod_153 rfl (by decide +kernel) ?_
  have k := k _ rfl
  generalize hg_m3 : ms m2 96 (ru (m2 96) 4 0) = m3 at k ⊢
  refine xr_aload_n (n := 0) (i := 0) rfl (List.mem_of_getElem? (i := 0) rfl) (by decide +kernel) ?_
  refine xr_callV (av := []) rfl rfl rfl mo_Mod_nextToken ml_Mod_212 im_Mod_nextToken se_Mod_nextToken rfl (Nat.le_of_ble_eq_true rfl) (by decide +kernel) (sh_mono k ?_)
  rintro rv m4 ⟨rfl, k⟩
  show sh_X g (d + 1) m_Mod_begins _ _ [] _ _
  exact xr_ret rfl (by decide +kernel) k

theorem v_Mod_readsAll {g : sh_G} {d : Nat}   {mem : sh_Mem} {Q : Option sh_V → sh_Mem → Prop}  (k : sh_X g (d + 1) m_Mod_readsAll 2 [(0, (sh_r 96)), (1, (sh_i 0))] [] mem (sh_K m_Mod_readsAll Q)) : sh_Cal g (d + 1) m_Mod_readsAll [(sh_r 96)] mem Q := by
  refine sh_met (by decide +kernel) (Nat.le_of_ble_eq_true rfl) (lo := [(0, (sh_r 96))]) rfl ?_
  refine xr_iconst (n := 0) (by decide +kernel) ?_
  refine xr_istore_n (n := 1) (i := 1) rfl (by decide) rfl (by decide +kernel) ?_
  refine xr_sub (lo' := [(0, (sh_r 96)), (1, (sh_i 0))]) [1, 0] rfl ?_
  exact k
theorem v_Mod_readsAll_2 {g : sh_G} {d : Nat}   {mem : sh_Mem} {Q : Option sh_V → sh_Mem → Prop}  {x1 : Int} (k : ((2 ≤ (i3 x1) → (∀ m1 : sh_Mem, m1 = ms mem 106 (ru (mem 106) 1 1000) → (∀ m2 : sh_Mem, m2 = ms m1 107 (ru (m1 107) 1 1000) → (∀ m3 : sh_Mem, m3 = ms m2 96 (ru (m2 96) 21 1000) → (sh_Cal g d m_Mod_begins [(sh_r 96)] m3 fun rv m4 => rv = none ∧ sh_X g (d + 1) m_Mod_readsAll 51 [(0, (sh_r 96)), (1, (sh_i x1))] [] m4 (sh_K m_Mod_readsAll Q)))))) ∧ (¬ 2 ≤ (i3 x1) → ((0 ≤ (2 + x1) ∧ (2 + x1) < 4) ∧ (∀ m5 : sh_Mem, m5 = ms mem 98 (ru (mem 98) ((2 + x1)).toNat 0) → sh_X g (d + 1) m_Mod_readsAll 2 [(0, (sh_r 96)), (1, (sh_i (x1 + 1)))] [] m5 (sh_K m_Mod_readsAll Q)))))) : sh_X g (d + 1) m_Mod_readsAll 2 [(0, (sh_r 96)), (1, (sh_i x1))] [] mem (sh_K m_Mod_readsAll Q) := by
  refine xr_iload_n (n := 1) (i := 1) rfl (List.mem_of_getElem? (i := 1) rfl) (by decide +kernel) ?_
  refine xr_iconst (n := 2) (by decide +kernel) ?_
  refine xr_icmp_ge (a' := (i3 x1)) (b' := 2) rfl (by decide) (off := 18) (tgt := 22) (by decide) (by decide +kernel) ⟨fun c1 => ?_, fun c1 => ?_⟩
  · have k := k.1 c1
    refine xr_aload_n (n := 0) (i := 0) rfl (List.mem_of_getElem? (i := 0) rfl) (by decide +kernel) ?_
    refine xr_getR (o := 10) rfl fl_Mod_38 rfl (by decide +kernel) ?_
    show sh_X g (d + 1) m_Mod_readsAll _ _ ((sh_r 106) :: _) _ _
    refine xr_iconst (n := 1) (by decide +kernel) ?_
    refine xr_sipush (n := 1000) (v := 1000) (by decide) (by decide +kernel) ?_
    have o9 := True.intro
    refine xr_iastN (j := 1) rfl rfl (by decide) (by decide +kernel) ?_
    have k := k _ rfl
    generalize hg_m1 : ms mem 106 (ru (mem 106) 1 1000) = m1 at k ⊢
    refine xr_aload_n (n := 0) (i := 0) rfl (List.mem_of_getElem? (i := 0) rfl) (by decide +kernel) ?_
    refine xr_getR (o := 11) rfl fl_Mod_41 rfl (by decide +kernel) ?_
    show sh_X g (d + 1) m_Mod_readsAll _ _ ((sh_r 107) :: _) _ _
    refine xr_iconst (n := 1) (by decide +kernel) ?_
    refine xr_sipush (n := 1000) (v := 1000) (by decide) (by decide +kernel) ?_
    have o9 := True.intro
    refine xr_iastN (j := 1) rfl rfl (by decide) (by decide +kernel) ?_
    have k := k _ rfl
    generalize hg_m2 : ms m1 107 (ru (m1 107) 1 1000) = m2 at k ⊢
    refine xr_aload_n (n := 0) (i := 0) rfl (List.mem_of_getElem? (i := 0) rfl) (by decide +kernel) ?_
    refine xr_sipush (n := 1000) (v := 1000) (by decide) (by decide +kernel) ?_
    refine xr_putI rfl pl_Mod_180 rfl (by decide +kernel) ?_
    have k := k _ rfl
    generalize hg_m3 : ms m2 96 (ru (m2 96) 21 1000) = m3 at k ⊢
    refine xr_aload_n (n := 0) (i := 0) rfl (List.mem_of_getElem? (i := 0) rfl) (by decide +kernel) ?_
    refine xr_callV (av := []) rfl rfl rfl mo_Mod_begins ml_Mod_304 im_Mod_begins se_Mod_begins rfl (Nat.le_of_ble_eq_true rfl) (by decide +kernel) (sh_mono k ?_)
    rintro rv m4 ⟨rfl, k⟩
    show sh_X g (d + 1) m_Mod_readsAll _ _ [] _ _
    refine xr_sub (lo' := [(0, (sh_r 96)), (1, (sh_i x1))]) [0, 1] rfl ?_
    exact k
  · have k := k.2 c1
    refine xr_aload_n (n := 0) (i := 0) rfl (List.mem_of_getElem? (i := 0) rfl) (by decide +kernel) ?_
    refine xr_getR (o := 2) rfl fl_Mod_13 rfl (by decide +kernel) ?_
    show sh_X g (d + 1) m_Mod_readsAll _ _ ((sh_r 98) :: _) _ _
    refine xr_iconst (n := 2) (by decide +kernel) ?_
    refine xr_iload_n (n := 1) (i := 1) rfl (List.mem_of_getElem? (i := 1) rfl) (by decide +kernel) ?_
    refine xr_iadd (by decide +kernel) ?_
    show sh_X g (d + 1) m_Mod_readsAll _ _ ((sh_i (2 + x1)) :: _) _ _
    refine xr_iconst (n := 0) (by decide +kernel) ?_
    have o9 := True.intro
    obtain ⟨o, k⟩ := k
    refine xr_iast rfl o.1 o.2 (by decide +kernel) ?_
    have k := k _ rfl
    generalize hg_m5 : ms mem 98 (ru (mem 98) ((2 + x1)).toNat 0) = m5 at k ⊢
    refine xr_iinc (n := 1) (lo' := [(1, (sh_i (x1 + 1))), (0, (sh_r 96))]) (List.mem_of_getElem? (i := 1) rfl) (by decide) rfl (by decide +kernel) ?_
    refine xr_goto (off := (-17)) (tgt := 2) (by decide) (by decide +kernel) ?_
    refine xr_sub (lo' := [(0, (sh_r 96)), (1, (sh_i (x1 + 1)))]) [1, 0] rfl ?_
    exact k
theorem v_Mod_readsAll_51 {g : sh_G} {d : Nat}   {mem : sh_Mem} {Q : Option sh_V → sh_Mem → Prop}  {x1 : Int} (k : (((i3 (mem 96 6)) = 0 → Q (some (sh_i 1)) mem) ∧ (¬ (i3 (mem 96 6)) = 0 → (sh_Cal g d m_Mod_isWord [(sh_r 96), (sh_l 2968)] mem fun rv m1 => ∃ r1 : Int, rv = some (sh_i r1) ∧ (((i3 r1) = 0 → (sh_Cal g d m_Mod_isWord [(sh_r 96), (sh_l 10792986)] m1 fun rv m2 => ∃ r2 : Int, rv = some (sh_i r2) ∧ (((i3 r2) = 0 → (sh_Cal g d m_Mod_isWord [(sh_r 96), (sh_l 316351)] m2 fun rv m3 => ∃ r3 : Int, rv = some (sh_i r3) ∧ (((i3 r3) = 0 → (sh_Cal g d m_Mod_fails [(sh_r 96), (sh_i 1)] m3 fun rv m4 => ∃ r4 : Int, rv = some (sh_i r4) ∧ sh_X g (d + 1) m_Mod_readsAll 114 [(0, (sh_r 96)), (1, (sh_i x1))] [(sh_i r4)] m4 (sh_K m_Mod_readsAll Q))) ∧ (¬ (i3 r3) = 0 → (sh_Cal g d m_Mod_readsPays [(sh_r 96)] m3 fun rv m5 => ∃ r5 : Int, rv = some (sh_i r5) ∧ sh_X g (d + 1) m_Mod_readsAll 114 [(0, (sh_r 96)), (1, (sh_i x1))] [(sh_i r5)] m5 (sh_K m_Mod_readsAll Q)))))) ∧ (¬ (i3 r2) = 0 → (sh_Cal g d m_Mod_readsThief [(sh_r 96)] m2 fun rv m6 => ∃ r6 : Int, rv = some (sh_i r6) ∧ sh_X g (d + 1) m_Mod_readsAll 114 [(0, (sh_r 96)), (1, (sh_i x1))] [(sh_i r6)] m6 (sh_K m_Mod_readsAll Q)))))) ∧ (¬ (i3 r1) = 0 → (sh_Cal g d m_Mod_readsDay [(sh_r 96)] m1 fun rv m7 => ∃ r7 : Int, rv = some (sh_i r7) ∧ sh_X g (d + 1) m_Mod_readsAll 114 [(0, (sh_r 96)), (1, (sh_i x1))] [(sh_i r7)] m7 (sh_K m_Mod_readsAll Q)))))))) : sh_X g (d + 1) m_Mod_readsAll 51 [(0, (sh_r 96)), (1, (sh_i x1))] [] mem (sh_K m_Mod_readsAll Q) := by
  refine xr_aload_n (n := 0) (i := 0) rfl (List.mem_of_getElem? (i := 0) rfl) (by decide +kernel) ?_
  refine xr_getI rfl fl_Mod_166 (by decide) (by decide +kernel) ?_
  refine xr_if_eq (a' := (i3 (mem 96 6))) rfl (off := 69) (tgt := 124) (by decide) (by decide +kernel) ⟨fun c1 => ?_, fun c1 => ?_⟩
  · have k := k.1 c1
    refine xr_iconst (n := 1) (by decide +kernel) ?_
    exact xr_zret rfl (by decide +kernel) (by decide) k
  · have k := k.2 c1
    refine xr_aload_n (n := 0) (i := 0) rfl (List.mem_of_getElem? (i := 0) rfl) (by decide +kernel) ?_
    refine xr_ldc2 (v := 2968) (by decide) kl_Mod_228 (by decide +kernel) ?_
    refine xr_callV (av := [(sh_l 2968)]) rfl rfl rfl mo_Mod_isWord ml_Mod_197 im_Mod_isWord se_Mod_isWord rfl (Nat.le_of_ble_eq_true rfl) (by decide +kernel) (sh_mono k ?_)
    rintro rv m1 ⟨r1, rfl, k⟩
    show sh_X g (d + 1) m_Mod_readsAll _ _ [(sh_i r1)] _ _
    refine xr_if_eq (a' := (i3 r1)) rfl (off := 10) (tgt := 75) (by decide) (by decide +kernel) ⟨fun c2 => ?_, fun c2 => ?_⟩
    · have k := k.1 c2
      refine xr_aload_n (n := 0) (i := 0) rfl (List.mem_of_getElem? (i := 0) rfl) (by decide +kernel) ?_
      refine xr_ldc2 (v := 10792986) (by decide) kl_Mod_234 (by decide +kernel) ?_
      refine xr_callV (av := [(sh_l 10792986)]) rfl rfl rfl mo_Mod_isWord ml_Mod_197 im_Mod_isWord se_Mod_isWord rfl (Nat.le_of_ble_eq_true rfl) (by decide +kernel) (sh_mono k ?_)
      rintro rv m2 ⟨r2, rfl, k⟩
      show sh_X g (d + 1) m_Mod_readsAll _ _ [(sh_i r2)] _ _
      refine xr_if_eq (a' := (i3 r2)) rfl (off := 10) (tgt := 92) (by decide) (by decide +kernel) ⟨fun c3 => ?_, fun c3 => ?_⟩
      · have k := k.1 c3
        refine xr_aload_n (n := 0) (i := 0) rfl (List.mem_of_getElem? (i := 0) rfl) (by decide +kernel) ?_
        refine xr_ldc2 (v := 316351) (by decide) kl_Mod_240 (by decide +kernel) ?_
        refine xr_callV (av := [(sh_l 316351)]) rfl rfl rfl mo_Mod_isWord ml_Mod_197 im_Mod_isWord se_Mod_isWord rfl (Nat.le_of_ble_eq_true rfl) (by decide +kernel) (sh_mono k ?_)
        rintro rv m3 ⟨r3, rfl, k⟩
        show sh_X g (d + 1) m_Mod_readsAll _ _ [(sh_i r3)] _ _
        refine xr_if_eq (a' := (i3 r3)) rfl (off := 10) (tgt := 109) (by decide) (by decide +kernel) ⟨fun c4 => ?_, fun c4 => ?_⟩
        · have k := k.1 c4
          refine xr_aload_n (n := 0) (i := 0) rfl (List.mem_of_getElem? (i := 0) rfl) (by decide +kernel) ?_
          refine xr_iconst (n := 1) (by decide +kernel) ?_
          refine xr_callV (av := [(sh_i 1)]) rfl rfl rfl mo_Mod_fails ml_Mod_205 im_Mod_fails se_Mod_fails rfl (Nat.le_of_ble_eq_true rfl) (by decide +kernel) (sh_mono k ?_)
          rintro rv m4 ⟨r4, rfl, k⟩
          show sh_X g (d + 1) m_Mod_readsAll _ _ [(sh_i r4)] _ _
          refine xr_sub (lo' := [(0, (sh_r 96)), (1, (sh_i x1))]) [0, 1] rfl ?_
          exact k
        · have k := k.2 c4
          refine xr_aload_n (n := 0) (i := 0) rfl (List.mem_of_getElem? (i := 0) rfl) (by decide +kernel) ?_
          refine xr_callV (av := []) rfl rfl rfl mo_Mod_readsPays ml_Mod_313 im_Mod_readsPays se_Mod_readsPays rfl (Nat.le_of_ble_eq_true rfl) (by decide +kernel) (sh_mono k ?_)
          rintro rv m5 ⟨r5, rfl, k⟩
          show sh_X g (d + 1) m_Mod_readsAll _ _ [(sh_i r5)] _ _
          refine xr_goto (off := 8) (tgt := 114) (by decide) (by decide +kernel) ?_
          refine xr_sub (lo' := [(0, (sh_r 96)), (1, (sh_i x1))]) [0, 1] rfl ?_
          exact k
      · have k := k.2 c3
        refine xr_aload_n (n := 0) (i := 0) rfl (List.mem_of_getElem? (i := 0) rfl) (by decide +kernel) ?_
        refine xr_callV (av := []) rfl rfl rfl mo_Mod_readsThief ml_Mod_310 im_Mod_readsThief se_Mod_readsThief rfl (Nat.le_of_ble_eq_true rfl) (by decide +kernel) (sh_mono k ?_)
        rintro rv m6 ⟨r6, rfl, k⟩
        show sh_X g (d + 1) m_Mod_readsAll _ _ [(sh_i r6)] _ _
        refine xr_goto (off := 25) (tgt := 114) (by decide) (by decide +kernel) ?_
        refine xr_sub (lo' := [(0, (sh_r 96)), (1, (sh_i x1))]) [0, 1] rfl ?_
        exact k
    · have k := k.2 c2
      refine xr_aload_n (n := 0) (i := 0) rfl (List.mem_of_getElem? (i := 0) rfl) (by decide +kernel) ?_
      refine xr_callV (av := []) rfl rfl rfl mo_Mod_readsDay ml_Mod_307 im_Mod_readsDay se_Mod_readsDay rfl (Nat.le_of_ble_eq_true rfl) (by decide +kernel) (sh_mono k ?_)
      rintro rv m7 ⟨r7, rfl, k⟩
      show sh_X g (d + 1) m_Mod_readsAll _ _ [(sh_i r7)] _ _
      refine xr_goto (off := 42) (tgt := 114) (by decide) (by decide +kernel) ?_
      refine xr_sub (lo' := [(0, (sh_r 96)), (1, (sh_i x1))]) [0, 1] rfl ?_
      exact k
theorem v_Mod_readsAll_114 {g : sh_G} {d : Nat}   {mem : sh_Mem} {Q : Option sh_V → sh_Mem → Prop}  {x1 : Int} {y0 : Int} (k : ((¬ (i3 y0) = 0 → sh_X g (d + 1) m_Mod_readsAll 51 [(0, (sh_r 96)), (1, (sh_i y0))] [] mem (sh_K m_Mod_readsAll Q)) ∧ ((i3 y0) = 0 → Q (some (sh_i 0)) mem))) : sh_X g (d + 1) m_Mod_readsAll 114 [(0, (sh_r 96)), (1, (sh_i x1))] [(sh_i y0)] mem (sh_K m_Mod_readsAll Q) := by
  refine xr_istore_n (n := 1) (i := 1) rfl (by decide) rfl (by decide +kernel) ?_
  refine xr_iload_n (n := 1) (i := 1) rfl (List.mem_of_getElem? (i := 0) rfl) (by decide +kernel) ?_
  refine xr_if_ne (a' := (i3 y0)) rfl (off := 5) (tgt := 121) (by decide) (by decide +kernel) ⟨fun c1 => ?_, fun c1 => ?_⟩
  · have k := k.1 c1
    refine xr_goto (off := (-70)) (tgt := 51) (by decide) (by decide +kernel) ?_
    refine xr_sub (lo' := [(0, (sh_r 96)), (1, (sh_i y0))]) [1, 0] rfl ?_
    exact k
  · have k := k.2 c1
    refine xr_iconst (n := 0) (by decide +kernel) ?_
    exact xr_zret rfl (by decide +kernel) (by decide) k

theorem v_Mod_shifts {g : sh_G} {d : Nat} {ra : Nat} {n_ra : Nat} {n : Nat}  {mem : sh_Mem} {Q : Option sh_V → sh_Mem → Prop} (hra : sh_shp ra = some (.inr (0, n_ra))) (k : sh_X g d m_Mod_shifts 2 [(0, (sh_r ra)), (1, (sh_i (n : Int))), (2, (sh_i 0))] [] mem (sh_K m_Mod_shifts Q)) : sh_Cal g d m_Mod_shifts [(sh_r ra), (sh_i (n : Int))] mem Q := by
  refine sh_met (by decide +kernel) (Nat.le_of_ble_eq_true rfl) (lo := [(0, (sh_r ra)), (1, (sh_i (n : Int)))]) rfl ?_
  refine xr_iconst (n := 0) (by decide +kernel) ?_
  refine xr_istore_n (n := 2) (i := 2) rfl (by decide) rfl (by decide +kernel) ?_
  refine xr_sub (lo' := [(0, (sh_r ra)), (1, (sh_i (n : Int))), (2, (sh_i 0))]) [1, 2, 0] rfl ?_
  exact k
theorem v_Mod_shifts_2 {g : sh_G} {d : Nat} {ra : Nat} {n_ra : Nat} {n : Nat}  {mem : sh_Mem} {Q : Option sh_V → sh_Mem → Prop} (hra : sh_shp ra = some (.inr (0, n_ra))) {x2 : Nat} (k : (((i3 (n : Int)) ≤ (i3 (x2 : Int)) → Q none mem) ∧ (¬ (i3 (n : Int)) ≤ (i3 (x2 : Int)) → ((n + x2) < n_ra ∧ (x2 < n_ra ∧ (∀ m1 : sh_Mem, m1 = ms mem ra (ru (mem ra) x2 (mem ra (n + x2))) → sh_X g d m_Mod_shifts 2 [(0, (sh_r ra)), (1, (sh_i (n : Int))), (2, (sh_i (((x2 + 1) : Nat) : Int)))] [] m1 (sh_K m_Mod_shifts Q))))))) : sh_X g d m_Mod_shifts 2 [(0, (sh_r ra)), (1, (sh_i (n : Int))), (2, (sh_i (x2 : Int)))] [] mem (sh_K m_Mod_shifts Q) := by
  refine xr_iload_n (n := 2) (i := 2) rfl (List.mem_of_getElem? (i := 2) rfl) (by decide +kernel) ?_
  refine xr_iload_n (n := 1) (i := 1) rfl (List.mem_of_getElem? (i := 1) rfl) (by decide +kernel) ?_
  refine xr_icmp_ge (a' := (i3 (x2 : Int))) (b' := (i3 (n : Int))) rfl rfl (off := 17) (tgt := 21) (by decide) (by decide +kernel) ⟨fun c1 => ?_, fun c1 => ?_⟩
  · have k := k.1 c1
    exact xr_ret rfl (by decide +kernel) k
  · have k := k.2 c1
    refine xr_aload_n (n := 0) (i := 0) rfl (List.mem_of_getElem? (i := 0) rfl) (by decide +kernel) ?_
    refine xr_iload_n (n := 2) (i := 2) rfl (List.mem_of_getElem? (i := 2) rfl) (by decide +kernel) ?_
    refine xr_aload_n (n := 0) (i := 0) rfl (List.mem_of_getElem? (i := 0) rfl) (by decide +kernel) ?_
    refine xr_iload_n (n := 1) (i := 1) rfl (List.mem_of_getElem? (i := 1) rfl) (by decide +kernel) ?_
    refine xr_iload_n (n := 2) (i := 2) rfl (List.mem_of_getElem? (i := 2) rfl) (by decide +kernel) ?_
    refine xr_iadd (by decide +kernel) ?_
    show sh_X g d m_Mod_shifts _ _ ((sh_i (((n + x2) : Nat) : Int)) :: _) _ _
    obtain ⟨o, k⟩ := k
    refine xr_ialdN (j := (n + x2)) rfl hra o (by decide +kernel) ?_
    have o9 := True.intro
    obtain ⟨o, k⟩ := k
    refine xr_iastN (j := x2) rfl hra o (by decide +kernel) ?_
    have k := k _ rfl
    generalize hg_m1 : ms mem ra (ru (mem ra) x2 (mem ra (n + x2))) = m1 at k ⊢
    refine xr_iinc (n := 1) (lo' := [(2, (sh_i (((x2 + 1) : Nat) : Int))), (0, (sh_r ra)), (1, (sh_i (n : Int)))]) (List.mem_of_getElem? (i := 2) rfl) (by decide) rfl (by decide +kernel) ?_
    refine xr_goto (off := (-16)) (tgt := 2) (by decide) (by decide +kernel) ?_
    refine xr_sub (lo' := [(0, (sh_r ra)), (1, (sh_i (n : Int))), (2, (sh_i (((x2 + 1) : Nat) : Int)))]) [1, 2, 0] rfl ?_
    exact k

theorem v_Mod_shiftsNames {g : sh_G} {d : Nat} {ra : Nat} {n_ra : Nat} {n : Nat}  {mem : sh_Mem} {Q : Option sh_V → sh_Mem → Prop} (hra : sh_shp ra = some (.inr (1, n_ra))) (k : sh_X g d m_Mod_shiftsNames 2 [(0, (sh_r ra)), (1, (sh_i (n : Int))), (2, (sh_i 0))] [] mem (sh_K m_Mod_shiftsNames Q)) : sh_Cal g d m_Mod_shiftsNames [(sh_r ra), (sh_i (n : Int))] mem Q := by
  refine sh_met (by decide +kernel) (Nat.le_of_ble_eq_true rfl) (lo := [(0, (sh_r ra)), (1, (sh_i (n : Int)))]) rfl ?_
  refine xr_iconst (n := 0) (by decide +kernel) ?_
  refine xr_istore_n (n := 2) (i := 2) rfl (by decide) rfl (by decide +kernel) ?_
  refine xr_sub (lo' := [(0, (sh_r ra)), (1, (sh_i (n : Int))), (2, (sh_i 0))]) [1, 2, 0] rfl ?_
  exact k
theorem v_Mod_shiftsNames_2 {g : sh_G} {d : Nat} {ra : Nat} {n_ra : Nat} {n : Nat}  {mem : sh_Mem} {Q : Option sh_V → sh_Mem → Prop} (hra : sh_shp ra = some (.inr (1, n_ra))) {x2 : Nat} (k : (((i3 (n : Int)) ≤ (i3 (x2 : Int)) → Q none mem) ∧ (¬ (i3 (n : Int)) ≤ (i3 (x2 : Int)) → ((n + x2) < n_ra ∧ (x2 < n_ra ∧ (∀ m1 : sh_Mem, m1 = ms mem ra (ru (mem ra) x2 (mem ra (n + x2))) → sh_X g d m_Mod_shiftsNames 2 [(0, (sh_r ra)), (1, (sh_i (n : Int))), (2, (sh_i (((x2 + 1) : Nat) : Int)))] [] m1 (sh_K m_Mod_shiftsNames Q))))))) : sh_X g d m_Mod_shiftsNames 2 [(0, (sh_r ra)), (1, (sh_i (n : Int))), (2, (sh_i (x2 : Int)))] [] mem (sh_K m_Mod_shiftsNames Q) := by
  refine xr_iload_n (n := 2) (i := 2) rfl (List.mem_of_getElem? (i := 2) rfl) (by decide +kernel) ?_
  refine xr_iload_n (n := 1) (i := 1) rfl (List.mem_of_getElem? (i := 1) rfl) (by decide +kernel) ?_
  refine xr_icmp_ge (a' := (i3 (x2 : Int))) (b' := (i3 (n : Int))) rfl rfl (off := 17) (tgt := 21) (by decide) (by decide +kernel) ⟨fun c1 => ?_, fun c1 => ?_⟩
  · have k := k.1 c1
    exact xr_ret rfl (by decide +kernel) k
  · have k := k.2 c1
    refine xr_aload_n (n := 0) (i := 0) rfl (List.mem_of_getElem? (i := 0) rfl) (by decide +kernel) ?_
    refine xr_iload_n (n := 2) (i := 2) rfl (List.mem_of_getElem? (i := 2) rfl) (by decide +kernel) ?_
    refine xr_aload_n (n := 0) (i := 0) rfl (List.mem_of_getElem? (i := 0) rfl) (by decide +kernel) ?_
    refine xr_iload_n (n := 1) (i := 1) rfl (List.mem_of_getElem? (i := 1) rfl) (by decide +kernel) ?_
    refine xr_iload_n (n := 2) (i := 2) rfl (List.mem_of_getElem? (i := 2) rfl) (by decide +kernel) ?_
    refine xr_iadd (by decide +kernel) ?_
    show sh_X g d m_Mod_shiftsNames _ _ ((sh_i (((n + x2) : Nat) : Int)) :: _) _ _
    obtain ⟨o, k⟩ := k
    refine xr_laldN (j := (n + x2)) rfl hra o (by decide +kernel) ?_
    have o9 := True.intro
    obtain ⟨o, k⟩ := k
    refine xr_lastN (j := x2) rfl hra o (by decide +kernel) ?_
    have k := k _ rfl
    generalize hg_m1 : ms mem ra (ru (mem ra) x2 (mem ra (n + x2))) = m1 at k ⊢
    refine xr_iinc (n := 1) (lo' := [(2, (sh_i (((x2 + 1) : Nat) : Int))), (0, (sh_r ra)), (1, (sh_i (n : Int)))]) (List.mem_of_getElem? (i := 2) rfl) (by decide) rfl (by decide +kernel) ?_
    refine xr_goto (off := (-16)) (tgt := 2) (by decide) (by decide +kernel) ?_
    refine xr_sub (lo' := [(0, (sh_r ra)), (1, (sh_i (n : Int))), (2, (sh_i (((x2 + 1) : Nat) : Int)))]) [1, 2, 0] rfl ?_
    exact k

theorem v_Mod_lays {g : sh_G} {d : Nat}   {mem : sh_Mem} {Q : Option sh_V → sh_Mem → Prop}  (k : (sh_Cal g d m_Mod_shifts [(sh_r 98), (sh_i 2)] mem fun rv m1 => rv = none ∧ (sh_Cal g d m_Mod_shiftsNames [(sh_r 99), (sh_i 8)] m1 fun rv m2 => rv = none ∧ (sh_Cal g d m_Mod_shiftsNames [(sh_r 100), (sh_i 4)] m2 fun rv m3 => rv = none ∧ (sh_Cal g d m_Mod_shifts [(sh_r 101), (sh_i 8)] m3 fun rv m4 => rv = none ∧ (sh_Cal g d m_Mod_shifts [(sh_r 102), (sh_i 8)] m4 fun rv m5 => rv = none ∧ (sh_Cal g d m_Mod_shifts [(sh_r 103), (sh_i 8)] m5 fun rv m6 => rv = none ∧ (sh_Cal g d m_Mod_shifts [(sh_r 104), (sh_i 4)] m6 fun rv m7 => rv = none ∧ (sh_Cal g d m_Mod_shifts [(sh_r 105), (sh_i 4)] m7 fun rv m8 => rv = none ∧ (sh_Cal g d m_Mod_shifts [(sh_r 108), (sh_i 1000)] m8 fun rv m9 => rv = none ∧ (∀ m10 : sh_Mem, m10 = ms m9 106 (ru (m9 106) 0 ((m9 106 1) - 1000)) → (∀ m11 : sh_Mem, m11 = ms m10 107 (ru (m10 107) 0 ((m10 107 1) - 1000)) → Q none m11)))))))))))) : sh_Cal g (d + 1) m_Mod_lays [(sh_r 96)] mem Q := by
  refine sh_met (by decide +kernel) (Nat.le_of_ble_eq_true rfl) (lo := [(0, (sh_r 96))]) rfl ?_
  refine xr_aload_n (n := 0) (i := 0) rfl (List.mem_of_getElem? (i := 0) rfl) (by decide +kernel) ?_
  refine xr_getR (o := 2) rfl fl_Mod_13 rfl (by decide +kernel) ?_
  show sh_X g (d + 1) m_Mod_lays _ _ ((sh_r 98) :: _) _ _
  refine xr_iconst (n := 2) (by decide +kernel) ?_
  refine xr_callS (av := [(sh_r 98), (sh_i 2)]) mo_Mod_shifts ml_Mod_316 sa_Mod_shifts rfl (Nat.le_of_ble_eq_true rfl) (by decide +kernel) (sh_mono k ?_)
  rintro rv m1 ⟨rfl, k⟩
  show sh_X g (d + 1) m_Mod_lays _ _ [] _ _
  refine xr_aload_n (n := 0) (i := 0) rfl (List.mem_of_getElem? (i := 0) rfl) (by decide +kernel) ?_
  refine xr_getR (o := 3) rfl fl_Mod_16 rfl (by decide +kernel) ?_
  show sh_X g (d + 1) m_Mod_lays _ _ ((sh_r 99) :: _) _ _
  refine xr_bipush (n := 8) (v := 8) (by decide) (by decide +kernel) ?_
  refine xr_callS (av := [(sh_r 99), (sh_i 8)]) mo_Mod_shiftsNames ml_Mod_320 sa_Mod_shiftsNames rfl (Nat.le_of_ble_eq_true rfl) (by decide +kernel) (sh_mono k ?_)
  rintro rv m2 ⟨rfl, k⟩
  show sh_X g (d + 1) m_Mod_lays _ _ [] _ _
  refine xr_aload_n (n := 0) (i := 0) rfl (List.mem_of_getElem? (i := 0) rfl) (by decide +kernel) ?_
  refine xr_getR (o := 4) rfl fl_Mod_20 rfl (by decide +kernel) ?_
  show sh_X g (d + 1) m_Mod_lays _ _ ((sh_r 100) :: _) _ _
  refine xr_iconst (n := 4) (by decide +kernel) ?_
  refine xr_callS (av := [(sh_r 100), (sh_i 4)]) mo_Mod_shiftsNames ml_Mod_320 sa_Mod_shiftsNames rfl (Nat.le_of_ble_eq_true rfl) (by decide +kernel) (sh_mono k ?_)
  rintro rv m3 ⟨rfl, k⟩
  show sh_X g (d + 1) m_Mod_lays _ _ [] _ _
  refine xr_aload_n (n := 0) (i := 0) rfl (List.mem_of_getElem? (i := 0) rfl) (by decide +kernel) ?_
  refine xr_getR (o := 5) rfl fl_Mod_23 rfl (by decide +kernel) ?_
  show sh_X g (d + 1) m_Mod_lays _ _ ((sh_r 101) :: _) _ _
  refine xr_bipush (n := 8) (v := 8) (by decide) (by decide +kernel) ?_
  refine xr_callS (av := [(sh_r 101), (sh_i 8)]) mo_Mod_shifts ml_Mod_316 sa_Mod_shifts rfl (Nat.le_of_ble_eq_true rfl) (by decide +kernel) (sh_mono k ?_)
  rintro rv m4 ⟨rfl, k⟩
  show sh_X g (d + 1) m_Mod_lays _ _ [] _ _
  refine xr_aload_n (n := 0) (i := 0) rfl (List.mem_of_getElem? (i := 0) rfl) (by decide +kernel) ?_
  refine xr_getR (o := 6) rfl fl_Mod_26 rfl (by decide +kernel) ?_
  show sh_X g (d + 1) m_Mod_lays _ _ ((sh_r 102) :: _) _ _
  refine xr_bipush (n := 8) (v := 8) (by decide) (by decide +kernel) ?_
  refine xr_callS (av := [(sh_r 102), (sh_i 8)]) mo_Mod_shifts ml_Mod_316 sa_Mod_shifts rfl (Nat.le_of_ble_eq_true rfl) (by decide +kernel) (sh_mono k ?_)
  rintro rv m5 ⟨rfl, k⟩
  show sh_X g (d + 1) m_Mod_lays _ _ [] _ _
  refine xr_aload_n (n := 0) (i := 0) rfl (List.mem_of_getElem? (i := 0) rfl) (by decide +kernel) ?_
  refine xr_getR (o := 7) rfl fl_Mod_29 rfl (by decide +kernel) ?_
  show sh_X g (d + 1) m_Mod_lays _ _ ((sh_r 103) :: _) _ _
  refine xr_bipush (n := 8) (v := 8) (by decide) (by decide +kernel) ?_
  refine xr_callS (av := [(sh_r 103), (sh_i 8)]) mo_Mod_shifts ml_Mod_316 sa_Mod_shifts rfl (Nat.le_of_ble_eq_true rfl) (by decide +kernel) (sh_mono k ?_)
  rintro rv m6 ⟨rfl, k⟩
  show sh_X g (d + 1) m_Mod_lays _ _ [] _ _
  refine xr_aload_n (n := 0) (i := 0) rfl (List.mem_of_getElem? (i := 0) rfl) (by decide +kernel) ?_
  refine xr_getR (o := 8) rfl fl_Mod_32 rfl (by decide +kernel) ?_
  show sh_X g (d + 1) m_Mod_lays _ _ ((sh_r 104) :: _) _ _
  refine xr_iconst (n := 4) (by decide +kernel) ?_
  refine xr_callS (av := [(sh_r 104), (sh_i 4)]) mo_Mod_shifts ml_Mod_316 sa_Mod_shifts rfl (Nat.le_of_ble_eq_true rfl) (by decide +kernel) (sh_mono k ?_)
  rintro rv m7 ⟨rfl, k⟩
  show sh_X g (d + 1) m_Mod_lays _ _ [] _ _
  refine xr_aload_n (n := 0) (i := 0) rfl (List.mem_of_getElem? (i := 0) rfl) (by decide +kernel) ?_
  refine xr_getR (o := 9) rfl fl_Mod_35 rfl (by decide +kernel) ?_
  show sh_X g (d + 1) m_Mod_lays _ _ ((sh_r 105) :: _) _ _
  refine xr_iconst (n := 4) (by decide +kernel) ?_
  refine xr_callS (av := [(sh_r 105), (sh_i 4)]) mo_Mod_shifts ml_Mod_316 sa_Mod_shifts rfl (Nat.le_of_ble_eq_true rfl) (by decide +kernel) (sh_mono k ?_)
  rintro rv m8 ⟨rfl, k⟩
  show sh_X g (d + 1) m_Mod_lays _ _ [] _ _
  refine xr_aload_n (n := 0) (i := 0) rfl (List.mem_of_getElem? (i := 0) rfl) (by decide +kernel) ?_
  refine xr_getR (o := 12) rfl fl_Mod_44 rfl (by decide +kernel) ?_
  show sh_X g (d + 1) m_Mod_lays _ _ ((sh_r 108) :: _) _ _
  refine xr_sipush (n := 1000) (v := 1000) (by decide) (by decide +kernel) ?_
  refine xr_callS (av := [(sh_r 108), (sh_i 1000)]) mo_Mod_shifts ml_Mod_316 sa_Mod_shifts rfl (Nat.le_of_ble_eq_true rfl) (by decide +kernel) (sh_mono k ?_)
  rintro rv m9 ⟨rfl, k⟩
  show sh_X g (d + 1) m_Mod_lays _ _ [] _ _
  refine xr_aload_n (n := 0) (i := 0) rfl (List.mem_of_getElem? (i := 0) rfl) (by decide +kernel) ?_
  refine xr_getR (o := 10) rfl fl_Mod_38 rfl (by decide +kernel) ?_
  show sh_X g (d + 1) m_Mod_lays _ _ ((sh_r 106) :: _) _ _
  refine xr_iconst (n := 0) (by decide +kernel) ?_
  refine xr_aload_n (n := 0) (i := 0) rfl (List.mem_of_getElem? (i := 0) rfl) (by decide +kernel) ?_
  refine xr_getR (o := 10) rfl fl_Mod_38 rfl (by decide +kernel) ?_
  show sh_X g (d + 1) m_Mod_lays _ _ ((sh_r 106) :: _) _ _
  refine xr_iconst (n := 1) (by decide +kernel) ?_
  refine xr_ialdN (j := 1) rfl rfl (by decide) (by decide +kernel) ?_
  refine xr_sipush (n := 1000) (v := 1000) (by decide) (by decide +kernel) ?_
  refine xr_isub (by decide +kernel) ?_
  show sh_X g (d + 1) m_Mod_lays _ _ ((sh_i ((m9 106 1) - 1000)) :: _) _ _
  have o9 := True.intro
  refine xr_iastN (j := 0) rfl rfl (by decide) (by decide +kernel) ?_
  have k := k _ rfl
  generalize hg_m10 : ms m9 106 (ru (m9 106) 0 ((m9 106 1) - 1000)) = m10 at k ⊢
  refine xr_aload_n (n := 0) (i := 0) rfl (List.mem_of_getElem? (i := 0) rfl) (by decide +kernel) ?_
  refine xr_getR (o := 11) rfl fl_Mod_41 rfl (by decide +kernel) ?_
  show sh_X g (d + 1) m_Mod_lays _ _ ((sh_r 107) :: _) _ _
  refine xr_iconst (n := 0) (by decide +kernel) ?_
  refine xr_aload_n (n := 0) (i := 0) rfl (List.mem_of_getElem? (i := 0) rfl) (by decide +kernel) ?_
  refine xr_getR (o := 11) rfl fl_Mod_41 rfl (by decide +kernel) ?_
  show sh_X g (d + 1) m_Mod_lays _ _ ((sh_r 107) :: _) _ _
  refine xr_iconst (n := 1) (by decide +kernel) ?_
  refine xr_ialdN (j := 1) rfl rfl (by decide) (by decide +kernel) ?_
  refine xr_sipush (n := 1000) (v := 1000) (by decide) (by decide +kernel) ?_
  refine xr_isub (by decide +kernel) ?_
  show sh_X g (d + 1) m_Mod_lays _ _ ((sh_i ((m10 107 1) - 1000)) :: _) _ _
  have o9 := True.intro
  refine xr_iastN (j := 0) rfl rfl (by decide) (by decide +kernel) ?_
  have k := k _ rfl
  generalize hg_m11 : ms m10 107 (ru (m10 107) 0 ((m10 107 1) - 1000)) = m11 at k ⊢
  exact xr_ret rfl (by decide +kernel) k

theorem v_Mod_copies {g : sh_G} {d : Nat} {fra : Nat} {n_fra : Nat} {a : Nat} {tta : Nat} {n_tta : Nat} {b : Nat}  {mem : sh_Mem} {Q : Option sh_V → sh_Mem → Prop} (hfra : sh_shp fra = some (.inr (0, n_fra))) (htta : sh_shp tta = some (.inr (0, n_tta))) (k : sh_X g d m_Mod_copies 3 [(0, (sh_r fra)), (1, (sh_i (a : Int))), (2, (sh_r tta)), (3, (sh_i (b : Int))), (4, (sh_i 0))] [] mem (sh_K m_Mod_copies Q)) : sh_Cal g d m_Mod_copies [(sh_r fra), (sh_i (a : Int)), (sh_r tta), (sh_i (b : Int))] mem Q := by
  refine sh_met (by decide +kernel) (Nat.le_of_ble_eq_true rfl) (lo := [(0, (sh_r fra)), (1, (sh_i (a : Int))), (2, (sh_r tta)), (3, (sh_i (b : Int)))]) rfl ?_
  refine xr_iconst (n := 0) (by decide +kernel) ?_
  refine xr_istore (i := 4) (by decide) rfl (by decide +kernel) ?_
  refine xr_sub (lo' := [(0, (sh_r fra)), (1, (sh_i (a : Int))), (2, (sh_r tta)), (3, (sh_i (b : Int))), (4, (sh_i 0))]) [1, 2, 3, 4, 0] rfl ?_
  exact k
theorem v_Mod_copies_3 {g : sh_G} {d : Nat} {fra : Nat} {n_fra : Nat} {a : Nat} {tta : Nat} {n_tta : Nat} {b : Nat}  {mem : sh_Mem} {Q : Option sh_V → sh_Mem → Prop} (hfra : sh_shp fra = some (.inr (0, n_fra))) (htta : sh_shp tta = some (.inr (0, n_tta))) {x4 : Nat} (k : ((45 ≤ (i3 (x4 : Int)) → Q none mem) ∧ (¬ 45 ≤ (i3 (x4 : Int)) → ((a + x4) < n_fra ∧ ((b + x4) < n_tta ∧ (∀ m1 : sh_Mem, m1 = ms mem tta (ru (mem tta) (b + x4) (mem fra (a + x4))) → sh_X g d m_Mod_copies 3 [(0, (sh_r fra)), (1, (sh_i (a : Int))), (2, (sh_r tta)), (3, (sh_i (b : Int))), (4, (sh_i (((x4 + 1) : Nat) : Int)))] [] m1 (sh_K m_Mod_copies Q))))))) : sh_X g d m_Mod_copies 3 [(0, (sh_r fra)), (1, (sh_i (a : Int))), (2, (sh_r tta)), (3, (sh_i (b : Int))), (4, (sh_i (x4 : Int)))] [] mem (sh_K m_Mod_copies Q) := by
  refine xr_iload (i := 4) (List.mem_of_getElem? (i := 4) rfl) (by decide +kernel) ?_
  refine xr_bipush (n := 45) (v := 45) (by decide) (by decide +kernel) ?_
  refine xr_icmp_ge (a' := (i3 (x4 : Int))) (b' := 45) rfl (by decide) (off := 21) (tgt := 28) (by decide) (by decide +kernel) ⟨fun c1 => ?_, fun c1 => ?_⟩
  · have k := k.1 c1
    exact xr_ret rfl (by decide +kernel) k
  · have k := k.2 c1
    refine xr_aload_n (n := 2) (i := 2) rfl (List.mem_of_getElem? (i := 2) rfl) (by decide +kernel) ?_
    refine xr_iload_n (n := 3) (i := 3) rfl (List.mem_of_getElem? (i := 3) rfl) (by decide +kernel) ?_
    refine xr_iload (i := 4) (List.mem_of_getElem? (i := 4) rfl) (by decide +kernel) ?_
    refine xr_iadd (by decide +kernel) ?_
    show sh_X g d m_Mod_copies _ _ ((sh_i (((b + x4) : Nat) : Int)) :: _) _ _
    refine xr_aload_n (n := 0) (i := 0) rfl (List.mem_of_getElem? (i := 0) rfl) (by decide +kernel) ?_
    refine xr_iload_n (n := 1) (i := 1) rfl (List.mem_of_getElem? (i := 1) rfl) (by decide +kernel) ?_
    refine xr_iload (i := 4) (List.mem_of_getElem? (i := 4) rfl) (by decide +kernel) ?_
    refine xr_iadd (by decide +kernel) ?_
    show sh_X g d m_Mod_copies _ _ ((sh_i (((a + x4) : Nat) : Int)) :: _) _ _
    obtain ⟨o, k⟩ := k
    refine xr_ialdN (j := (a + x4)) rfl hfra o (by decide +kernel) ?_
    have o9 := True.intro
    obtain ⟨o, k⟩ := k
    refine xr_iastN (j := (b + x4)) rfl htta o (by decide +kernel) ?_
    have k := k _ rfl
    generalize hg_m1 : ms mem tta (ru (mem tta) (b + x4) (mem fra (a + x4))) = m1 at k ⊢
    refine xr_iinc (n := 1) (lo' := [(4, (sh_i (((x4 + 1) : Nat) : Int))), (0, (sh_r fra)), (1, (sh_i (a : Int))), (2, (sh_r tta)), (3, (sh_i (b : Int)))]) (List.mem_of_getElem? (i := 4) rfl) (by decide) rfl (by decide +kernel) ?_
    refine xr_goto (off := (-22)) (tgt := 3) (by decide) (by decide +kernel) ?_
    refine xr_sub (lo' := [(0, (sh_r fra)), (1, (sh_i (a : Int))), (2, (sh_r tta)), (3, (sh_i (b : Int))), (4, (sh_i (((x4 + 1) : Nat) : Int)))]) [1, 2, 3, 4, 0] rfl ?_
    exact k

theorem v_Mod_readsLine {g : sh_G} {d : Nat}   {mem : sh_Mem} {Q : Option sh_V → sh_Mem → Prop}  (k : (sh_Cal g d m_Mod_isWord [(sh_r 96), (sh_l 7622660)] mem fun rv m1 => ∃ r1 : Int, rv = some (sh_i r1) ∧ (((i3 r1) = 0 → (sh_Cal g d m_Mod_isWord [(sh_r 96), (sh_l 10494723)] m1 fun rv m2 => ∃ r2 : Int, rv = some (sh_i r2) ∧ (((i3 r2) = 0 → (sh_Cal g d m_Mod_isWord [(sh_r 96), (sh_l 377958)] m2 fun rv m3 => ∃ r3 : Int, rv = some (sh_i r3) ∧ (((i3 r3) = 0 → (sh_Cal g d m_Mod_isWord [(sh_r 96), (sh_l 10416334)] m3 fun rv m4 => ∃ r4 : Int, rv = some (sh_i r4) ∧ (((i3 r4) = 0 → (sh_Cal g d m_Mod_isWord [(sh_r 96), (sh_l 390787)] m4 fun rv m5 => ∃ r5 : Int, rv = some (sh_i r5) ∧ (((i3 r5) = 0 → sh_X g (d + 1) m_Mod_readsLine 71 [(0, (sh_r 96))] [(sh_i (-1))] m5 (sh_K m_Mod_readsLine Q)) ∧ (¬ (i3 r5) = 0 → sh_X g (d + 1) m_Mod_readsLine 71 [(0, (sh_r 96))] [(sh_i 4)] m5 (sh_K m_Mod_readsLine Q))))) ∧ (¬ (i3 r4) = 0 → sh_X g (d + 1) m_Mod_readsLine 71 [(0, (sh_r 96))] [(sh_i 3)] m4 (sh_K m_Mod_readsLine Q))))) ∧ (¬ (i3 r3) = 0 → sh_X g (d + 1) m_Mod_readsLine 71 [(0, (sh_r 96))] [(sh_i 2)] m3 (sh_K m_Mod_readsLine Q))))) ∧ (¬ (i3 r2) = 0 → sh_X g (d + 1) m_Mod_readsLine 71 [(0, (sh_r 96))] [(sh_i 1)] m2 (sh_K m_Mod_readsLine Q))))) ∧ (¬ (i3 r1) = 0 → sh_X g (d + 1) m_Mod_readsLine 71 [(0, (sh_r 96))] [(sh_i 0)] m1 (sh_K m_Mod_readsLine Q))))) : sh_Cal g (d + 1) m_Mod_readsLine [(sh_r 96)] mem Q := by
  refine sh_met (by decide +kernel) (Nat.le_of_ble_eq_true rfl) (lo := [(0, (sh_r 96))]) rfl ?_
  refine xr_aload_n (n := 0) (i := 0) rfl (List.mem_of_getElem? (i := 0) rfl) (by decide +kernel) ?_
  refine xr_ldc2 (v := 7622660) (by decide) kl_Mod_242 (by decide +kernel) ?_
  refine xr_callV (av := [(sh_l 7622660)]) rfl rfl rfl mo_Mod_isWord ml_Mod_197 im_Mod_isWord se_Mod_isWord rfl (Nat.le_of_ble_eq_true rfl) (by decide +kernel) (sh_mono k ?_)
  rintro rv m1 ⟨r1, rfl, k⟩
  show sh_X g (d + 1) m_Mod_readsLine _ _ [(sh_i r1)] _ _
  refine xr_if_eq (a' := (i3 r1)) rfl (off := 7) (tgt := 14) (by decide) (by decide +kernel) ⟨fun c1 => ?_, fun c1 => ?_⟩
  · have k := k.1 c1
    refine xr_aload_n (n := 0) (i := 0) rfl (List.mem_of_getElem? (i := 0) rfl) (by decide +kernel) ?_
    refine xr_ldc2 (v := 10494723) (by decide) kl_Mod_244 (by decide +kernel) ?_
    refine xr_callV (av := [(sh_l 10494723)]) rfl rfl rfl mo_Mod_isWord ml_Mod_197 im_Mod_isWord se_Mod_isWord rfl (Nat.le_of_ble_eq_true rfl) (by decide +kernel) (sh_mono k ?_)
    rintro rv m2 ⟨r2, rfl, k⟩
    show sh_X g (d + 1) m_Mod_readsLine _ _ [(sh_i r2)] _ _
    refine xr_if_eq (a' := (i3 r2)) rfl (off := 7) (tgt := 28) (by decide) (by decide +kernel) ⟨fun c2 => ?_, fun c2 => ?_⟩
    · have k := k.1 c2
      refine xr_aload_n (n := 0) (i := 0) rfl (List.mem_of_getElem? (i := 0) rfl) (by decide +kernel) ?_
      refine xr_ldc2 (v := 377958) (by decide) kl_Mod_246 (by decide +kernel) ?_
      refine xr_callV (av := [(sh_l 377958)]) rfl rfl rfl mo_Mod_isWord ml_Mod_197 im_Mod_isWord se_Mod_isWord rfl (Nat.le_of_ble_eq_true rfl) (by decide +kernel) (sh_mono k ?_)
      rintro rv m3 ⟨r3, rfl, k⟩
      show sh_X g (d + 1) m_Mod_readsLine _ _ [(sh_i r3)] _ _
      refine xr_if_eq (a' := (i3 r3)) rfl (off := 7) (tgt := 42) (by decide) (by decide +kernel) ⟨fun c3 => ?_, fun c3 => ?_⟩
      · have k := k.1 c3
        refine xr_aload_n (n := 0) (i := 0) rfl (List.mem_of_getElem? (i := 0) rfl) (by decide +kernel) ?_
        refine xr_ldc2 (v := 10416334) (by decide) kl_Mod_248 (by decide +kernel) ?_
        refine xr_callV (av := [(sh_l 10416334)]) rfl rfl rfl mo_Mod_isWord ml_Mod_197 im_Mod_isWord se_Mod_isWord rfl (Nat.le_of_ble_eq_true rfl) (by decide +kernel) (sh_mono k ?_)
        rintro rv m4 ⟨r4, rfl, k⟩
        show sh_X g (d + 1) m_Mod_readsLine _ _ [(sh_i r4)] _ _
        refine xr_if_eq (a' := (i3 r4)) rfl (off := 7) (tgt := 56) (by decide) (by decide +kernel) ⟨fun c4 => ?_, fun c4 => ?_⟩
        · have k := k.1 c4
          refine xr_aload_n (n := 0) (i := 0) rfl (List.mem_of_getElem? (i := 0) rfl) (by decide +kernel) ?_
          refine xr_ldc2 (v := 390787) (by decide) kl_Mod_250 (by decide +kernel) ?_
          refine xr_callV (av := [(sh_l 390787)]) rfl rfl rfl mo_Mod_isWord ml_Mod_197 im_Mod_isWord se_Mod_isWord rfl (Nat.le_of_ble_eq_true rfl) (by decide +kernel) (sh_mono k ?_)
          rintro rv m5 ⟨r5, rfl, k⟩
          show sh_X g (d + 1) m_Mod_readsLine _ _ [(sh_i r5)] _ _
          refine xr_if_eq (a' := (i3 r5)) rfl (off := 7) (tgt := 70) (by decide) (by decide +kernel) ⟨fun c5 => ?_, fun c5 => ?_⟩
          · have k := k.1 c5
            refine xr_iconst (n := (-1)) (by decide +kernel) ?_
            refine xr_sub (lo' := [(0, (sh_r 96))]) [0] rfl ?_
            exact k
          · have k := k.2 c5
            refine xr_iconst (n := 4) (by decide +kernel) ?_
            refine xr_goto (off := 4) (tgt := 71) (by decide) (by decide +kernel) ?_
            refine xr_sub (lo' := [(0, (sh_r 96))]) [0] rfl ?_
            exact k
        · have k := k.2 c4
          refine xr_iconst (n := 3) (by decide +kernel) ?_
          refine xr_goto (off := 18) (tgt := 71) (by decide) (by decide +kernel) ?_
          refine xr_sub (lo' := [(0, (sh_r 96))]) [0] rfl ?_
          exact k
      · have k := k.2 c3
        refine xr_iconst (n := 2) (by decide +kernel) ?_
        refine xr_goto (off := 32) (tgt := 71) (by decide) (by decide +kernel) ?_
        refine xr_sub (lo' := [(0, (sh_r 96))]) [0] rfl ?_
        exact k
    · have k := k.2 c2
      refine xr_iconst (n := 1) (by decide +kernel) ?_
      refine xr_goto (off := 46) (tgt := 71) (by decide) (by decide +kernel) ?_
      refine xr_sub (lo' := [(0, (sh_r 96))]) [0] rfl ?_
      exact k
  · have k := k.2 c1
    refine xr_iconst (n := 0) (by decide +kernel) ?_
    refine xr_goto (off := 60) (tgt := 71) (by decide) (by decide +kernel) ?_
    refine xr_sub (lo' := [(0, (sh_r 96))]) [0] rfl ?_
    exact k
theorem v_Mod_readsLine_71 {g : sh_G} {d : Nat}   {mem : sh_Mem} {Q : Option sh_V → sh_Mem → Prop}  {y0 : Int} (k : ((0 ≤ (i3 y0) → ((¬ (i3 (mem 121 5)) = 40 → (sh_Cal g d m_Mod_nextToken [(sh_r 96)] mem fun rv m1 => rv = none ∧ ((0 ≤ (200 + (m1 121 5)) ∧ (200 + (m1 121 5)) < 240) ∧ (∀ m2 : sh_Mem, m2 = ms m1 122 (ru (m1 122) ((200 + (m1 121 5))).toNat y0) → (((i3 y0) = 0 → sh_X g (d + 1) m_Mod_readsLine 149 [(0, (sh_r 96)), (1, (sh_i y0)), (2, (sh_i (200 + (m1 121 5))))] [] m2 (sh_K m_Mod_readsLine Q)) ∧ (¬ (i3 y0) = 0 → (sh_Cal g d m_Mod_thiefNamed [(sh_r 96), (sh_i 0)] m2 fun rv m3 => ∃ r1 : Int, rv = some (sh_i r1) ∧ (sh_Cal g d m_Mod_passesFound [(sh_r 96), (sh_i r1)] m3 fun rv m4 => ∃ r2 : Int, rv = some (sh_i r2) ∧ ((¬ (i3 r2) = 0 → ((0 ≤ (200 + (m1 121 5)) ∧ (200 + (m1 121 5)) < 240) ∧ (∀ m5 : sh_Mem, m5 = ms m4 123 (ru (m4 123) ((200 + (m1 121 5))).toNat (m4 96 34)) → sh_X g (d + 1) m_Mod_readsLine 149 [(0, (sh_r 96)), (1, (sh_i y0)), (2, (sh_i (200 + (m1 121 5))))] [] m5 (sh_K m_Mod_readsLine Q)))) ∧ ((i3 r2) = 0 → Q (some (sh_i 0)) m4)))))))))) ∧ ((i3 (mem 121 5)) = 40 → (sh_Cal g d m_Mod_fails [(sh_r 96), (sh_i 5)] mem fun rv m6 => ∃ r3 : Int, rv = some (sh_i r3) ∧ ((r3 = 0 ∨ r3 = 1) ∧ Q (some (sh_i r3)) m6))))) ∧ (¬ 0 ≤ (i3 y0) → (sh_Cal g d m_Mod_fails [(sh_r 96), (sh_i 1)] mem fun rv m7 => ∃ r4 : Int, rv = some (sh_i r4) ∧ ((r4 = 0 ∨ r4 = 1) ∧ Q (some (sh_i r4)) m7))))) : sh_X g (d + 1) m_Mod_readsLine 71 [(0, (sh_r 96))] [(sh_i y0)] mem (sh_K m_Mod_readsLine Q) := by
  refine xr_istore_n (n := 1) (i := 1) rfl (by decide) rfl (by decide +kernel) ?_
  refine xr_iload_n (n := 1) (i := 1) rfl (List.mem_of_getElem? (i := 0) rfl) (by decide +kernel) ?_
  refine xr_if_ge (a' := (i3 y0)) rfl (off := 9) (tgt := 82) (by decide) (by decide +kernel) ⟨fun c1 => ?_, fun c1 => ?_⟩
  · have k := k.1 c1
    refine xr_aload_n (n := 0) (i := 0) rfl (List.mem_of_getElem? (i := 1) rfl) (by decide +kernel) ?_
    refine xr_getR (o := 25) rfl fl_Mod_84 rfl (by decide +kernel) ?_
    show sh_X g (d + 1) m_Mod_readsLine _ _ ((sh_r 121) :: _) _ _
    refine xr_iconst (n := 5) (by decide +kernel) ?_
    refine xr_ialdN (j := 5) rfl rfl (by decide) (by decide +kernel) ?_
    refine xr_bipush (n := 40) (v := 40) (by decide) (by decide +kernel) ?_
    refine xr_icmp_ne (a' := (i3 (mem 121 5))) (b' := 40) rfl (by decide) (off := 9) (tgt := 99) (by decide) (by decide +kernel) ⟨fun c2 => ?_, fun c2 => ?_⟩
    · have k := k.1 c2
      refine xr_aload_n (n := 0) (i := 0) rfl (List.mem_of_getElem? (i := 1) rfl) (by decide +kernel) ?_
      refine xr_callV (av := []) rfl rfl rfl mo_Mod_nextToken ml_Mod_212 im_Mod_nextToken se_Mod_nextToken rfl (Nat.le_of_ble_eq_true rfl) (by decide +kernel) (sh_mono k ?_)
      rintro rv m1 ⟨rfl, k⟩
      show sh_X g (d + 1) m_Mod_readsLine _ _ [] _ _
      refine xr_sipush (n := 200) (v := 200) (by decide) (by decide +kernel) ?_
      refine xr_aload_n (n := 0) (i := 0) rfl (List.mem_of_getElem? (i := 1) rfl) (by decide +kernel) ?_
      refine xr_getR (o := 25) rfl fl_Mod_84 rfl (by decide +kernel) ?_
      show sh_X g (d + 1) m_Mod_readsLine _ _ ((sh_r 121) :: _) _ _
      refine xr_iconst (n := 5) (by decide +kernel) ?_
      refine xr_ialdN (j := 5) rfl rfl (by decide) (by decide +kernel) ?_
      refine xr_iadd (by decide +kernel) ?_
      show sh_X g (d + 1) m_Mod_readsLine _ _ ((sh_i (200 + (m1 121 5))) :: _) _ _
      refine xr_istore_n (n := 2) (i := 2) rfl (by decide) rfl (by decide +kernel) ?_
      refine xr_aload_n (n := 0) (i := 0) rfl (List.mem_of_getElem? (i := 2) rfl) (by decide +kernel) ?_
      refine xr_getR (o := 26) rfl fl_Mod_87 rfl (by decide +kernel) ?_
      show sh_X g (d + 1) m_Mod_readsLine _ _ ((sh_r 122) :: _) _ _
      refine xr_iload_n (n := 2) (i := 2) rfl (List.mem_of_getElem? (i := 0) rfl) (by decide +kernel) ?_
      refine xr_iload_n (n := 1) (i := 1) rfl (List.mem_of_getElem? (i := 1) rfl) (by decide +kernel) ?_
      have o9 := True.intro
      obtain ⟨o, k⟩ := k
      refine xr_iast rfl o.1 o.2 (by decide +kernel) ?_
      have k := k _ rfl
      generalize hg_m2 : ms m1 122 (ru (m1 122) ((200 + (m1 121 5))).toNat y0) = m2 at k ⊢
      refine xr_iload_n (n := 1) (i := 1) rfl (List.mem_of_getElem? (i := 1) rfl) (by decide +kernel) ?_
      refine xr_if_eq (a' := (i3 y0)) rfl (off := 27) (tgt := 149) (by decide) (by decide +kernel) ⟨fun c3 => ?_, fun c3 => ?_⟩
      · have k := k.1 c3
        refine xr_sub (lo' := [(0, (sh_r 96)), (1, (sh_i y0)), (2, (sh_i (200 + (m1 121 5))))]) [2, 1, 0] rfl ?_
        exact k
      · have k := k.2 c3
        refine xr_aload_n (n := 0) (i := 0) rfl (List.mem_of_getElem? (i := 2) rfl) (by decide +kernel) ?_
        refine xr_aload_n (n := 0) (i := 0) rfl (List.mem_of_getElem? (i := 2) rfl) (by decide +kernel) ?_
        refine xr_iconst (n := 0) (by decide +kernel) ?_
        refine xr_callV (av := [(sh_i 0)]) rfl rfl rfl mo_Mod_thiefNamed ml_Mod_282 im_Mod_thiefNamed se_Mod_thiefNamed rfl (Nat.le_of_ble_eq_true rfl) (by decide +kernel) (sh_mono k ?_)
        rintro rv m3 ⟨r1, rfl, k⟩
        show sh_X g (d + 1) m_Mod_readsLine _ _ [(sh_i r1), (sh_r 96)] _ _
        refine xr_callV (av := [(sh_i r1)]) rfl rfl rfl mo_Mod_passesFound ml_Mod_324 im_Mod_passesFound se_Mod_passesFound rfl (Nat.le_of_ble_eq_true rfl) (by decide +kernel) (sh_mono k ?_)
        rintro rv m4 ⟨r2, rfl, k⟩
        show sh_X g (d + 1) m_Mod_readsLine _ _ [(sh_i r2)] _ _
        refine xr_if_ne (a' := (i3 r2)) rfl (off := 5) (tgt := 139) (by decide) (by decide +kernel) ⟨fun c4 => ?_, fun c4 => ?_⟩
        · have k := k.1 c4
          refine xr_aload_n (n := 0) (i := 0) rfl (List.mem_of_getElem? (i := 2) rfl) (by decide +kernel) ?_
          refine xr_getR (o := 27) rfl fl_Mod_90 rfl (by decide +kernel) ?_
          show sh_X g (d + 1) m_Mod_readsLine _ _ ((sh_r 123) :: _) _ _
          refine xr_iload_n (n := 2) (i := 2) rfl (List.mem_of_getElem? (i := 0) rfl) (by decide +kernel) ?_
          refine xr_aload_n (n := 0) (i := 0) rfl (List.mem_of_getElem? (i := 2) rfl) (by decide +kernel) ?_
          refine xr_getI rfl fl_Mod_268 (by decide) (by decide +kernel) ?_
          have o9 := True.intro
          obtain ⟨o, k⟩ := k
          refine xr_iast rfl o.1 o.2 (by decide +kernel) ?_
          have k := k _ rfl
          generalize hg_m5 : ms m4 123 (ru (m4 123) ((200 + (m1 121 5))).toNat (m4 96 34)) = m5 at k ⊢
          refine xr_sub (lo' := [(0, (sh_r 96)), (1, (sh_i y0)), (2, (sh_i (200 + (m1 121 5))))]) [2, 1, 0] rfl ?_
          exact k
        · have k := k.2 c4
          refine xr_iconst (n := 0) (by decide +kernel) ?_
          exact xr_zret rfl (by decide +kernel) (by decide) k
    · have k := k.2 c2
      refine xr_aload_n (n := 0) (i := 0) rfl (List.mem_of_getElem? (i := 1) rfl) (by decide +kernel) ?_
      refine xr_iconst (n := 5) (by decide +kernel) ?_
      refine xr_callV (av := [(sh_i 5)]) rfl rfl rfl mo_Mod_fails ml_Mod_205 im_Mod_fails se_Mod_fails rfl (Nat.le_of_ble_eq_true rfl) (by decide +kernel) (sh_mono k ?_)
      rintro rv m6 ⟨r3, rfl, k⟩
      show sh_X g (d + 1) m_Mod_readsLine _ _ [(sh_i r3)] _ _
      exact xr_zret rfl (by decide +kernel) k.1 k.2
  · have k := k.2 c1
    refine xr_aload_n (n := 0) (i := 0) rfl (List.mem_of_getElem? (i := 1) rfl) (by decide +kernel) ?_
    refine xr_iconst (n := 1) (by decide +kernel) ?_
    refine xr_callV (av := [(sh_i 1)]) rfl rfl rfl mo_Mod_fails ml_Mod_205 im_Mod_fails se_Mod_fails rfl (Nat.le_of_ble_eq_true rfl) (by decide +kernel) (sh_mono k ?_)
    rintro rv m7 ⟨r4, rfl, k⟩
    show sh_X g (d + 1) m_Mod_readsLine _ _ [(sh_i r4)] _ _
    exact xr_zret rfl (by decide +kernel) k.1 k.2
theorem v_Mod_readsLine_149 {g : sh_G} {d : Nat}   {mem : sh_Mem} {Q : Option sh_V → sh_Mem → Prop}  {x1 : Int} {x2 : Int} (k : ((¬ (i3 x1) = 1 → sh_X g (d + 1) m_Mod_readsLine 178 [(0, (sh_r 96)), (1, (sh_i x1)), (2, (sh_i x2))] [] mem (sh_K m_Mod_readsLine Q)) ∧ ((i3 x1) = 1 → (sh_Cal g d m_Mod_dayNamed [(sh_r 96), (sh_i 0)] mem fun rv m1 => ∃ r1 : Int, rv = some (sh_i r1) ∧ (sh_Cal g d m_Mod_passesFound [(sh_r 96), (sh_i r1)] m1 fun rv m2 => ∃ r2 : Int, rv = some (sh_i r2) ∧ ((¬ (i3 r2) = 0 → ((0 ≤ x2 ∧ x2 < 240) ∧ (∀ m3 : sh_Mem, m3 = ms m2 124 (ru (m2 124) (x2).toNat (m2 96 34)) → sh_X g (d + 1) m_Mod_readsLine 178 [(0, (sh_r 96)), (1, (sh_i x1)), (2, (sh_i x2))] [] m3 (sh_K m_Mod_readsLine Q)))) ∧ ((i3 r2) = 0 → Q (some (sh_i 0)) m2))))))) : sh_X g (d + 1) m_Mod_readsLine 149 [(0, (sh_r 96)), (1, (sh_i x1)), (2, (sh_i x2))] [] mem (sh_K m_Mod_readsLine Q) := by
  refine xr_iload_n (n := 1) (i := 1) rfl (List.mem_of_getElem? (i := 1) rfl) (by decide +kernel) ?_
  refine xr_iconst (n := 1) (by decide +kernel) ?_
  refine xr_icmp_ne (a' := (i3 x1)) (b' := 1) rfl (by decide) (off := 27) (tgt := 178) (by decide) (by decide +kernel) ⟨fun c1 => ?_, fun c1 => ?_⟩
  · have k := k.1 c1
    refine xr_sub (lo' := [(0, (sh_r 96)), (1, (sh_i x1)), (2, (sh_i x2))]) [0, 1, 2] rfl ?_
    exact k
  · have k := k.2 c1
    refine xr_aload_n (n := 0) (i := 0) rfl (List.mem_of_getElem? (i := 0) rfl) (by decide +kernel) ?_
    refine xr_aload_n (n := 0) (i := 0) rfl (List.mem_of_getElem? (i := 0) rfl) (by decide +kernel) ?_
    refine xr_iconst (n := 0) (by decide +kernel) ?_
    refine xr_callV (av := [(sh_i 0)]) rfl rfl rfl mo_Mod_dayNamed ml_Mod_279 im_Mod_dayNamed se_Mod_dayNamed rfl (Nat.le_of_ble_eq_true rfl) (by decide +kernel) (sh_mono k ?_)
    rintro rv m1 ⟨r1, rfl, k⟩
    show sh_X g (d + 1) m_Mod_readsLine _ _ [(sh_i r1), (sh_r 96)] _ _
    refine xr_callV (av := [(sh_i r1)]) rfl rfl rfl mo_Mod_passesFound ml_Mod_324 im_Mod_passesFound se_Mod_passesFound rfl (Nat.le_of_ble_eq_true rfl) (by decide +kernel) (sh_mono k ?_)
    rintro rv m2 ⟨r2, rfl, k⟩
    show sh_X g (d + 1) m_Mod_readsLine _ _ [(sh_i r2)] _ _
    refine xr_if_ne (a' := (i3 r2)) rfl (off := 5) (tgt := 168) (by decide) (by decide +kernel) ⟨fun c2 => ?_, fun c2 => ?_⟩
    · have k := k.1 c2
      refine xr_aload_n (n := 0) (i := 0) rfl (List.mem_of_getElem? (i := 0) rfl) (by decide +kernel) ?_
      refine xr_getR (o := 28) rfl fl_Mod_93 rfl (by decide +kernel) ?_
      show sh_X g (d + 1) m_Mod_readsLine _ _ ((sh_r 124) :: _) _ _
      refine xr_iload_n (n := 2) (i := 2) rfl (List.mem_of_getElem? (i := 2) rfl) (by decide +kernel) ?_
      refine xr_aload_n (n := 0) (i := 0) rfl (List.mem_of_getElem? (i := 0) rfl) (by decide +kernel) ?_
      refine xr_getI rfl fl_Mod_268 (by decide) (by decide +kernel) ?_
      have o9 := True.intro
      obtain ⟨o, k⟩ := k
      refine xr_iast rfl o.1 o.2 (by decide +kernel) ?_
      have k := k _ rfl
      generalize hg_m3 : ms m2 124 (ru (m2 124) (x2).toNat (m2 96 34)) = m3 at k ⊢
      refine xr_sub (lo' := [(0, (sh_r 96)), (1, (sh_i x1)), (2, (sh_i x2))]) [0, 1, 2] rfl ?_
      exact k
    · have k := k.2 c2
      refine xr_iconst (n := 0) (by decide +kernel) ?_
      exact xr_zret rfl (by decide +kernel) (by decide) k
theorem v_Mod_readsLine_178 {g : sh_G} {d : Nat}   {mem : sh_Mem} {Q : Option sh_V → sh_Mem → Prop}  {x1 : Int} {x2 : Int} (k : ((¬ (i3 x1) = 4 → (∀ m1 : sh_Mem, m1 = ms mem 121 (ru (mem 121) 5 ((mem 121 5) + 1)) → (sh_Cal g d m_Mod_closes [(sh_r 96)] m1 fun rv m2 => ∃ r1 : Int, rv = some (sh_i r1) ∧ ((r1 = 0 ∨ r1 = 1) ∧ Q (some (sh_i r1)) m2)))) ∧ ((i3 x1) = 4 → (sh_Cal g d m_Mod_thiefNamed [(sh_r 96), (sh_i 0)] mem fun rv m3 => ∃ r2 : Int, rv = some (sh_i r2) ∧ (sh_Cal g d m_Mod_isFound [(sh_r 96), (sh_i r2)] m3 fun rv m4 => ∃ r3 : Int, rv = some (sh_i r3) ∧ ((¬ (i3 r3) = 0 → ((0 ≤ x2 ∧ x2 < 240) ∧ ((¬ (i3 (m4 96 34)) = (i3 (m4 123 (x2).toNat)) → ((0 ≤ x2 ∧ x2 < 240) ∧ (∀ m5 : sh_Mem, m5 = ms m4 124 (ru (m4 124) (x2).toNat (m4 96 34)) → (sh_Cal g d m_Mod_nextToken [(sh_r 96)] m5 fun rv m6 => rv = none ∧ (∀ m7 : sh_Mem, m7 = ms m6 121 (ru (m6 121) 5 ((m6 121 5) + 1)) → (sh_Cal g d m_Mod_closes [(sh_r 96)] m7 fun rv m8 => ∃ r4 : Int, rv = some (sh_i r4) ∧ ((r4 = 0 ∨ r4 = 1) ∧ Q (some (sh_i r4)) m8))))))) ∧ ((i3 (m4 96 34)) = (i3 (m4 123 (x2).toNat)) → (sh_Cal g d m_Mod_fails [(sh_r 96), (sh_i 3)] m4 fun rv m9 => ∃ r5 : Int, rv = some (sh_i r5) ∧ ((r5 = 0 ∨ r5 = 1) ∧ Q (some (sh_i r5)) m9)))))) ∧ ((i3 r3) = 0 → Q (some (sh_i 0)) m4))))))) : sh_X g (d + 1) m_Mod_readsLine 178 [(0, (sh_r 96)), (1, (sh_i x1)), (2, (sh_i x2))] [] mem (sh_K m_Mod_readsLine Q) := by
  refine xr_iload_n (n := 1) (i := 1) rfl (List.mem_of_getElem? (i := 1) rfl) (by decide +kernel) ?_
  refine xr_iconst (n := 4) (by decide +kernel) ?_
  refine xr_icmp_ne (a' := (i3 x1)) (b' := 4) rfl (by decide) (off := 50) (tgt := 230) (by decide) (by decide +kernel) ⟨fun c1 => ?_, fun c1 => ?_⟩
  · have k := k.1 c1
    refine xr_aload_n (n := 0) (i := 0) rfl (List.mem_of_getElem? (i := 0) rfl) (by decide +kernel) ?_
    refine xr_getR (o := 25) rfl fl_Mod_84 rfl (by decide +kernel) ?_
    show sh_X g (d + 1) m_Mod_readsLine _ _ ((sh_r 121) :: _) _ _
    refine xr_iconst (n := 5) (by decide +kernel) ?_
    refine xr_dup2 (by decide +kernel) ?_
    refine xr_ialdN (j := 5) rfl rfl (by decide) (by decide +kernel) ?_
    refine xr_iconst (n := 1) (by decide +kernel) ?_
    refine xr_iadd (by decide +kernel) ?_
    show sh_X g (d + 1) m_Mod_readsLine _ _ ((sh_i ((mem 121 5) + 1)) :: _) _ _
    have o9 := True.intro
    refine xr_iastN (j := 5) rfl rfl (by decide) (by decide +kernel) ?_
    have k := k _ rfl
    generalize hg_m1 : ms mem 121 (ru (mem 121) 5 ((mem 121 5) + 1)) = m1 at k ⊢
    refine xr_aload_n (n := 0) (i := 0) rfl (List.mem_of_getElem? (i := 0) rfl) (by decide +kernel) ?_
    refine xr_callV (av := []) rfl rfl rfl mo_Mod_closes ml_Mod_298 im_Mod_closes se_Mod_closes rfl (Nat.le_of_ble_eq_true rfl) (by decide +kernel) (sh_mono k ?_)
    rintro rv m2 ⟨r1, rfl, k⟩
    show sh_X g (d + 1) m_Mod_readsLine _ _ [(sh_i r1)] _ _
    exact xr_zret rfl (by decide +kernel) k.1 k.2
  · have k := k.2 c1
    refine xr_aload_n (n := 0) (i := 0) rfl (List.mem_of_getElem? (i := 0) rfl) (by decide +kernel) ?_
    refine xr_aload_n (n := 0) (i := 0) rfl (List.mem_of_getElem? (i := 0) rfl) (by decide +kernel) ?_
    refine xr_iconst (n := 0) (by decide +kernel) ?_
    refine xr_callV (av := [(sh_i 0)]) rfl rfl rfl mo_Mod_thiefNamed ml_Mod_282 im_Mod_thiefNamed se_Mod_thiefNamed rfl (Nat.le_of_ble_eq_true rfl) (by decide +kernel) (sh_mono k ?_)
    rintro rv m3 ⟨r2, rfl, k⟩
    show sh_X g (d + 1) m_Mod_readsLine _ _ [(sh_i r2), (sh_r 96)] _ _
    refine xr_callV (av := [(sh_i r2)]) rfl rfl rfl mo_Mod_isFound ml_Mod_288 im_Mod_isFound se_Mod_isFound rfl (Nat.le_of_ble_eq_true rfl) (by decide +kernel) (sh_mono k ?_)
    rintro rv m4 ⟨r3, rfl, k⟩
    show sh_X g (d + 1) m_Mod_readsLine _ _ [(sh_i r3)] _ _
    refine xr_if_ne (a' := (i3 r3)) rfl (off := 5) (tgt := 197) (by decide) (by decide +kernel) ⟨fun c2 => ?_, fun c2 => ?_⟩
    · have k := k.1 c2
      refine xr_aload_n (n := 0) (i := 0) rfl (List.mem_of_getElem? (i := 0) rfl) (by decide +kernel) ?_
      refine xr_getI rfl fl_Mod_268 (by decide) (by decide +kernel) ?_
      refine xr_aload_n (n := 0) (i := 0) rfl (List.mem_of_getElem? (i := 0) rfl) (by decide +kernel) ?_
      refine xr_getR (o := 27) rfl fl_Mod_90 rfl (by decide +kernel) ?_
      show sh_X g (d + 1) m_Mod_readsLine _ _ ((sh_r 123) :: _) _ _
      refine xr_iload_n (n := 2) (i := 2) rfl (List.mem_of_getElem? (i := 2) rfl) (by decide +kernel) ?_
      obtain ⟨o, k⟩ := k
      refine xr_iald rfl o.1 o.2 (by decide +kernel) ?_
      refine xr_icmp_ne (a' := (i3 (m4 96 34))) (b' := (i3 (m4 123 (x2).toNat))) rfl rfl (off := 9) (tgt := 216) (by decide) (by decide +kernel) ⟨fun c3 => ?_, fun c3 => ?_⟩
      · have k := k.1 c3
        refine xr_aload_n (n := 0) (i := 0) rfl (List.mem_of_getElem? (i := 0) rfl) (by decide +kernel) ?_
        refine xr_getR (o := 28) rfl fl_Mod_93 rfl (by decide +kernel) ?_
        show sh_X g (d + 1) m_Mod_readsLine _ _ ((sh_r 124) :: _) _ _
        refine xr_iload_n (n := 2) (i := 2) rfl (List.mem_of_getElem? (i := 2) rfl) (by decide +kernel) ?_
        refine xr_aload_n (n := 0) (i := 0) rfl (List.mem_of_getElem? (i := 0) rfl) (by decide +kernel) ?_
        refine xr_getI rfl fl_Mod_268 (by decide) (by decide +kernel) ?_
        have o9 := True.intro
        obtain ⟨o, k⟩ := k
        refine xr_iast rfl o.1 o.2 (by decide +kernel) ?_
        have k := k _ rfl
        generalize hg_m5 : ms m4 124 (ru (m4 124) (x2).toNat (m4 96 34)) = m5 at k ⊢
        refine xr_aload_n (n := 0) (i := 0) rfl (List.mem_of_getElem? (i := 0) rfl) (by decide +kernel) ?_
        refine xr_callV (av := []) rfl rfl rfl mo_Mod_nextToken ml_Mod_212 im_Mod_nextToken se_Mod_nextToken rfl (Nat.le_of_ble_eq_true rfl) (by decide +kernel) (sh_mono k ?_)
        rintro rv m6 ⟨rfl, k⟩
        show sh_X g (d + 1) m_Mod_readsLine _ _ [] _ _
        refine xr_aload_n (n := 0) (i := 0) rfl (List.mem_of_getElem? (i := 0) rfl) (by decide +kernel) ?_
        refine xr_getR (o := 25) rfl fl_Mod_84 rfl (by decide +kernel) ?_
        show sh_X g (d + 1) m_Mod_readsLine _ _ ((sh_r 121) :: _) _ _
        refine xr_iconst (n := 5) (by decide +kernel) ?_
        refine xr_dup2 (by decide +kernel) ?_
        refine xr_ialdN (j := 5) rfl rfl (by decide) (by decide +kernel) ?_
        refine xr_iconst (n := 1) (by decide +kernel) ?_
        refine xr_iadd (by decide +kernel) ?_
        show sh_X g (d + 1) m_Mod_readsLine _ _ ((sh_i ((m6 121 5) + 1)) :: _) _ _
        have o9 := True.intro
        refine xr_iastN (j := 5) rfl rfl (by decide) (by decide +kernel) ?_
        have k := k _ rfl
        generalize hg_m7 : ms m6 121 (ru (m6 121) 5 ((m6 121 5) + 1)) = m7 at k ⊢
        refine xr_aload_n (n := 0) (i := 0) rfl (List.mem_of_getElem? (i := 0) rfl) (by decide +kernel) ?_
        refine xr_callV (av := []) rfl rfl rfl mo_Mod_closes ml_Mod_298 im_Mod_closes se_Mod_closes rfl (Nat.le_of_ble_eq_true rfl) (by decide +kernel) (sh_mono k ?_)
        rintro rv m8 ⟨r4, rfl, k⟩
        show sh_X g (d + 1) m_Mod_readsLine _ _ [(sh_i r4)] _ _
        exact xr_zret rfl (by decide +kernel) k.1 k.2
      · have k := k.2 c3
        refine xr_aload_n (n := 0) (i := 0) rfl (List.mem_of_getElem? (i := 0) rfl) (by decide +kernel) ?_
        refine xr_iconst (n := 3) (by decide +kernel) ?_
        refine xr_callV (av := [(sh_i 3)]) rfl rfl rfl mo_Mod_fails ml_Mod_205 im_Mod_fails se_Mod_fails rfl (Nat.le_of_ble_eq_true rfl) (by decide +kernel) (sh_mono k ?_)
        rintro rv m9 ⟨r5, rfl, k⟩
        show sh_X g (d + 1) m_Mod_readsLine _ _ [(sh_i r5)] _ _
        exact xr_zret rfl (by decide +kernel) k.1 k.2
    · have k := k.2 c2
      refine xr_iconst (n := 0) (by decide +kernel) ?_
      exact xr_zret rfl (by decide +kernel) (by decide) k

theorem v_Mod_laysLines {g : sh_G} {d : Nat} {fr : Nat} {tt : Nat}  {mem : sh_Mem} {Q : Option sh_V → sh_Mem → Prop}  (k : (fr < 6 ∧ (tt < 6 ∧ (∀ m1 : sh_Mem, m1 = ms mem 121 (ru (mem 121) tt (mem 121 fr)) → sh_X g d m_Mod_laysLines 14 [(0, (sh_r 96)), (1, (sh_i (fr : Int))), (2, (sh_i (tt : Int))), (3, (sh_i 0))] [] m1 (sh_K m_Mod_laysLines Q))))) : sh_Cal g d m_Mod_laysLines [(sh_r 96), (sh_i (fr : Int)), (sh_i (tt : Int))] mem Q := by
  refine sh_met (by decide +kernel) (Nat.le_of_ble_eq_true rfl) (lo := [(0, (sh_r 96)), (1, (sh_i (fr : Int))), (2, (sh_i (tt : Int)))]) rfl ?_
  refine xr_aload_n (n := 0) (i := 0) rfl (List.mem_of_getElem? (i := 0) rfl) (by decide +kernel) ?_
  refine xr_getR (o := 25) rfl fl_Mod_84 rfl (by decide +kernel) ?_
  show sh_X g d m_Mod_laysLines _ _ ((sh_r 121) :: _) _ _
  refine xr_iload_n (n := 2) (i := 2) rfl (List.mem_of_getElem? (i := 2) rfl) (by decide +kernel) ?_
  refine xr_aload_n (n := 0) (i := 0) rfl (List.mem_of_getElem? (i := 0) rfl) (by decide +kernel) ?_
  refine xr_getR (o := 25) rfl fl_Mod_84 rfl (by decide +kernel) ?_
  show sh_X g d m_Mod_laysLines _ _ ((sh_r 121) :: _) _ _
  refine xr_iload_n (n := 1) (i := 1) rfl (List.mem_of_getElem? (i := 1) rfl) (by decide +kernel) ?_
  obtain ⟨o, k⟩ := k
  refine xr_ialdN (j := fr) rfl rfl o (by decide +kernel) ?_
  have o9 := True.intro
  obtain ⟨o, k⟩ := k
  refine xr_iastN (j := tt) rfl rfl o (by decide +kernel) ?_
  have k := k _ rfl
  generalize hg_m1 : ms mem 121 (ru (mem 121) tt (mem 121 fr)) = m1 at k ⊢
  refine xr_iconst (n := 0) (by decide +kernel) ?_
  refine xr_istore_n (n := 3) (i := 3) rfl (by decide) rfl (by decide +kernel) ?_
  refine xr_sub (lo' := [(0, (sh_r 96)), (1, (sh_i (fr : Int))), (2, (sh_i (tt : Int))), (3, (sh_i 0))]) [1, 2, 3, 0] rfl ?_
  exact k
theorem v_Mod_laysLines_14 {g : sh_G} {d : Nat} {fr : Nat} {tt : Nat}  {mem : sh_Mem} {Q : Option sh_V → sh_Mem → Prop}  {x3 : Nat} (k : ((40 ≤ (i3 (x3 : Int)) → Q none mem) ∧ (¬ 40 ≤ (i3 (x3 : Int)) → (((40 * fr) + x3) < 240 ∧ (((40 * tt) + x3) < 240 ∧ (∀ m1 : sh_Mem, m1 = ms mem 122 (ru (mem 122) ((40 * tt) + x3) (mem 122 ((40 * fr) + x3))) → (((40 * fr) + x3) < 240 ∧ (((40 * tt) + x3) < 240 ∧ (∀ m2 : sh_Mem, m2 = ms m1 123 (ru (m1 123) ((40 * tt) + x3) (m1 123 ((40 * fr) + x3))) → (((40 * fr) + x3) < 240 ∧ (((40 * tt) + x3) < 240 ∧ (∀ m3 : sh_Mem, m3 = ms m2 124 (ru (m2 124) ((40 * tt) + x3) (m2 124 ((40 * fr) + x3))) → sh_X g d m_Mod_laysLines 14 [(0, (sh_r 96)), (1, (sh_i (fr : Int))), (2, (sh_i (tt : Int))), (3, (sh_i (((x3 + 1) : Nat) : Int)))] [] m3 (sh_K m_Mod_laysLines Q))))))))))))) : sh_X g d m_Mod_laysLines 14 [(0, (sh_r 96)), (1, (sh_i (fr : Int))), (2, (sh_i (tt : Int))), (3, (sh_i (x3 : Int)))] [] mem (sh_K m_Mod_laysLines Q) := by
  refine xr_iload_n (n := 3) (i := 3) rfl (List.mem_of_getElem? (i := 3) rfl) (by decide +kernel) ?_
  refine xr_bipush (n := 40) (v := 40) (by decide) (by decide +kernel) ?_
  refine xr_icmp_ge (a' := (i3 (x3 : Int))) (b' := 40) rfl (by decide) (off := 75) (tgt := 92) (by decide) (by decide +kernel) ⟨fun c1 => ?_, fun c1 => ?_⟩
  · have k := k.1 c1
    exact xr_ret rfl (by decide +kernel) k
  · have k := k.2 c1
    refine xr_aload_n (n := 0) (i := 0) rfl (List.mem_of_getElem? (i := 0) rfl) (by decide +kernel) ?_
    refine xr_getR (o := 26) rfl fl_Mod_87 rfl (by decide +kernel) ?_
    show sh_X g d m_Mod_laysLines _ _ ((sh_r 122) :: _) _ _
    refine xr_bipush (n := 40) (v := 40) (by decide) (by decide +kernel) ?_
    refine xr_iload_n (n := 2) (i := 2) rfl (List.mem_of_getElem? (i := 2) rfl) (by decide +kernel) ?_
    refine xr_imul (by decide +kernel) ?_
    show sh_X g d m_Mod_laysLines _ _ ((sh_i (((40 * tt) : Nat) : Int)) :: _) _ _
    refine xr_iload_n (n := 3) (i := 3) rfl (List.mem_of_getElem? (i := 3) rfl) (by decide +kernel) ?_
    refine xr_iadd (by decide +kernel) ?_
    show sh_X g d m_Mod_laysLines _ _ ((sh_i ((((40 * tt) + x3) : Nat) : Int)) :: _) _ _
    refine xr_aload_n (n := 0) (i := 0) rfl (List.mem_of_getElem? (i := 0) rfl) (by decide +kernel) ?_
    refine xr_getR (o := 26) rfl fl_Mod_87 rfl (by decide +kernel) ?_
    show sh_X g d m_Mod_laysLines _ _ ((sh_r 122) :: _) _ _
    refine xr_bipush (n := 40) (v := 40) (by decide) (by decide +kernel) ?_
    refine xr_iload_n (n := 1) (i := 1) rfl (List.mem_of_getElem? (i := 1) rfl) (by decide +kernel) ?_
    refine xr_imul (by decide +kernel) ?_
    show sh_X g d m_Mod_laysLines _ _ ((sh_i (((40 * fr) : Nat) : Int)) :: _) _ _
    refine xr_iload_n (n := 3) (i := 3) rfl (List.mem_of_getElem? (i := 3) rfl) (by decide +kernel) ?_
    refine xr_iadd (by decide +kernel) ?_
    show sh_X g d m_Mod_laysLines _ _ ((sh_i ((((40 * fr) + x3) : Nat) : Int)) :: _) _ _
    obtain ⟨o, k⟩ := k
    refine xr_ialdN (j := ((40 * fr) + x3)) rfl rfl o (by decide +kernel) ?_
    have o9 := True.intro
    obtain ⟨o, k⟩ := k
    refine xr_iastN (j := ((40 * tt) + x3)) rfl rfl o (by decide +kernel) ?_
    have k := k _ rfl
    generalize hg_m1 : ms mem 122 (ru (mem 122) ((40 * tt) + x3) (mem 122 ((40 * fr) + x3))) = m1 at k ⊢
    refine xr_aload_n (n := 0) (i := 0) rfl (List.mem_of_getElem? (i := 0) rfl) (by decide +kernel) ?_
    refine xr_getR (o := 27) rfl fl_Mod_90 rfl (by decide +kernel) ?_
    show sh_X g d m_Mod_laysLines _ _ ((sh_r 123) :: _) _ _
    refine xr_bipush (n := 40) (v := 40) (by decide) (by decide +kernel) ?_
    refine xr_iload_n (n := 2) (i := 2) rfl (List.mem_of_getElem? (i := 2) rfl) (by decide +kernel) ?_
    refine xr_imul (by decide +kernel) ?_
    show sh_X g d m_Mod_laysLines _ _ ((sh_i (((40 * tt) : Nat) : Int)) :: _) _ _
    refine xr_iload_n (n := 3) (i := 3) rfl (List.mem_of_getElem? (i := 3) rfl) (by decide +kernel) ?_
    refine xr_iadd (by decide +kernel) ?_
    show sh_X g d m_Mod_laysLines _ _ ((sh_i ((((40 * tt) + x3) : Nat) : Int)) :: _) _ _
    refine xr_aload_n (n := 0) (i := 0) rfl (List.mem_of_getElem? (i := 0) rfl) (by decide +kernel) ?_
    refine xr_getR (o := 27) rfl fl_Mod_90 rfl (by decide +kernel) ?_
    show sh_X g d m_Mod_laysLines _ _ ((sh_r 123) :: _) _ _
    refine xr_bipush (n := 40) (v := 40) (by decide) (by decide +kernel) ?_
    refine xr_iload_n (n := 1) (i := 1) rfl (List.mem_of_getElem? (i := 1) rfl) (by decide +kernel) ?_
    refine xr_imul (by decide +kernel) ?_
    show sh_X g d m_Mod_laysLines _ _ ((sh_i (((40 * fr) : Nat) : Int)) :: _) _ _
    refine xr_iload_n (n := 3) (i := 3) rfl (List.mem_of_getElem? (i := 3) rfl) (by decide +kernel) ?_
    refine xr_iadd (by decide +kernel) ?_
    show sh_X g d m_Mod_laysLines _ _ ((sh_i ((((40 * fr) + x3) : Nat) : Int)) :: _) _ _
    obtain ⟨o, k⟩ := k
    refine xr_ialdN (j := ((40 * fr) + x3)) rfl rfl o (by decide +kernel) ?_
    have o9 := True.intro
    obtain ⟨o, k⟩ := k
    refine xr_iastN (j := ((40 * tt) + x3)) rfl rfl o (by decide +kernel) ?_
    have k := k _ rfl
    generalize hg_m2 : ms m1 123 (ru (m1 123) ((40 * tt) + x3) (m1 123 ((40 * fr) + x3))) = m2 at k ⊢
    refine xr_aload_n (n := 0) (i := 0) rfl (List.mem_of_getElem? (i := 0) rfl) (by decide +kernel) ?_
    refine xr_getR (o := 28) rfl fl_Mod_93 rfl (by decide +kernel) ?_
    show sh_X g d m_Mod_laysLines _ _ ((sh_r 124) :: _) _ _
    refine xr_bipush (n := 40) (v := 40) (by decide) (by decide +kernel) ?_
    refine xr_iload_n (n := 2) (i := 2) rfl (List.mem_of_getElem? (i := 2) rfl) (by decide +kernel) ?_
    refine xr_imul (by decide +kernel) ?_
    show sh_X g d m_Mod_laysLines _ _ ((sh_i (((40 * tt) : Nat) : Int)) :: _) _ _
    refine xr_iload_n (n := 3) (i := 3) rfl (List.mem_of_getElem? (i := 3) rfl) (by decide +kernel) ?_
    refine xr_iadd (by decide +kernel) ?_
    show sh_X g d m_Mod_laysLines _ _ ((sh_i ((((40 * tt) + x3) : Nat) : Int)) :: _) _ _
    refine xr_aload_n (n := 0) (i := 0) rfl (List.mem_of_getElem? (i := 0) rfl) (by decide +kernel) ?_
    refine xr_getR (o := 28) rfl fl_Mod_93 rfl (by decide +kernel) ?_
    show sh_X g d m_Mod_laysLines _ _ ((sh_r 124) :: _) _ _
    refine xr_bipush (n := 40) (v := 40) (by decide) (by decide +kernel) ?_
    refine xr_iload_n (n := 1) (i := 1) rfl (List.mem_of_getElem? (i := 1) rfl) (by decide +kernel) ?_
    refine xr_imul (by decide +kernel) ?_
    show sh_X g d m_Mod_laysLines _ _ ((sh_i (((40 * fr) : Nat) : Int)) :: _) _ _
    refine xr_iload_n (n := 3) (i := 3) rfl (List.mem_of_getElem? (i := 3) rfl) (by decide +kernel) ?_
    refine xr_iadd (by decide +kernel) ?_
    show sh_X g d m_Mod_laysLines _ _ ((sh_i ((((40 * fr) + x3) : Nat) : Int)) :: _) _ _
    obtain ⟨o, k⟩ := k
    refine xr_ialdN (j := ((40 * fr) + x3)) rfl rfl o (by decide +kernel) ?_
    have o9 := True.intro
    obtain ⟨o, k⟩ := k
    refine xr_iastN (j := ((40 * tt) + x3)) rfl rfl o (by decide +kernel) ?_
    have k := k _ rfl
    generalize hg_m3 : ms m2 124 (ru (m2 124) ((40 * tt) + x3) (m2 124 ((40 * fr) + x3))) = m3 at k ⊢
    refine xr_iinc (n := 1) (lo' := [(3, (sh_i (((x3 + 1) : Nat) : Int))), (0, (sh_r 96)), (1, (sh_i (fr : Int))), (2, (sh_i (tt : Int)))]) (List.mem_of_getElem? (i := 3) rfl) (by decide) rfl (by decide +kernel) ?_
    refine xr_goto (off := (-75)) (tgt := 14) (by decide) (by decide +kernel) ?_
    refine xr_sub (lo' := [(0, (sh_r 96)), (1, (sh_i (fr : Int))), (2, (sh_i (tt : Int))), (3, (sh_i (((x3 + 1) : Nat) : Int)))]) [1, 2, 3, 0] rfl ?_
    exact k

theorem v_Mod_laysSeen {g : sh_G} {d : Nat} {fr : Nat} {tt : Nat}  {mem : sh_Mem} {Q : Option sh_V → sh_Mem → Prop}  (k : (fr < 5 ∧ (tt < 5 ∧ (∀ m1 : sh_Mem, m1 = ms mem 125 (ru (mem 125) tt (mem 125 fr)) → sh_X g d m_Mod_laysSeen 14 [(0, (sh_r 96)), (1, (sh_i (fr : Int))), (2, (sh_i (tt : Int))), (3, (sh_i 0))] [] m1 (sh_K m_Mod_laysSeen Q))))) : sh_Cal g d m_Mod_laysSeen [(sh_r 96), (sh_i (fr : Int)), (sh_i (tt : Int))] mem Q := by
  refine sh_met (by decide +kernel) (Nat.le_of_ble_eq_true rfl) (lo := [(0, (sh_r 96)), (1, (sh_i (fr : Int))), (2, (sh_i (tt : Int)))]) rfl ?_
  refine xr_aload_n (n := 0) (i := 0) rfl (List.mem_of_getElem? (i := 0) rfl) (by decide +kernel) ?_
  refine xr_getR (o := 29) rfl fl_Mod_96 rfl (by decide +kernel) ?_
  show sh_X g d m_Mod_laysSeen _ _ ((sh_r 125) :: _) _ _
  refine xr_iload_n (n := 2) (i := 2) rfl (List.mem_of_getElem? (i := 2) rfl) (by decide +kernel) ?_
  refine xr_aload_n (n := 0) (i := 0) rfl (List.mem_of_getElem? (i := 0) rfl) (by decide +kernel) ?_
  refine xr_getR (o := 29) rfl fl_Mod_96 rfl (by decide +kernel) ?_
  show sh_X g d m_Mod_laysSeen _ _ ((sh_r 125) :: _) _ _
  refine xr_iload_n (n := 1) (i := 1) rfl (List.mem_of_getElem? (i := 1) rfl) (by decide +kernel) ?_
  obtain ⟨o, k⟩ := k
  refine xr_ialdN (j := fr) rfl rfl o (by decide +kernel) ?_
  have o9 := True.intro
  obtain ⟨o, k⟩ := k
  refine xr_iastN (j := tt) rfl rfl o (by decide +kernel) ?_
  have k := k _ rfl
  generalize hg_m1 : ms mem 125 (ru (mem 125) tt (mem 125 fr)) = m1 at k ⊢
  refine xr_iconst (n := 0) (by decide +kernel) ?_
  refine xr_istore_n (n := 3) (i := 3) rfl (by decide) rfl (by decide +kernel) ?_
  refine xr_sub (lo' := [(0, (sh_r 96)), (1, (sh_i (fr : Int))), (2, (sh_i (tt : Int))), (3, (sh_i 0))]) [1, 2, 3, 0] rfl ?_
  exact k
theorem v_Mod_laysSeen_14 {g : sh_G} {d : Nat} {fr : Nat} {tt : Nat}  {mem : sh_Mem} {Q : Option sh_V → sh_Mem → Prop}  {x3 : Nat} (k : ((8 ≤ (i3 (x3 : Int)) → Q none mem) ∧ (¬ 8 ≤ (i3 (x3 : Int)) → (((8 * fr) + x3) < 40 ∧ (((8 * tt) + x3) < 40 ∧ (∀ m1 : sh_Mem, m1 = ms mem 126 (ru (mem 126) ((8 * tt) + x3) (mem 126 ((8 * fr) + x3))) → (((8 * fr) + x3) < 40 ∧ (((8 * tt) + x3) < 40 ∧ (∀ m2 : sh_Mem, m2 = ms m1 127 (ru (m1 127) ((8 * tt) + x3) (m1 127 ((8 * fr) + x3))) → (((8 * fr) + x3) < 40 ∧ (((m2 128 ((8 * fr) + x3)) = 0 ∨ (m2 128 ((8 * fr) + x3)) = 1) ∧ (((8 * tt) + x3) < 40 ∧ (∀ m3 : sh_Mem, m3 = ms m2 128 (ru (m2 128) ((8 * tt) + x3) (m2 128 ((8 * fr) + x3))) → sh_X g d m_Mod_laysSeen 14 [(0, (sh_r 96)), (1, (sh_i (fr : Int))), (2, (sh_i (tt : Int))), (3, (sh_i (((x3 + 1) : Nat) : Int)))] [] m3 (sh_K m_Mod_laysSeen Q)))))))))))))) : sh_X g d m_Mod_laysSeen 14 [(0, (sh_r 96)), (1, (sh_i (fr : Int))), (2, (sh_i (tt : Int))), (3, (sh_i (x3 : Int)))] [] mem (sh_K m_Mod_laysSeen Q) := by
  refine xr_iload_n (n := 3) (i := 3) rfl (List.mem_of_getElem? (i := 3) rfl) (by decide +kernel) ?_
  refine xr_bipush (n := 8) (v := 8) (by decide) (by decide +kernel) ?_
  refine xr_icmp_ge (a' := (i3 (x3 : Int))) (b' := 8) rfl (by decide) (off := 75) (tgt := 92) (by decide) (by decide +kernel) ⟨fun c1 => ?_, fun c1 => ?_⟩
  · have k := k.1 c1
    exact xr_ret rfl (by decide +kernel) k
  · have k := k.2 c1
    refine xr_aload_n (n := 0) (i := 0) rfl (List.mem_of_getElem? (i := 0) rfl) (by decide +kernel) ?_
    refine xr_getR (o := 30) rfl fl_Mod_99 rfl (by decide +kernel) ?_
    show sh_X g d m_Mod_laysSeen _ _ ((sh_r 126) :: _) _ _
    refine xr_bipush (n := 8) (v := 8) (by decide) (by decide +kernel) ?_
    refine xr_iload_n (n := 2) (i := 2) rfl (List.mem_of_getElem? (i := 2) rfl) (by decide +kernel) ?_
    refine xr_imul (by decide +kernel) ?_
    show sh_X g d m_Mod_laysSeen _ _ ((sh_i (((8 * tt) : Nat) : Int)) :: _) _ _
    refine xr_iload_n (n := 3) (i := 3) rfl (List.mem_of_getElem? (i := 3) rfl) (by decide +kernel) ?_
    refine xr_iadd (by decide +kernel) ?_
    show sh_X g d m_Mod_laysSeen _ _ ((sh_i ((((8 * tt) + x3) : Nat) : Int)) :: _) _ _
    refine xr_aload_n (n := 0) (i := 0) rfl (List.mem_of_getElem? (i := 0) rfl) (by decide +kernel) ?_
    refine xr_getR (o := 30) rfl fl_Mod_99 rfl (by decide +kernel) ?_
    show sh_X g d m_Mod_laysSeen _ _ ((sh_r 126) :: _) _ _
    refine xr_bipush (n := 8) (v := 8) (by decide) (by decide +kernel) ?_
    refine xr_iload_n (n := 1) (i := 1) rfl (List.mem_of_getElem? (i := 1) rfl) (by decide +kernel) ?_
    refine xr_imul (by decide +kernel) ?_
    show sh_X g d m_Mod_laysSeen _ _ ((sh_i (((8 * fr) : Nat) : Int)) :: _) _ _
    refine xr_iload_n (n := 3) (i := 3) rfl (List.mem_of_getElem? (i := 3) rfl) (by decide +kernel) ?_
    refine xr_iadd (by decide +kernel) ?_
    show sh_X g d m_Mod_laysSeen _ _ ((sh_i ((((8 * fr) + x3) : Nat) : Int)) :: _) _ _
    obtain ⟨o, k⟩ := k
    refine xr_ialdN (j := ((8 * fr) + x3)) rfl rfl o (by decide +kernel) ?_
    have o9 := True.intro
    obtain ⟨o, k⟩ := k
    refine xr_iastN (j := ((8 * tt) + x3)) rfl rfl o (by decide +kernel) ?_
    have k := k _ rfl
    generalize hg_m1 : ms mem 126 (ru (mem 126) ((8 * tt) + x3) (mem 126 ((8 * fr) + x3))) = m1 at k ⊢
    refine xr_aload_n (n := 0) (i := 0) rfl (List.mem_of_getElem? (i := 0) rfl) (by decide +kernel) ?_
    refine xr_getR (o := 31) rfl fl_Mod_102 rfl (by decide +kernel) ?_
    show sh_X g d m_Mod_laysSeen _ _ ((sh_r 127) :: _) _ _
    refine xr_bipush (n := 8) (v := 8) (by decide) (by decide +kernel) ?_
    refine xr_iload_n (n := 2) (i := 2) rfl (List.mem_of_getElem? (i := 2) rfl) (by decide +kernel) ?_
    refine xr_imul (by decide +kernel) ?_
    show sh_X g d m_Mod_laysSeen _ _ ((sh_i (((8 * tt) : Nat) : Int)) :: _) _ _
    refine xr_iload_n (n := 3) (i := 3) rfl (List.mem_of_getElem? (i := 3) rfl) (by decide +kernel) ?_
    refine xr_iadd (by decide +kernel) ?_
    show sh_X g d m_Mod_laysSeen _ _ ((sh_i ((((8 * tt) + x3) : Nat) : Int)) :: _) _ _
    refine xr_aload_n (n := 0) (i := 0) rfl (List.mem_of_getElem? (i := 0) rfl) (by decide +kernel) ?_
    refine xr_getR (o := 31) rfl fl_Mod_102 rfl (by decide +kernel) ?_
    show sh_X g d m_Mod_laysSeen _ _ ((sh_r 127) :: _) _ _
    refine xr_bipush (n := 8) (v := 8) (by decide) (by decide +kernel) ?_
    refine xr_iload_n (n := 1) (i := 1) rfl (List.mem_of_getElem? (i := 1) rfl) (by decide +kernel) ?_
    refine xr_imul (by decide +kernel) ?_
    show sh_X g d m_Mod_laysSeen _ _ ((sh_i (((8 * fr) : Nat) : Int)) :: _) _ _
    refine xr_iload_n (n := 3) (i := 3) rfl (List.mem_of_getElem? (i := 3) rfl) (by decide +kernel) ?_
    refine xr_iadd (by decide +kernel) ?_
    show sh_X g d m_Mod_laysSeen _ _ ((sh_i ((((8 * fr) + x3) : Nat) : Int)) :: _) _ _
    obtain ⟨o, k⟩ := k
    refine xr_ialdN (j := ((8 * fr) + x3)) rfl rfl o (by decide +kernel) ?_
    have o9 := True.intro
    obtain ⟨o, k⟩ := k
    refine xr_iastN (j := ((8 * tt) + x3)) rfl rfl o (by decide +kernel) ?_
    have k := k _ rfl
    generalize hg_m2 : ms m1 127 (ru (m1 127) ((8 * tt) + x3) (m1 127 ((8 * fr) + x3))) = m2 at k ⊢
    refine xr_aload_n (n := 0) (i := 0) rfl (List.mem_of_getElem? (i := 0) rfl) (by decide +kernel) ?_
    refine xr_getR (o := 32) rfl fl_Mod_105 rfl (by decide +kernel) ?_
    show sh_X g d m_Mod_laysSeen _ _ ((sh_r 128) :: _) _ _
    refine xr_bipush (n := 8) (v := 8) (by decide) (by decide +kernel) ?_
    refine xr_iload_n (n := 2) (i := 2) rfl (List.mem_of_getElem? (i := 2) rfl) (by decide +kernel) ?_
    refine xr_imul (by decide +kernel) ?_
    show sh_X g d m_Mod_laysSeen _ _ ((sh_i (((8 * tt) : Nat) : Int)) :: _) _ _
    refine xr_iload_n (n := 3) (i := 3) rfl (List.mem_of_getElem? (i := 3) rfl) (by decide +kernel) ?_
    refine xr_iadd (by decide +kernel) ?_
    show sh_X g d m_Mod_laysSeen _ _ ((sh_i ((((8 * tt) + x3) : Nat) : Int)) :: _) _ _
    refine xr_aload_n (n := 0) (i := 0) rfl (List.mem_of_getElem? (i := 0) rfl) (by decide +kernel) ?_
    refine xr_getR (o := 32) rfl fl_Mod_105 rfl (by decide +kernel) ?_
    show sh_X g d m_Mod_laysSeen _ _ ((sh_r 128) :: _) _ _
    refine xr_bipush (n := 8) (v := 8) (by decide) (by decide +kernel) ?_
    refine xr_iload_n (n := 1) (i := 1) rfl (List.mem_of_getElem? (i := 1) rfl) (by decide +kernel) ?_
    refine xr_imul (by decide +kernel) ?_
    show sh_X g d m_Mod_laysSeen _ _ ((sh_i (((8 * fr) : Nat) : Int)) :: _) _ _
    refine xr_iload_n (n := 3) (i := 3) rfl (List.mem_of_getElem? (i := 3) rfl) (by decide +kernel) ?_
    refine xr_iadd (by decide +kernel) ?_
    show sh_X g d m_Mod_laysSeen _ _ ((sh_i ((((8 * fr) + x3) : Nat) : Int)) :: _) _ _
    obtain ⟨o, k⟩ := k
    refine xr_zaldN (j := ((8 * fr) + x3)) rfl rfl o (by decide +kernel) ?_
    obtain ⟨o, k⟩ := k
    have o9 := o
    obtain ⟨o, k⟩ := k
    refine xr_zastN o9 (j := ((8 * tt) + x3)) rfl rfl o (by decide +kernel) ?_
    have k := k _ rfl
    generalize hg_m3 : ms m2 128 (ru (m2 128) ((8 * tt) + x3) (m2 128 ((8 * fr) + x3))) = m3 at k ⊢
    refine xr_iinc (n := 1) (lo' := [(3, (sh_i (((x3 + 1) : Nat) : Int))), (0, (sh_r 96)), (1, (sh_i (fr : Int))), (2, (sh_i (tt : Int)))]) (List.mem_of_getElem? (i := 3) rfl) (by decide) rfl (by decide +kernel) ?_
    refine xr_goto (off := (-75)) (tgt := 14) (by decide) (by decide +kernel) ?_
    refine xr_sub (lo' := [(0, (sh_r 96)), (1, (sh_i (fr : Int))), (2, (sh_i (tt : Int))), (3, (sh_i (((x3 + 1) : Nat) : Int)))]) [1, 2, 3, 0] rfl ?_
    exact k

theorem v_Mod_fresh0 {g : sh_G} {d : Nat}   {mem : sh_Mem} {Q : Option sh_V → sh_Mem → Prop}  (k : sh_X g d m_Mod_fresh0 2 [(0, (sh_r 96)), (1, (sh_i 0))] [] mem (sh_K m_Mod_fresh0 Q)) : sh_Cal g d m_Mod_fresh0 [(sh_r 96)] mem Q := by
  refine sh_met (by decide +kernel) (Nat.le_of_ble_eq_true rfl) (lo := [(0, (sh_r 96))]) rfl ?_
  refine xr_iconst (n := 0) (by decide +kernel) ?_
  refine xr_istore_n (n := 1) (i := 1) rfl (by decide) rfl (by decide +kernel) ?_
  refine xr_sub (lo' := [(0, (sh_r 96)), (1, (sh_i 0))]) [1, 0] rfl ?_
  exact k
theorem v_Mod_fresh0_2 {g : sh_G} {d : Nat}   {mem : sh_Mem} {Q : Option sh_V → sh_Mem → Prop}  {x1 : Nat} (k : ((45 ≤ (i3 (x1 : Int)) → sh_X g d m_Mod_fresh0 39 [(0, (sh_r 96)), (1, (sh_i 0))] [] mem (sh_K m_Mod_fresh0 Q)) ∧ (¬ 45 ≤ (i3 (x1 : Int)) → (((i3 (x1 : Int)) < 21 → (x1 < 45 ∧ (∀ m1 : sh_Mem, m1 = ms mem 129 (ru (mem 129) x1 0) → sh_X g d m_Mod_fresh0 2 [(0, (sh_r 96)), (1, (sh_i (((x1 + 1) : Nat) : Int)))] [] m1 (sh_K m_Mod_fresh0 Q)))) ∧ (¬ (i3 (x1 : Int)) < 21 → ((29 ≤ (i3 (x1 : Int)) → (x1 < 45 ∧ (∀ m2 : sh_Mem, m2 = ms mem 129 (ru (mem 129) x1 0) → sh_X g d m_Mod_fresh0 2 [(0, (sh_r 96)), (1, (sh_i (((x1 + 1) : Nat) : Int)))] [] m2 (sh_K m_Mod_fresh0 Q)))) ∧ (¬ 29 ≤ (i3 (x1 : Int)) → (x1 < 45 ∧ (∀ m3 : sh_Mem, m3 = ms mem 129 (ru (mem 129) x1 (-1)) → sh_X g d m_Mod_fresh0 2 [(0, (sh_r 96)), (1, (sh_i (((x1 + 1) : Nat) : Int)))] [] m3 (sh_K m_Mod_fresh0 Q)))))))))) : sh_X g d m_Mod_fresh0 2 [(0, (sh_r 96)), (1, (sh_i (x1 : Int)))] [] mem (sh_K m_Mod_fresh0 Q) := by
  refine xr_iload_n (n := 1) (i := 1) rfl (List.mem_of_getElem? (i := 1) rfl) (by decide +kernel) ?_
  refine xr_bipush (n := 45) (v := 45) (by decide) (by decide +kernel) ?_
  refine xr_icmp_ge (a' := (i3 (x1 : Int))) (b' := 45) rfl (by decide) (off := 32) (tgt := 37) (by decide) (by decide +kernel) ⟨fun c1 => ?_, fun c1 => ?_⟩
  · have k := k.1 c1
    refine xr_iconst (n := 0) (by decide +kernel) ?_
    refine xr_istore_n (n := 1) (i := 1) rfl (by decide) rfl (by decide +kernel) ?_
    refine xr_sub (lo' := [(0, (sh_r 96)), (1, (sh_i 0))]) [1, 0] rfl ?_
    exact k
  · have k := k.2 c1
    refine xr_aload_n (n := 0) (i := 0) rfl (List.mem_of_getElem? (i := 0) rfl) (by decide +kernel) ?_
    refine xr_getR (o := 33) rfl fl_Mod_108 rfl (by decide +kernel) ?_
    show sh_X g d m_Mod_fresh0 _ _ ((sh_r 129) :: _) _ _
    refine xr_iload_n (n := 1) (i := 1) rfl (List.mem_of_getElem? (i := 1) rfl) (by decide +kernel) ?_
    refine xr_iload_n (n := 1) (i := 1) rfl (List.mem_of_getElem? (i := 1) rfl) (by decide +kernel) ?_
    refine xr_bipush (n := 21) (v := 21) (by decide) (by decide +kernel) ?_
    refine xr_icmp_lt (a' := (i3 (x1 : Int))) (b' := 21) rfl (by decide) (off := 13) (tgt := 29) (by decide) (by decide +kernel) ⟨fun c2 => ?_, fun c2 => ?_⟩
    · have k := k.1 c2
      refine xr_iconst (n := 0) (by decide +kernel) ?_
      have o9 := True.intro
      obtain ⟨o, k⟩ := k
      refine xr_iastN (j := x1) rfl rfl o (by decide +kernel) ?_
      have k := k _ rfl
      generalize hg_m1 : ms mem 129 (ru (mem 129) x1 0) = m1 at k ⊢
      refine xr_iinc (n := 1) (lo' := [(1, (sh_i (((x1 + 1) : Nat) : Int))), (0, (sh_r 96))]) (List.mem_of_getElem? (i := 1) rfl) (by decide) rfl (by decide +kernel) ?_
      refine xr_goto (off := (-32)) (tgt := 2) (by decide) (by decide +kernel) ?_
      refine xr_sub (lo' := [(0, (sh_r 96)), (1, (sh_i (((x1 + 1) : Nat) : Int)))]) [1, 0] rfl ?_
      exact k
    · have k := k.2 c2
      refine xr_iload_n (n := 1) (i := 1) rfl (List.mem_of_getElem? (i := 1) rfl) (by decide +kernel) ?_
      refine xr_bipush (n := 29) (v := 29) (by decide) (by decide +kernel) ?_
      refine xr_icmp_ge (a' := (i3 (x1 : Int))) (b' := 29) rfl (by decide) (off := 7) (tgt := 29) (by decide) (by decide +kernel) ⟨fun c3 => ?_, fun c3 => ?_⟩
      · have k := k.1 c3
        refine xr_iconst (n := 0) (by decide +kernel) ?_
        have o9 := True.intro
        obtain ⟨o, k⟩ := k
        refine xr_iastN (j := x1) rfl rfl o (by decide +kernel) ?_
        have k := k _ rfl
        generalize hg_m2 : ms mem 129 (ru (mem 129) x1 0) = m2 at k ⊢
        refine xr_iinc (n := 1) (lo' := [(1, (sh_i (((x1 + 1) : Nat) : Int))), (0, (sh_r 96))]) (List.mem_of_getElem? (i := 1) rfl) (by decide) rfl (by decide +kernel) ?_
        refine xr_goto (off := (-32)) (tgt := 2) (by decide) (by decide +kernel) ?_
        refine xr_sub (lo' := [(0, (sh_r 96)), (1, (sh_i (((x1 + 1) : Nat) : Int)))]) [1, 0] rfl ?_
        exact k
      · have k := k.2 c3
        refine xr_iconst (n := (-1)) (by decide +kernel) ?_
        refine xr_goto (off := 4) (tgt := 30) (by decide) (by decide +kernel) ?_
        have o9 := True.intro
        obtain ⟨o, k⟩ := k
        refine xr_iastN (j := x1) rfl rfl o (by decide +kernel) ?_
        have k := k _ rfl
        generalize hg_m3 : ms mem 129 (ru (mem 129) x1 (-1)) = m3 at k ⊢
        refine xr_iinc (n := 1) (lo' := [(1, (sh_i (((x1 + 1) : Nat) : Int))), (0, (sh_r 96))]) (List.mem_of_getElem? (i := 1) rfl) (by decide) rfl (by decide +kernel) ?_
        refine xr_goto (off := (-32)) (tgt := 2) (by decide) (by decide +kernel) ?_
        refine xr_sub (lo' := [(0, (sh_r 96)), (1, (sh_i (((x1 + 1) : Nat) : Int)))]) [1, 0] rfl ?_
        exact k
theorem v_Mod_fresh0_39 {g : sh_G} {d : Nat}   {mem : sh_Mem} {Q : Option sh_V → sh_Mem → Prop}  {x1 : Nat} (k : (((i3 (mem 98 0)) ≤ (i3 (x1 : Int)) → Q none mem) ∧ (¬ (i3 (mem 98 0)) ≤ (i3 (x1 : Int)) → (x1 < 16 ∧ ((1 + x1) < 45 ∧ (∀ m1 : sh_Mem, m1 = ms mem 129 (ru (mem 129) (1 + x1) (mem 102 x1)) → (x1 < 16 ∧ ((9 + x1) < 45 ∧ (∀ m2 : sh_Mem, m2 = ms m1 129 (ru (m1 129) (9 + x1) (m1 103 x1)) → sh_X g d m_Mod_fresh0 39 [(0, (sh_r 96)), (1, (sh_i (((x1 + 1) : Nat) : Int)))] [] m2 (sh_K m_Mod_fresh0 Q)))))))))) : sh_X g d m_Mod_fresh0 39 [(0, (sh_r 96)), (1, (sh_i (x1 : Int)))] [] mem (sh_K m_Mod_fresh0 Q) := by
  refine xr_iload_n (n := 1) (i := 1) rfl (List.mem_of_getElem? (i := 1) rfl) (by decide +kernel) ?_
  refine xr_aload_n (n := 0) (i := 0) rfl (List.mem_of_getElem? (i := 0) rfl) (by decide +kernel) ?_
  refine xr_getR (o := 2) rfl fl_Mod_13 rfl (by decide +kernel) ?_
  show sh_X g d m_Mod_fresh0 _ _ ((sh_r 98) :: _) _ _
  refine xr_iconst (n := 0) (by decide +kernel) ?_
  refine xr_ialdN (j := 0) rfl rfl (by decide) (by decide +kernel) ?_
  refine xr_icmp_ge (a' := (i3 (x1 : Int))) (b' := (i3 (mem 98 0))) rfl rfl (off := 38) (tgt := 84) (by decide) (by decide +kernel) ⟨fun c1 => ?_, fun c1 => ?_⟩
  · have k := k.1 c1
    exact xr_ret rfl (by decide +kernel) k
  · have k := k.2 c1
    refine xr_aload_n (n := 0) (i := 0) rfl (List.mem_of_getElem? (i := 0) rfl) (by decide +kernel) ?_
    refine xr_getR (o := 33) rfl fl_Mod_108 rfl (by decide +kernel) ?_
    show sh_X g d m_Mod_fresh0 _ _ ((sh_r 129) :: _) _ _
    refine xr_iconst (n := 1) (by decide +kernel) ?_
    refine xr_iload_n (n := 1) (i := 1) rfl (List.mem_of_getElem? (i := 1) rfl) (by decide +kernel) ?_
    refine xr_iadd (by decide +kernel) ?_
    show sh_X g d m_Mod_fresh0 _ _ ((sh_i (((1 + x1) : Nat) : Int)) :: _) _ _
    refine xr_aload_n (n := 0) (i := 0) rfl (List.mem_of_getElem? (i := 0) rfl) (by decide +kernel) ?_
    refine xr_getR (o := 6) rfl fl_Mod_26 rfl (by decide +kernel) ?_
    show sh_X g d m_Mod_fresh0 _ _ ((sh_r 102) :: _) _ _
    refine xr_iload_n (n := 1) (i := 1) rfl (List.mem_of_getElem? (i := 1) rfl) (by decide +kernel) ?_
    obtain ⟨o, k⟩ := k
    refine xr_ialdN (j := x1) rfl rfl o (by decide +kernel) ?_
    have o9 := True.intro
    obtain ⟨o, k⟩ := k
    refine xr_iastN (j := (1 + x1)) rfl rfl o (by decide +kernel) ?_
    have k := k _ rfl
    generalize hg_m1 : ms mem 129 (ru (mem 129) (1 + x1) (mem 102 x1)) = m1 at k ⊢
    refine xr_aload_n (n := 0) (i := 0) rfl (List.mem_of_getElem? (i := 0) rfl) (by decide +kernel) ?_
    refine xr_getR (o := 33) rfl fl_Mod_108 rfl (by decide +kernel) ?_
    show sh_X g d m_Mod_fresh0 _ _ ((sh_r 129) :: _) _ _
    refine xr_bipush (n := 9) (v := 9) (by decide) (by decide +kernel) ?_
    refine xr_iload_n (n := 1) (i := 1) rfl (List.mem_of_getElem? (i := 1) rfl) (by decide +kernel) ?_
    refine xr_iadd (by decide +kernel) ?_
    show sh_X g d m_Mod_fresh0 _ _ ((sh_i (((9 + x1) : Nat) : Int)) :: _) _ _
    refine xr_aload_n (n := 0) (i := 0) rfl (List.mem_of_getElem? (i := 0) rfl) (by decide +kernel) ?_
    refine xr_getR (o := 7) rfl fl_Mod_29 rfl (by decide +kernel) ?_
    show sh_X g d m_Mod_fresh0 _ _ ((sh_r 103) :: _) _ _
    refine xr_iload_n (n := 1) (i := 1) rfl (List.mem_of_getElem? (i := 1) rfl) (by decide +kernel) ?_
    obtain ⟨o, k⟩ := k
    refine xr_ialdN (j := x1) rfl rfl o (by decide +kernel) ?_
    have o9 := True.intro
    obtain ⟨o, k⟩ := k
    refine xr_iastN (j := (9 + x1)) rfl rfl o (by decide +kernel) ?_
    have k := k _ rfl
    generalize hg_m2 : ms m1 129 (ru (m1 129) (9 + x1) (m1 103 x1)) = m2 at k ⊢
    refine xr_iinc (n := 1) (lo' := [(1, (sh_i (((x1 + 1) : Nat) : Int))), (0, (sh_r 96))]) (List.mem_of_getElem? (i := 1) rfl) (by decide) rfl (by decide +kernel) ?_
    refine xr_goto (off := (-42)) (tgt := 39) (by decide) (by decide +kernel) ?_
    refine xr_sub (lo' := [(0, (sh_r 96)), (1, (sh_i (((x1 + 1) : Nat) : Int)))]) [1, 0] rfl ?_
    exact k

theorem v_Mod_almanac {g : sh_G} {d : Nat}   {mem : sh_Mem} {Q : Option sh_V → sh_Mem → Prop}  (k : (∀ m1 : sh_Mem, m1 = ms mem 96 (ru (mem 96) 0 0) → (sh_Cal g d m_Mod_readsAll [(sh_r 96)] m1 fun rv m2 => ∃ r1 : Int, rv = some (sh_i r1) ∧ ((¬ (i3 r1) = 0 → (sh_Cal g d m_Mod_lays [(sh_r 96)] m2 fun rv m3 => rv = none ∧ (sh_Cal g d m_Mod_fresh0 [(sh_r 96)] m3 fun rv m4 => rv = none ∧ (∀ m5 : sh_Mem, m5 = ms m4 121 (ru (m4 121) 0 0) → (∀ m6 : sh_Mem, m6 = ms m5 125 (ru (m5 125) 0 0) → (∀ m7 : sh_Mem, m7 = ms m6 96 (ru (m6 96) 51 0) → sh_X g (d + 1) m_Mod_almanac 46 [(0, (sh_r 96)), (1, (sh_i 0))] [] m7 (sh_K m_Mod_almanac Q))))))) ∧ ((i3 r1) = 0 → Q (some (sh_i (m2 96 9))) m2))))) : sh_Cal g (d + 1) m_Mod_almanac [(sh_r 96)] mem Q := by
  refine sh_met (by decide +kernel) (Nat.le_of_ble_eq_true rfl) (lo := [(0, (sh_r 96))]) rfl ?_
  refine xr_aload_n (n := 0) (i := 0) rfl (List.mem_of_getElem? (i := 0) rfl) (by decide +kernel) ?_
  refine xr_iconst (n := 0) (by decide +kernel) ?_
  refine xr_putI rfl pl_Mod_141 rfl (by decide +kernel) ?_
  have k := k _ rfl
  generalize hg_m1 : ms mem 96 (ru (mem 96) 0 0) = m1 at k ⊢
  refine xr_aload_n (n := 0) (i := 0) rfl (List.mem_of_getElem? (i := 0) rfl) (by decide +kernel) ?_
  refine xr_callV (av := []) rfl rfl rfl mo_Mod_readsAll ml_Mod_327 im_Mod_readsAll se_Mod_readsAll rfl (Nat.le_of_ble_eq_true rfl) (by decide +kernel) (sh_mono k ?_)
  rintro rv m2 ⟨r1, rfl, k⟩
  show sh_X g (d + 1) m_Mod_almanac _ _ [(sh_i r1)] _ _
  refine xr_if_ne (a' := (i3 r1)) rfl (off := 8) (tgt := 17) (by decide) (by decide +kernel) ⟨fun c1 => ?_, fun c1 => ?_⟩
  · have k := k.1 c1
    refine xr_aload_n (n := 0) (i := 0) rfl (List.mem_of_getElem? (i := 0) rfl) (by decide +kernel) ?_
    refine xr_callV (av := []) rfl rfl rfl mo_Mod_lays ml_Mod_330 im_Mod_lays se_Mod_lays rfl (Nat.le_of_ble_eq_true rfl) (by decide +kernel) (sh_mono k ?_)
    rintro rv m3 ⟨rfl, k⟩
    show sh_X g (d + 1) m_Mod_almanac _ _ [] _ _
    refine xr_aload_n (n := 0) (i := 0) rfl (List.mem_of_getElem? (i := 0) rfl) (by decide +kernel) ?_
    refine xr_callV (av := []) rfl rfl rfl mo_Mod_fresh0 ml_Mod_138 im_Mod_fresh0 se_Mod_fresh0 rfl (Nat.le_of_ble_eq_true rfl) (by decide +kernel) (sh_mono k ?_)
    rintro rv m4 ⟨rfl, k⟩
    show sh_X g (d + 1) m_Mod_almanac _ _ [] _ _
    refine xr_aload_n (n := 0) (i := 0) rfl (List.mem_of_getElem? (i := 0) rfl) (by decide +kernel) ?_
    refine xr_getR (o := 25) rfl fl_Mod_84 rfl (by decide +kernel) ?_
    show sh_X g (d + 1) m_Mod_almanac _ _ ((sh_r 121) :: _) _ _
    refine xr_iconst (n := 0) (by decide +kernel) ?_
    refine xr_iconst (n := 0) (by decide +kernel) ?_
    have o9 := True.intro
    refine xr_iastN (j := 0) rfl rfl (by decide) (by decide +kernel) ?_
    have k := k _ rfl
    generalize hg_m5 : ms m4 121 (ru (m4 121) 0 0) = m5 at k ⊢
    refine xr_aload_n (n := 0) (i := 0) rfl (List.mem_of_getElem? (i := 0) rfl) (by decide +kernel) ?_
    refine xr_getR (o := 29) rfl fl_Mod_96 rfl (by decide +kernel) ?_
    show sh_X g (d + 1) m_Mod_almanac _ _ ((sh_r 125) :: _) _ _
    refine xr_iconst (n := 0) (by decide +kernel) ?_
    refine xr_iconst (n := 0) (by decide +kernel) ?_
    have o9 := True.intro
    refine xr_iastN (j := 0) rfl rfl (by decide) (by decide +kernel) ?_
    have k := k _ rfl
    generalize hg_m6 : ms m5 125 (ru (m5 125) 0 0) = m6 at k ⊢
    refine xr_aload_n (n := 0) (i := 0) rfl (List.mem_of_getElem? (i := 0) rfl) (by decide +kernel) ?_
    refine xr_iconst (n := 0) (by decide +kernel) ?_
    refine xr_putI rfl pl_Mod_333 rfl (by decide +kernel) ?_
    have k := k _ rfl
    generalize hg_m7 : ms m6 96 (ru (m6 96) 51 0) = m7 at k ⊢
    refine xr_iconst (n := 0) (by decide +kernel) ?_
    refine xr_istore_n (n := 1) (i := 1) rfl (by decide) rfl (by decide +kernel) ?_
    refine xr_sub (lo' := [(0, (sh_r 96)), (1, (sh_i 0))]) [1, 0] rfl ?_
    exact k
  · have k := k.2 c1
    refine xr_aload_n (n := 0) (i := 0) rfl (List.mem_of_getElem? (i := 0) rfl) (by decide +kernel) ?_
    refine xr_getI rfl fl_Mod_177 (by decide) (by decide +kernel) ?_
    exact xr_iret rfl (by decide +kernel) k
theorem v_Mod_almanac_46 {g : sh_G} {d : Nat}   {mem : sh_Mem} {Q : Option sh_V → sh_Mem → Prop}  {x1 : Nat} (k : ((4 ≤ (i3 (x1 : Int)) → Q (some (sh_i 0)) mem) ∧ (¬ 4 ≤ (i3 (x1 : Int)) → (x1 < 4 ∧ (∀ m1 : sh_Mem, m1 = ms mem 135 (ru (mem 135) x1 0) → sh_X g (d + 1) m_Mod_almanac 46 [(0, (sh_r 96)), (1, (sh_i (((x1 + 1) : Nat) : Int)))] [] m1 (sh_K m_Mod_almanac Q)))))) : sh_X g (d + 1) m_Mod_almanac 46 [(0, (sh_r 96)), (1, (sh_i (x1 : Int)))] [] mem (sh_K m_Mod_almanac Q) := by
  refine xr_iload_n (n := 1) (i := 1) rfl (List.mem_of_getElem? (i := 1) rfl) (by decide +kernel) ?_
  refine xr_iconst (n := 4) (by decide +kernel) ?_
  refine xr_icmp_ge (a' := (i3 (x1 : Int))) (b' := 4) rfl (by decide) (off := 16) (tgt := 64) (by decide) (by decide +kernel) ⟨fun c1 => ?_, fun c1 => ?_⟩
  · have k := k.1 c1
    refine xr_iconst (n := 0) (by decide +kernel) ?_
    exact xr_iret rfl (by decide +kernel) k
  · have k := k.2 c1
    refine xr_aload_n (n := 0) (i := 0) rfl (List.mem_of_getElem? (i := 0) rfl) (by decide +kernel) ?_
    refine xr_getR (o := 39) rfl fl_Mod_126 rfl (by decide +kernel) ?_
    show sh_X g (d + 1) m_Mod_almanac _ _ ((sh_r 135) :: _) _ _
    refine xr_iload_n (n := 1) (i := 1) rfl (List.mem_of_getElem? (i := 1) rfl) (by decide +kernel) ?_
    refine xr_iconst (n := 0) (by decide +kernel) ?_
    have o9 := True.intro
    obtain ⟨o, k⟩ := k
    refine xr_zastN (by decide) (j := x1) rfl rfl o (by decide +kernel) ?_
    have k := k _ rfl
    generalize hg_m1 : ms mem 135 (ru (mem 135) x1 0) = m1 at k ⊢
    refine xr_iinc (n := 1) (lo' := [(1, (sh_i (((x1 + 1) : Nat) : Int))), (0, (sh_r 96))]) (List.mem_of_getElem? (i := 1) rfl) (by decide) rfl (by decide +kernel) ?_
    refine xr_goto (off := (-15)) (tgt := 46) (by decide) (by decide +kernel) ?_
    refine xr_sub (lo' := [(0, (sh_r 96)), (1, (sh_i (((x1 + 1) : Nat) : Int)))]) [1, 0] rfl ?_
    exact k

theorem v_Mod_year {g : sh_G} {d : Nat}   {mem : sh_Mem} {Q : Option sh_V → sh_Mem → Prop}  (k : (∀ m1 : sh_Mem, m1 = ms mem 96 (ru (mem 96) 0 0) → (∀ m2 : sh_Mem, m2 = ms m1 121 (ru (m1 121) 5 0) → (sh_Cal g d m_Mod_begins [(sh_r 96)] m2 fun rv m3 => rv = none ∧ sh_X g (d + 1) m_Mod_year 16 [(0, (sh_r 96))] [] m3 (sh_K m_Mod_year Q))))) : sh_Cal g (d + 1) m_Mod_year [(sh_r 96)] mem Q := by
  refine sh_met (by decide +kernel) (Nat.le_of_ble_eq_true rfl) (lo := [(0, (sh_r 96))]) rfl ?_
  refine xr_aload_n (n := 0) (i := 0) rfl (List.mem_of_getElem? (i := 0) rfl) (by decide +kernel) ?_
  refine xr_iconst (n := 0) (by decide +kernel) ?_
  refine xr_putI rfl pl_Mod_141 rfl (by decide +kernel) ?_
  have k := k _ rfl
  generalize hg_m1 : ms mem 96 (ru (mem 96) 0 0) = m1 at k ⊢
  refine xr_aload_n (n := 0) (i := 0) rfl (List.mem_of_getElem? (i := 0) rfl) (by decide +kernel) ?_
  refine xr_getR (o := 25) rfl fl_Mod_84 rfl (by decide +kernel) ?_
  show sh_X g (d + 1) m_Mod_year _ _ ((sh_r 121) :: _) _ _
  refine xr_iconst (n := 5) (by decide +kernel) ?_
  refine xr_iconst (n := 0) (by decide +kernel) ?_
  have o9 := True.intro
  refine xr_iastN (j := 5) rfl rfl (by decide) (by decide +kernel) ?_
  have k := k _ rfl
  generalize hg_m2 : ms m1 121 (ru (m1 121) 5 0) = m2 at k ⊢
  refine xr_aload_n (n := 0) (i := 0) rfl (List.mem_of_getElem? (i := 0) rfl) (by decide +kernel) ?_
  refine xr_callV (av := []) rfl rfl rfl mo_Mod_begins ml_Mod_304 im_Mod_begins se_Mod_begins rfl (Nat.le_of_ble_eq_true rfl) (by decide +kernel) (sh_mono k ?_)
  rintro rv m3 ⟨rfl, k⟩
  show sh_X g (d + 1) m_Mod_year _ _ [] _ _
  refine xr_sub (lo' := [(0, (sh_r 96))]) [0] rfl ?_
  exact k
theorem v_Mod_year_16 {g : sh_G} {d : Nat}   {mem : sh_Mem} {Q : Option sh_V → sh_Mem → Prop}   (k : (((i3 (mem 96 6)) = 0 → (sh_Cal g d m_Mod_laysLines [(sh_r 96), (sh_i 5), (sh_i 0)] mem fun rv m1 => rv = none ∧ Q (some (sh_i 0)) m1)) ∧ (¬ (i3 (mem 96 6)) = 0 → (sh_Cal g d m_Mod_readsLine [(sh_r 96)] mem fun rv m2 => ∃ r1 : Int, rv = some (sh_i r1) ∧ ((¬ (i3 r1) = 0 → sh_X g (d + 1) m_Mod_year 16 [(0, (sh_r 96))] [] m2 (sh_K m_Mod_year Q)) ∧ ((i3 r1) = 0 → Q (some (sh_i (m2 96 9))) m2)))))) : sh_X g (d + 1) m_Mod_year 16 [(0, (sh_r 96))] [] mem (sh_K m_Mod_year Q) := by
  refine xr_aload_n (n := 0) (i := 0) rfl (List.mem_of_getElem? (i := 0) rfl) (by decide +kernel) ?_
  refine xr_getI rfl fl_Mod_166 (by decide) (by decide +kernel) ?_
  refine xr_if_eq (a' := (i3 (mem 96 6))) rfl (off := 15) (tgt := 35) (by decide) (by decide +kernel) ⟨fun c1 => ?_, fun c1 => ?_⟩
  · have k := k.1 c1
    refine xr_aload_n (n := 0) (i := 0) rfl (List.mem_of_getElem? (i := 0) rfl) (by decide +kernel) ?_
    refine xr_iconst (n := 5) (by decide +kernel) ?_
    refine xr_iconst (n := 0) (by decide +kernel) ?_
    refine xr_callV (av := [(sh_i 5), (sh_i 0)]) rfl rfl rfl mo_Mod_laysLines ml_Mod_339 im_Mod_laysLines se_Mod_laysLines rfl (Nat.le_of_ble_eq_true rfl) (by decide +kernel) (sh_mono k ?_)
    rintro rv m1 ⟨rfl, k⟩
    show sh_X g (d + 1) m_Mod_year _ _ [] _ _
    refine xr_iconst (n := 0) (by decide +kernel) ?_
    exact xr_iret rfl (by decide +kernel) k
  · have k := k.2 c1
    refine xr_aload_n (n := 0) (i := 0) rfl (List.mem_of_getElem? (i := 0) rfl) (by decide +kernel) ?_
    refine xr_callV (av := []) rfl rfl rfl mo_Mod_readsLine ml_Mod_336 im_Mod_readsLine se_Mod_readsLine rfl (Nat.le_of_ble_eq_true rfl) (by decide +kernel) (sh_mono k ?_)
    rintro rv m2 ⟨r1, rfl, k⟩
    show sh_X g (d + 1) m_Mod_year _ _ [(sh_i r1)] _ _
    refine xr_if_ne (a' := (i3 r1)) rfl (off := (-11)) (tgt := 16) (by decide) (by decide +kernel) ⟨fun c2 => ?_, fun c2 => ?_⟩
    · have k := k.1 c2
      refine xr_sub (lo' := [(0, (sh_r 96))]) [0] rfl ?_
      exact k
    · have k := k.2 c2
      refine xr_aload_n (n := 0) (i := 0) rfl (List.mem_of_getElem? (i := 0) rfl) (by decide +kernel) ?_
      refine xr_getI rfl fl_Mod_177 (by decide) (by decide +kernel) ?_
      exact xr_iret rfl (by decide +kernel) k

theorem v_Mod_isDay {g : sh_G} {d : Nat} {e : Nat}  {mem : sh_Mem} {Q : Option sh_V → sh_Mem → Prop}  (k : (((i3 (e : Int)) < 0 → Q (some (sh_i 0)) mem) ∧ (¬ (i3 (e : Int)) < 0 → (((i3 (mem 98 0)) ≤ (i3 (e : Int)) → Q (some (sh_i 0)) mem) ∧ (¬ (i3 (mem 98 0)) ≤ (i3 (e : Int)) → Q (some (sh_i 1)) mem))))) : sh_Cal g d m_Mod_isDay [(sh_r 96), (sh_i (e : Int))] mem Q := by
  refine sh_met (by decide +kernel) (Nat.le_of_ble_eq_true rfl) (lo := [(0, (sh_r 96)), (1, (sh_i (e : Int)))]) rfl ?_
  refine xr_iload_n (n := 1) (i := 1) rfl (List.mem_of_getElem? (i := 1) rfl) (by decide +kernel) ?_
  refine xr_if_lt (a' := (i3 (e : Int))) rfl (off := 17) (tgt := 18) (by decide) (by decide +kernel) ⟨fun c1 => ?_, fun c1 => ?_⟩
  · have k := k.1 c1
    refine xr_iconst (n := 0) (by decide +kernel) ?_
    exact xr_zret rfl (by decide +kernel) (by decide) k
  · have k := k.2 c1
    refine xr_iload_n (n := 1) (i := 1) rfl (List.mem_of_getElem? (i := 1) rfl) (by decide +kernel) ?_
    refine xr_aload_n (n := 0) (i := 0) rfl (List.mem_of_getElem? (i := 0) rfl) (by decide +kernel) ?_
    refine xr_getR (o := 2) rfl fl_Mod_13 rfl (by decide +kernel) ?_
    show sh_X g d m_Mod_isDay _ _ ((sh_r 98) :: _) _ _
    refine xr_iconst (n := 0) (by decide +kernel) ?_
    refine xr_ialdN (j := 0) rfl rfl (by decide) (by decide +kernel) ?_
    refine xr_icmp_ge (a' := (i3 (e : Int))) (b' := (i3 (mem 98 0))) rfl rfl (off := 7) (tgt := 18) (by decide) (by decide +kernel) ⟨fun c2 => ?_, fun c2 => ?_⟩
    · have k := k.1 c2
      refine xr_iconst (n := 0) (by decide +kernel) ?_
      exact xr_zret rfl (by decide +kernel) (by decide) k
    · have k := k.2 c2
      refine xr_iconst (n := 1) (by decide +kernel) ?_
      refine xr_goto (off := 4) (tgt := 19) (by decide) (by decide +kernel) ?_
      exact xr_zret rfl (by decide +kernel) (by decide) k

theorem v_Mod_isThief {g : sh_G} {d : Nat} {t : Nat}  {mem : sh_Mem} {Q : Option sh_V → sh_Mem → Prop}  (k : (((i3 (t : Int)) < 0 → Q (some (sh_i 0)) mem) ∧ (¬ (i3 (t : Int)) < 0 → (((i3 (mem 98 1)) ≤ (i3 (t : Int)) → Q (some (sh_i 0)) mem) ∧ (¬ (i3 (mem 98 1)) ≤ (i3 (t : Int)) → Q (some (sh_i 1)) mem))))) : sh_Cal g d m_Mod_isThief [(sh_r 96), (sh_i (t : Int))] mem Q := by
  refine sh_met (by decide +kernel) (Nat.le_of_ble_eq_true rfl) (lo := [(0, (sh_r 96)), (1, (sh_i (t : Int)))]) rfl ?_
  refine xr_iload_n (n := 1) (i := 1) rfl (List.mem_of_getElem? (i := 1) rfl) (by decide +kernel) ?_
  refine xr_if_lt (a' := (i3 (t : Int))) rfl (off := 17) (tgt := 18) (by decide) (by decide +kernel) ⟨fun c1 => ?_, fun c1 => ?_⟩
  · have k := k.1 c1
    refine xr_iconst (n := 0) (by decide +kernel) ?_
    exact xr_zret rfl (by decide +kernel) (by decide) k
  · have k := k.2 c1
    refine xr_iload_n (n := 1) (i := 1) rfl (List.mem_of_getElem? (i := 1) rfl) (by decide +kernel) ?_
    refine xr_aload_n (n := 0) (i := 0) rfl (List.mem_of_getElem? (i := 0) rfl) (by decide +kernel) ?_
    refine xr_getR (o := 2) rfl fl_Mod_13 rfl (by decide +kernel) ?_
    show sh_X g d m_Mod_isThief _ _ ((sh_r 98) :: _) _ _
    refine xr_iconst (n := 1) (by decide +kernel) ?_
    refine xr_ialdN (j := 1) rfl rfl (by decide) (by decide +kernel) ?_
    refine xr_icmp_ge (a' := (i3 (t : Int))) (b' := (i3 (mem 98 1))) rfl rfl (off := 7) (tgt := 18) (by decide) (by decide +kernel) ⟨fun c2 => ?_, fun c2 => ?_⟩
    · have k := k.1 c2
      refine xr_iconst (n := 0) (by decide +kernel) ?_
      exact xr_zret rfl (by decide +kernel) (by decide) k
    · have k := k.2 c2
      refine xr_iconst (n := 1) (by decide +kernel) ?_
      refine xr_goto (off := 4) (tgt := 19) (by decide) (by decide +kernel) ?_
      exact xr_zret rfl (by decide +kernel) (by decide) k

theorem v_Mod_isFree {g : sh_G} {d : Nat} {t : Nat}  {mem : sh_Mem} {Q : Option sh_V → sh_Mem → Prop}  (k : ((29 + t) < 45 ∧ ((¬ (i3 (mem 129 (29 + t))) = 0 → Q (some (sh_i 0)) mem) ∧ ((i3 (mem 129 (29 + t))) = 0 → Q (some (sh_i 1)) mem)))) : sh_Cal g d m_Mod_isFree [(sh_r 96), (sh_i (t : Int))] mem Q := by
  refine sh_met (by decide +kernel) (Nat.le_of_ble_eq_true rfl) (lo := [(0, (sh_r 96)), (1, (sh_i (t : Int)))]) rfl ?_
  refine xr_aload_n (n := 0) (i := 0) rfl (List.mem_of_getElem? (i := 0) rfl) (by decide +kernel) ?_
  refine xr_getR (o := 33) rfl fl_Mod_108 rfl (by decide +kernel) ?_
  show sh_X g d m_Mod_isFree _ _ ((sh_r 129) :: _) _ _
  refine xr_bipush (n := 29) (v := 29) (by decide) (by decide +kernel) ?_
  refine xr_iload_n (n := 1) (i := 1) rfl (List.mem_of_getElem? (i := 1) rfl) (by decide +kernel) ?_
  refine xr_iadd (by decide +kernel) ?_
  show sh_X g d m_Mod_isFree _ _ ((sh_i (((29 + t) : Nat) : Int)) :: _) _ _
  obtain ⟨o, k⟩ := k
  refine xr_ialdN (j := (29 + t)) rfl rfl o (by decide +kernel) ?_
  refine xr_if_ne (a' := (i3 (mem 129 (29 + t)))) rfl (off := 7) (tgt := 16) (by decide) (by decide +kernel) ⟨fun c1 => ?_, fun c1 => ?_⟩
  · have k := k.1 c1
    refine xr_iconst (n := 0) (by decide +kernel) ?_
    exact xr_zret rfl (by decide +kernel) (by decide) k
  · have k := k.2 c1
    refine xr_iconst (n := 1) (by decide +kernel) ?_
    refine xr_goto (off := 4) (tgt := 17) (by decide) (by decide +kernel) ?_
    exact xr_zret rfl (by decide +kernel) (by decide) k

theorem v_Mod_hasPiece {g : sh_G} {d : Nat} {t : Nat}  {mem : sh_Mem} {Q : Option sh_V → sh_Mem → Prop}  (k : ((17 + t) < 45 ∧ (((i3 (mem 129 (17 + t))) ≤ 0 → Q (some (sh_i 0)) mem) ∧ (¬ (i3 (mem 129 (17 + t))) ≤ 0 → Q (some (sh_i 1)) mem)))) : sh_Cal g d m_Mod_hasPiece [(sh_r 96), (sh_i (t : Int))] mem Q := by
  refine sh_met (by decide +kernel) (Nat.le_of_ble_eq_true rfl) (lo := [(0, (sh_r 96)), (1, (sh_i (t : Int)))]) rfl ?_
  refine xr_aload_n (n := 0) (i := 0) rfl (List.mem_of_getElem? (i := 0) rfl) (by decide +kernel) ?_
  refine xr_getR (o := 33) rfl fl_Mod_108 rfl (by decide +kernel) ?_
  show sh_X g d m_Mod_hasPiece _ _ ((sh_r 129) :: _) _ _
  refine xr_bipush (n := 17) (v := 17) (by decide) (by decide +kernel) ?_
  refine xr_iload_n (n := 1) (i := 1) rfl (List.mem_of_getElem? (i := 1) rfl) (by decide +kernel) ?_
  refine xr_iadd (by decide +kernel) ?_
  show sh_X g d m_Mod_hasPiece _ _ ((sh_i (((17 + t) : Nat) : Int)) :: _) _ _
  obtain ⟨o, k⟩ := k
  refine xr_ialdN (j := (17 + t)) rfl rfl o (by decide +kernel) ?_
  refine xr_if_le (a' := (i3 (mem 129 (17 + t)))) rfl (off := 7) (tgt := 16) (by decide) (by decide +kernel) ⟨fun c1 => ?_, fun c1 => ?_⟩
  · have k := k.1 c1
    refine xr_iconst (n := 0) (by decide +kernel) ?_
    exact xr_zret rfl (by decide +kernel) (by decide) k
  · have k := k.2 c1
    refine xr_iconst (n := 1) (by decide +kernel) ?_
    refine xr_goto (off := 4) (tgt := 17) (by decide) (by decide +kernel) ?_
    exact xr_zret rfl (by decide +kernel) (by decide) k

theorem v_Mod_couldSteal {g : sh_G} {d : Nat} {t : Nat}  {mem : sh_Mem} {Q : Option sh_V → sh_Mem → Prop}  (k : (sh_Cal g d m_Mod_isFree [(sh_r 96), (sh_i (t : Int))] mem fun rv m1 => ∃ r1 : Int, rv = some (sh_i r1) ∧ (((i3 r1) = 0 → Q (some (sh_i 0)) m1) ∧ (¬ (i3 r1) = 0 → (sh_Cal g d m_Mod_hasPiece [(sh_r 96), (sh_i (t : Int))] m1 fun rv m2 => ∃ r2 : Int, rv = some (sh_i r2) ∧ ((¬ (i3 r2) = 0 → Q (some (sh_i 0)) m2) ∧ ((i3 r2) = 0 → Q (some (sh_i 1)) m2))))))) : sh_Cal g (d + 1) m_Mod_couldSteal [(sh_r 96), (sh_i (t : Int))] mem Q := by
  refine sh_met (by decide +kernel) (Nat.le_of_ble_eq_true rfl) (lo := [(0, (sh_r 96)), (1, (sh_i (t : Int)))]) rfl ?_
  refine xr_aload_n (n := 0) (i := 0) rfl (List.mem_of_getElem? (i := 0) rfl) (by decide +kernel) ?_
  refine xr_iload_n (n := 1) (i := 1) rfl (List.mem_of_getElem? (i := 1) rfl) (by decide +kernel) ?_
  refine xr_callV (av := [(sh_i (t : Int))]) rfl rfl rfl mo_Mod_isFree ml_Mod_343 im_Mod_isFree se_Mod_isFree rfl (Nat.le_of_ble_eq_true rfl) (by decide +kernel) (sh_mono k ?_)
  rintro rv m1 ⟨r1, rfl, k⟩
  show sh_X g (d + 1) m_Mod_couldSteal _ _ [(sh_i r1)] _ _
  refine xr_if_eq (a' := (i3 r1)) rfl (off := 15) (tgt := 20) (by decide) (by decide +kernel) ⟨fun c1 => ?_, fun c1 => ?_⟩
  · have k := k.1 c1
    refine xr_iconst (n := 0) (by decide +kernel) ?_
    exact xr_zret rfl (by decide +kernel) (by decide) k
  · have k := k.2 c1
    refine xr_aload_n (n := 0) (i := 0) rfl (List.mem_of_getElem? (i := 0) rfl) (by decide +kernel) ?_
    refine xr_iload_n (n := 1) (i := 1) rfl (List.mem_of_getElem? (i := 1) rfl) (by decide +kernel) ?_
    refine xr_callV (av := [(sh_i (t : Int))]) rfl rfl rfl mo_Mod_hasPiece ml_Mod_346 im_Mod_hasPiece se_Mod_hasPiece rfl (Nat.le_of_ble_eq_true rfl) (by decide +kernel) (sh_mono k ?_)
    rintro rv m2 ⟨r2, rfl, k⟩
    show sh_X g (d + 1) m_Mod_couldSteal _ _ [(sh_i r2)] _ _
    refine xr_if_ne (a' := (i3 r2)) rfl (off := 7) (tgt := 20) (by decide) (by decide +kernel) ⟨fun c2 => ?_, fun c2 => ?_⟩
    · have k := k.1 c2
      refine xr_iconst (n := 0) (by decide +kernel) ?_
      exact xr_zret rfl (by decide +kernel) (by decide) k
    · have k := k.2 c2
      refine xr_iconst (n := 1) (by decide +kernel) ?_
      refine xr_goto (off := 4) (tgt := 21) (by decide) (by decide +kernel) ?_
      exact xr_zret rfl (by decide +kernel) (by decide) k

theorem v_Mod_isOpen {g : sh_G} {d : Nat} {t : Nat} {e : Nat}  {mem : sh_Mem} {Q : Option sh_V → sh_Mem → Prop}  (k : ((1 + e) < 45 ∧ (((i3 (mem 129 (1 + e))) ≤ 0 → Q (some (sh_i 0)) mem) ∧ (¬ (i3 (mem 129 (1 + e))) ≤ 0 → (t < 8 ∧ ((9 + e) < 45 ∧ (((i3 (mem 104 t)) < (i3 (mem 129 (9 + e))) → Q (some (sh_i 0)) mem) ∧ (¬ (i3 (mem 104 t)) < (i3 (mem 129 (9 + e))) → Q (some (sh_i 1)) mem)))))))) : sh_Cal g d m_Mod_isOpen [(sh_r 96), (sh_i (t : Int)), (sh_i (e : Int))] mem Q := by
  refine sh_met (by decide +kernel) (Nat.le_of_ble_eq_true rfl) (lo := [(0, (sh_r 96)), (1, (sh_i (t : Int))), (2, (sh_i (e : Int)))]) rfl ?_
  refine xr_aload_n (n := 0) (i := 0) rfl (List.mem_of_getElem? (i := 0) rfl) (by decide +kernel) ?_
  refine xr_getR (o := 33) rfl fl_Mod_108 rfl (by decide +kernel) ?_
  show sh_X g d m_Mod_isOpen _ _ ((sh_r 129) :: _) _ _
  refine xr_iconst (n := 1) (by decide +kernel) ?_
  refine xr_iload_n (n := 2) (i := 2) rfl (List.mem_of_getElem? (i := 2) rfl) (by decide +kernel) ?_
  refine xr_iadd (by decide +kernel) ?_
  show sh_X g d m_Mod_isOpen _ _ ((sh_i (((1 + e) : Nat) : Int)) :: _) _ _
  obtain ⟨o, k⟩ := k
  refine xr_ialdN (j := (1 + e)) rfl rfl o (by decide +kernel) ?_
  refine xr_if_le (a' := (i3 (mem 129 (1 + e)))) rfl (off := 25) (tgt := 33) (by decide) (by decide +kernel) ⟨fun c1 => ?_, fun c1 => ?_⟩
  · have k := k.1 c1
    refine xr_iconst (n := 0) (by decide +kernel) ?_
    exact xr_zret rfl (by decide +kernel) (by decide) k
  · have k := k.2 c1
    refine xr_aload_n (n := 0) (i := 0) rfl (List.mem_of_getElem? (i := 0) rfl) (by decide +kernel) ?_
    refine xr_getR (o := 8) rfl fl_Mod_32 rfl (by decide +kernel) ?_
    show sh_X g d m_Mod_isOpen _ _ ((sh_r 104) :: _) _ _
    refine xr_iload_n (n := 1) (i := 1) rfl (List.mem_of_getElem? (i := 1) rfl) (by decide +kernel) ?_
    obtain ⟨o, k⟩ := k
    refine xr_ialdN (j := t) rfl rfl o (by decide +kernel) ?_
    refine xr_aload_n (n := 0) (i := 0) rfl (List.mem_of_getElem? (i := 0) rfl) (by decide +kernel) ?_
    refine xr_getR (o := 33) rfl fl_Mod_108 rfl (by decide +kernel) ?_
    show sh_X g d m_Mod_isOpen _ _ ((sh_r 129) :: _) _ _
    refine xr_bipush (n := 9) (v := 9) (by decide) (by decide +kernel) ?_
    refine xr_iload_n (n := 2) (i := 2) rfl (List.mem_of_getElem? (i := 2) rfl) (by decide +kernel) ?_
    refine xr_iadd (by decide +kernel) ?_
    show sh_X g d m_Mod_isOpen _ _ ((sh_i (((9 + e) : Nat) : Int)) :: _) _ _
    obtain ⟨o, k⟩ := k
    refine xr_ialdN (j := (9 + e)) rfl rfl o (by decide +kernel) ?_
    refine xr_icmp_lt (a' := (i3 (mem 104 t))) (b' := (i3 (mem 129 (9 + e)))) rfl rfl (off := 7) (tgt := 33) (by decide) (by decide +kernel) ⟨fun c2 => ?_, fun c2 => ?_⟩
    · have k := k.1 c2
      refine xr_iconst (n := 0) (by decide +kernel) ?_
      exact xr_zret rfl (by decide +kernel) (by decide) k
    · have k := k.2 c2
      refine xr_iconst (n := 1) (by decide +kernel) ?_
      refine xr_goto (off := 4) (tgt := 34) (by decide) (by decide +kernel) ?_
      exact xr_zret rfl (by decide +kernel) (by decide) k

theorem v_Mod_haulOf {g : sh_G} {d : Nat} {t : Nat} {e : Nat}  {mem : sh_Mem} {Q : Option sh_V → sh_Mem → Prop}  (k : (sh_Cal g d m_Mod_isOpen [(sh_r 96), (sh_i (t : Int)), (sh_i (e : Int))] mem fun rv m1 => ∃ r1 : Int, rv = some (sh_i r1) ∧ (((i3 r1) = 0 → Q (some (sh_i 0)) m1) ∧ (¬ (i3 r1) = 0 → (t < 8 ∧ ((1 + e) < 45 ∧ Q (some (sh_i (if (i3 (m1 129 (1 + e))) < (i3 (m1 105 t)) then (m1 129 (1 + e)) else (m1 105 t)))) m1)))))) : sh_Cal g (d + 1) m_Mod_haulOf [(sh_r 96), (sh_i (t : Int)), (sh_i (e : Int))] mem Q := by
  refine sh_met (by decide +kernel) (Nat.le_of_ble_eq_true rfl) (lo := [(0, (sh_r 96)), (1, (sh_i (t : Int))), (2, (sh_i (e : Int)))]) rfl ?_
  refine xr_aload_n (n := 0) (i := 0) rfl (List.mem_of_getElem? (i := 0) rfl) (by decide +kernel) ?_
  refine xr_iload_n (n := 1) (i := 1) rfl (List.mem_of_getElem? (i := 1) rfl) (by decide +kernel) ?_
  refine xr_iload_n (n := 2) (i := 2) rfl (List.mem_of_getElem? (i := 2) rfl) (by decide +kernel) ?_
  refine xr_callV (av := [(sh_i (t : Int)), (sh_i (e : Int))]) rfl rfl rfl mo_Mod_isOpen ml_Mod_349 im_Mod_isOpen se_Mod_isOpen rfl (Nat.le_of_ble_eq_true rfl) (by decide +kernel) (sh_mono k ?_)
  rintro rv m1 ⟨r1, rfl, k⟩
  show sh_X g (d + 1) m_Mod_haulOf _ _ [(sh_i r1)] _ _
  refine xr_if_eq (a' := (i3 r1)) rfl (off := 23) (tgt := 29) (by decide) (by decide +kernel) ⟨fun c1 => ?_, fun c1 => ?_⟩
  · have k := k.1 c1
    refine xr_iconst (n := 0) (by decide +kernel) ?_
    exact xr_iret rfl (by decide +kernel) k
  · have k := k.2 c1
    refine xr_aload_n (n := 0) (i := 0) rfl (List.mem_of_getElem? (i := 0) rfl) (by decide +kernel) ?_
    refine xr_getR (o := 9) rfl fl_Mod_35 rfl (by decide +kernel) ?_
    show sh_X g (d + 1) m_Mod_haulOf _ _ ((sh_r 105) :: _) _ _
    refine xr_iload_n (n := 1) (i := 1) rfl (List.mem_of_getElem? (i := 1) rfl) (by decide +kernel) ?_
    obtain ⟨o, k⟩ := k
    refine xr_ialdN (j := t) rfl rfl o (by decide +kernel) ?_
    refine xr_aload_n (n := 0) (i := 0) rfl (List.mem_of_getElem? (i := 0) rfl) (by decide +kernel) ?_
    refine xr_getR (o := 33) rfl fl_Mod_108 rfl (by decide +kernel) ?_
    show sh_X g (d + 1) m_Mod_haulOf _ _ ((sh_r 129) :: _) _ _
    refine xr_iconst (n := 1) (by decide +kernel) ?_
    refine xr_iload_n (n := 2) (i := 2) rfl (List.mem_of_getElem? (i := 2) rfl) (by decide +kernel) ?_
    refine xr_iadd (by decide +kernel) ?_
    show sh_X g (d + 1) m_Mod_haulOf _ _ ((sh_i (((1 + e) : Nat) : Int)) :: _) _ _
    obtain ⟨o, k⟩ := k
    refine xr_ialdN (j := (1 + e)) rfl rfl o (by decide +kernel) ?_
    refine xr_mmin ml_Mod_352 (Nat.le_of_ble_eq_true rfl) (by decide +kernel) ?_
    refine xr_goto (off := 4) (tgt := 30) (by decide) (by decide +kernel) ?_
    exact xr_iret rfl (by decide +kernel) k

theorem v_Mod_takesAway {g : sh_G} {d : Nat} {t : Nat}  {mem : sh_Mem} {Q : Option sh_V → sh_Mem → Prop}  (k : ((17 + t) < 45 ∧ (∀ m1 : sh_Mem, m1 = ms mem 129 (ru (mem 129) (17 + t) 0) → ((21 + t) < 45 ∧ (∀ m2 : sh_Mem, m2 = ms m1 129 (ru (m1 129) (21 + t) (-1)) → ((25 + t) < 45 ∧ (∀ m3 : sh_Mem, m3 = ms m2 129 (ru (m2 129) (25 + t) (-1)) → Q none m3))))))) : sh_Cal g d m_Mod_takesAway [(sh_r 96), (sh_i (t : Int))] mem Q := by
  refine sh_met (by decide +kernel) (Nat.le_of_ble_eq_true rfl) (lo := [(0, (sh_r 96)), (1, (sh_i (t : Int)))]) rfl ?_
  refine xr_aload_n (n := 0) (i := 0) rfl (List.mem_of_getElem? (i := 0) rfl) (by decide +kernel) ?_
  refine xr_getR (o := 33) rfl fl_Mod_108 rfl (by decide +kernel) ?_
  show sh_X g d m_Mod_takesAway _ _ ((sh_r 129) :: _) _ _
  refine xr_bipush (n := 17) (v := 17) (by decide) (by decide +kernel) ?_
  refine xr_iload_n (n := 1) (i := 1) rfl (List.mem_of_getElem? (i := 1) rfl) (by decide +kernel) ?_
  refine xr_iadd (by decide +kernel) ?_
  show sh_X g d m_Mod_takesAway _ _ ((sh_i (((17 + t) : Nat) : Int)) :: _) _ _
  refine xr_iconst (n := 0) (by decide +kernel) ?_
  have o9 := True.intro
  obtain ⟨o, k⟩ := k
  refine xr_iastN (j := (17 + t)) rfl rfl o (by decide +kernel) ?_
  have k := k _ rfl
  generalize hg_m1 : ms mem 129 (ru (mem 129) (17 + t) 0) = m1 at k ⊢
  refine xr_aload_n (n := 0) (i := 0) rfl (List.mem_of_getElem? (i := 0) rfl) (by decide +kernel) ?_
  refine xr_getR (o := 33) rfl fl_Mod_108 rfl (by decide +kernel) ?_
  show sh_X g d m_Mod_takesAway _ _ ((sh_r 129) :: _) _ _
  refine xr_bipush (n := 21) (v := 21) (by decide) (by decide +kernel) ?_
  refine xr_iload_n (n := 1) (i := 1) rfl (List.mem_of_getElem? (i := 1) rfl) (by decide +kernel) ?_
  refine xr_iadd (by decide +kernel) ?_
  show sh_X g d m_Mod_takesAway _ _ ((sh_i (((21 + t) : Nat) : Int)) :: _) _ _
  refine xr_iconst (n := (-1)) (by decide +kernel) ?_
  have o9 := True.intro
  obtain ⟨o, k⟩ := k
  refine xr_iastN (j := (21 + t)) rfl rfl o (by decide +kernel) ?_
  have k := k _ rfl
  generalize hg_m2 : ms m1 129 (ru (m1 129) (21 + t) (-1)) = m2 at k ⊢
  refine xr_aload_n (n := 0) (i := 0) rfl (List.mem_of_getElem? (i := 0) rfl) (by decide +kernel) ?_
  refine xr_getR (o := 33) rfl fl_Mod_108 rfl (by decide +kernel) ?_
  show sh_X g d m_Mod_takesAway _ _ ((sh_r 129) :: _) _ _
  refine xr_bipush (n := 25) (v := 25) (by decide) (by decide +kernel) ?_
  refine xr_iload_n (n := 1) (i := 1) rfl (List.mem_of_getElem? (i := 1) rfl) (by decide +kernel) ?_
  refine xr_iadd (by decide +kernel) ?_
  show sh_X g d m_Mod_takesAway _ _ ((sh_i (((25 + t) : Nat) : Int)) :: _) _ _
  refine xr_iconst (n := (-1)) (by decide +kernel) ?_
  have o9 := True.intro
  obtain ⟨o, k⟩ := k
  refine xr_iastN (j := (25 + t)) rfl rfl o (by decide +kernel) ?_
  have k := k _ rfl
  generalize hg_m3 : ms m2 129 (ru (m2 129) (25 + t) (-1)) = m3 at k ⊢
  exact xr_ret rfl (by decide +kernel) k

theorem v_Mod_steals {g : sh_G} {d : Nat} {t : Nat} {e : Nat}  {mem : sh_Mem} {Q : Option sh_V → sh_Mem → Prop}  (k : (sh_Cal g d m_Mod_haulOf [(sh_r 96), (sh_i (t : Int)), (sh_i (e : Int))] mem fun rv m1 => ∃ r1 : Int, rv = some (sh_i r1) ∧ ((¬ (i3 r1) = 0 → ((17 + t) < 45 ∧ (∀ m2 : sh_Mem, m2 = ms m1 129 (ru (m1 129) (17 + t) r1) → (e < 16 ∧ ((21 + t) < 45 ∧ (∀ m3 : sh_Mem, m3 = ms m2 129 (ru (m2 129) (21 + t) (m2 101 e)) → ((25 + t) < 45 ∧ (∀ m4 : sh_Mem, m4 = ms m3 129 (ru (m3 129) (25 + t) 0) → ((1 + e) < 45 ∧ ((1 + e) < 45 ∧ (∀ m5 : sh_Mem, m5 = ms m4 129 (ru (m4 129) (1 + e) ((m4 129 (1 + e)) - r1)) → ((9 + e) < 45 ∧ ((9 + e) < 45 ∧ (∀ m6 : sh_Mem, m6 = ms m5 129 (ru (m5 129) (9 + e) (if (i3 ((m5 129 (9 + e)) + 2)) < (i3 9) then ((m5 129 (9 + e)) + 2) else (9 : Int))) → Q (some (sh_i r1)) m6)))))))))))))) ∧ ((i3 r1) = 0 → ((9 + e) < 45 ∧ (t < 8 ∧ ((29 + t) < 45 ∧ (∀ m7 : sh_Mem, m7 = ms m1 129 (ru (m1 129) (29 + t) ((m1 129 (9 + e)) - (m1 104 t))) → ((9 + e) < 45 ∧ ((9 + e) < 45 ∧ (∀ m8 : sh_Mem, m8 = ms m7 129 (ru (m7 129) (9 + e) (if (i3 ((m7 129 (9 + e)) + 1)) < (i3 9) then ((m7 129 (9 + e)) + 1) else (9 : Int))) → Q (some (sh_i 0)) m8))))))))))) : sh_Cal g (d + 1) m_Mod_steals [(sh_r 96), (sh_i (t : Int)), (sh_i (e : Int))] mem Q := by
  refine sh_met (by decide +kernel) (Nat.le_of_ble_eq_true rfl) (lo := [(0, (sh_r 96)), (1, (sh_i (t : Int))), (2, (sh_i (e : Int)))]) rfl ?_
  refine xr_aload_n (n := 0) (i := 0) rfl (List.mem_of_getElem? (i := 0) rfl) (by decide +kernel) ?_
  refine xr_iload_n (n := 1) (i := 1) rfl (List.mem_of_getElem? (i := 1) rfl) (by decide +kernel) ?_
  refine xr_iload_n (n := 2) (i := 2) rfl (List.mem_of_getElem? (i := 2) rfl) (by decide +kernel) ?_
  refine xr_callV (av := [(sh_i (t : Int)), (sh_i (e : Int))]) rfl rfl rfl mo_Mod_haulOf ml_Mod_358 im_Mod_haulOf se_Mod_haulOf rfl (Nat.le_of_ble_eq_true rfl) (by decide +kernel) (sh_mono k ?_)
  rintro rv m1 ⟨r1, rfl, k⟩
  show sh_X g (d + 1) m_Mod_steals _ _ [(sh_i r1)] _ _
  refine xr_istore_n (n := 3) (i := 3) rfl (by decide) rfl (by decide +kernel) ?_
  refine xr_iload_n (n := 3) (i := 3) rfl (List.mem_of_getElem? (i := 0) rfl) (by decide +kernel) ?_
  refine xr_if_ne (a' := (i3 r1)) rfl (off := 55) (tgt := 63) (by decide) (by decide +kernel) ⟨fun c1 => ?_, fun c1 => ?_⟩
  · have k := k.1 c1
    refine xr_aload_n (n := 0) (i := 0) rfl (List.mem_of_getElem? (i := 1) rfl) (by decide +kernel) ?_
    refine xr_getR (o := 33) rfl fl_Mod_108 rfl (by decide +kernel) ?_
    show sh_X g (d + 1) m_Mod_steals _ _ ((sh_r 129) :: _) _ _
    refine xr_bipush (n := 17) (v := 17) (by decide) (by decide +kernel) ?_
    refine xr_iload_n (n := 1) (i := 1) rfl (List.mem_of_getElem? (i := 2) rfl) (by decide +kernel) ?_
    refine xr_iadd (by decide +kernel) ?_
    show sh_X g (d + 1) m_Mod_steals _ _ ((sh_i (((17 + t) : Nat) : Int)) :: _) _ _
    refine xr_iload_n (n := 3) (i := 3) rfl (List.mem_of_getElem? (i := 0) rfl) (by decide +kernel) ?_
    have o9 := True.intro
    obtain ⟨o, k⟩ := k
    refine xr_iastN (j := (17 + t)) rfl rfl o (by decide +kernel) ?_
    have k := k _ rfl
    generalize hg_m2 : ms m1 129 (ru (m1 129) (17 + t) r1) = m2 at k ⊢
    refine xr_aload_n (n := 0) (i := 0) rfl (List.mem_of_getElem? (i := 1) rfl) (by decide +kernel) ?_
    refine xr_getR (o := 33) rfl fl_Mod_108 rfl (by decide +kernel) ?_
    show sh_X g (d + 1) m_Mod_steals _ _ ((sh_r 129) :: _) _ _
    refine xr_bipush (n := 21) (v := 21) (by decide) (by decide +kernel) ?_
    refine xr_iload_n (n := 1) (i := 1) rfl (List.mem_of_getElem? (i := 2) rfl) (by decide +kernel) ?_
    refine xr_iadd (by decide +kernel) ?_
    show sh_X g (d + 1) m_Mod_steals _ _ ((sh_i (((21 + t) : Nat) : Int)) :: _) _ _
    refine xr_aload_n (n := 0) (i := 0) rfl (List.mem_of_getElem? (i := 1) rfl) (by decide +kernel) ?_
    refine xr_getR (o := 5) rfl fl_Mod_23 rfl (by decide +kernel) ?_
    show sh_X g (d + 1) m_Mod_steals _ _ ((sh_r 101) :: _) _ _
    refine xr_iload_n (n := 2) (i := 2) rfl (List.mem_of_getElem? (i := 3) rfl) (by decide +kernel) ?_
    obtain ⟨o, k⟩ := k
    refine xr_ialdN (j := e) rfl rfl o (by decide +kernel) ?_
    have o9 := True.intro
    obtain ⟨o, k⟩ := k
    refine xr_iastN (j := (21 + t)) rfl rfl o (by decide +kernel) ?_
    have k := k _ rfl
    generalize hg_m3 : ms m2 129 (ru (m2 129) (21 + t) (m2 101 e)) = m3 at k ⊢
    refine xr_aload_n (n := 0) (i := 0) rfl (List.mem_of_getElem? (i := 1) rfl) (by decide +kernel) ?_
    refine xr_getR (o := 33) rfl fl_Mod_108 rfl (by decide +kernel) ?_
    show sh_X g (d + 1) m_Mod_steals _ _ ((sh_r 129) :: _) _ _
    refine xr_bipush (n := 25) (v := 25) (by decide) (by decide +kernel) ?_
    refine xr_iload_n (n := 1) (i := 1) rfl (List.mem_of_getElem? (i := 2) rfl) (by decide +kernel) ?_
    refine xr_iadd (by decide +kernel) ?_
    show sh_X g (d + 1) m_Mod_steals _ _ ((sh_i (((25 + t) : Nat) : Int)) :: _) _ _
    refine xr_iconst (n := 0) (by decide +kernel) ?_
    have o9 := True.intro
    obtain ⟨o, k⟩ := k
    refine xr_iastN (j := (25 + t)) rfl rfl o (by decide +kernel) ?_
    have k := k _ rfl
    generalize hg_m4 : ms m3 129 (ru (m3 129) (25 + t) 0) = m4 at k ⊢
    refine xr_aload_n (n := 0) (i := 0) rfl (List.mem_of_getElem? (i := 1) rfl) (by decide +kernel) ?_
    refine xr_getR (o := 33) rfl fl_Mod_108 rfl (by decide +kernel) ?_
    show sh_X g (d + 1) m_Mod_steals _ _ ((sh_r 129) :: _) _ _
    refine xr_iconst (n := 1) (by decide +kernel) ?_
    refine xr_iload_n (n := 2) (i := 2) rfl (List.mem_of_getElem? (i := 3) rfl) (by decide +kernel) ?_
    refine xr_iadd (by decide +kernel) ?_
    show sh_X g (d + 1) m_Mod_steals _ _ ((sh_i (((1 + e) : Nat) : Int)) :: _) _ _
    refine xr_dup2 (by decide +kernel) ?_
    obtain ⟨o, k⟩ := k
    refine xr_ialdN (j := (1 + e)) rfl rfl o (by decide +kernel) ?_
    refine xr_iload_n (n := 3) (i := 3) rfl (List.mem_of_getElem? (i := 0) rfl) (by decide +kernel) ?_
    refine xr_isub (by decide +kernel) ?_
    show sh_X g (d + 1) m_Mod_steals _ _ ((sh_i ((m4 129 (1 + e)) - r1)) :: _) _ _
    have o9 := True.intro
    obtain ⟨o, k⟩ := k
    refine xr_iastN (j := (1 + e)) rfl rfl o (by decide +kernel) ?_
    have k := k _ rfl
    generalize hg_m5 : ms m4 129 (ru (m4 129) (1 + e) ((m4 129 (1 + e)) - r1)) = m5 at k ⊢
    refine xr_aload_n (n := 0) (i := 0) rfl (List.mem_of_getElem? (i := 1) rfl) (by decide +kernel) ?_
    refine xr_getR (o := 33) rfl fl_Mod_108 rfl (by decide +kernel) ?_
    show sh_X g (d + 1) m_Mod_steals _ _ ((sh_r 129) :: _) _ _
    refine xr_bipush (n := 9) (v := 9) (by decide) (by decide +kernel) ?_
    refine xr_iload_n (n := 2) (i := 2) rfl (List.mem_of_getElem? (i := 3) rfl) (by decide +kernel) ?_
    refine xr_iadd (by decide +kernel) ?_
    show sh_X g (d + 1) m_Mod_steals _ _ ((sh_i (((9 + e) : Nat) : Int)) :: _) _ _
    refine xr_bipush (n := 9) (v := 9) (by decide) (by decide +kernel) ?_
    refine xr_aload_n (n := 0) (i := 0) rfl (List.mem_of_getElem? (i := 1) rfl) (by decide +kernel) ?_
    refine xr_getR (o := 33) rfl fl_Mod_108 rfl (by decide +kernel) ?_
    show sh_X g (d + 1) m_Mod_steals _ _ ((sh_r 129) :: _) _ _
    refine xr_bipush (n := 9) (v := 9) (by decide) (by decide +kernel) ?_
    refine xr_iload_n (n := 2) (i := 2) rfl (List.mem_of_getElem? (i := 3) rfl) (by decide +kernel) ?_
    refine xr_iadd (by decide +kernel) ?_
    show sh_X g (d + 1) m_Mod_steals _ _ ((sh_i (((9 + e) : Nat) : Int)) :: _) _ _
    obtain ⟨o, k⟩ := k
    refine xr_ialdN (j := (9 + e)) rfl rfl o (by decide +kernel) ?_
    refine xr_iconst (n := 2) (by decide +kernel) ?_
    refine xr_iadd (by decide +kernel) ?_
    show sh_X g (d + 1) m_Mod_steals _ _ ((sh_i ((m5 129 (9 + e)) + 2)) :: _) _ _
    refine xr_mmin ml_Mod_352 (Nat.le_of_ble_eq_true rfl) (by decide +kernel) ?_
    have o9 := True.intro
    obtain ⟨o, k⟩ := k
    refine xr_iastN (j := (9 + e)) rfl rfl o (by decide +kernel) ?_
    have k := k _ rfl
    generalize hg_m6 : ms m5 129 (ru (m5 129) (9 + e) (if (i3 ((m5 129 (9 + e)) + 2)) < (i3 9) then ((m5 129 (9 + e)) + 2) else (9 : Int))) = m6 at k ⊢
    refine xr_iload_n (n := 3) (i := 3) rfl (List.mem_of_getElem? (i := 0) rfl) (by decide +kernel) ?_
    exact xr_iret rfl (by decide +kernel) k
  · have k := k.2 c1
    refine xr_aload_n (n := 0) (i := 0) rfl (List.mem_of_getElem? (i := 1) rfl) (by decide +kernel) ?_
    refine xr_getR (o := 33) rfl fl_Mod_108 rfl (by decide +kernel) ?_
    show sh_X g (d + 1) m_Mod_steals _ _ ((sh_r 129) :: _) _ _
    refine xr_bipush (n := 29) (v := 29) (by decide) (by decide +kernel) ?_
    refine xr_iload_n (n := 1) (i := 1) rfl (List.mem_of_getElem? (i := 2) rfl) (by decide +kernel) ?_
    refine xr_iadd (by decide +kernel) ?_
    show sh_X g (d + 1) m_Mod_steals _ _ ((sh_i (((29 + t) : Nat) : Int)) :: _) _ _
    refine xr_aload_n (n := 0) (i := 0) rfl (List.mem_of_getElem? (i := 1) rfl) (by decide +kernel) ?_
    refine xr_getR (o := 33) rfl fl_Mod_108 rfl (by decide +kernel) ?_
    show sh_X g (d + 1) m_Mod_steals _ _ ((sh_r 129) :: _) _ _
    refine xr_bipush (n := 9) (v := 9) (by decide) (by decide +kernel) ?_
    refine xr_iload_n (n := 2) (i := 2) rfl (List.mem_of_getElem? (i := 3) rfl) (by decide +kernel) ?_
    refine xr_iadd (by decide +kernel) ?_
    show sh_X g (d + 1) m_Mod_steals _ _ ((sh_i (((9 + e) : Nat) : Int)) :: _) _ _
    obtain ⟨o, k⟩ := k
    refine xr_ialdN (j := (9 + e)) rfl rfl o (by decide +kernel) ?_
    refine xr_aload_n (n := 0) (i := 0) rfl (List.mem_of_getElem? (i := 1) rfl) (by decide +kernel) ?_
    refine xr_getR (o := 8) rfl fl_Mod_32 rfl (by decide +kernel) ?_
    show sh_X g (d + 1) m_Mod_steals _ _ ((sh_r 104) :: _) _ _
    refine xr_iload_n (n := 1) (i := 1) rfl (List.mem_of_getElem? (i := 2) rfl) (by decide +kernel) ?_
    obtain ⟨o, k⟩ := k
    refine xr_ialdN (j := t) rfl rfl o (by decide +kernel) ?_
    refine xr_isub (by decide +kernel) ?_
    show sh_X g (d + 1) m_Mod_steals _ _ ((sh_i ((m1 129 (9 + e)) - (m1 104 t))) :: _) _ _
    have o9 := True.intro
    obtain ⟨o, k⟩ := k
    refine xr_iastN (j := (29 + t)) rfl rfl o (by decide +kernel) ?_
    have k := k _ rfl
    generalize hg_m7 : ms m1 129 (ru (m1 129) (29 + t) ((m1 129 (9 + e)) - (m1 104 t))) = m7 at k ⊢
    refine xr_aload_n (n := 0) (i := 0) rfl (List.mem_of_getElem? (i := 1) rfl) (by decide +kernel) ?_
    refine xr_getR (o := 33) rfl fl_Mod_108 rfl (by decide +kernel) ?_
    show sh_X g (d + 1) m_Mod_steals _ _ ((sh_r 129) :: _) _ _
    refine xr_bipush (n := 9) (v := 9) (by decide) (by decide +kernel) ?_
    refine xr_iload_n (n := 2) (i := 2) rfl (List.mem_of_getElem? (i := 3) rfl) (by decide +kernel) ?_
    refine xr_iadd (by decide +kernel) ?_
    show sh_X g (d + 1) m_Mod_steals _ _ ((sh_i (((9 + e) : Nat) : Int)) :: _) _ _
    refine xr_bipush (n := 9) (v := 9) (by decide) (by decide +kernel) ?_
    refine xr_aload_n (n := 0) (i := 0) rfl (List.mem_of_getElem? (i := 1) rfl) (by decide +kernel) ?_
    refine xr_getR (o := 33) rfl fl_Mod_108 rfl (by decide +kernel) ?_
    show sh_X g (d + 1) m_Mod_steals _ _ ((sh_r 129) :: _) _ _
    refine xr_bipush (n := 9) (v := 9) (by decide) (by decide +kernel) ?_
    refine xr_iload_n (n := 2) (i := 2) rfl (List.mem_of_getElem? (i := 3) rfl) (by decide +kernel) ?_
    refine xr_iadd (by decide +kernel) ?_
    show sh_X g (d + 1) m_Mod_steals _ _ ((sh_i (((9 + e) : Nat) : Int)) :: _) _ _
    obtain ⟨o, k⟩ := k
    refine xr_ialdN (j := (9 + e)) rfl rfl o (by decide +kernel) ?_
    refine xr_iconst (n := 1) (by decide +kernel) ?_
    refine xr_iadd (by decide +kernel) ?_
    show sh_X g (d + 1) m_Mod_steals _ _ ((sh_i ((m7 129 (9 + e)) + 1)) :: _) _ _
    refine xr_mmin ml_Mod_352 (Nat.le_of_ble_eq_true rfl) (by decide +kernel) ?_
    have o9 := True.intro
    obtain ⟨o, k⟩ := k
    refine xr_iastN (j := (9 + e)) rfl rfl o (by decide +kernel) ?_
    have k := k _ rfl
    generalize hg_m8 : ms m7 129 (ru (m7 129) (9 + e) (if (i3 ((m7 129 (9 + e)) + 1)) < (i3 9) then ((m7 129 (9 + e)) + 1) else (9 : Int))) = m8 at k ⊢
    refine xr_iconst (n := 0) (by decide +kernel) ?_
    exact xr_iret rfl (by decide +kernel) k

theorem v_Mod_priceOf {g : sh_G} {d : Nat} {t : Nat}  {mem : sh_Mem} {Q : Option sh_V → sh_Mem → Prop}  (k : (sh_Cal g d m_Mod_hasPiece [(sh_r 96), (sh_i (t : Int))] mem fun rv m1 => ∃ r1 : Int, rv = some (sh_i r1) ∧ ((¬ (i3 r1) = 0 → ((17 + t) < 45 ∧ (((i3 (m1 107 0)) ≤ (i3 (m1 106 0)) → (sh_Cal g d m_Mod_between [(sh_i (m1 129 (17 + t))), (sh_i 0), (sh_i 99)] m1 fun rv m2 => ∃ r2 : Int, rv = some (sh_i r2) ∧ Q (some (sh_i r2)) m2)) ∧ (¬ (i3 (m1 107 0)) ≤ (i3 (m1 106 0)) → ((17 + t) < 45 ∧ (∀ m3 : sh_Mem, m3 = ms m1 120 (ru (m1 120) 1 (m1 129 (17 + t))) → ((25 + t) < 45 ∧ (∀ m4 : sh_Mem, m4 = ms m3 120 (ru (m3 120) 2 (m3 129 (25 + t))) → ((21 + t) < 45 ∧ (∀ m5 : sh_Mem, m5 = ms m4 120 (ru (m4 120) 3 (m4 129 (21 + t))) → (∀ m6 : sh_Mem, m6 = ms m5 120 (ru (m5 120) 4 (m5 129 0)) → (sh_Cal g d m_Mod_worked [(sh_r 96), (sh_i 0)] m6 fun rv m7 => ∃ r3 : Int, rv = some (sh_i r3) ∧ (sh_Cal g d m_Mod_between [(sh_i r3), (sh_i 0), (sh_i 99)] m7 fun rv m8 => ∃ r4 : Int, rv = some (sh_i r4) ∧ Q (some (sh_i r4)) m8))))))))))))) ∧ ((i3 r1) = 0 → Q (some (sh_i 0)) m1)))) : sh_Cal g (d + 1) m_Mod_priceOf [(sh_r 96), (sh_i (t : Int))] mem Q := by
  refine sh_met (by decide +kernel) (Nat.le_of_ble_eq_true rfl) (lo := [(0, (sh_r 96)), (1, (sh_i (t : Int)))]) rfl ?_
  refine xr_aload_n (n := 0) (i := 0) rfl (List.mem_of_getElem? (i := 0) rfl) (by decide +kernel) ?_
  refine xr_iload_n (n := 1) (i := 1) rfl (List.mem_of_getElem? (i := 1) rfl) (by decide +kernel) ?_
  refine xr_callV (av := [(sh_i (t : Int))]) rfl rfl rfl mo_Mod_hasPiece ml_Mod_346 im_Mod_hasPiece se_Mod_hasPiece rfl (Nat.le_of_ble_eq_true rfl) (by decide +kernel) (sh_mono k ?_)
  rintro rv m1 ⟨r1, rfl, k⟩
  show sh_X g (d + 1) m_Mod_priceOf _ _ [(sh_i r1)] _ _
  refine xr_if_ne (a' := (i3 r1)) rfl (off := 5) (tgt := 10) (by decide) (by decide +kernel) ⟨fun c1 => ?_, fun c1 => ?_⟩
  · have k := k.1 c1
    refine xr_aload_n (n := 0) (i := 0) rfl (List.mem_of_getElem? (i := 0) rfl) (by decide +kernel) ?_
    refine xr_getR (o := 33) rfl fl_Mod_108 rfl (by decide +kernel) ?_
    show sh_X g (d + 1) m_Mod_priceOf _ _ ((sh_r 129) :: _) _ _
    refine xr_bipush (n := 17) (v := 17) (by decide) (by decide +kernel) ?_
    refine xr_iload_n (n := 1) (i := 1) rfl (List.mem_of_getElem? (i := 1) rfl) (by decide +kernel) ?_
    refine xr_iadd (by decide +kernel) ?_
    show sh_X g (d + 1) m_Mod_priceOf _ _ ((sh_i (((17 + t) : Nat) : Int)) :: _) _ _
    obtain ⟨o, k⟩ := k
    refine xr_ialdN (j := (17 + t)) rfl rfl o (by decide +kernel) ?_
    refine xr_istore_n (n := 2) (i := 2) rfl (by decide) rfl (by decide +kernel) ?_
    refine xr_aload_n (n := 0) (i := 0) rfl (List.mem_of_getElem? (i := 1) rfl) (by decide +kernel) ?_
    refine xr_getR (o := 11) rfl fl_Mod_41 rfl (by decide +kernel) ?_
    show sh_X g (d + 1) m_Mod_priceOf _ _ ((sh_r 107) :: _) _ _
    refine xr_iconst (n := 0) (by decide +kernel) ?_
    refine xr_ialdN (j := 0) rfl rfl (by decide) (by decide +kernel) ?_
    refine xr_aload_n (n := 0) (i := 0) rfl (List.mem_of_getElem? (i := 1) rfl) (by decide +kernel) ?_
    refine xr_getR (o := 10) rfl fl_Mod_38 rfl (by decide +kernel) ?_
    show sh_X g (d + 1) m_Mod_priceOf _ _ ((sh_r 106) :: _) _ _
    refine xr_iconst (n := 0) (by decide +kernel) ?_
    refine xr_ialdN (j := 0) rfl rfl (by decide) (by decide +kernel) ?_
    refine xr_icmp_le (a' := (i3 (m1 107 0))) (b' := (i3 (m1 106 0))) rfl rfl (off := 66) (tgt := 98) (by decide) (by decide +kernel) ⟨fun c2 => ?_, fun c2 => ?_⟩
    · have k := k.1 c2
      refine xr_iload_n (n := 2) (i := 2) rfl (List.mem_of_getElem? (i := 0) rfl) (by decide +kernel) ?_
      refine xr_iconst (n := 0) (by decide +kernel) ?_
      refine xr_bipush (n := 99) (v := 99) (by decide) (by decide +kernel) ?_
      refine xr_callS (av := [(sh_i (m1 129 (17 + t))), (sh_i 0), (sh_i 99)]) mo_Mod_between ml_Mod_364 sa_Mod_between rfl (Nat.le_of_ble_eq_true rfl) (by decide +kernel) (sh_mono k ?_)
      rintro rv m2 ⟨r2, rfl, k⟩
      show sh_X g (d + 1) m_Mod_priceOf _ _ [(sh_i r2)] _ _
      exact xr_iret rfl (by decide +kernel) k
    · have k := k.2 c2
      refine xr_aload_n (n := 0) (i := 0) rfl (List.mem_of_getElem? (i := 1) rfl) (by decide +kernel) ?_
      refine xr_getR (o := 24) rfl fl_Mod_81 rfl (by decide +kernel) ?_
      show sh_X g (d + 1) m_Mod_priceOf _ _ ((sh_r 120) :: _) _ _
      refine xr_iconst (n := 1) (by decide +kernel) ?_
      refine xr_aload_n (n := 0) (i := 0) rfl (List.mem_of_getElem? (i := 1) rfl) (by decide +kernel) ?_
      refine xr_getR (o := 33) rfl fl_Mod_108 rfl (by decide +kernel) ?_
      show sh_X g (d + 1) m_Mod_priceOf _ _ ((sh_r 129) :: _) _ _
      refine xr_bipush (n := 17) (v := 17) (by decide) (by decide +kernel) ?_
      refine xr_iload_n (n := 1) (i := 1) rfl (List.mem_of_getElem? (i := 2) rfl) (by decide +kernel) ?_
      refine xr_iadd (by decide +kernel) ?_
      show sh_X g (d + 1) m_Mod_priceOf _ _ ((sh_i (((17 + t) : Nat) : Int)) :: _) _ _
      obtain ⟨o, k⟩ := k
      refine xr_ialdN (j := (17 + t)) rfl rfl o (by decide +kernel) ?_
      have o9 := True.intro
      refine xr_iastN (j := 1) rfl rfl (by decide) (by decide +kernel) ?_
      have k := k _ rfl
      generalize hg_m3 : ms m1 120 (ru (m1 120) 1 (m1 129 (17 + t))) = m3 at k ⊢
      refine xr_aload_n (n := 0) (i := 0) rfl (List.mem_of_getElem? (i := 1) rfl) (by decide +kernel) ?_
      refine xr_getR (o := 24) rfl fl_Mod_81 rfl (by decide +kernel) ?_
      show sh_X g (d + 1) m_Mod_priceOf _ _ ((sh_r 120) :: _) _ _
      refine xr_iconst (n := 2) (by decide +kernel) ?_
      refine xr_aload_n (n := 0) (i := 0) rfl (List.mem_of_getElem? (i := 1) rfl) (by decide +kernel) ?_
      refine xr_getR (o := 33) rfl fl_Mod_108 rfl (by decide +kernel) ?_
      show sh_X g (d + 1) m_Mod_priceOf _ _ ((sh_r 129) :: _) _ _
      refine xr_bipush (n := 25) (v := 25) (by decide) (by decide +kernel) ?_
      refine xr_iload_n (n := 1) (i := 1) rfl (List.mem_of_getElem? (i := 2) rfl) (by decide +kernel) ?_
      refine xr_iadd (by decide +kernel) ?_
      show sh_X g (d + 1) m_Mod_priceOf _ _ ((sh_i (((25 + t) : Nat) : Int)) :: _) _ _
      obtain ⟨o, k⟩ := k
      refine xr_ialdN (j := (25 + t)) rfl rfl o (by decide +kernel) ?_
      have o9 := True.intro
      refine xr_iastN (j := 2) rfl rfl (by decide) (by decide +kernel) ?_
      have k := k _ rfl
      generalize hg_m4 : ms m3 120 (ru (m3 120) 2 (m3 129 (25 + t))) = m4 at k ⊢
      refine xr_aload_n (n := 0) (i := 0) rfl (List.mem_of_getElem? (i := 1) rfl) (by decide +kernel) ?_
      refine xr_getR (o := 24) rfl fl_Mod_81 rfl (by decide +kernel) ?_
      show sh_X g (d + 1) m_Mod_priceOf _ _ ((sh_r 120) :: _) _ _
      refine xr_iconst (n := 3) (by decide +kernel) ?_
      refine xr_aload_n (n := 0) (i := 0) rfl (List.mem_of_getElem? (i := 1) rfl) (by decide +kernel) ?_
      refine xr_getR (o := 33) rfl fl_Mod_108 rfl (by decide +kernel) ?_
      show sh_X g (d + 1) m_Mod_priceOf _ _ ((sh_r 129) :: _) _ _
      refine xr_bipush (n := 21) (v := 21) (by decide) (by decide +kernel) ?_
      refine xr_iload_n (n := 1) (i := 1) rfl (List.mem_of_getElem? (i := 2) rfl) (by decide +kernel) ?_
      refine xr_iadd (by decide +kernel) ?_
      show sh_X g (d + 1) m_Mod_priceOf _ _ ((sh_i (((21 + t) : Nat) : Int)) :: _) _ _
      obtain ⟨o, k⟩ := k
      refine xr_ialdN (j := (21 + t)) rfl rfl o (by decide +kernel) ?_
      have o9 := True.intro
      refine xr_iastN (j := 3) rfl rfl (by decide) (by decide +kernel) ?_
      have k := k _ rfl
      generalize hg_m5 : ms m4 120 (ru (m4 120) 3 (m4 129 (21 + t))) = m5 at k ⊢
      refine xr_aload_n (n := 0) (i := 0) rfl (List.mem_of_getElem? (i := 1) rfl) (by decide +kernel) ?_
      refine xr_getR (o := 24) rfl fl_Mod_81 rfl (by decide +kernel) ?_
      show sh_X g (d + 1) m_Mod_priceOf _ _ ((sh_r 120) :: _) _ _
      refine xr_iconst (n := 4) (by decide +kernel) ?_
      refine xr_aload_n (n := 0) (i := 0) rfl (List.mem_of_getElem? (i := 1) rfl) (by decide +kernel) ?_
      refine xr_getR (o := 33) rfl fl_Mod_108 rfl (by decide +kernel) ?_
      show sh_X g (d + 1) m_Mod_priceOf _ _ ((sh_r 129) :: _) _ _
      refine xr_iconst (n := 0) (by decide +kernel) ?_
      refine xr_ialdN (j := 0) rfl rfl (by decide) (by decide +kernel) ?_
      have o9 := True.intro
      refine xr_iastN (j := 4) rfl rfl (by decide) (by decide +kernel) ?_
      have k := k _ rfl
      generalize hg_m6 : ms m5 120 (ru (m5 120) 4 (m5 129 0)) = m6 at k ⊢
      refine xr_aload_n (n := 0) (i := 0) rfl (List.mem_of_getElem? (i := 1) rfl) (by decide +kernel) ?_
      refine xr_iconst (n := 0) (by decide +kernel) ?_
      refine xr_callV (av := [(sh_i 0)]) rfl rfl rfl mo_Mod_worked ml_Mod_361 im_Mod_worked se_Mod_worked rfl (Nat.le_of_ble_eq_true rfl) (by decide +kernel) (sh_mono k ?_)
      rintro rv m7 ⟨r3, rfl, k⟩
      show sh_X g (d + 1) m_Mod_priceOf _ _ [(sh_i r3)] _ _
      refine xr_istore_n (n := 2) (i := 2) rfl (by decide) rfl (by decide +kernel) ?_
      refine xr_iload_n (n := 2) (i := 2) rfl (List.mem_of_getElem? (i := 0) rfl) (by decide +kernel) ?_
      refine xr_iconst (n := 0) (by decide +kernel) ?_
      refine xr_bipush (n := 99) (v := 99) (by decide) (by decide +kernel) ?_
      refine xr_callS (av := [(sh_i r3), (sh_i 0), (sh_i 99)]) mo_Mod_between ml_Mod_364 sa_Mod_between rfl (Nat.le_of_ble_eq_true rfl) (by decide +kernel) (sh_mono k ?_)
      rintro rv m8 ⟨r4, rfl, k⟩
      show sh_X g (d + 1) m_Mod_priceOf _ _ [(sh_i r4)] _ _
      exact xr_iret rfl (by decide +kernel) k
  · have k := k.2 c1
    refine xr_iconst (n := 0) (by decide +kernel) ?_
    exact xr_iret rfl (by decide +kernel) k

theorem v_Mod_joyOf {g : sh_G} {d : Nat} {t : Nat}  {mem : sh_Mem} {Q : Option sh_V → sh_Mem → Prop}  (k : ((17 + t) < 45 ∧ ((33 + t) < 45 ∧ Q (some (sh_i (if (i3 0) < (i3 ((mem 129 (17 + t)) - (mem 129 (33 + t)))) then ((mem 129 (17 + t)) - (mem 129 (33 + t))) else (0 : Int)))) mem))) : sh_Cal g (d + 1) m_Mod_joyOf [(sh_r 96), (sh_i (t : Int))] mem Q := by
  refine sh_met (by decide +kernel) (Nat.le_of_ble_eq_true rfl) (lo := [(0, (sh_r 96)), (1, (sh_i (t : Int)))]) rfl ?_
  refine xr_iconst (n := 0) (by decide +kernel) ?_
  refine xr_aload_n (n := 0) (i := 0) rfl (List.mem_of_getElem? (i := 0) rfl) (by decide +kernel) ?_
  refine xr_getR (o := 33) rfl fl_Mod_108 rfl (by decide +kernel) ?_
  show sh_X g (d + 1) m_Mod_joyOf _ _ ((sh_r 129) :: _) _ _
  refine xr_bipush (n := 17) (v := 17) (by decide) (by decide +kernel) ?_
  refine xr_iload_n (n := 1) (i := 1) rfl (List.mem_of_getElem? (i := 1) rfl) (by decide +kernel) ?_
  refine xr_iadd (by decide +kernel) ?_
  show sh_X g (d + 1) m_Mod_joyOf _ _ ((sh_i (((17 + t) : Nat) : Int)) :: _) _ _
  obtain ⟨o, k⟩ := k
  refine xr_ialdN (j := (17 + t)) rfl rfl o (by decide +kernel) ?_
  refine xr_aload_n (n := 0) (i := 0) rfl (List.mem_of_getElem? (i := 0) rfl) (by decide +kernel) ?_
  refine xr_getR (o := 33) rfl fl_Mod_108 rfl (by decide +kernel) ?_
  show sh_X g (d + 1) m_Mod_joyOf _ _ ((sh_r 129) :: _) _ _
  refine xr_bipush (n := 33) (v := 33) (by decide) (by decide +kernel) ?_
  refine xr_iload_n (n := 1) (i := 1) rfl (List.mem_of_getElem? (i := 1) rfl) (by decide +kernel) ?_
  refine xr_iadd (by decide +kernel) ?_
  show sh_X g (d + 1) m_Mod_joyOf _ _ ((sh_i (((33 + t) : Nat) : Int)) :: _) _ _
  obtain ⟨o, k⟩ := k
  refine xr_ialdN (j := (33 + t)) rfl rfl o (by decide +kernel) ?_
  refine xr_isub (by decide +kernel) ?_
  show sh_X g (d + 1) m_Mod_joyOf _ _ ((sh_i ((mem 129 (17 + t)) - (mem 129 (33 + t)))) :: _) _ _
  refine xr_mmax ml_Mod_368 (Nat.le_of_ble_eq_true rfl) (by decide +kernel) ?_
  exact xr_iret rfl (by decide +kernel) k

theorem v_Mod_sellsIt {g : sh_G} {d : Nat} {t : Nat}  {mem : sh_Mem} {Q : Option sh_V → sh_Mem → Prop}  (k : (sh_Cal g d m_Mod_priceOf [(sh_r 96), (sh_i (t : Int))] mem fun rv m1 => ∃ r1 : Int, rv = some (sh_i r1) ∧ ((37 + t) < 45 ∧ ((37 + t) < 45 ∧ (∀ m2 : sh_Mem, m2 = ms m1 129 (ru (m1 129) (37 + t) ((m1 129 (37 + t)) + r1)) → (sh_Cal g d m_Mod_takesAway [(sh_r 96), (sh_i (t : Int))] m2 fun rv m3 => rv = none ∧ Q (some (sh_i r1)) m3)))))) : sh_Cal g (d + 1) m_Mod_sellsIt [(sh_r 96), (sh_i (t : Int))] mem Q := by
  refine sh_met (by decide +kernel) (Nat.le_of_ble_eq_true rfl) (lo := [(0, (sh_r 96)), (1, (sh_i (t : Int)))]) rfl ?_
  refine xr_aload_n (n := 0) (i := 0) rfl (List.mem_of_getElem? (i := 0) rfl) (by decide +kernel) ?_
  refine xr_iload_n (n := 1) (i := 1) rfl (List.mem_of_getElem? (i := 1) rfl) (by decide +kernel) ?_
  refine xr_callV (av := [(sh_i (t : Int))]) rfl rfl rfl mo_Mod_priceOf ml_Mod_371 im_Mod_priceOf se_Mod_priceOf rfl (Nat.le_of_ble_eq_true rfl) (by decide +kernel) (sh_mono k ?_)
  rintro rv m1 ⟨r1, rfl, k⟩
  show sh_X g (d + 1) m_Mod_sellsIt _ _ [(sh_i r1)] _ _
  refine xr_istore_n (n := 2) (i := 2) rfl (by decide) rfl (by decide +kernel) ?_
  refine xr_aload_n (n := 0) (i := 0) rfl (List.mem_of_getElem? (i := 1) rfl) (by decide +kernel) ?_
  refine xr_getR (o := 33) rfl fl_Mod_108 rfl (by decide +kernel) ?_
  show sh_X g (d + 1) m_Mod_sellsIt _ _ ((sh_r 129) :: _) _ _
  refine xr_bipush (n := 37) (v := 37) (by decide) (by decide +kernel) ?_
  refine xr_iload_n (n := 1) (i := 1) rfl (List.mem_of_getElem? (i := 2) rfl) (by decide +kernel) ?_
  refine xr_iadd (by decide +kernel) ?_
  show sh_X g (d + 1) m_Mod_sellsIt _ _ ((sh_i (((37 + t) : Nat) : Int)) :: _) _ _
  refine xr_dup2 (by decide +kernel) ?_
  obtain ⟨o, k⟩ := k
  refine xr_ialdN (j := (37 + t)) rfl rfl o (by decide +kernel) ?_
  refine xr_iload_n (n := 2) (i := 2) rfl (List.mem_of_getElem? (i := 0) rfl) (by decide +kernel) ?_
  refine xr_iadd (by decide +kernel) ?_
  show sh_X g (d + 1) m_Mod_sellsIt _ _ ((sh_i ((m1 129 (37 + t)) + r1)) :: _) _ _
  have o9 := True.intro
  obtain ⟨o, k⟩ := k
  refine xr_iastN (j := (37 + t)) rfl rfl o (by decide +kernel) ?_
  have k := k _ rfl
  generalize hg_m2 : ms m1 129 (ru (m1 129) (37 + t) ((m1 129 (37 + t)) + r1)) = m2 at k ⊢
  refine xr_aload_n (n := 0) (i := 0) rfl (List.mem_of_getElem? (i := 1) rfl) (by decide +kernel) ?_
  refine xr_iload_n (n := 1) (i := 1) rfl (List.mem_of_getElem? (i := 2) rfl) (by decide +kernel) ?_
  refine xr_callV (av := [(sh_i (t : Int))]) rfl rfl rfl mo_Mod_takesAway ml_Mod_374 im_Mod_takesAway se_Mod_takesAway rfl (Nat.le_of_ble_eq_true rfl) (by decide +kernel) (sh_mono k ?_)
  rintro rv m3 ⟨rfl, k⟩
  show sh_X g (d + 1) m_Mod_sellsIt _ _ [] _ _
  refine xr_iload_n (n := 2) (i := 2) rfl (List.mem_of_getElem? (i := 0) rfl) (by decide +kernel) ?_
  exact xr_iret rfl (by decide +kernel) k

theorem v_Mod_spendsIt {g : sh_G} {d : Nat} {t : Nat}  {mem : sh_Mem} {Q : Option sh_V → sh_Mem → Prop}  (k : (sh_Cal g d m_Mod_joyOf [(sh_r 96), (sh_i (t : Int))] mem fun rv m1 => ∃ r1 : Int, rv = some (sh_i r1) ∧ ((41 + t) < 45 ∧ ((41 + t) < 45 ∧ (∀ m2 : sh_Mem, m2 = ms m1 129 (ru (m1 129) (41 + t) ((m1 129 (41 + t)) + r1)) → ((33 + t) < 45 ∧ (∀ m3 : sh_Mem, m3 = ms m2 129 (ru (m2 129) (33 + t) 0) → (sh_Cal g d m_Mod_takesAway [(sh_r 96), (sh_i (t : Int))] m3 fun rv m4 => rv = none ∧ Q (some (sh_i r1)) m4)))))))) : sh_Cal g (d + 1) m_Mod_spendsIt [(sh_r 96), (sh_i (t : Int))] mem Q := by
  refine sh_met (by decide +kernel) (Nat.le_of_ble_eq_true rfl) (lo := [(0, (sh_r 96)), (1, (sh_i (t : Int)))]) rfl ?_
  refine xr_aload_n (n := 0) (i := 0) rfl (List.mem_of_getElem? (i := 0) rfl) (by decide +kernel) ?_
  refine xr_iload_n (n := 1) (i := 1) rfl (List.mem_of_getElem? (i := 1) rfl) (by decide +kernel) ?_
  refine xr_callV (av := [(sh_i (t : Int))]) rfl rfl rfl mo_Mod_joyOf ml_Mod_377 im_Mod_joyOf se_Mod_joyOf rfl (Nat.le_of_ble_eq_true rfl) (by decide +kernel) (sh_mono k ?_)
  rintro rv m1 ⟨r1, rfl, k⟩
  show sh_X g (d + 1) m_Mod_spendsIt _ _ [(sh_i r1)] _ _
  refine xr_istore_n (n := 2) (i := 2) rfl (by decide) rfl (by decide +kernel) ?_
  refine xr_aload_n (n := 0) (i := 0) rfl (List.mem_of_getElem? (i := 1) rfl) (by decide +kernel) ?_
  refine xr_getR (o := 33) rfl fl_Mod_108 rfl (by decide +kernel) ?_
  show sh_X g (d + 1) m_Mod_spendsIt _ _ ((sh_r 129) :: _) _ _
  refine xr_bipush (n := 41) (v := 41) (by decide) (by decide +kernel) ?_
  refine xr_iload_n (n := 1) (i := 1) rfl (List.mem_of_getElem? (i := 2) rfl) (by decide +kernel) ?_
  refine xr_iadd (by decide +kernel) ?_
  show sh_X g (d + 1) m_Mod_spendsIt _ _ ((sh_i (((41 + t) : Nat) : Int)) :: _) _ _
  refine xr_dup2 (by decide +kernel) ?_
  obtain ⟨o, k⟩ := k
  refine xr_ialdN (j := (41 + t)) rfl rfl o (by decide +kernel) ?_
  refine xr_iload_n (n := 2) (i := 2) rfl (List.mem_of_getElem? (i := 0) rfl) (by decide +kernel) ?_
  refine xr_iadd (by decide +kernel) ?_
  show sh_X g (d + 1) m_Mod_spendsIt _ _ ((sh_i ((m1 129 (41 + t)) + r1)) :: _) _ _
  have o9 := True.intro
  obtain ⟨o, k⟩ := k
  refine xr_iastN (j := (41 + t)) rfl rfl o (by decide +kernel) ?_
  have k := k _ rfl
  generalize hg_m2 : ms m1 129 (ru (m1 129) (41 + t) ((m1 129 (41 + t)) + r1)) = m2 at k ⊢
  refine xr_aload_n (n := 0) (i := 0) rfl (List.mem_of_getElem? (i := 1) rfl) (by decide +kernel) ?_
  refine xr_getR (o := 33) rfl fl_Mod_108 rfl (by decide +kernel) ?_
  show sh_X g (d + 1) m_Mod_spendsIt _ _ ((sh_r 129) :: _) _ _
  refine xr_bipush (n := 33) (v := 33) (by decide) (by decide +kernel) ?_
  refine xr_iload_n (n := 1) (i := 1) rfl (List.mem_of_getElem? (i := 2) rfl) (by decide +kernel) ?_
  refine xr_iadd (by decide +kernel) ?_
  show sh_X g (d + 1) m_Mod_spendsIt _ _ ((sh_i (((33 + t) : Nat) : Int)) :: _) _ _
  refine xr_iconst (n := 0) (by decide +kernel) ?_
  have o9 := True.intro
  obtain ⟨o, k⟩ := k
  refine xr_iastN (j := (33 + t)) rfl rfl o (by decide +kernel) ?_
  have k := k _ rfl
  generalize hg_m3 : ms m2 129 (ru (m2 129) (33 + t) 0) = m3 at k ⊢
  refine xr_aload_n (n := 0) (i := 0) rfl (List.mem_of_getElem? (i := 1) rfl) (by decide +kernel) ?_
  refine xr_iload_n (n := 1) (i := 1) rfl (List.mem_of_getElem? (i := 2) rfl) (by decide +kernel) ?_
  refine xr_callV (av := [(sh_i (t : Int))]) rfl rfl rfl mo_Mod_takesAway ml_Mod_374 im_Mod_takesAway se_Mod_takesAway rfl (Nat.le_of_ble_eq_true rfl) (by decide +kernel) (sh_mono k ?_)
  rintro rv m4 ⟨rfl, k⟩
  show sh_X g (d + 1) m_Mod_spendsIt _ _ [] _ _
  refine xr_iload_n (n := 2) (i := 2) rfl (List.mem_of_getElem? (i := 0) rfl) (by decide +kernel) ?_
  exact xr_iret rfl (by decide +kernel) k

theorem v_Mod_canDeal {g : sh_G} {d : Nat} {t : Nat}  {mem : sh_Mem} {Q : Option sh_V → sh_Mem → Prop}  (k : (sh_Cal g d m_Mod_isFree [(sh_r 96), (sh_i (t : Int))] mem fun rv m1 => ∃ r1 : Int, rv = some (sh_i r1) ∧ (((i3 r1) = 0 → Q (some (sh_i 0)) m1) ∧ (¬ (i3 r1) = 0 → (sh_Cal g d m_Mod_hasPiece [(sh_r 96), (sh_i (t : Int))] m1 fun rv m2 => ∃ r2 : Int, rv = some (sh_i r2) ∧ (((i3 r2) = 0 → Q (some (sh_i 0)) m2) ∧ (¬ (i3 r2) = 0 → Q (some (sh_i 1)) m2))))))) : sh_Cal g (d + 1) m_Mod_canDeal [(sh_r 96), (sh_i (t : Int))] mem Q := by
  refine sh_met (by decide +kernel) (Nat.le_of_ble_eq_true rfl) (lo := [(0, (sh_r 96)), (1, (sh_i (t : Int)))]) rfl ?_
  refine xr_aload_n (n := 0) (i := 0) rfl (List.mem_of_getElem? (i := 0) rfl) (by decide +kernel) ?_
  refine xr_iload_n (n := 1) (i := 1) rfl (List.mem_of_getElem? (i := 1) rfl) (by decide +kernel) ?_
  refine xr_callV (av := [(sh_i (t : Int))]) rfl rfl rfl mo_Mod_isFree ml_Mod_343 im_Mod_isFree se_Mod_isFree rfl (Nat.le_of_ble_eq_true rfl) (by decide +kernel) (sh_mono k ?_)
  rintro rv m1 ⟨r1, rfl, k⟩
  show sh_X g (d + 1) m_Mod_canDeal _ _ [(sh_i r1)] _ _
  refine xr_if_eq (a' := (i3 r1)) rfl (off := 15) (tgt := 20) (by decide) (by decide +kernel) ⟨fun c1 => ?_, fun c1 => ?_⟩
  · have k := k.1 c1
    refine xr_iconst (n := 0) (by decide +kernel) ?_
    exact xr_zret rfl (by decide +kernel) (by decide) k
  · have k := k.2 c1
    refine xr_aload_n (n := 0) (i := 0) rfl (List.mem_of_getElem? (i := 0) rfl) (by decide +kernel) ?_
    refine xr_iload_n (n := 1) (i := 1) rfl (List.mem_of_getElem? (i := 1) rfl) (by decide +kernel) ?_
    refine xr_callV (av := [(sh_i (t : Int))]) rfl rfl rfl mo_Mod_hasPiece ml_Mod_346 im_Mod_hasPiece se_Mod_hasPiece rfl (Nat.le_of_ble_eq_true rfl) (by decide +kernel) (sh_mono k ?_)
    rintro rv m2 ⟨r2, rfl, k⟩
    show sh_X g (d + 1) m_Mod_canDeal _ _ [(sh_i r2)] _ _
    refine xr_if_eq (a' := (i3 r2)) rfl (off := 7) (tgt := 20) (by decide) (by decide +kernel) ⟨fun c2 => ?_, fun c2 => ?_⟩
    · have k := k.1 c2
      refine xr_iconst (n := 0) (by decide +kernel) ?_
      exact xr_zret rfl (by decide +kernel) (by decide) k
    · have k := k.2 c2
      refine xr_iconst (n := 1) (by decide +kernel) ?_
      refine xr_goto (off := 4) (tgt := 21) (by decide) (by decide +kernel) ?_
      exact xr_zret rfl (by decide +kernel) (by decide) k

theorem v_Mod_swapsIt {g : sh_G} {d : Nat} {t : Nat} {oo : Nat}  {mem : sh_Mem} {Q : Option sh_V → sh_Mem → Prop}  (k : sh_X g d m_Mod_swapsIt 3 [(0, (sh_r 96)), (1, (sh_i (t : Int))), (2, (sh_i (oo : Int))), (3, (sh_i 17))] [] mem (sh_K m_Mod_swapsIt Q)) : sh_Cal g d m_Mod_swapsIt [(sh_r 96), (sh_i (t : Int)), (sh_i (oo : Int))] mem Q := by
  refine sh_met (by decide +kernel) (Nat.le_of_ble_eq_true rfl) (lo := [(0, (sh_r 96)), (1, (sh_i (t : Int))), (2, (sh_i (oo : Int)))]) rfl ?_
  refine xr_bipush (n := 17) (v := 17) (by decide) (by decide +kernel) ?_
  refine xr_istore_n (n := 3) (i := 3) rfl (by decide) rfl (by decide +kernel) ?_
  refine xr_sub (lo' := [(0, (sh_r 96)), (1, (sh_i (t : Int))), (2, (sh_i (oo : Int))), (3, (sh_i 17))]) [1, 2, 3, 0] rfl ?_
  exact k
theorem v_Mod_swapsIt_3 {g : sh_G} {d : Nat} {t : Nat} {oo : Nat}  {mem : sh_Mem} {Q : Option sh_V → sh_Mem → Prop}  {x3 : Nat} (k : ((29 ≤ (i3 (x3 : Int)) → Q none mem) ∧ (¬ 29 ≤ (i3 (x3 : Int)) → ((x3 + t) < 45 ∧ ((x3 + oo) < 45 ∧ ((x3 + t) < 45 ∧ (∀ m1 : sh_Mem, m1 = ms mem 129 (ru (mem 129) (x3 + t) (mem 129 (x3 + oo))) → ((x3 + oo) < 45 ∧ (∀ m2 : sh_Mem, m2 = ms m1 129 (ru (m1 129) (x3 + oo) (mem 129 (x3 + t))) → sh_X g d m_Mod_swapsIt 3 [(0, (sh_r 96)), (1, (sh_i (t : Int))), (2, (sh_i (oo : Int))), (3, (sh_i (((x3 + 4) : Nat) : Int)))] [] m2 (sh_K m_Mod_swapsIt Q)))))))))) : sh_X g d m_Mod_swapsIt 3 [(0, (sh_r 96)), (1, (sh_i (t : Int))), (2, (sh_i (oo : Int))), (3, (sh_i (x3 : Int)))] [] mem (sh_K m_Mod_swapsIt Q) := by
  refine xr_iload_n (n := 3) (i := 3) rfl (List.mem_of_getElem? (i := 3) rfl) (by decide +kernel) ?_
  refine xr_bipush (n := 29) (v := 29) (by decide) (by decide +kernel) ?_
  refine xr_icmp_ge (a' := (i3 (x3 : Int))) (b' := 29) rfl (by decide) (off := 45) (tgt := 51) (by decide) (by decide +kernel) ⟨fun c1 => ?_, fun c1 => ?_⟩
  · have k := k.1 c1
    exact xr_ret rfl (by decide +kernel) k
  · have k := k.2 c1
    refine xr_aload_n (n := 0) (i := 0) rfl (List.mem_of_getElem? (i := 0) rfl) (by decide +kernel) ?_
    refine xr_getR (o := 33) rfl fl_Mod_108 rfl (by decide +kernel) ?_
    show sh_X g d m_Mod_swapsIt _ _ ((sh_r 129) :: _) _ _
    refine xr_iload_n (n := 3) (i := 3) rfl (List.mem_of_getElem? (i := 3) rfl) (by decide +kernel) ?_
    refine xr_iload_n (n := 1) (i := 1) rfl (List.mem_of_getElem? (i := 1) rfl) (by decide +kernel) ?_
    refine xr_iadd (by decide +kernel) ?_
    show sh_X g d m_Mod_swapsIt _ _ ((sh_i (((x3 + t) : Nat) : Int)) :: _) _ _
    obtain ⟨o, k⟩ := k
    refine xr_ialdN (j := (x3 + t)) rfl rfl o (by decide +kernel) ?_
    refine xr_istore (i := 4) (by decide) rfl (by decide +kernel) ?_
    refine xr_aload_n (n := 0) (i := 0) rfl (List.mem_of_getElem? (i := 1) rfl) (by decide +kernel) ?_
    refine xr_getR (o := 33) rfl fl_Mod_108 rfl (by decide +kernel) ?_
    show sh_X g d m_Mod_swapsIt _ _ ((sh_r 129) :: _) _ _
    refine xr_iload_n (n := 3) (i := 3) rfl (List.mem_of_getElem? (i := 4) rfl) (by decide +kernel) ?_
    refine xr_iload_n (n := 1) (i := 1) rfl (List.mem_of_getElem? (i := 2) rfl) (by decide +kernel) ?_
    refine xr_iadd (by decide +kernel) ?_
    show sh_X g d m_Mod_swapsIt _ _ ((sh_i (((x3 + t) : Nat) : Int)) :: _) _ _
    refine xr_aload_n (n := 0) (i := 0) rfl (List.mem_of_getElem? (i := 1) rfl) (by decide +kernel) ?_
    refine xr_getR (o := 33) rfl fl_Mod_108 rfl (by decide +kernel) ?_
    show sh_X g d m_Mod_swapsIt _ _ ((sh_r 129) :: _) _ _
    refine xr_iload_n (n := 3) (i := 3) rfl (List.mem_of_getElem? (i := 4) rfl) (by decide +kernel) ?_
    refine xr_iload_n (n := 2) (i := 2) rfl (List.mem_of_getElem? (i := 3) rfl) (by decide +kernel) ?_
    refine xr_iadd (by decide +kernel) ?_
    show sh_X g d m_Mod_swapsIt _ _ ((sh_i (((x3 + oo) : Nat) : Int)) :: _) _ _
    obtain ⟨o, k⟩ := k
    refine xr_ialdN (j := (x3 + oo)) rfl rfl o (by decide +kernel) ?_
    have o9 := True.intro
    obtain ⟨o, k⟩ := k
    refine xr_iastN (j := (x3 + t)) rfl rfl o (by decide +kernel) ?_
    have k := k _ rfl
    generalize hg_m1 : ms mem 129 (ru (mem 129) (x3 + t) (mem 129 (x3 + oo))) = m1 at k ⊢
    refine xr_aload_n (n := 0) (i := 0) rfl (List.mem_of_getElem? (i := 1) rfl) (by decide +kernel) ?_
    refine xr_getR (o := 33) rfl fl_Mod_108 rfl (by decide +kernel) ?_
    show sh_X g d m_Mod_swapsIt _ _ ((sh_r 129) :: _) _ _
    refine xr_iload_n (n := 3) (i := 3) rfl (List.mem_of_getElem? (i := 4) rfl) (by decide +kernel) ?_
    refine xr_iload_n (n := 2) (i := 2) rfl (List.mem_of_getElem? (i := 3) rfl) (by decide +kernel) ?_
    refine xr_iadd (by decide +kernel) ?_
    show sh_X g d m_Mod_swapsIt _ _ ((sh_i (((x3 + oo) : Nat) : Int)) :: _) _ _
    refine xr_iload (i := 4) (List.mem_of_getElem? (i := 0) rfl) (by decide +kernel) ?_
    have o9 := True.intro
    obtain ⟨o, k⟩ := k
    refine xr_iastN (j := (x3 + oo)) rfl rfl o (by decide +kernel) ?_
    have k := k _ rfl
    generalize hg_m2 : ms m1 129 (ru (m1 129) (x3 + oo) (mem 129 (x3 + t))) = m2 at k ⊢
    refine xr_iinc (n := 4) (lo' := [(3, (sh_i (((x3 + 4) : Nat) : Int))), (4, (sh_i (mem 129 (x3 + t)))), (0, (sh_r 96)), (1, (sh_i (t : Int))), (2, (sh_i (oo : Int)))]) (List.mem_of_getElem? (i := 4) rfl) (by decide) rfl (by decide +kernel) ?_
    refine xr_goto (off := (-45)) (tgt := 3) (by decide) (by decide +kernel) ?_
    refine xr_sub (lo' := [(0, (sh_r 96)), (1, (sh_i (t : Int))), (2, (sh_i (oo : Int))), (3, (sh_i (((x3 + 4) : Nat) : Int)))]) [2, 3, 4, 0] rfl ?_
    exact k

theorem v_Mod_ages {g : sh_G} {d : Nat} {t : Nat}  {mem : sh_Mem} {Q : Option sh_V → sh_Mem → Prop}  (k : ((25 + t) < 45 ∧ ((25 + t) < 45 ∧ (∀ m1 : sh_Mem, m1 = ms mem 129 (ru (mem 129) (25 + t) ((mem 129 (25 + t)) + 1)) → ((21 + t) < 45 ∧ ((¬ (i3 (m1 129 (21 + t))) = 0 → sh_X g (d + 1) m_Mod_ages 53 [(0, (sh_r 96)), (1, (sh_i (t : Int))), (2, (sh_i (m1 129 (21 + t))))] [] m1 (sh_K m_Mod_ages Q)) ∧ ((i3 (m1 129 (21 + t))) = 0 → ((25 + t) < 45 ∧ (((i3 (m1 129 (25 + t))) ≤ 3 → sh_X g (d + 1) m_Mod_ages 53 [(0, (sh_r 96)), (1, (sh_i (t : Int))), (2, (sh_i (m1 129 (21 + t))))] [] m1 (sh_K m_Mod_ages Q)) ∧ (¬ (i3 (m1 129 (25 + t))) ≤ 3 → ((17 + t) < 45 ∧ ((17 + t) < 45 ∧ (∀ m2 : sh_Mem, m2 = ms m1 129 (ru (m1 129) (17 + t) ((m1 129 (17 + t)) - 1)) → sh_X g (d + 1) m_Mod_ages 53 [(0, (sh_r 96)), (1, (sh_i (t : Int))), (2, (sh_i (m1 129 (21 + t))))] [] m2 (sh_K m_Mod_ages Q)))))))))))))) : sh_Cal g (d + 1) m_Mod_ages [(sh_r 96), (sh_i (t : Int))] mem Q := by
  refine sh_met (by decide +kernel) (Nat.le_of_ble_eq_true rfl) (lo := [(0, (sh_r 96)), (1, (sh_i (t : Int)))]) rfl ?_
  refine xr_aload_n (n := 0) (i := 0) rfl (List.mem_of_getElem? (i := 0) rfl) (by decide +kernel) ?_
  refine xr_getR (o := 33) rfl fl_Mod_108 rfl (by decide +kernel) ?_
  show sh_X g (d + 1) m_Mod_ages _ _ ((sh_r 129) :: _) _ _
  refine xr_bipush (n := 25) (v := 25) (by decide) (by decide +kernel) ?_
  refine xr_iload_n (n := 1) (i := 1) rfl (List.mem_of_getElem? (i := 1) rfl) (by decide +kernel) ?_
  refine xr_iadd (by decide +kernel) ?_
  show sh_X g (d + 1) m_Mod_ages _ _ ((sh_i (((25 + t) : Nat) : Int)) :: _) _ _
  refine xr_dup2 (by decide +kernel) ?_
  obtain ⟨o, k⟩ := k
  refine xr_ialdN (j := (25 + t)) rfl rfl o (by decide +kernel) ?_
  refine xr_iconst (n := 1) (by decide +kernel) ?_
  refine xr_iadd (by decide +kernel) ?_
  show sh_X g (d + 1) m_Mod_ages _ _ ((sh_i ((mem 129 (25 + t)) + 1)) :: _) _ _
  have o9 := True.intro
  obtain ⟨o, k⟩ := k
  refine xr_iastN (j := (25 + t)) rfl rfl o (by decide +kernel) ?_
  have k := k _ rfl
  generalize hg_m1 : ms mem 129 (ru (mem 129) (25 + t) ((mem 129 (25 + t)) + 1)) = m1 at k ⊢
  refine xr_aload_n (n := 0) (i := 0) rfl (List.mem_of_getElem? (i := 0) rfl) (by decide +kernel) ?_
  refine xr_getR (o := 33) rfl fl_Mod_108 rfl (by decide +kernel) ?_
  show sh_X g (d + 1) m_Mod_ages _ _ ((sh_r 129) :: _) _ _
  refine xr_bipush (n := 21) (v := 21) (by decide) (by decide +kernel) ?_
  refine xr_iload_n (n := 1) (i := 1) rfl (List.mem_of_getElem? (i := 1) rfl) (by decide +kernel) ?_
  refine xr_iadd (by decide +kernel) ?_
  show sh_X g (d + 1) m_Mod_ages _ _ ((sh_i (((21 + t) : Nat) : Int)) :: _) _ _
  obtain ⟨o, k⟩ := k
  refine xr_ialdN (j := (21 + t)) rfl rfl o (by decide +kernel) ?_
  refine xr_istore_n (n := 2) (i := 2) rfl (by decide) rfl (by decide +kernel) ?_
  refine xr_iload_n (n := 2) (i := 2) rfl (List.mem_of_getElem? (i := 0) rfl) (by decide +kernel) ?_
  refine xr_if_ne (a' := (i3 (m1 129 (21 + t)))) rfl (off := 29) (tgt := 53) (by decide) (by decide +kernel) ⟨fun c1 => ?_, fun c1 => ?_⟩
  · have k := k.1 c1
    refine xr_sub (lo' := [(0, (sh_r 96)), (1, (sh_i (t : Int))), (2, (sh_i (m1 129 (21 + t))))]) [1, 2, 0] rfl ?_
    exact k
  · have k := k.2 c1
    refine xr_aload_n (n := 0) (i := 0) rfl (List.mem_of_getElem? (i := 1) rfl) (by decide +kernel) ?_
    refine xr_getR (o := 33) rfl fl_Mod_108 rfl (by decide +kernel) ?_
    show sh_X g (d + 1) m_Mod_ages _ _ ((sh_r 129) :: _) _ _
    refine xr_bipush (n := 25) (v := 25) (by decide) (by decide +kernel) ?_
    refine xr_iload_n (n := 1) (i := 1) rfl (List.mem_of_getElem? (i := 2) rfl) (by decide +kernel) ?_
    refine xr_iadd (by decide +kernel) ?_
    show sh_X g (d + 1) m_Mod_ages _ _ ((sh_i (((25 + t) : Nat) : Int)) :: _) _ _
    obtain ⟨o, k⟩ := k
    refine xr_ialdN (j := (25 + t)) rfl rfl o (by decide +kernel) ?_
    refine xr_iconst (n := 3) (by decide +kernel) ?_
    refine xr_icmp_le (a' := (i3 (m1 129 (25 + t)))) (b' := 3) rfl (by decide) (off := 16) (tgt := 53) (by decide) (by decide +kernel) ⟨fun c2 => ?_, fun c2 => ?_⟩
    · have k := k.1 c2
      refine xr_sub (lo' := [(0, (sh_r 96)), (1, (sh_i (t : Int))), (2, (sh_i (m1 129 (21 + t))))]) [1, 2, 0] rfl ?_
      exact k
    · have k := k.2 c2
      refine xr_aload_n (n := 0) (i := 0) rfl (List.mem_of_getElem? (i := 1) rfl) (by decide +kernel) ?_
      refine xr_getR (o := 33) rfl fl_Mod_108 rfl (by decide +kernel) ?_
      show sh_X g (d + 1) m_Mod_ages _ _ ((sh_r 129) :: _) _ _
      refine xr_bipush (n := 17) (v := 17) (by decide) (by decide +kernel) ?_
      refine xr_iload_n (n := 1) (i := 1) rfl (List.mem_of_getElem? (i := 2) rfl) (by decide +kernel) ?_
      refine xr_iadd (by decide +kernel) ?_
      show sh_X g (d + 1) m_Mod_ages _ _ ((sh_i (((17 + t) : Nat) : Int)) :: _) _ _
      refine xr_dup2 (by decide +kernel) ?_
      obtain ⟨o, k⟩ := k
      refine xr_ialdN (j := (17 + t)) rfl rfl o (by decide +kernel) ?_
      refine xr_iconst (n := 1) (by decide +kernel) ?_
      refine xr_isub (by decide +kernel) ?_
      show sh_X g (d + 1) m_Mod_ages _ _ ((sh_i ((m1 129 (17 + t)) - 1)) :: _) _ _
      have o9 := True.intro
      obtain ⟨o, k⟩ := k
      refine xr_iastN (j := (17 + t)) rfl rfl o (by decide +kernel) ?_
      have k := k _ rfl
      generalize hg_m2 : ms m1 129 (ru (m1 129) (17 + t) ((m1 129 (17 + t)) - 1)) = m2 at k ⊢
      refine xr_sub (lo' := [(0, (sh_r 96)), (1, (sh_i (t : Int))), (2, (sh_i (m1 129 (21 + t))))]) [1, 2, 0] rfl ?_
      exact k
theorem v_Mod_ages_53 {g : sh_G} {d : Nat} {t : Nat}  {mem : sh_Mem} {Q : Option sh_V → sh_Mem → Prop}  {x2 : Int} (k : ((¬ (i3 x2) = 1 → sh_X g (d + 1) m_Mod_ages 83 [(0, (sh_r 96)), (1, (sh_i (t : Int))), (2, (sh_i x2))] [] mem (sh_K m_Mod_ages Q)) ∧ ((i3 x2) = 1 → ((33 + t) < 45 ∧ ((33 + t) < 45 ∧ (∀ m1 : sh_Mem, m1 = ms mem 129 (ru (mem 129) (33 + t) (if (i3 ((mem 129 (33 + t)) + 1)) < (i3 9) then ((mem 129 (33 + t)) + 1) else (9 : Int))) → sh_X g (d + 1) m_Mod_ages 83 [(0, (sh_r 96)), (1, (sh_i (t : Int))), (2, (sh_i x2))] [] m1 (sh_K m_Mod_ages Q))))))) : sh_X g (d + 1) m_Mod_ages 53 [(0, (sh_r 96)), (1, (sh_i (t : Int))), (2, (sh_i x2))] [] mem (sh_K m_Mod_ages Q) := by
  refine xr_iload_n (n := 2) (i := 2) rfl (List.mem_of_getElem? (i := 2) rfl) (by decide +kernel) ?_
  refine xr_iconst (n := 1) (by decide +kernel) ?_
  refine xr_icmp_ne (a' := (i3 x2)) (b' := 1) rfl (by decide) (off := 28) (tgt := 83) (by decide) (by decide +kernel) ⟨fun c1 => ?_, fun c1 => ?_⟩
  · have k := k.1 c1
    refine xr_sub (lo' := [(0, (sh_r 96)), (1, (sh_i (t : Int))), (2, (sh_i x2))]) [0, 1, 2] rfl ?_
    exact k
  · have k := k.2 c1
    refine xr_aload_n (n := 0) (i := 0) rfl (List.mem_of_getElem? (i := 0) rfl) (by decide +kernel) ?_
    refine xr_getR (o := 33) rfl fl_Mod_108 rfl (by decide +kernel) ?_
    show sh_X g (d + 1) m_Mod_ages _ _ ((sh_r 129) :: _) _ _
    refine xr_bipush (n := 33) (v := 33) (by decide) (by decide +kernel) ?_
    refine xr_iload_n (n := 1) (i := 1) rfl (List.mem_of_getElem? (i := 1) rfl) (by decide +kernel) ?_
    refine xr_iadd (by decide +kernel) ?_
    show sh_X g (d + 1) m_Mod_ages _ _ ((sh_i (((33 + t) : Nat) : Int)) :: _) _ _
    refine xr_bipush (n := 9) (v := 9) (by decide) (by decide +kernel) ?_
    refine xr_aload_n (n := 0) (i := 0) rfl (List.mem_of_getElem? (i := 0) rfl) (by decide +kernel) ?_
    refine xr_getR (o := 33) rfl fl_Mod_108 rfl (by decide +kernel) ?_
    show sh_X g (d + 1) m_Mod_ages _ _ ((sh_r 129) :: _) _ _
    refine xr_bipush (n := 33) (v := 33) (by decide) (by decide +kernel) ?_
    refine xr_iload_n (n := 1) (i := 1) rfl (List.mem_of_getElem? (i := 1) rfl) (by decide +kernel) ?_
    refine xr_iadd (by decide +kernel) ?_
    show sh_X g (d + 1) m_Mod_ages _ _ ((sh_i (((33 + t) : Nat) : Int)) :: _) _ _
    obtain ⟨o, k⟩ := k
    refine xr_ialdN (j := (33 + t)) rfl rfl o (by decide +kernel) ?_
    refine xr_iconst (n := 1) (by decide +kernel) ?_
    refine xr_iadd (by decide +kernel) ?_
    show sh_X g (d + 1) m_Mod_ages _ _ ((sh_i ((mem 129 (33 + t)) + 1)) :: _) _ _
    refine xr_mmin ml_Mod_352 (Nat.le_of_ble_eq_true rfl) (by decide +kernel) ?_
    have o9 := True.intro
    obtain ⟨o, k⟩ := k
    refine xr_iastN (j := (33 + t)) rfl rfl o (by decide +kernel) ?_
    have k := k _ rfl
    generalize hg_m1 : ms mem 129 (ru (mem 129) (33 + t) (if (i3 ((mem 129 (33 + t)) + 1)) < (i3 9) then ((mem 129 (33 + t)) + 1) else (9 : Int))) = m1 at k ⊢
    refine xr_sub (lo' := [(0, (sh_r 96)), (1, (sh_i (t : Int))), (2, (sh_i x2))]) [0, 1, 2] rfl ?_
    exact k
theorem v_Mod_ages_83 {g : sh_G} {d : Nat} {t : Nat}  {mem : sh_Mem} {Q : Option sh_V → sh_Mem → Prop}  {x2 : Int} (k : ((¬ (i3 x2) = 2 → sh_X g (d + 1) m_Mod_ages 101 [(0, (sh_r 96)), (1, (sh_i (t : Int))), (2, (sh_i x2))] [] mem (sh_K m_Mod_ages Q)) ∧ ((i3 x2) = 2 → ((17 + t) < 45 ∧ ((17 + t) < 45 ∧ (∀ m1 : sh_Mem, m1 = ms mem 129 (ru (mem 129) (17 + t) (i_div (mem 129 (17 + t)) 2)) → sh_X g (d + 1) m_Mod_ages 101 [(0, (sh_r 96)), (1, (sh_i (t : Int))), (2, (sh_i x2))] [] m1 (sh_K m_Mod_ages Q))))))) : sh_X g (d + 1) m_Mod_ages 83 [(0, (sh_r 96)), (1, (sh_i (t : Int))), (2, (sh_i x2))] [] mem (sh_K m_Mod_ages Q) := by
  refine xr_iload_n (n := 2) (i := 2) rfl (List.mem_of_getElem? (i := 2) rfl) (by decide +kernel) ?_
  refine xr_iconst (n := 2) (by decide +kernel) ?_
  refine xr_icmp_ne (a' := (i3 x2)) (b' := 2) rfl (by decide) (off := 16) (tgt := 101) (by decide) (by decide +kernel) ⟨fun c1 => ?_, fun c1 => ?_⟩
  · have k := k.1 c1
    refine xr_sub (lo' := [(0, (sh_r 96)), (1, (sh_i (t : Int))), (2, (sh_i x2))]) [0, 1, 2] rfl ?_
    exact k
  · have k := k.2 c1
    refine xr_aload_n (n := 0) (i := 0) rfl (List.mem_of_getElem? (i := 0) rfl) (by decide +kernel) ?_
    refine xr_getR (o := 33) rfl fl_Mod_108 rfl (by decide +kernel) ?_
    show sh_X g (d + 1) m_Mod_ages _ _ ((sh_r 129) :: _) _ _
    refine xr_bipush (n := 17) (v := 17) (by decide) (by decide +kernel) ?_
    refine xr_iload_n (n := 1) (i := 1) rfl (List.mem_of_getElem? (i := 1) rfl) (by decide +kernel) ?_
    refine xr_iadd (by decide +kernel) ?_
    show sh_X g (d + 1) m_Mod_ages _ _ ((sh_i (((17 + t) : Nat) : Int)) :: _) _ _
    refine xr_dup2 (by decide +kernel) ?_
    obtain ⟨o, k⟩ := k
    refine xr_ialdN (j := (17 + t)) rfl rfl o (by decide +kernel) ?_
    refine xr_iconst (n := 2) (by decide +kernel) ?_
    refine xr_idiv (by decide) (by decide +kernel) ?_
    have o9 := True.intro
    obtain ⟨o, k⟩ := k
    refine xr_iastN (j := (17 + t)) rfl rfl o (by decide +kernel) ?_
    have k := k _ rfl
    generalize hg_m1 : ms mem 129 (ru (mem 129) (17 + t) (i_div (mem 129 (17 + t)) 2)) = m1 at k ⊢
    refine xr_sub (lo' := [(0, (sh_r 96)), (1, (sh_i (t : Int))), (2, (sh_i x2))]) [0, 1, 2] rfl ?_
    exact k
theorem v_Mod_ages_101 {g : sh_G} {d : Nat} {t : Nat}  {mem : sh_Mem} {Q : Option sh_V → sh_Mem → Prop}  {x2 : Int} (k : ((¬ (i3 x2) = 3 → sh_X g (d + 1) m_Mod_ages 129 [(0, (sh_r 96)), (1, (sh_i (t : Int))), (2, (sh_i x2))] [] mem (sh_K m_Mod_ages Q)) ∧ ((i3 x2) = 3 → ((25 + t) < 45 ∧ (((i3 (mem 129 (25 + t))) ≤ 3 → sh_X g (d + 1) m_Mod_ages 129 [(0, (sh_r 96)), (1, (sh_i (t : Int))), (2, (sh_i x2))] [] mem (sh_K m_Mod_ages Q)) ∧ (¬ (i3 (mem 129 (25 + t))) ≤ 3 → ((17 + t) < 45 ∧ (∀ m1 : sh_Mem, m1 = ms mem 129 (ru (mem 129) (17 + t) 0) → sh_X g (d + 1) m_Mod_ages 129 [(0, (sh_r 96)), (1, (sh_i (t : Int))), (2, (sh_i x2))] [] m1 (sh_K m_Mod_ages Q))))))))) : sh_X g (d + 1) m_Mod_ages 101 [(0, (sh_r 96)), (1, (sh_i (t : Int))), (2, (sh_i x2))] [] mem (sh_K m_Mod_ages Q) := by
  refine xr_iload_n (n := 2) (i := 2) rfl (List.mem_of_getElem? (i := 2) rfl) (by decide +kernel) ?_
  refine xr_iconst (n := 3) (by decide +kernel) ?_
  refine xr_icmp_ne (a' := (i3 x2)) (b' := 3) rfl (by decide) (off := 26) (tgt := 129) (by decide) (by decide +kernel) ⟨fun c1 => ?_, fun c1 => ?_⟩
  · have k := k.1 c1
    refine xr_sub (lo' := [(0, (sh_r 96)), (1, (sh_i (t : Int))), (2, (sh_i x2))]) [0, 1, 2] rfl ?_
    exact k
  · have k := k.2 c1
    refine xr_aload_n (n := 0) (i := 0) rfl (List.mem_of_getElem? (i := 0) rfl) (by decide +kernel) ?_
    refine xr_getR (o := 33) rfl fl_Mod_108 rfl (by decide +kernel) ?_
    show sh_X g (d + 1) m_Mod_ages _ _ ((sh_r 129) :: _) _ _
    refine xr_bipush (n := 25) (v := 25) (by decide) (by decide +kernel) ?_
    refine xr_iload_n (n := 1) (i := 1) rfl (List.mem_of_getElem? (i := 1) rfl) (by decide +kernel) ?_
    refine xr_iadd (by decide +kernel) ?_
    show sh_X g (d + 1) m_Mod_ages _ _ ((sh_i (((25 + t) : Nat) : Int)) :: _) _ _
    obtain ⟨o, k⟩ := k
    refine xr_ialdN (j := (25 + t)) rfl rfl o (by decide +kernel) ?_
    refine xr_iconst (n := 3) (by decide +kernel) ?_
    refine xr_icmp_le (a' := (i3 (mem 129 (25 + t)))) (b' := 3) rfl (by decide) (off := 13) (tgt := 129) (by decide) (by decide +kernel) ⟨fun c2 => ?_, fun c2 => ?_⟩
    · have k := k.1 c2
      refine xr_sub (lo' := [(0, (sh_r 96)), (1, (sh_i (t : Int))), (2, (sh_i x2))]) [0, 1, 2] rfl ?_
      exact k
    · have k := k.2 c2
      refine xr_aload_n (n := 0) (i := 0) rfl (List.mem_of_getElem? (i := 0) rfl) (by decide +kernel) ?_
      refine xr_getR (o := 33) rfl fl_Mod_108 rfl (by decide +kernel) ?_
      show sh_X g (d + 1) m_Mod_ages _ _ ((sh_r 129) :: _) _ _
      refine xr_bipush (n := 17) (v := 17) (by decide) (by decide +kernel) ?_
      refine xr_iload_n (n := 1) (i := 1) rfl (List.mem_of_getElem? (i := 1) rfl) (by decide +kernel) ?_
      refine xr_iadd (by decide +kernel) ?_
      show sh_X g (d + 1) m_Mod_ages _ _ ((sh_i (((17 + t) : Nat) : Int)) :: _) _ _
      refine xr_iconst (n := 0) (by decide +kernel) ?_
      have o9 := True.intro
      obtain ⟨o, k⟩ := k
      refine xr_iastN (j := (17 + t)) rfl rfl o (by decide +kernel) ?_
      have k := k _ rfl
      generalize hg_m1 : ms mem 129 (ru (mem 129) (17 + t) 0) = m1 at k ⊢
      refine xr_sub (lo' := [(0, (sh_r 96)), (1, (sh_i (t : Int))), (2, (sh_i x2))]) [0, 1, 2] rfl ?_
      exact k
theorem v_Mod_ages_129 {g : sh_G} {d : Nat} {t : Nat}  {mem : sh_Mem} {Q : Option sh_V → sh_Mem → Prop}  {x2 : Int} (k : ((17 + t) < 45 ∧ ((¬ (i3 (mem 129 (17 + t))) = 0 → Q none mem) ∧ ((i3 (mem 129 (17 + t))) = 0 → (sh_Cal g d m_Mod_takesAway [(sh_r 96), (sh_i (t : Int))] mem fun rv m1 => rv = none ∧ Q none m1))))) : sh_X g (d + 1) m_Mod_ages 129 [(0, (sh_r 96)), (1, (sh_i (t : Int))), (2, (sh_i x2))] [] mem (sh_K m_Mod_ages Q) := by
  refine xr_aload_n (n := 0) (i := 0) rfl (List.mem_of_getElem? (i := 0) rfl) (by decide +kernel) ?_
  refine xr_getR (o := 33) rfl fl_Mod_108 rfl (by decide +kernel) ?_
  show sh_X g (d + 1) m_Mod_ages _ _ ((sh_r 129) :: _) _ _
  refine xr_bipush (n := 17) (v := 17) (by decide) (by decide +kernel) ?_
  refine xr_iload_n (n := 1) (i := 1) rfl (List.mem_of_getElem? (i := 1) rfl) (by decide +kernel) ?_
  refine xr_iadd (by decide +kernel) ?_
  show sh_X g (d + 1) m_Mod_ages _ _ ((sh_i (((17 + t) : Nat) : Int)) :: _) _ _
  obtain ⟨o, k⟩ := k
  refine xr_ialdN (j := (17 + t)) rfl rfl o (by decide +kernel) ?_
  refine xr_if_ne (a' := (i3 (mem 129 (17 + t)))) rfl (off := 8) (tgt := 146) (by decide) (by decide +kernel) ⟨fun c1 => ?_, fun c1 => ?_⟩
  · have k := k.1 c1
    exact xr_ret rfl (by decide +kernel) k
  · have k := k.2 c1
    refine xr_aload_n (n := 0) (i := 0) rfl (List.mem_of_getElem? (i := 0) rfl) (by decide +kernel) ?_
    refine xr_iload_n (n := 1) (i := 1) rfl (List.mem_of_getElem? (i := 1) rfl) (by decide +kernel) ?_
    refine xr_callV (av := [(sh_i (t : Int))]) rfl rfl rfl mo_Mod_takesAway ml_Mod_374 im_Mod_takesAway se_Mod_takesAway rfl (Nat.le_of_ble_eq_true rfl) (by decide +kernel) (sh_mono k ?_)
    rintro rv m1 ⟨rfl, k⟩
    show sh_X g (d + 1) m_Mod_ages _ _ [] _ _
    exact xr_ret rfl (by decide +kernel) k

theorem v_Mod_passes {g : sh_G} {d : Nat}   {mem : sh_Mem} {Q : Option sh_V → sh_Mem → Prop}  (k : sh_X g (d + 1) m_Mod_passes 2 [(0, (sh_r 96)), (1, (sh_i 0))] [] mem (sh_K m_Mod_passes Q)) : sh_Cal g (d + 1) m_Mod_passes [(sh_r 96)] mem Q := by
  refine sh_met (by decide +kernel) (Nat.le_of_ble_eq_true rfl) (lo := [(0, (sh_r 96))]) rfl ?_
  refine xr_iconst (n := 0) (by decide +kernel) ?_
  refine xr_istore_n (n := 1) (i := 1) rfl (by decide) rfl (by decide +kernel) ?_
  refine xr_sub (lo' := [(0, (sh_r 96)), (1, (sh_i 0))]) [1, 0] rfl ?_
  exact k
theorem v_Mod_passes_2 {g : sh_G} {d : Nat}   {mem : sh_Mem} {Q : Option sh_V → sh_Mem → Prop}  {x1 : Nat} (k : (((i3 (mem 98 1)) ≤ (i3 (x1 : Int)) → sh_X g (d + 1) m_Mod_passes 57 [(0, (sh_r 96)), (1, (sh_i 0))] [] mem (sh_K m_Mod_passes Q)) ∧ (¬ (i3 (mem 98 1)) ≤ (i3 (x1 : Int)) → (sh_Cal g d m_Mod_hasPiece [(sh_r 96), (sh_i (x1 : Int))] mem fun rv m1 => ∃ r1 : Int, rv = some (sh_i r1) ∧ (((i3 r1) = 0 → sh_X g (d + 1) m_Mod_passes 25 [(0, (sh_r 96)), (1, (sh_i (x1 : Int)))] [] m1 (sh_K m_Mod_passes Q)) ∧ (¬ (i3 r1) = 0 → (sh_Cal g d m_Mod_ages [(sh_r 96), (sh_i (x1 : Int))] m1 fun rv m2 => rv = none ∧ sh_X g (d + 1) m_Mod_passes 25 [(0, (sh_r 96)), (1, (sh_i (x1 : Int)))] [] m2 (sh_K m_Mod_passes Q)))))))) : sh_X g (d + 1) m_Mod_passes 2 [(0, (sh_r 96)), (1, (sh_i (x1 : Int)))] [] mem (sh_K m_Mod_passes Q) := by
  refine xr_iload_n (n := 1) (i := 1) rfl (List.mem_of_getElem? (i := 1) rfl) (by decide +kernel) ?_
  refine xr_aload_n (n := 0) (i := 0) rfl (List.mem_of_getElem? (i := 0) rfl) (by decide +kernel) ?_
  refine xr_getR (o := 2) rfl fl_Mod_13 rfl (by decide +kernel) ?_
  show sh_X g (d + 1) m_Mod_passes _ _ ((sh_r 98) :: _) _ _
  refine xr_iconst (n := 1) (by decide +kernel) ?_
  refine xr_ialdN (j := 1) rfl rfl (by decide) (by decide +kernel) ?_
  refine xr_icmp_ge (a' := (i3 (x1 : Int))) (b' := (i3 (mem 98 1))) rfl rfl (off := 46) (tgt := 55) (by decide) (by decide +kernel) ⟨fun c1 => ?_, fun c1 => ?_⟩
  · have k := k.1 c1
    refine xr_iconst (n := 0) (by decide +kernel) ?_
    refine xr_istore_n (n := 1) (i := 1) rfl (by decide) rfl (by decide +kernel) ?_
    refine xr_sub (lo' := [(0, (sh_r 96)), (1, (sh_i 0))]) [1, 0] rfl ?_
    exact k
  · have k := k.2 c1
    refine xr_aload_n (n := 0) (i := 0) rfl (List.mem_of_getElem? (i := 0) rfl) (by decide +kernel) ?_
    refine xr_iload_n (n := 1) (i := 1) rfl (List.mem_of_getElem? (i := 1) rfl) (by decide +kernel) ?_
    refine xr_callV (av := [(sh_i (x1 : Int))]) rfl rfl rfl mo_Mod_hasPiece ml_Mod_346 im_Mod_hasPiece se_Mod_hasPiece rfl (Nat.le_of_ble_eq_true rfl) (by decide +kernel) (sh_mono k ?_)
    rintro rv m1 ⟨r1, rfl, k⟩
    show sh_X g (d + 1) m_Mod_passes _ _ [(sh_i r1)] _ _
    refine xr_if_eq (a' := (i3 r1)) rfl (off := 8) (tgt := 25) (by decide) (by decide +kernel) ⟨fun c2 => ?_, fun c2 => ?_⟩
    · have k := k.1 c2
      refine xr_sub (lo' := [(0, (sh_r 96)), (1, (sh_i (x1 : Int)))]) [0, 1] rfl ?_
      exact k
    · have k := k.2 c2
      refine xr_aload_n (n := 0) (i := 0) rfl (List.mem_of_getElem? (i := 0) rfl) (by decide +kernel) ?_
      refine xr_iload_n (n := 1) (i := 1) rfl (List.mem_of_getElem? (i := 1) rfl) (by decide +kernel) ?_
      refine xr_callV (av := [(sh_i (x1 : Int))]) rfl rfl rfl mo_Mod_ages ml_Mod_380 im_Mod_ages se_Mod_ages rfl (Nat.le_of_ble_eq_true rfl) (by decide +kernel) (sh_mono k ?_)
      rintro rv m2 ⟨rfl, k⟩
      show sh_X g (d + 1) m_Mod_passes _ _ [] _ _
      refine xr_sub (lo' := [(0, (sh_r 96)), (1, (sh_i (x1 : Int)))]) [0, 1] rfl ?_
      exact k
theorem v_Mod_passes_57 {g : sh_G} {d : Nat}   {mem : sh_Mem} {Q : Option sh_V → sh_Mem → Prop}  {x1 : Nat} (k : (((i3 (mem 98 0)) ≤ (i3 (x1 : Int)) → (∀ m1 : sh_Mem, m1 = ms mem 129 (ru (mem 129) 0 ((mem 129 0) + 1)) → Q none m1)) ∧ (¬ (i3 (mem 98 0)) ≤ (i3 (x1 : Int)) → (x1 < 16 ∧ ((1 + x1) < 45 ∧ ((1 + x1) < 45 ∧ (∀ m2 : sh_Mem, m2 = ms mem 129 (ru (mem 129) (1 + x1) (if (i3 ((mem 129 (1 + x1)) + 1)) < (i3 (mem 102 x1)) then ((mem 129 (1 + x1)) + 1) else (mem 102 x1))) → (x1 < 16 ∧ ((9 + x1) < 45 ∧ ((9 + x1) < 45 ∧ (∀ m3 : sh_Mem, m3 = ms m2 129 (ru (m2 129) (9 + x1) (if (i3 (m2 103 x1)) < (i3 ((m2 129 (9 + x1)) - 1)) then ((m2 129 (9 + x1)) - 1) else (m2 103 x1))) → sh_X g (d + 1) m_Mod_passes 57 [(0, (sh_r 96)), (1, (sh_i (((x1 + 1) : Nat) : Int)))] [] m3 (sh_K m_Mod_passes Q)))))))))))) : sh_X g (d + 1) m_Mod_passes 57 [(0, (sh_r 96)), (1, (sh_i (x1 : Int)))] [] mem (sh_K m_Mod_passes Q) := by
  refine xr_iload_n (n := 1) (i := 1) rfl (List.mem_of_getElem? (i := 1) rfl) (by decide +kernel) ?_
  refine xr_aload_n (n := 0) (i := 0) rfl (List.mem_of_getElem? (i := 0) rfl) (by decide +kernel) ?_
  refine xr_getR (o := 2) rfl fl_Mod_13 rfl (by decide +kernel) ?_
  show sh_X g (d + 1) m_Mod_passes _ _ ((sh_r 98) :: _) _ _
  refine xr_iconst (n := 0) (by decide +kernel) ?_
  refine xr_ialdN (j := 0) rfl rfl (by decide) (by decide +kernel) ?_
  refine xr_icmp_ge (a' := (i3 (x1 : Int))) (b' := (i3 (mem 98 0))) rfl rfl (off := 65) (tgt := 129) (by decide) (by decide +kernel) ⟨fun c1 => ?_, fun c1 => ?_⟩
  · have k := k.1 c1
    refine xr_aload_n (n := 0) (i := 0) rfl (List.mem_of_getElem? (i := 0) rfl) (by decide +kernel) ?_
    refine xr_getR (o := 33) rfl fl_Mod_108 rfl (by decide +kernel) ?_
    show sh_X g (d + 1) m_Mod_passes _ _ ((sh_r 129) :: _) _ _
    refine xr_iconst (n := 0) (by decide +kernel) ?_
    refine xr_dup2 (by decide +kernel) ?_
    refine xr_ialdN (j := 0) rfl rfl (by decide) (by decide +kernel) ?_
    refine xr_iconst (n := 1) (by decide +kernel) ?_
    refine xr_iadd (by decide +kernel) ?_
    show sh_X g (d + 1) m_Mod_passes _ _ ((sh_i ((mem 129 0) + 1)) :: _) _ _
    have o9 := True.intro
    refine xr_iastN (j := 0) rfl rfl (by decide) (by decide +kernel) ?_
    have k := k _ rfl
    generalize hg_m1 : ms mem 129 (ru (mem 129) 0 ((mem 129 0) + 1)) = m1 at k ⊢
    exact xr_ret rfl (by decide +kernel) k
  · have k := k.2 c1
    refine xr_aload_n (n := 0) (i := 0) rfl (List.mem_of_getElem? (i := 0) rfl) (by decide +kernel) ?_
    refine xr_getR (o := 33) rfl fl_Mod_108 rfl (by decide +kernel) ?_
    show sh_X g (d + 1) m_Mod_passes _ _ ((sh_r 129) :: _) _ _
    refine xr_iconst (n := 1) (by decide +kernel) ?_
    refine xr_iload_n (n := 1) (i := 1) rfl (List.mem_of_getElem? (i := 1) rfl) (by decide +kernel) ?_
    refine xr_iadd (by decide +kernel) ?_
    show sh_X g (d + 1) m_Mod_passes _ _ ((sh_i (((1 + x1) : Nat) : Int)) :: _) _ _
    refine xr_aload_n (n := 0) (i := 0) rfl (List.mem_of_getElem? (i := 0) rfl) (by decide +kernel) ?_
    refine xr_getR (o := 6) rfl fl_Mod_26 rfl (by decide +kernel) ?_
    show sh_X g (d + 1) m_Mod_passes _ _ ((sh_r 102) :: _) _ _
    refine xr_iload_n (n := 1) (i := 1) rfl (List.mem_of_getElem? (i := 1) rfl) (by decide +kernel) ?_
    obtain ⟨o, k⟩ := k
    refine xr_ialdN (j := x1) rfl rfl o (by decide +kernel) ?_
    refine xr_aload_n (n := 0) (i := 0) rfl (List.mem_of_getElem? (i := 0) rfl) (by decide +kernel) ?_
    refine xr_getR (o := 33) rfl fl_Mod_108 rfl (by decide +kernel) ?_
    show sh_X g (d + 1) m_Mod_passes _ _ ((sh_r 129) :: _) _ _
    refine xr_iconst (n := 1) (by decide +kernel) ?_
    refine xr_iload_n (n := 1) (i := 1) rfl (List.mem_of_getElem? (i := 1) rfl) (by decide +kernel) ?_
    refine xr_iadd (by decide +kernel) ?_
    show sh_X g (d + 1) m_Mod_passes _ _ ((sh_i (((1 + x1) : Nat) : Int)) :: _) _ _
    obtain ⟨o, k⟩ := k
    refine xr_ialdN (j := (1 + x1)) rfl rfl o (by decide +kernel) ?_
    refine xr_iconst (n := 1) (by decide +kernel) ?_
    refine xr_iadd (by decide +kernel) ?_
    show sh_X g (d + 1) m_Mod_passes _ _ ((sh_i ((mem 129 (1 + x1)) + 1)) :: _) _ _
    refine xr_mmin ml_Mod_352 (Nat.le_of_ble_eq_true rfl) (by decide +kernel) ?_
    have o9 := True.intro
    obtain ⟨o, k⟩ := k
    refine xr_iastN (j := (1 + x1)) rfl rfl o (by decide +kernel) ?_
    have k := k _ rfl
    generalize hg_m2 : ms mem 129 (ru (mem 129) (1 + x1) (if (i3 ((mem 129 (1 + x1)) + 1)) < (i3 (mem 102 x1)) then ((mem 129 (1 + x1)) + 1) else (mem 102 x1))) = m2 at k ⊢
    refine xr_aload_n (n := 0) (i := 0) rfl (List.mem_of_getElem? (i := 0) rfl) (by decide +kernel) ?_
    refine xr_getR (o := 33) rfl fl_Mod_108 rfl (by decide +kernel) ?_
    show sh_X g (d + 1) m_Mod_passes _ _ ((sh_r 129) :: _) _ _
    refine xr_bipush (n := 9) (v := 9) (by decide) (by decide +kernel) ?_
    refine xr_iload_n (n := 1) (i := 1) rfl (List.mem_of_getElem? (i := 1) rfl) (by decide +kernel) ?_
    refine xr_iadd (by decide +kernel) ?_
    show sh_X g (d + 1) m_Mod_passes _ _ ((sh_i (((9 + x1) : Nat) : Int)) :: _) _ _
    refine xr_aload_n (n := 0) (i := 0) rfl (List.mem_of_getElem? (i := 0) rfl) (by decide +kernel) ?_
    refine xr_getR (o := 7) rfl fl_Mod_29 rfl (by decide +kernel) ?_
    show sh_X g (d + 1) m_Mod_passes _ _ ((sh_r 103) :: _) _ _
    refine xr_iload_n (n := 1) (i := 1) rfl (List.mem_of_getElem? (i := 1) rfl) (by decide +kernel) ?_
    obtain ⟨o, k⟩ := k
    refine xr_ialdN (j := x1) rfl rfl o (by decide +kernel) ?_
    refine xr_aload_n (n := 0) (i := 0) rfl (List.mem_of_getElem? (i := 0) rfl) (by decide +kernel) ?_
    refine xr_getR (o := 33) rfl fl_Mod_108 rfl (by decide +kernel) ?_
    show sh_X g (d + 1) m_Mod_passes _ _ ((sh_r 129) :: _) _ _
    refine xr_bipush (n := 9) (v := 9) (by decide) (by decide +kernel) ?_
    refine xr_iload_n (n := 1) (i := 1) rfl (List.mem_of_getElem? (i := 1) rfl) (by decide +kernel) ?_
    refine xr_iadd (by decide +kernel) ?_
    show sh_X g (d + 1) m_Mod_passes _ _ ((sh_i (((9 + x1) : Nat) : Int)) :: _) _ _
    obtain ⟨o, k⟩ := k
    refine xr_ialdN (j := (9 + x1)) rfl rfl o (by decide +kernel) ?_
    refine xr_iconst (n := 1) (by decide +kernel) ?_
    refine xr_isub (by decide +kernel) ?_
    show sh_X g (d + 1) m_Mod_passes _ _ ((sh_i ((m2 129 (9 + x1)) - 1)) :: _) _ _
    refine xr_mmax ml_Mod_368 (Nat.le_of_ble_eq_true rfl) (by decide +kernel) ?_
    have o9 := True.intro
    obtain ⟨o, k⟩ := k
    refine xr_iastN (j := (9 + x1)) rfl rfl o (by decide +kernel) ?_
    have k := k _ rfl
    generalize hg_m3 : ms m2 129 (ru (m2 129) (9 + x1) (if (i3 (m2 103 x1)) < (i3 ((m2 129 (9 + x1)) - 1)) then ((m2 129 (9 + x1)) - 1) else (m2 103 x1))) = m3 at k ⊢
    refine xr_iinc (n := 1) (lo' := [(1, (sh_i (((x1 + 1) : Nat) : Int))), (0, (sh_r 96))]) (List.mem_of_getElem? (i := 1) rfl) (by decide) rfl (by decide +kernel) ?_
    refine xr_goto (off := (-69)) (tgt := 57) (by decide) (by decide +kernel) ?_
    refine xr_sub (lo' := [(0, (sh_r 96)), (1, (sh_i (((x1 + 1) : Nat) : Int)))]) [1, 0] rfl ?_
    exact k
theorem v_Mod_passes_25 {g : sh_G} {d : Nat}   {mem : sh_Mem} {Q : Option sh_V → sh_Mem → Prop}  {x1 : Nat} (k : ((29 + x1) < 45 ∧ ((29 + x1) < 45 ∧ (∀ m1 : sh_Mem, m1 = ms mem 129 (ru (mem 129) (29 + x1) (if (i3 0) < (i3 ((mem 129 (29 + x1)) - 1)) then ((mem 129 (29 + x1)) - 1) else (0 : Int))) → sh_X g (d + 1) m_Mod_passes 2 [(0, (sh_r 96)), (1, (sh_i (((x1 + 1) : Nat) : Int)))] [] m1 (sh_K m_Mod_passes Q))))) : sh_X g (d + 1) m_Mod_passes 25 [(0, (sh_r 96)), (1, (sh_i (x1 : Int)))] [] mem (sh_K m_Mod_passes Q) := by
  refine xr_aload_n (n := 0) (i := 0) rfl (List.mem_of_getElem? (i := 0) rfl) (by decide +kernel) ?_
  refine xr_getR (o := 33) rfl fl_Mod_108 rfl (by decide +kernel) ?_
  show sh_X g (d + 1) m_Mod_passes _ _ ((sh_r 129) :: _) _ _
  refine xr_bipush (n := 29) (v := 29) (by decide) (by decide +kernel) ?_
  refine xr_iload_n (n := 1) (i := 1) rfl (List.mem_of_getElem? (i := 1) rfl) (by decide +kernel) ?_
  refine xr_iadd (by decide +kernel) ?_
  show sh_X g (d + 1) m_Mod_passes _ _ ((sh_i (((29 + x1) : Nat) : Int)) :: _) _ _
  refine xr_iconst (n := 0) (by decide +kernel) ?_
  refine xr_aload_n (n := 0) (i := 0) rfl (List.mem_of_getElem? (i := 0) rfl) (by decide +kernel) ?_
  refine xr_getR (o := 33) rfl fl_Mod_108 rfl (by decide +kernel) ?_
  show sh_X g (d + 1) m_Mod_passes _ _ ((sh_r 129) :: _) _ _
  refine xr_bipush (n := 29) (v := 29) (by decide) (by decide +kernel) ?_
  refine xr_iload_n (n := 1) (i := 1) rfl (List.mem_of_getElem? (i := 1) rfl) (by decide +kernel) ?_
  refine xr_iadd (by decide +kernel) ?_
  show sh_X g (d + 1) m_Mod_passes _ _ ((sh_i (((29 + x1) : Nat) : Int)) :: _) _ _
  obtain ⟨o, k⟩ := k
  refine xr_ialdN (j := (29 + x1)) rfl rfl o (by decide +kernel) ?_
  refine xr_iconst (n := 1) (by decide +kernel) ?_
  refine xr_isub (by decide +kernel) ?_
  show sh_X g (d + 1) m_Mod_passes _ _ ((sh_i ((mem 129 (29 + x1)) - 1)) :: _) _ _
  refine xr_mmax ml_Mod_368 (Nat.le_of_ble_eq_true rfl) (by decide +kernel) ?_
  have o9 := True.intro
  obtain ⟨o, k⟩ := k
  refine xr_iastN (j := (29 + x1)) rfl rfl o (by decide +kernel) ?_
  have k := k _ rfl
  generalize hg_m1 : ms mem 129 (ru (mem 129) (29 + x1) (if (i3 0) < (i3 ((mem 129 (29 + x1)) - 1)) then ((mem 129 (29 + x1)) - 1) else (0 : Int))) = m1 at k ⊢
  refine xr_iinc (n := 1) (lo' := [(1, (sh_i (((x1 + 1) : Nat) : Int))), (0, (sh_r 96))]) (List.mem_of_getElem? (i := 1) rfl) (by decide) rfl (by decide +kernel) ?_
  refine xr_goto (off := (-50)) (tgt := 2) (by decide) (by decide +kernel) ?_
  refine xr_sub (lo' := [(0, (sh_r 96)), (1, (sh_i (((x1 + 1) : Nat) : Int)))]) [1, 0] rfl ?_
  exact k

theorem v_Mod_having {g : sh_G} {d : Nat}   {mem : sh_Mem} {Q : Option sh_V → sh_Mem → Prop}  (k : sh_X g (d + 1) m_Mod_having 4 [(0, (sh_r 96)), (1, (sh_i 0)), (2, (sh_i 0))] [] mem (sh_K m_Mod_having Q)) : sh_Cal g (d + 1) m_Mod_having [(sh_r 96)] mem Q := by
  refine sh_met (by decide +kernel) (Nat.le_of_ble_eq_true rfl) (lo := [(0, (sh_r 96))]) rfl ?_
  refine xr_iconst (n := 0) (by decide +kernel) ?_
  refine xr_istore_n (n := 1) (i := 1) rfl (by decide) rfl (by decide +kernel) ?_
  refine xr_iconst (n := 0) (by decide +kernel) ?_
  refine xr_istore_n (n := 2) (i := 2) rfl (by decide) rfl (by decide +kernel) ?_
  refine xr_sub (lo' := [(0, (sh_r 96)), (1, (sh_i 0)), (2, (sh_i 0))]) [2, 1, 0] rfl ?_
  exact k
theorem v_Mod_having_4 {g : sh_G} {d : Nat}   {mem : sh_Mem} {Q : Option sh_V → sh_Mem → Prop}  {x1 : Int} {x2 : Nat} (k : (((i3 (mem 98 1)) ≤ (i3 (x2 : Int)) → Q (some (sh_i x1)) mem) ∧ (¬ (i3 (mem 98 1)) ≤ (i3 (x2 : Int)) → (sh_Cal g d m_Mod_hasPiece [(sh_r 96), (sh_i (x2 : Int))] mem fun rv m1 => ∃ r1 : Int, rv = some (sh_i r1) ∧ (((i3 r1) = 0 → sh_X g (d + 1) m_Mod_having 4 [(0, (sh_r 96)), (1, (sh_i (i_or x1 0))), (2, (sh_i (((x2 + 1) : Nat) : Int)))] [] m1 (sh_K m_Mod_having Q)) ∧ (¬ (i3 r1) = 0 → sh_X g (d + 1) m_Mod_having 4 [(0, (sh_r 96)), (1, (sh_i (i_or x1 (i_shl 1 (x2 : Int))))), (2, (sh_i (((x2 + 1) : Nat) : Int)))] [] m1 (sh_K m_Mod_having Q))))))) : sh_X g (d + 1) m_Mod_having 4 [(0, (sh_r 96)), (1, (sh_i x1)), (2, (sh_i (x2 : Int)))] [] mem (sh_K m_Mod_having Q) := by
  refine xr_iload_n (n := 2) (i := 2) rfl (List.mem_of_getElem? (i := 2) rfl) (by decide +kernel) ?_
  refine xr_aload_n (n := 0) (i := 0) rfl (List.mem_of_getElem? (i := 0) rfl) (by decide +kernel) ?_
  refine xr_getR (o := 2) rfl fl_Mod_13 rfl (by decide +kernel) ?_
  show sh_X g (d + 1) m_Mod_having _ _ ((sh_r 98) :: _) _ _
  refine xr_iconst (n := 1) (by decide +kernel) ?_
  refine xr_ialdN (j := 1) rfl rfl (by decide) (by decide +kernel) ?_
  refine xr_icmp_ge (a' := (i3 (x2 : Int))) (b' := (i3 (mem 98 1))) rfl rfl (off := 27) (tgt := 38) (by decide) (by decide +kernel) ⟨fun c1 => ?_, fun c1 => ?_⟩
  · have k := k.1 c1
    refine xr_iload_n (n := 1) (i := 1) rfl (List.mem_of_getElem? (i := 1) rfl) (by decide +kernel) ?_
    exact xr_iret rfl (by decide +kernel) k
  · have k := k.2 c1
    refine xr_iload_n (n := 1) (i := 1) rfl (List.mem_of_getElem? (i := 1) rfl) (by decide +kernel) ?_
    refine xr_aload_n (n := 0) (i := 0) rfl (List.mem_of_getElem? (i := 0) rfl) (by decide +kernel) ?_
    refine xr_iload_n (n := 2) (i := 2) rfl (List.mem_of_getElem? (i := 2) rfl) (by decide +kernel) ?_
    refine xr_callV (av := [(sh_i (x2 : Int))]) rfl rfl rfl mo_Mod_hasPiece ml_Mod_346 im_Mod_hasPiece se_Mod_hasPiece rfl (Nat.le_of_ble_eq_true rfl) (by decide +kernel) (sh_mono k ?_)
    rintro rv m1 ⟨r1, rfl, k⟩
    show sh_X g (d + 1) m_Mod_having _ _ [(sh_i r1), (sh_i x1)] _ _
    refine xr_if_eq (a' := (i3 r1)) rfl (off := 9) (tgt := 29) (by decide) (by decide +kernel) ⟨fun c2 => ?_, fun c2 => ?_⟩
    · have k := k.1 c2
      refine xr_iconst (n := 0) (by decide +kernel) ?_
      refine xr_ior (by decide +kernel) ?_
      refine xr_istore_n (n := 1) (i := 1) rfl (by decide) rfl (by decide +kernel) ?_
      refine xr_iinc (n := 1) (lo' := [(2, (sh_i (((x2 + 1) : Nat) : Int))), (1, (sh_i (i_or x1 0))), (0, (sh_r 96))]) (List.mem_of_getElem? (i := 2) rfl) (by decide) rfl (by decide +kernel) ?_
      refine xr_goto (off := (-31)) (tgt := 4) (by decide) (by decide +kernel) ?_
      refine xr_sub (lo' := [(0, (sh_r 96)), (1, (sh_i (i_or x1 0))), (2, (sh_i (((x2 + 1) : Nat) : Int)))]) [2, 1, 0] rfl ?_
      exact k
    · have k := k.2 c2
      refine xr_iconst (n := 1) (by decide +kernel) ?_
      refine xr_iload_n (n := 2) (i := 2) rfl (List.mem_of_getElem? (i := 2) rfl) (by decide +kernel) ?_
      refine xr_ishl (by decide +kernel) ?_
      refine xr_goto (off := 4) (tgt := 30) (by decide) (by decide +kernel) ?_
      refine xr_ior (by decide +kernel) ?_
      refine xr_istore_n (n := 1) (i := 1) rfl (by decide) rfl (by decide +kernel) ?_
      refine xr_iinc (n := 1) (lo' := [(2, (sh_i (((x2 + 1) : Nat) : Int))), (1, (sh_i (i_or x1 (i_shl 1 (x2 : Int))))), (0, (sh_r 96))]) (List.mem_of_getElem? (i := 2) rfl) (by decide) rfl (by decide +kernel) ?_
      refine xr_goto (off := (-31)) (tgt := 4) (by decide) (by decide +kernel) ?_
      refine xr_sub (lo' := [(0, (sh_r 96)), (1, (sh_i (i_or x1 (i_shl 1 (x2 : Int))))), (2, (sh_i (((x2 + 1) : Nat) : Int)))]) [2, 1, 0] rfl ?_
      exact k
