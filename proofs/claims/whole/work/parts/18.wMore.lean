theorem vi_Mod_isDay {g : sh_G} {d : Nat} {e : Int}  {mem : sh_Mem} {Q : Option sh_V → sh_Mem → Prop}  (k : (((i3 e) < 0 → Q (some (sh_i 0)) mem) ∧ (¬ (i3 e) < 0 → (((i3 (mem 98 0)) ≤ (i3 e) → Q (some (sh_i 0)) mem) ∧ (¬ (i3 (mem 98 0)) ≤ (i3 e) → Q (some (sh_i 1)) mem))))) : sh_Cal g d m_Mod_isDay [(sh_r 96), (sh_i e)] mem Q := by
  refine sh_met (by decide +kernel) (Nat.le_of_ble_eq_true rfl) (lo := [(0, (sh_r 96)), (1, (sh_i e))]) rfl ?_
  refine xr_iload_n (n := 1) (i := 1) rfl (List.mem_of_getElem? (i := 1) rfl) (by decide +kernel) ?_
  refine xr_if_lt (a' := (i3 e)) rfl (off := 17) (tgt := 18) (by decide) (by decide +kernel) ⟨fun c1 => ?_, fun c1 => ?_⟩
  · have k := k.1 c1
    refine xr_iconst (n := 0) (by decide +kernel) ?_
    exact xr_zret rfl (by decide +kernel) (by decide) k
  · have k := k.2 c1
    refine xr_iload_n (n := 1) (i := 1) rfl (List.mem_of_getElem? (i := 1) rfl) (by decide +kernel) ?_
    refine xr_aload_n (n := 0) (i := 0) rfl (List.mem_of_getElem? (i := 0) rfl) (by decide +kernel) ?_
    refine xr_getR (o := 2) rfl fl_Mod_13 rfl (by decide +kernel) ?_
    show sh_X g d m_Mod_isDay _ _ ((sh_r 98) :: _) _ _
    refine xr_iconst (n := 0) (by decide +kernel) ?_
    refine xr_ialdN (j := 0) rfl rfl (by decide) (by decide +kernel) ?_
    refine xr_icmp_ge (a' := (i3 e)) (b' := (i3 (mem 98 0))) rfl rfl (off := 7) (tgt := 18) (by decide) (by decide +kernel) ⟨fun c2 => ?_, fun c2 => ?_⟩
    · have k := k.1 c2
      refine xr_iconst (n := 0) (by decide +kernel) ?_
      exact xr_zret rfl (by decide +kernel) (by decide) k
    · have k := k.2 c2
      refine xr_iconst (n := 1) (by decide +kernel) ?_
      refine xr_goto (off := 4) (tgt := 19) (by decide) (by decide +kernel) ?_
      exact xr_zret rfl (by decide +kernel) (by decide) k

theorem vi_Mod_isThief {g : sh_G} {d : Nat} {t : Int}  {mem : sh_Mem} {Q : Option sh_V → sh_Mem → Prop}  (k : (((i3 t) < 0 → Q (some (sh_i 0)) mem) ∧ (¬ (i3 t) < 0 → (((i3 (mem 98 1)) ≤ (i3 t) → Q (some (sh_i 0)) mem) ∧ (¬ (i3 (mem 98 1)) ≤ (i3 t) → Q (some (sh_i 1)) mem))))) : sh_Cal g d m_Mod_isThief [(sh_r 96), (sh_i t)] mem Q := by
  refine sh_met (by decide +kernel) (Nat.le_of_ble_eq_true rfl) (lo := [(0, (sh_r 96)), (1, (sh_i t))]) rfl ?_
  refine xr_iload_n (n := 1) (i := 1) rfl (List.mem_of_getElem? (i := 1) rfl) (by decide +kernel) ?_
  refine xr_if_lt (a' := (i3 t)) rfl (off := 17) (tgt := 18) (by decide) (by decide +kernel) ⟨fun c1 => ?_, fun c1 => ?_⟩
  · have k := k.1 c1
    refine xr_iconst (n := 0) (by decide +kernel) ?_
    exact xr_zret rfl (by decide +kernel) (by decide) k
  · have k := k.2 c1
    refine xr_iload_n (n := 1) (i := 1) rfl (List.mem_of_getElem? (i := 1) rfl) (by decide +kernel) ?_
    refine xr_aload_n (n := 0) (i := 0) rfl (List.mem_of_getElem? (i := 0) rfl) (by decide +kernel) ?_
    refine xr_getR (o := 2) rfl fl_Mod_13 rfl (by decide +kernel) ?_
    show sh_X g d m_Mod_isThief _ _ ((sh_r 98) :: _) _ _
    refine xr_iconst (n := 1) (by decide +kernel) ?_
    refine xr_ialdN (j := 1) rfl rfl (by decide) (by decide +kernel) ?_
    refine xr_icmp_ge (a' := (i3 t)) (b' := (i3 (mem 98 1))) rfl rfl (off := 7) (tgt := 18) (by decide) (by decide +kernel) ⟨fun c2 => ?_, fun c2 => ?_⟩
    · have k := k.1 c2
      refine xr_iconst (n := 0) (by decide +kernel) ?_
      exact xr_zret rfl (by decide +kernel) (by decide) k
    · have k := k.2 c2
      refine xr_iconst (n := 1) (by decide +kernel) ?_
      refine xr_goto (off := 4) (tgt := 19) (by decide) (by decide +kernel) ?_
      exact xr_zret rfl (by decide +kernel) (by decide) k
