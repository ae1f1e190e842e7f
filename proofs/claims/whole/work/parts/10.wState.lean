theorem v_Int_bitCount {g : sh_G} {d : Nat} {p0 : Int}  {mem : sh_Mem} {Q : Option sh_V → sh_Mem → Prop}  (k : Q (some (sh_i (i_and (((i_and (((i_and (p0 - (i_and (i_ushr p0 1) 1431655765)) 858993459) + (i_and (i_ushr (p0 - (i_and (i_ushr p0 1) 1431655765)) 2) 858993459)) + (i_ushr ((i_and (p0 - (i_and (i_ushr p0 1) 1431655765)) 858993459) + (i_and (i_ushr (p0 - (i_and (i_ushr p0 1) 1431655765)) 2) 858993459)) 4)) 252645135) + (i_ushr (i_and (((i_and (p0 - (i_and (i_ushr p0 1) 1431655765)) 858993459) + (i_and (i_ushr (p0 - (i_and (i_ushr p0 1) 1431655765)) 2) 858993459)) + (i_ushr ((i_and (p0 - (i_and (i_ushr p0 1) 1431655765)) 858993459) + (i_and (i_ushr (p0 - (i_and (i_ushr p0 1) 1431655765)) 2) 858993459)) 4)) 252645135) 8)) + (i_ushr ((i_and (((i_and (p0 - (i_and (i_ushr p0 1) 1431655765)) 858993459) + (i_and (i_ushr (p0 - (i_and (i_ushr p0 1) 1431655765)) 2) 858993459)) + (i_ushr ((i_and (p0 - (i_and (i_ushr p0 1) 1431655765)) 858993459) + (i_and (i_ushr (p0 - (i_and (i_ushr p0 1) 1431655765)) 2) 858993459)) 4)) 252645135) + (i_ushr (i_and (((i_and (p0 - (i_and (i_ushr p0 1) 1431655765)) 858993459) + (i_and (i_ushr (p0 - (i_and (i_ushr p0 1) 1431655765)) 2) 858993459)) + (i_ushr ((i_and (p0 - (i_and (i_ushr p0 1) 1431655765)) 858993459) + (i_and (i_ushr (p0 - (i_and (i_ushr p0 1) 1431655765)) 2) 858993459)) 4)) 252645135) 8)) 16)) 63))) mem) : sh_Cal g d m_Int_bitCount [(sh_i p0)] mem Q := by
  refine sh_metF (by decide +kernel) (Nat.le_of_ble_eq_true rfl) (lo := [(0, (sh_i p0))]) rfl ?_
  refine xr_iload_n (n := 0) (i := 0) rfl (List.mem_of_getElem? (i := 0) rfl) (by decide +kernel) ?_
  refine xr_iload_n (n := 0) (i := 0) rfl (List.mem_of_getElem? (i := 0) rfl) (by decide +kernel) ?_
  refine xr_iconst (n := 1) (by decide +kernel) ?_
  refine xr_iushr (by decide +kernel) ?_
  refine xr_ldcwI (v := 1431655765) (by decide) ki_Int_265 (by decide +kernel) ?_
  refine xr_iand (by decide +kernel) ?_
  refine xr_isub (by decide +kernel) ?_
  show sh_X g d m_Int_bitCount _ _ ((sh_i (p0 - (i_and (i_ushr p0 1) 1431655765))) :: _) _ _
  refine xr_istore_n (n := 0) (i := 0) rfl (by decide) rfl (by decide +kernel) ?_
  refine xr_iload_n (n := 0) (i := 0) rfl (List.mem_of_getElem? (i := 0) rfl) (by decide +kernel) ?_
  refine xr_ldcwI (v := 858993459) (by decide) ki_Int_266 (by decide +kernel) ?_
  refine xr_iand (by decide +kernel) ?_
  refine xr_iload_n (n := 0) (i := 0) rfl (List.mem_of_getElem? (i := 0) rfl) (by decide +kernel) ?_
  refine xr_iconst (n := 2) (by decide +kernel) ?_
  refine xr_iushr (by decide +kernel) ?_
  refine xr_ldcwI (v := 858993459) (by decide) ki_Int_266 (by decide +kernel) ?_
  refine xr_iand (by decide +kernel) ?_
  refine xr_iadd (by decide +kernel) ?_
  show sh_X g d m_Int_bitCount _ _ ((sh_i ((i_and (p0 - (i_and (i_ushr p0 1) 1431655765)) 858993459) + (i_and (i_ushr (p0 - (i_and (i_ushr p0 1) 1431655765)) 2) 858993459))) :: _) _ _
  refine xr_istore_n (n := 0) (i := 0) rfl (by decide) rfl (by decide +kernel) ?_
  refine xr_iload_n (n := 0) (i := 0) rfl (List.mem_of_getElem? (i := 0) rfl) (by decide +kernel) ?_
  refine xr_iload_n (n := 0) (i := 0) rfl (List.mem_of_getElem? (i := 0) rfl) (by decide +kernel) ?_
  refine xr_iconst (n := 4) (by decide +kernel) ?_
  refine xr_iushr (by decide +kernel) ?_
  refine xr_iadd (by decide +kernel) ?_
  show sh_X g d m_Int_bitCount _ _ ((sh_i (((i_and (p0 - (i_and (i_ushr p0 1) 1431655765)) 858993459) + (i_and (i_ushr (p0 - (i_and (i_ushr p0 1) 1431655765)) 2) 858993459)) + (i_ushr ((i_and (p0 - (i_and (i_ushr p0 1) 1431655765)) 858993459) + (i_and (i_ushr (p0 - (i_and (i_ushr p0 1) 1431655765)) 2) 858993459)) 4))) :: _) _ _
  refine xr_ldcwI (v := 252645135) (by decide) ki_Int_267 (by decide +kernel) ?_
  refine xr_iand (by decide +kernel) ?_
  refine xr_istore_n (n := 0) (i := 0) rfl (by decide) rfl (by decide +kernel) ?_
  refine xr_iload_n (n := 0) (i := 0) rfl (List.mem_of_getElem? (i := 0) rfl) (by decide +kernel) ?_
  refine xr_iload_n (n := 0) (i := 0) rfl (List.mem_of_getElem? (i := 0) rfl) (by decide +kernel) ?_
  refine xr_bipush (n := 8) (v := 8) (by decide) (by decide +kernel) ?_
  refine xr_iushr (by decide +kernel) ?_
  refine xr_iadd (by decide +kernel) ?_
  show sh_X g d m_Int_bitCount _ _ ((sh_i ((i_and (((i_and (p0 - (i_and (i_ushr p0 1) 1431655765)) 858993459) + (i_and (i_ushr (p0 - (i_and (i_ushr p0 1) 1431655765)) 2) 858993459)) + (i_ushr ((i_and (p0 - (i_and (i_ushr p0 1) 1431655765)) 858993459) + (i_and (i_ushr (p0 - (i_and (i_ushr p0 1) 1431655765)) 2) 858993459)) 4)) 252645135) + (i_ushr (i_and (((i_and (p0 - (i_and (i_ushr p0 1) 1431655765)) 858993459) + (i_and (i_ushr (p0 - (i_and (i_ushr p0 1) 1431655765)) 2) 858993459)) + (i_ushr ((i_and (p0 - (i_and (i_ushr p0 1) 1431655765)) 858993459) + (i_and (i_ushr (p0 - (i_and (i_ushr p0 1) 1431655765)) 2) 858993459)) 4)) 252645135) 8))) :: _) _ _
  refine xr_istore_n (n := 0) (i := 0) rfl (by decide) rfl (by decide +kernel) ?_
  refine xr_iload_n (n := 0) (i := 0) rfl (List.mem_of_getElem? (i := 0) rfl) (by decide +kernel) ?_
  refine xr_iload_n (n := 0) (i := 0) rfl (List.mem_of_getElem? (i := 0) rfl) (by decide +kernel) ?_
  refine xr_bipush (n := 16) (v := 16) (by decide) (by decide +kernel) ?_
  refine xr_iushr (by decide +kernel) ?_
  refine xr_iadd (by decide +kernel) ?_
  show sh_X g d m_Int_bitCount _ _ ((sh_i (((i_and (((i_and (p0 - (i_and (i_ushr p0 1) 1431655765)) 858993459) + (i_and (i_ushr (p0 - (i_and (i_ushr p0 1) 1431655765)) 2) 858993459)) + (i_ushr ((i_and (p0 - (i_and (i_ushr p0 1) 1431655765)) 858993459) + (i_and (i_ushr (p0 - (i_and (i_ushr p0 1) 1431655765)) 2) 858993459)) 4)) 252645135) + (i_ushr (i_and (((i_and (p0 - (i_and (i_ushr p0 1) 1431655765)) 858993459) + (i_and (i_ushr (p0 - (i_and (i_ushr p0 1) 1431655765)) 2) 858993459)) + (i_ushr ((i_and (p0 - (i_and (i_ushr p0 1) 1431655765)) 858993459) + (i_and (i_ushr (p0 - (i_and (i_ushr p0 1) 1431655765)) 2) 858993459)) 4)) 252645135) 8)) + (i_ushr ((i_and (((i_and (p0 - (i_and (i_ushr p0 1) 1431655765)) 858993459) + (i_and (i_ushr (p0 - (i_and (i_ushr p0 1) 1431655765)) 2) 858993459)) + (i_ushr ((i_and (p0 - (i_and (i_ushr p0 1) 1431655765)) 858993459) + (i_and (i_ushr (p0 - (i_and (i_ushr p0 1) 1431655765)) 2) 858993459)) 4)) 252645135) + (i_ushr (i_and (((i_and (p0 - (i_and (i_ushr p0 1) 1431655765)) 858993459) + (i_and (i_ushr (p0 - (i_and (i_ushr p0 1) 1431655765)) 2) 858993459)) + (i_ushr ((i_and (p0 - (i_and (i_ushr p0 1) 1431655765)) 858993459) + (i_and (i_ushr (p0 - (i_and (i_ushr p0 1) 1431655765)) 2) 858993459)) 4)) 252645135) 8)) 16))) :: _) _ _
  refine xr_istore_n (n := 0) (i := 0) rfl (by decide) rfl (by decide +kernel) ?_
  refine xr_iload_n (n := 0) (i := 0) rfl (List.mem_of_getElem? (i := 0) rfl) (by decide +kernel) ?_
  refine xr_bipush (n := 63) (v := 63) (by decide) (by decide +kernel) ?_
  refine xr_iand (by decide +kernel) ?_
  exact xr_iret rfl (by decide +kernel) k

theorem v_State_copy {g : sh_G} {d : Nat} {S : Nat} {S2 : Nat}  {mem : sh_Mem} {Q : Option sh_V → sh_Mem → Prop} (hS : ob8 S) (hS2 : ob8 S2) (k : (∀ m1 : sh_Mem, m1 = ms mem (S + 1) (cpy (mem (S2 + 1)) (mem (S + 1)) ((0) : Int).toNat ((0) : Int).toNat ((45) : Int).toNat) → Q none m1)) : sh_Cal g (d + 1) m_State_copy [(sh_r S), (sh_r S2)] mem Q := by
  refine sh_met (by decide +kernel) (Nat.le_of_ble_eq_true rfl) (lo := [(0, (sh_r S)), (1, (sh_r S2))]) rfl ?_
  refine xr_aload_n (n := 1) (i := 1) rfl (List.mem_of_getElem? (i := 1) rfl) (by decide +kernel) ?_
  refine xr_getR (o := 1) (ob8_0 hS2) fl_State_11 rfl (by decide +kernel) ?_
  show sh_X g (d + 1) m_State_copy _ _ ((sh_r (S2 + 1)) :: _) _ _
  refine xr_iconst (n := 0) (by decide +kernel) ?_
  refine xr_aload_n (n := 0) (i := 0) rfl (List.mem_of_getElem? (i := 0) rfl) (by decide +kernel) ?_
  refine xr_getR (o := 1) (ob8_0 hS) fl_State_11 rfl (by decide +kernel) ?_
  show sh_X g (d + 1) m_State_copy _ _ ((sh_r (S + 1)) :: _) _ _
  refine xr_iconst (n := 0) (by decide +kernel) ?_
  refine xr_bipush (n := 45) (v := 45) (by decide) (by decide +kernel) ?_
  refine xr_copy ml_State_15 ac_nat ac_sta ac_ini (ob8_1 hS2) (ob8_1 hS) (by decide) (by decide) (by decide) (by decide) (by decide) (by decide +kernel) ?_
  have k := k _ rfl
  generalize hg_m1 : ms mem (S + 1) (cpy (mem (S2 + 1)) (mem (S + 1)) ((0) : Int).toNat ((0) : Int).toNat ((45) : Int).toNat) = m1 at k ⊢
  exact xr_ret rfl (by decide +kernel) k

theorem v_State_begin {g : sh_G} {d : Nat} {S : Nat} {B : Nat}  {mem : sh_Mem} {Q : Option sh_V → sh_Mem → Prop} (hS : ob8 S) (hB : ob0 B) (k : sh_X g d m_State_begin 2 [(0, (sh_r S)), (1, (sh_r B)), (2, (sh_i 0))] [] mem (sh_K m_State_begin Q)) : sh_Cal g d m_State_begin [(sh_r S), (sh_r B)] mem Q := by
  refine sh_met (by decide +kernel) (Nat.le_of_ble_eq_true rfl) (lo := [(0, (sh_r S)), (1, (sh_r B))]) rfl ?_
  refine xr_iconst (n := 0) (by decide +kernel) ?_
  refine xr_istore_n (n := 2) (i := 2) rfl (by decide) rfl (by decide +kernel) ?_
  refine xr_sub (lo' := [(0, (sh_r S)), (1, (sh_r B)), (2, (sh_i 0))]) [1, 2, 0] rfl ?_
  exact k
theorem v_State_begin_2 {g : sh_G} {d : Nat} {S : Nat} {B : Nat}  {mem : sh_Mem} {Q : Option sh_V → sh_Mem → Prop} (hS : ob8 S) (hB : ob0 B) {x2 : Nat} (k : ((45 ≤ (i3 (x2 : Int)) → sh_X g d m_State_begin 23 [(0, (sh_r S)), (1, (sh_r B)), (2, (sh_i 0))] [] mem (sh_K m_State_begin Q)) ∧ (¬ 45 ≤ (i3 (x2 : Int)) → (x2 < 45 ∧ (∀ m1 : sh_Mem, m1 = ms mem (S + 1) (ru (mem (S + 1)) x2 0) → sh_X g d m_State_begin 2 [(0, (sh_r S)), (1, (sh_r B)), (2, (sh_i (((x2 + 1) : Nat) : Int)))] [] m1 (sh_K m_State_begin Q)))))) : sh_X g d m_State_begin 2 [(0, (sh_r S)), (1, (sh_r B)), (2, (sh_i (x2 : Int)))] [] mem (sh_K m_State_begin Q) := by
  refine xr_iload_n (n := 2) (i := 2) rfl (List.mem_of_getElem? (i := 2) rfl) (by decide +kernel) ?_
  refine xr_bipush (n := 45) (v := 45) (by decide) (by decide +kernel) ?_
  refine xr_icmp_ge (a' := (i3 (x2 : Int))) (b' := 45) rfl (by decide) (off := 16) (tgt := 21) (by decide) (by decide +kernel) ⟨fun c1 => ?_, fun c1 => ?_⟩
  · have k := k.1 c1
    refine xr_iconst (n := 0) (by decide +kernel) ?_
    refine xr_istore_n (n := 2) (i := 2) rfl (by decide) rfl (by decide +kernel) ?_
    refine xr_sub (lo' := [(0, (sh_r S)), (1, (sh_r B)), (2, (sh_i 0))]) [1, 2, 0] rfl ?_
    exact k
  · have k := k.2 c1
    refine xr_aload_n (n := 0) (i := 0) rfl (List.mem_of_getElem? (i := 0) rfl) (by decide +kernel) ?_
    refine xr_getR (o := 1) (ob8_0 hS) fl_State_11 rfl (by decide +kernel) ?_
    show sh_X g d m_State_begin _ _ ((sh_r (S + 1)) :: _) _ _
    refine xr_iload_n (n := 2) (i := 2) rfl (List.mem_of_getElem? (i := 2) rfl) (by decide +kernel) ?_
    refine xr_iconst (n := 0) (by decide +kernel) ?_
    have o9 := True.intro
    obtain ⟨o, k⟩ := k
    refine xr_iastN (j := x2) rfl (ob8_1 hS) o (by decide +kernel) ?_
    have k := k _ rfl
    generalize hg_m1 : ms mem (S + 1) (ru (mem (S + 1)) x2 0) = m1 at k ⊢
    refine xr_iinc (n := 1) (lo' := [(2, (sh_i (((x2 + 1) : Nat) : Int))), (0, (sh_r S)), (1, (sh_r B))]) (List.mem_of_getElem? (i := 2) rfl) (by decide) rfl (by decide +kernel) ?_
    refine xr_goto (off := (-16)) (tgt := 2) (by decide) (by decide +kernel) ?_
    refine xr_sub (lo' := [(0, (sh_r S)), (1, (sh_r B)), (2, (sh_i (((x2 + 1) : Nat) : Int)))]) [1, 2, 0] rfl ?_
    exact k
theorem v_State_begin_23 {g : sh_G} {d : Nat} {S : Nat} {B : Nat}  {mem : sh_Mem} {Q : Option sh_V → sh_Mem → Prop} (hS : ob8 S) (hB : ob0 B) {x2 : Nat} (k : (((i3 (mem B 0)) ≤ (i3 (x2 : Int)) → Q none mem) ∧ (¬ (i3 (mem B 0)) ≤ (i3 (x2 : Int)) → (x2 < 8 ∧ (x2 < 45 ∧ (∀ m1 : sh_Mem, m1 = ms mem (S + 1) (ru (mem (S + 1)) x2 (mem (B + 3) x2)) → (x2 < 8 ∧ ((8 + x2) < 45 ∧ (∀ m2 : sh_Mem, m2 = ms m1 (S + 1) (ru (m1 (S + 1)) (8 + x2) (m1 (B + 4) x2)) → sh_X g d m_State_begin 23 [(0, (sh_r S)), (1, (sh_r B)), (2, (sh_i (((x2 + 1) : Nat) : Int)))] [] m2 (sh_K m_State_begin Q)))))))))) : sh_X g d m_State_begin 23 [(0, (sh_r S)), (1, (sh_r B)), (2, (sh_i (x2 : Int)))] [] mem (sh_K m_State_begin Q) := by
  refine xr_iload_n (n := 2) (i := 2) rfl (List.mem_of_getElem? (i := 2) rfl) (by decide +kernel) ?_
  refine xr_aload_n (n := 1) (i := 1) rfl (List.mem_of_getElem? (i := 1) rfl) (by decide +kernel) ?_
  refine xr_getI (ob0_0 hB) fl_State_21 (by decide) (by decide +kernel) ?_
  refine xr_icmp_ge (a' := (i3 (x2 : Int))) (b' := (i3 (mem B 0))) rfl rfl (off := 38) (tgt := 66) (by decide) (by decide +kernel) ⟨fun c1 => ?_, fun c1 => ?_⟩
  · have k := k.1 c1
    exact xr_ret rfl (by decide +kernel) k
  · have k := k.2 c1
    refine xr_aload_n (n := 0) (i := 0) rfl (List.mem_of_getElem? (i := 0) rfl) (by decide +kernel) ?_
    refine xr_getR (o := 1) (ob8_0 hS) fl_State_11 rfl (by decide +kernel) ?_
    show sh_X g d m_State_begin _ _ ((sh_r (S + 1)) :: _) _ _
    refine xr_iconst (n := 0) (by decide +kernel) ?_
    refine xr_iload_n (n := 2) (i := 2) rfl (List.mem_of_getElem? (i := 2) rfl) (by decide +kernel) ?_
    refine xr_iadd (by decide +kernel) ?_
    rw [Int.zero_add]
    show sh_X g d m_State_begin _ _ ((sh_i (x2 : Int)) :: _) _ _
    refine xr_aload_n (n := 1) (i := 1) rfl (List.mem_of_getElem? (i := 1) rfl) (by decide +kernel) ?_
    refine xr_getR (o := 3) (ob0_0 hB) fl_State_27 rfl (by decide +kernel) ?_
    show sh_X g d m_State_begin _ _ ((sh_r (B + 3)) :: _) _ _
    refine xr_iload_n (n := 2) (i := 2) rfl (List.mem_of_getElem? (i := 2) rfl) (by decide +kernel) ?_
    obtain ⟨o, k⟩ := k
    refine xr_ialdN (j := x2) rfl (ob0_3 hB) o (by decide +kernel) ?_
    have o9 := True.intro
    obtain ⟨o, k⟩ := k
    refine xr_iastN (j := x2) rfl (ob8_1 hS) o (by decide +kernel) ?_
    have k := k _ rfl
    generalize hg_m1 : ms mem (S + 1) (ru (mem (S + 1)) x2 (mem (B + 3) x2)) = m1 at k ⊢
    refine xr_aload_n (n := 0) (i := 0) rfl (List.mem_of_getElem? (i := 0) rfl) (by decide +kernel) ?_
    refine xr_getR (o := 1) (ob8_0 hS) fl_State_11 rfl (by decide +kernel) ?_
    show sh_X g d m_State_begin _ _ ((sh_r (S + 1)) :: _) _ _
    refine xr_bipush (n := 8) (v := 8) (by decide) (by decide +kernel) ?_
    refine xr_iload_n (n := 2) (i := 2) rfl (List.mem_of_getElem? (i := 2) rfl) (by decide +kernel) ?_
    refine xr_iadd (by decide +kernel) ?_
    show sh_X g d m_State_begin _ _ ((sh_i (((8 + x2) : Nat) : Int)) :: _) _ _
    refine xr_aload_n (n := 1) (i := 1) rfl (List.mem_of_getElem? (i := 1) rfl) (by decide +kernel) ?_
    refine xr_getR (o := 4) (ob0_0 hB) fl_State_30 rfl (by decide +kernel) ?_
    show sh_X g d m_State_begin _ _ ((sh_r (B + 4)) :: _) _ _
    refine xr_iload_n (n := 2) (i := 2) rfl (List.mem_of_getElem? (i := 2) rfl) (by decide +kernel) ?_
    obtain ⟨o, k⟩ := k
    refine xr_ialdN (j := x2) rfl (ob0_4 hB) o (by decide +kernel) ?_
    have o9 := True.intro
    obtain ⟨o, k⟩ := k
    refine xr_iastN (j := (8 + x2)) rfl (ob8_1 hS) o (by decide +kernel) ?_
    have k := k _ rfl
    generalize hg_m2 : ms m1 (S + 1) (ru (m1 (S + 1)) (8 + x2) (m1 (B + 4) x2)) = m2 at k ⊢
    refine xr_iinc (n := 1) (lo' := [(2, (sh_i (((x2 + 1) : Nat) : Int))), (0, (sh_r S)), (1, (sh_r B))]) (List.mem_of_getElem? (i := 2) rfl) (by decide) rfl (by decide +kernel) ?_
    refine xr_goto (off := (-40)) (tgt := 23) (by decide) (by decide +kernel) ?_
    refine xr_sub (lo' := [(0, (sh_r S)), (1, (sh_r B)), (2, (sh_i (((x2 + 1) : Nat) : Int)))]) [1, 2, 0] rfl ?_
    exact k

theorem v_State_hasPiece {g : sh_G} {d : Nat} {S : Nat} {thief : Nat}  {mem : sh_Mem} {Q : Option sh_V → sh_Mem → Prop} (hS : ob8 S) (k : ((16 + thief) < 45 ∧ (((i3 (mem (S + 1) (16 + thief))) ≤ 0 → Q (some (sh_i 0)) mem) ∧ (¬ (i3 (mem (S + 1) (16 + thief))) ≤ 0 → Q (some (sh_i 1)) mem)))) : sh_Cal g d m_State_hasPiece [(sh_r S), (sh_i (thief : Int))] mem Q := by
  refine sh_met (by decide +kernel) (Nat.le_of_ble_eq_true rfl) (lo := [(0, (sh_r S)), (1, (sh_i (thief : Int)))]) rfl ?_
  refine xr_aload_n (n := 0) (i := 0) rfl (List.mem_of_getElem? (i := 0) rfl) (by decide +kernel) ?_
  refine xr_getR (o := 1) (ob8_0 hS) fl_State_11 rfl (by decide +kernel) ?_
  show sh_X g d m_State_hasPiece _ _ ((sh_r (S + 1)) :: _) _ _
  refine xr_bipush (n := 16) (v := 16) (by decide) (by decide +kernel) ?_
  refine xr_iload_n (n := 1) (i := 1) rfl (List.mem_of_getElem? (i := 1) rfl) (by decide +kernel) ?_
  refine xr_iadd (by decide +kernel) ?_
  show sh_X g d m_State_hasPiece _ _ ((sh_i (((16 + thief) : Nat) : Int)) :: _) _ _
  obtain ⟨o, k⟩ := k
  refine xr_ialdN (j := (16 + thief)) rfl (ob8_1 hS) o (by decide +kernel) ?_
  refine xr_if_le (a' := (i3 (mem (S + 1) (16 + thief)))) rfl (off := 7) (tgt := 16) (by decide) (by decide +kernel) ⟨fun c1 => ?_, fun c1 => ?_⟩
  · have k := k.1 c1
    refine xr_iconst (n := 0) (by decide +kernel) ?_
    exact xr_zret rfl (by decide +kernel) (by decide) k
  · have k := k.2 c1
    refine xr_iconst (n := 1) (by decide +kernel) ?_
    refine xr_goto (off := 4) (tgt := 17) (by decide) (by decide +kernel) ?_
    exact xr_zret rfl (by decide +kernel) (by decide) k

theorem v_State_isReady {g : sh_G} {d : Nat} {S : Nat} {thief : Nat}  {mem : sh_Mem} {Q : Option sh_V → sh_Mem → Prop} (hS : ob8 S) (k : ((28 + thief) < 45 ∧ ((¬ (i3 (mem (S + 1) (28 + thief))) = 0 → Q (some (sh_i 0)) mem) ∧ ((i3 (mem (S + 1) (28 + thief))) = 0 → (sh_Cal g d m_State_hasPiece [(sh_r S), (sh_i (thief : Int))] mem fun rv m1 => ∃ r1 : Int, rv = some (sh_i r1) ∧ ((¬ (i3 r1) = 0 → Q (some (sh_i 0)) m1) ∧ ((i3 r1) = 0 → Q (some (sh_i 1)) m1))))))) : sh_Cal g (d + 1) m_State_isReady [(sh_r S), (sh_i (thief : Int))] mem Q := by
  refine sh_met (by decide +kernel) (Nat.le_of_ble_eq_true rfl) (lo := [(0, (sh_r S)), (1, (sh_i (thief : Int)))]) rfl ?_
  refine xr_aload_n (n := 0) (i := 0) rfl (List.mem_of_getElem? (i := 0) rfl) (by decide +kernel) ?_
  refine xr_getR (o := 1) (ob8_0 hS) fl_State_11 rfl (by decide +kernel) ?_
  show sh_X g (d + 1) m_State_isReady _ _ ((sh_r (S + 1)) :: _) _ _
  refine xr_bipush (n := 28) (v := 28) (by decide) (by decide +kernel) ?_
  refine xr_iload_n (n := 1) (i := 1) rfl (List.mem_of_getElem? (i := 1) rfl) (by decide +kernel) ?_
  refine xr_iadd (by decide +kernel) ?_
  show sh_X g (d + 1) m_State_isReady _ _ ((sh_i (((28 + thief) : Nat) : Int)) :: _) _ _
  obtain ⟨o, k⟩ := k
  refine xr_ialdN (j := (28 + thief)) rfl (ob8_1 hS) o (by decide +kernel) ?_
  refine xr_if_ne (a' := (i3 (mem (S + 1) (28 + thief)))) rfl (off := 15) (tgt := 24) (by decide) (by decide +kernel) ⟨fun c1 => ?_, fun c1 => ?_⟩
  · have k := k.1 c1
    refine xr_iconst (n := 0) (by decide +kernel) ?_
    exact xr_zret rfl (by decide +kernel) (by decide) k
  · have k := k.2 c1
    refine xr_aload_n (n := 0) (i := 0) rfl (List.mem_of_getElem? (i := 0) rfl) (by decide +kernel) ?_
    refine xr_iload_n (n := 1) (i := 1) rfl (List.mem_of_getElem? (i := 1) rfl) (by decide +kernel) ?_
    refine xr_callV (av := [(sh_i (thief : Int))]) (ob8_0 hS) rfl rfl mo_State_hasPiece ml_State_33 im_State_hasPiece se_State_hasPiece rfl (Nat.le_of_ble_eq_true rfl) (by decide +kernel) (sh_mono k ?_)
    rintro rv m1 ⟨r1, rfl, k⟩
    show sh_X g (d + 1) m_State_isReady _ _ [(sh_i r1)] _ _
    refine xr_if_ne (a' := (i3 r1)) rfl (off := 7) (tgt := 24) (by decide) (by decide +kernel) ⟨fun c2 => ?_, fun c2 => ?_⟩
    · have k := k.1 c2
      refine xr_iconst (n := 0) (by decide +kernel) ?_
      exact xr_zret rfl (by decide +kernel) (by decide) k
    · have k := k.2 c2
      refine xr_iconst (n := 1) (by decide +kernel) ?_
      refine xr_goto (off := 4) (tgt := 25) (by decide) (by decide +kernel) ?_
      exact xr_zret rfl (by decide +kernel) (by decide) k

theorem v_State_canTake {g : sh_G} {d : Nat} {S : Nat} {thief : Nat} {day : Nat}  {mem : sh_Mem} {Q : Option sh_V → sh_Mem → Prop} (hS : ob8 S) (k : (sh_Cal g d m_State_isReady [(sh_r S), (sh_i (thief : Int))] mem fun rv m1 => ∃ r1 : Int, rv = some (sh_i r1) ∧ (((i3 r1) = 0 → Q (some (sh_i 0)) m1) ∧ (¬ (i3 r1) = 0 → (day < 45 ∧ (((i3 (m1 (S + 1) day)) ≤ 0 → Q (some (sh_i 0)) m1) ∧ (¬ (i3 (m1 (S + 1) day)) ≤ 0 → Q (some (sh_i 1)) m1))))))) : sh_Cal g (d + 1) m_State_canTake [(sh_r S), (sh_i (thief : Int)), (sh_i (day : Int))] mem Q := by
  refine sh_met (by decide +kernel) (Nat.le_of_ble_eq_true rfl) (lo := [(0, (sh_r S)), (1, (sh_i (thief : Int))), (2, (sh_i (day : Int)))]) rfl ?_
  refine xr_aload_n (n := 0) (i := 0) rfl (List.mem_of_getElem? (i := 0) rfl) (by decide +kernel) ?_
  refine xr_iload_n (n := 1) (i := 1) rfl (List.mem_of_getElem? (i := 1) rfl) (by decide +kernel) ?_
  refine xr_callV (av := [(sh_i (thief : Int))]) (ob8_0 hS) rfl rfl mo_State_isReady ml_State_37 im_State_isReady se_State_isReady rfl (Nat.le_of_ble_eq_true rfl) (by decide +kernel) (sh_mono k ?_)
  rintro rv m1 ⟨r1, rfl, k⟩
  show sh_X g (d + 1) m_State_canTake _ _ [(sh_i r1)] _ _
  refine xr_if_eq (a' := (i3 r1)) rfl (off := 18) (tgt := 23) (by decide) (by decide +kernel) ⟨fun c1 => ?_, fun c1 => ?_⟩
  · have k := k.1 c1
    refine xr_iconst (n := 0) (by decide +kernel) ?_
    exact xr_zret rfl (by decide +kernel) (by decide) k
  · have k := k.2 c1
    refine xr_aload_n (n := 0) (i := 0) rfl (List.mem_of_getElem? (i := 0) rfl) (by decide +kernel) ?_
    refine xr_getR (o := 1) (ob8_0 hS) fl_State_11 rfl (by decide +kernel) ?_
    show sh_X g (d + 1) m_State_canTake _ _ ((sh_r (S + 1)) :: _) _ _
    refine xr_iconst (n := 0) (by decide +kernel) ?_
    refine xr_iload_n (n := 2) (i := 2) rfl (List.mem_of_getElem? (i := 2) rfl) (by decide +kernel) ?_
    refine xr_iadd (by decide +kernel) ?_
    rw [Int.zero_add]
    show sh_X g (d + 1) m_State_canTake _ _ ((sh_i (day : Int)) :: _) _ _
    obtain ⟨o, k⟩ := k
    refine xr_ialdN (j := day) rfl (ob8_1 hS) o (by decide +kernel) ?_
    refine xr_if_le (a' := (i3 (m1 (S + 1) day))) rfl (off := 7) (tgt := 23) (by decide) (by decide +kernel) ⟨fun c2 => ?_, fun c2 => ?_⟩
    · have k := k.1 c2
      refine xr_iconst (n := 0) (by decide +kernel) ?_
      exact xr_zret rfl (by decide +kernel) (by decide) k
    · have k := k.2 c2
      refine xr_iconst (n := 1) (by decide +kernel) ?_
      refine xr_goto (off := 4) (tgt := 24) (by decide) (by decide +kernel) ?_
      exact xr_zret rfl (by decide +kernel) (by decide) k

theorem v_State_canPart {g : sh_G} {d : Nat} {S : Nat} {thief : Nat}  {mem : sh_Mem} {Q : Option sh_V → sh_Mem → Prop} (hS : ob8 S) (k : ((28 + thief) < 45 ∧ ((¬ (i3 (mem (S + 1) (28 + thief))) = 0 → Q (some (sh_i 0)) mem) ∧ ((i3 (mem (S + 1) (28 + thief))) = 0 → (sh_Cal g d m_State_hasPiece [(sh_r S), (sh_i (thief : Int))] mem fun rv m1 => ∃ r1 : Int, rv = some (sh_i r1) ∧ (((i3 r1) = 0 → Q (some (sh_i 0)) m1) ∧ (¬ (i3 r1) = 0 → Q (some (sh_i 1)) m1))))))) : sh_Cal g (d + 1) m_State_canPart [(sh_r S), (sh_i (thief : Int))] mem Q := by
  refine sh_met (by decide +kernel) (Nat.le_of_ble_eq_true rfl) (lo := [(0, (sh_r S)), (1, (sh_i (thief : Int)))]) rfl ?_
  refine xr_aload_n (n := 0) (i := 0) rfl (List.mem_of_getElem? (i := 0) rfl) (by decide +kernel) ?_
  refine xr_getR (o := 1) (ob8_0 hS) fl_State_11 rfl (by decide +kernel) ?_
  show sh_X g (d + 1) m_State_canPart _ _ ((sh_r (S + 1)) :: _) _ _
  refine xr_bipush (n := 28) (v := 28) (by decide) (by decide +kernel) ?_
  refine xr_iload_n (n := 1) (i := 1) rfl (List.mem_of_getElem? (i := 1) rfl) (by decide +kernel) ?_
  refine xr_iadd (by decide +kernel) ?_
  show sh_X g (d + 1) m_State_canPart _ _ ((sh_i (((28 + thief) : Nat) : Int)) :: _) _ _
  obtain ⟨o, k⟩ := k
  refine xr_ialdN (j := (28 + thief)) rfl (ob8_1 hS) o (by decide +kernel) ?_
  refine xr_if_ne (a' := (i3 (mem (S + 1) (28 + thief)))) rfl (off := 15) (tgt := 24) (by decide) (by decide +kernel) ⟨fun c1 => ?_, fun c1 => ?_⟩
  · have k := k.1 c1
    refine xr_iconst (n := 0) (by decide +kernel) ?_
    exact xr_zret rfl (by decide +kernel) (by decide) k
  · have k := k.2 c1
    refine xr_aload_n (n := 0) (i := 0) rfl (List.mem_of_getElem? (i := 0) rfl) (by decide +kernel) ?_
    refine xr_iload_n (n := 1) (i := 1) rfl (List.mem_of_getElem? (i := 1) rfl) (by decide +kernel) ?_
    refine xr_callV (av := [(sh_i (thief : Int))]) (ob8_0 hS) rfl rfl mo_State_hasPiece ml_State_33 im_State_hasPiece se_State_hasPiece rfl (Nat.le_of_ble_eq_true rfl) (by decide +kernel) (sh_mono k ?_)
    rintro rv m1 ⟨r1, rfl, k⟩
    show sh_X g (d + 1) m_State_canPart _ _ [(sh_i r1)] _ _
    refine xr_if_eq (a' := (i3 r1)) rfl (off := 7) (tgt := 24) (by decide) (by decide +kernel) ⟨fun c2 => ?_, fun c2 => ?_⟩
    · have k := k.1 c2
      refine xr_iconst (n := 0) (by decide +kernel) ?_
      exact xr_zret rfl (by decide +kernel) (by decide) k
    · have k := k.2 c2
      refine xr_iconst (n := 1) (by decide +kernel) ?_
      refine xr_goto (off := 4) (tgt := 25) (by decide) (by decide +kernel) ?_
      exact xr_zret rfl (by decide +kernel) (by decide) k

theorem v_State_canTrade {g : sh_G} {d : Nat} {S : Nat} {thief : Nat} {other : Nat}  {mem : sh_Mem} {Q : Option sh_V → sh_Mem → Prop} (hS : ob8 S) (k : (((i3 (thief : Int)) = (i3 (other : Int)) → Q (some (sh_i 0)) mem) ∧ (¬ (i3 (thief : Int)) = (i3 (other : Int)) → (sh_Cal g d m_State_canPart [(sh_r S), (sh_i (thief : Int))] mem fun rv m1 => ∃ r1 : Int, rv = some (sh_i r1) ∧ (((i3 r1) = 0 → Q (some (sh_i 0)) m1) ∧ (¬ (i3 r1) = 0 → (sh_Cal g d m_State_canPart [(sh_r S), (sh_i (other : Int))] m1 fun rv m2 => ∃ r2 : Int, rv = some (sh_i r2) ∧ (((i3 r2) = 0 → Q (some (sh_i 0)) m2) ∧ (¬ (i3 r2) = 0 → Q (some (sh_i 1)) m2))))))))) : sh_Cal g (d + 1) m_State_canTrade [(sh_r S), (sh_i (thief : Int)), (sh_i (other : Int))] mem Q := by
  refine sh_met (by decide +kernel) (Nat.le_of_ble_eq_true rfl) (lo := [(0, (sh_r S)), (1, (sh_i (thief : Int))), (2, (sh_i (other : Int)))]) rfl ?_
  refine xr_iload_n (n := 1) (i := 1) rfl (List.mem_of_getElem? (i := 1) rfl) (by decide +kernel) ?_
  refine xr_iload_n (n := 2) (i := 2) rfl (List.mem_of_getElem? (i := 2) rfl) (by decide +kernel) ?_
  refine xr_icmp_eq (a' := (i3 (thief : Int))) (b' := (i3 (other : Int))) rfl rfl (off := 23) (tgt := 25) (by decide) (by decide +kernel) ⟨fun c1 => ?_, fun c1 => ?_⟩
  · have k := k.1 c1
    refine xr_iconst (n := 0) (by decide +kernel) ?_
    exact xr_zret rfl (by decide +kernel) (by decide) k
  · have k := k.2 c1
    refine xr_aload_n (n := 0) (i := 0) rfl (List.mem_of_getElem? (i := 0) rfl) (by decide +kernel) ?_
    refine xr_iload_n (n := 1) (i := 1) rfl (List.mem_of_getElem? (i := 1) rfl) (by decide +kernel) ?_
    refine xr_callV (av := [(sh_i (thief : Int))]) (ob8_0 hS) rfl rfl mo_State_canPart ml_State_40 im_State_canPart se_State_canPart rfl (Nat.le_of_ble_eq_true rfl) (by decide +kernel) (sh_mono k ?_)
    rintro rv m1 ⟨r1, rfl, k⟩
    show sh_X g (d + 1) m_State_canTrade _ _ [(sh_i r1)] _ _
    refine xr_if_eq (a' := (i3 r1)) rfl (off := 15) (tgt := 25) (by decide) (by decide +kernel) ⟨fun c2 => ?_, fun c2 => ?_⟩
    · have k := k.1 c2
      refine xr_iconst (n := 0) (by decide +kernel) ?_
      exact xr_zret rfl (by decide +kernel) (by decide) k
    · have k := k.2 c2
      refine xr_aload_n (n := 0) (i := 0) rfl (List.mem_of_getElem? (i := 0) rfl) (by decide +kernel) ?_
      refine xr_iload_n (n := 2) (i := 2) rfl (List.mem_of_getElem? (i := 2) rfl) (by decide +kernel) ?_
      refine xr_callV (av := [(sh_i (other : Int))]) (ob8_0 hS) rfl rfl mo_State_canPart ml_State_40 im_State_canPart se_State_canPart rfl (Nat.le_of_ble_eq_true rfl) (by decide +kernel) (sh_mono k ?_)
      rintro rv m2 ⟨r2, rfl, k⟩
      show sh_X g (d + 1) m_State_canTrade _ _ [(sh_i r2)] _ _
      refine xr_if_eq (a' := (i3 r2)) rfl (off := 7) (tgt := 25) (by decide) (by decide +kernel) ⟨fun c3 => ?_, fun c3 => ?_⟩
      · have k := k.1 c3
        refine xr_iconst (n := 0) (by decide +kernel) ?_
        exact xr_zret rfl (by decide +kernel) (by decide) k
      · have k := k.2 c3
        refine xr_iconst (n := 1) (by decide +kernel) ?_
        refine xr_goto (off := 4) (tgt := 26) (by decide) (by decide +kernel) ?_
        exact xr_zret rfl (by decide +kernel) (by decide) k

theorem v_State_bagged {g : sh_G} {d : Nat} {S : Nat} {B : Nat} {thief : Nat} {day : Nat}  {mem : sh_Mem} {Q : Option sh_V → sh_Mem → Prop} (hS : ob8 S) (hB : ob0 B) (k : (sh_Cal g d m_State_canTake [(sh_r S), (sh_i (thief : Int)), (sh_i (day : Int))] mem fun rv m1 => ∃ r1 : Int, rv = some (sh_i r1) ∧ (((i3 r1) = 0 → Q (some (sh_i 0)) m1) ∧ (¬ (i3 r1) = 0 → (thief < 4 ∧ ((8 + day) < 45 ∧ (((i3 (m1 (S + 1) (8 + day))) ≤ (i3 (m1 (B + 6) thief)) → (thief < 4 ∧ (day < 45 ∧ Q (some (sh_i (if (i3 (m1 (S + 1) day)) < (i3 (m1 (B + 7) thief)) then (m1 (S + 1) day) else (m1 (B + 7) thief)))) m1))) ∧ (¬ (i3 (m1 (S + 1) (8 + day))) ≤ (i3 (m1 (B + 6) thief)) → Q (some (sh_i 0)) m1)))))))) : sh_Cal g (d + 1) m_State_bagged [(sh_r S), (sh_r B), (sh_i (thief : Int)), (sh_i (day : Int))] mem Q := by
  refine sh_met (by decide +kernel) (Nat.le_of_ble_eq_true rfl) (lo := [(0, (sh_r S)), (1, (sh_r B)), (2, (sh_i (thief : Int))), (3, (sh_i (day : Int)))]) rfl ?_
  refine xr_aload_n (n := 0) (i := 0) rfl (List.mem_of_getElem? (i := 0) rfl) (by decide +kernel) ?_
  refine xr_iload_n (n := 2) (i := 2) rfl (List.mem_of_getElem? (i := 2) rfl) (by decide +kernel) ?_
  refine xr_iload_n (n := 3) (i := 3) rfl (List.mem_of_getElem? (i := 3) rfl) (by decide +kernel) ?_
  refine xr_callV (av := [(sh_i (thief : Int)), (sh_i (day : Int))]) (ob8_0 hS) rfl rfl mo_State_canTake ml_State_43 im_State_canTake se_State_canTake rfl (Nat.le_of_ble_eq_true rfl) (by decide +kernel) (sh_mono k ?_)
  rintro rv m1 ⟨r1, rfl, k⟩
  show sh_X g (d + 1) m_State_bagged _ _ [(sh_i r1)] _ _
  refine xr_if_eq (a' := (i3 r1)) rfl (off := 21) (tgt := 27) (by decide) (by decide +kernel) ⟨fun c1 => ?_, fun c1 => ?_⟩
  · have k := k.1 c1
    refine xr_iconst (n := 0) (by decide +kernel) ?_
    exact xr_iret rfl (by decide +kernel) k
  · have k := k.2 c1
    refine xr_aload_n (n := 1) (i := 1) rfl (List.mem_of_getElem? (i := 1) rfl) (by decide +kernel) ?_
    refine xr_getR (o := 6) (ob0_0 hB) fl_State_47 rfl (by decide +kernel) ?_
    show sh_X g (d + 1) m_State_bagged _ _ ((sh_r (B + 6)) :: _) _ _
    refine xr_iload_n (n := 2) (i := 2) rfl (List.mem_of_getElem? (i := 2) rfl) (by decide +kernel) ?_
    obtain ⟨o, k⟩ := k
    refine xr_ialdN (j := thief) rfl (ob0_6 hB) o (by decide +kernel) ?_
    refine xr_aload_n (n := 0) (i := 0) rfl (List.mem_of_getElem? (i := 0) rfl) (by decide +kernel) ?_
    refine xr_getR (o := 1) (ob8_0 hS) fl_State_11 rfl (by decide +kernel) ?_
    show sh_X g (d + 1) m_State_bagged _ _ ((sh_r (S + 1)) :: _) _ _
    refine xr_bipush (n := 8) (v := 8) (by decide) (by decide +kernel) ?_
    refine xr_iload_n (n := 3) (i := 3) rfl (List.mem_of_getElem? (i := 3) rfl) (by decide +kernel) ?_
    refine xr_iadd (by decide +kernel) ?_
    show sh_X g (d + 1) m_State_bagged _ _ ((sh_i (((8 + day) : Nat) : Int)) :: _) _ _
    obtain ⟨o, k⟩ := k
    refine xr_ialdN (j := (8 + day)) rfl (ob8_1 hS) o (by decide +kernel) ?_
    refine xr_icmp_ge (a' := (i3 (m1 (B + 6) thief))) (b' := (i3 (m1 (S + 1) (8 + day)))) rfl rfl (off := 5) (tgt := 29) (by decide) (by decide +kernel) ⟨fun c2 => ?_, fun c2 => ?_⟩
    · have k := k.1 c2
      refine xr_aload_n (n := 1) (i := 1) rfl (List.mem_of_getElem? (i := 1) rfl) (by decide +kernel) ?_
      refine xr_getR (o := 7) (ob0_0 hB) fl_State_50 rfl (by decide +kernel) ?_
      show sh_X g (d + 1) m_State_bagged _ _ ((sh_r (B + 7)) :: _) _ _
      refine xr_iload_n (n := 2) (i := 2) rfl (List.mem_of_getElem? (i := 2) rfl) (by decide +kernel) ?_
      obtain ⟨o, k⟩ := k
      refine xr_ialdN (j := thief) rfl (ob0_7 hB) o (by decide +kernel) ?_
      refine xr_aload_n (n := 0) (i := 0) rfl (List.mem_of_getElem? (i := 0) rfl) (by decide +kernel) ?_
      refine xr_getR (o := 1) (ob8_0 hS) fl_State_11 rfl (by decide +kernel) ?_
      show sh_X g (d + 1) m_State_bagged _ _ ((sh_r (S + 1)) :: _) _ _
      refine xr_iconst (n := 0) (by decide +kernel) ?_
      refine xr_iload_n (n := 3) (i := 3) rfl (List.mem_of_getElem? (i := 3) rfl) (by decide +kernel) ?_
      refine xr_iadd (by decide +kernel) ?_
      rw [Int.zero_add]
      show sh_X g (d + 1) m_State_bagged _ _ ((sh_i (day : Int)) :: _) _ _
      obtain ⟨o, k⟩ := k
      refine xr_ialdN (j := day) rfl (ob8_1 hS) o (by decide +kernel) ?_
      refine xr_mmin ml_State_53 (Nat.le_of_ble_eq_true rfl) (by decide +kernel) ?_
      exact xr_iret rfl (by decide +kernel) k
    · have k := k.2 c2
      refine xr_iconst (n := 0) (by decide +kernel) ?_
      exact xr_iret rfl (by decide +kernel) k

theorem v_State_take {g : sh_G} {d : Nat} {S : Nat} {B : Nat} {thief : Nat} {day : Nat}  {mem : sh_Mem} {Q : Option sh_V → sh_Mem → Prop} (hS : ob8 S) (hB : ob0 B) (k : (sh_Cal g d m_State_bagged [(sh_r S), (sh_r B), (sh_i (thief : Int)), (sh_i (day : Int))] mem fun rv m1 => ∃ r1 : Int, rv = some (sh_i r1) ∧ ((8 + day) < 45 ∧ (((i3 r1) ≤ 0 → (thief < 4 ∧ ((28 + thief) < 45 ∧ (∀ m2 : sh_Mem, m2 = ms m1 (S + 1) (ru (m1 (S + 1)) (28 + thief) ((m1 (S + 1) (8 + day)) - (m1 (B + 6) thief))) → ((8 + day) < 45 ∧ (∀ m3 : sh_Mem, m3 = ms m2 (S + 1) (ru (m2 (S + 1)) (8 + day) (if (i3 ((m1 (S + 1) (8 + day)) + 1)) < (i3 9) then ((m1 (S + 1) (8 + day)) + 1) else (9 : Int))) → Q (some (sh_i r1)) m3)))))) ∧ (¬ (i3 r1) ≤ 0 → ((16 + thief) < 45 ∧ (∀ m4 : sh_Mem, m4 = ms m1 (S + 1) (ru (m1 (S + 1)) (16 + thief) r1) → (day < 8 ∧ ((20 + thief) < 45 ∧ (∀ m5 : sh_Mem, m5 = ms m4 (S + 1) (ru (m4 (S + 1)) (20 + thief) (m4 (B + 2) day)) → ((24 + thief) < 45 ∧ (∀ m6 : sh_Mem, m6 = ms m5 (S + 1) (ru (m5 (S + 1)) (24 + thief) 0) → (day < 45 ∧ (day < 45 ∧ (∀ m7 : sh_Mem, m7 = ms m6 (S + 1) (ru (m6 (S + 1)) day ((m6 (S + 1) day) - r1)) → ((8 + day) < 45 ∧ (∀ m8 : sh_Mem, m8 = ms m7 (S + 1) (ru (m7 (S + 1)) (8 + day) (if (i3 ((m1 (S + 1) (8 + day)) + 2)) < (i3 9) then ((m1 (S + 1) (8 + day)) + 2) else (9 : Int))) → Q (some (sh_i r1)) m8))))))))))))))))) : sh_Cal g (d + 1) m_State_take [(sh_r S), (sh_r B), (sh_i (thief : Int)), (sh_i (day : Int))] mem Q := by
  refine sh_met (by decide +kernel) (Nat.le_of_ble_eq_true rfl) (lo := [(0, (sh_r S)), (1, (sh_r B)), (2, (sh_i (thief : Int))), (3, (sh_i (day : Int)))]) rfl ?_
  refine xr_aload_n (n := 0) (i := 0) rfl (List.mem_of_getElem? (i := 0) rfl) (by decide +kernel) ?_
  refine xr_aload_n (n := 1) (i := 1) rfl (List.mem_of_getElem? (i := 1) rfl) (by decide +kernel) ?_
  refine xr_iload_n (n := 2) (i := 2) rfl (List.mem_of_getElem? (i := 2) rfl) (by decide +kernel) ?_
  refine xr_iload_n (n := 3) (i := 3) rfl (List.mem_of_getElem? (i := 3) rfl) (by decide +kernel) ?_
  refine xr_callV (av := [(sh_r B), (sh_i (thief : Int)), (sh_i (day : Int))]) (ob8_0 hS) rfl rfl mo_State_bagged ml_State_59 im_State_bagged se_State_bagged rfl (Nat.le_of_ble_eq_true rfl) (by decide +kernel) (sh_mono k ?_)
  rintro rv m1 ⟨r1, rfl, k⟩
  show sh_X g (d + 1) m_State_take _ _ [(sh_i r1)] _ _
  refine xr_istore (i := 4) (by decide) rfl (by decide +kernel) ?_
  refine xr_aload_n (n := 0) (i := 0) rfl (List.mem_of_getElem? (i := 1) rfl) (by decide +kernel) ?_
  refine xr_getR (o := 1) (ob8_0 hS) fl_State_11 rfl (by decide +kernel) ?_
  show sh_X g (d + 1) m_State_take _ _ ((sh_r (S + 1)) :: _) _ _
  refine xr_bipush (n := 8) (v := 8) (by decide) (by decide +kernel) ?_
  refine xr_iload_n (n := 3) (i := 3) rfl (List.mem_of_getElem? (i := 4) rfl) (by decide +kernel) ?_
  refine xr_iadd (by decide +kernel) ?_
  show sh_X g (d + 1) m_State_take _ _ ((sh_i (((8 + day) : Nat) : Int)) :: _) _ _
  obtain ⟨o, k⟩ := k
  refine xr_ialdN (j := (8 + day)) rfl (ob8_1 hS) o (by decide +kernel) ?_
  refine xr_istore (i := 5) (by decide) rfl (by decide +kernel) ?_
  refine xr_iload (i := 4) (List.mem_of_getElem? (i := 1) rfl) (by decide +kernel) ?_
  refine xr_if_le (a' := (i3 r1)) rfl (off := 73) (tgt := 95) (by decide) (by decide +kernel) ⟨fun c1 => ?_, fun c1 => ?_⟩
  · have k := k.1 c1
    refine xr_aload_n (n := 0) (i := 0) rfl (List.mem_of_getElem? (i := 2) rfl) (by decide +kernel) ?_
    refine xr_getR (o := 1) (ob8_0 hS) fl_State_11 rfl (by decide +kernel) ?_
    show sh_X g (d + 1) m_State_take _ _ ((sh_r (S + 1)) :: _) _ _
    refine xr_bipush (n := 28) (v := 28) (by decide) (by decide +kernel) ?_
    refine xr_iload_n (n := 2) (i := 2) rfl (List.mem_of_getElem? (i := 4) rfl) (by decide +kernel) ?_
    refine xr_iadd (by decide +kernel) ?_
    show sh_X g (d + 1) m_State_take _ _ ((sh_i (((28 + thief) : Nat) : Int)) :: _) _ _
    refine xr_iload (i := 5) (List.mem_of_getElem? (i := 0) rfl) (by decide +kernel) ?_
    refine xr_aload_n (n := 1) (i := 1) rfl (List.mem_of_getElem? (i := 3) rfl) (by decide +kernel) ?_
    refine xr_getR (o := 6) (ob0_0 hB) fl_State_47 rfl (by decide +kernel) ?_
    show sh_X g (d + 1) m_State_take _ _ ((sh_r (B + 6)) :: _) _ _
    refine xr_iload_n (n := 2) (i := 2) rfl (List.mem_of_getElem? (i := 4) rfl) (by decide +kernel) ?_
    obtain ⟨o, k⟩ := k
    refine xr_ialdN (j := thief) rfl (ob0_6 hB) o (by decide +kernel) ?_
    refine xr_isub (by decide +kernel) ?_
    show sh_X g (d + 1) m_State_take _ _ ((sh_i ((m1 (S + 1) (8 + day)) - (m1 (B + 6) thief))) :: _) _ _
    have o9 := True.intro
    obtain ⟨o, k⟩ := k
    refine xr_iastN (j := (28 + thief)) rfl (ob8_1 hS) o (by decide +kernel) ?_
    have k := k _ rfl
    generalize hg_m2 : ms m1 (S + 1) (ru (m1 (S + 1)) (28 + thief) ((m1 (S + 1) (8 + day)) - (m1 (B + 6) thief))) = m2 at k ⊢
    refine xr_aload_n (n := 0) (i := 0) rfl (List.mem_of_getElem? (i := 2) rfl) (by decide +kernel) ?_
    refine xr_getR (o := 1) (ob8_0 hS) fl_State_11 rfl (by decide +kernel) ?_
    show sh_X g (d + 1) m_State_take _ _ ((sh_r (S + 1)) :: _) _ _
    refine xr_bipush (n := 8) (v := 8) (by decide) (by decide +kernel) ?_
    refine xr_iload_n (n := 3) (i := 3) rfl (List.mem_of_getElem? (i := 5) rfl) (by decide +kernel) ?_
    refine xr_iadd (by decide +kernel) ?_
    show sh_X g (d + 1) m_State_take _ _ ((sh_i (((8 + day) : Nat) : Int)) :: _) _ _
    refine xr_bipush (n := 9) (v := 9) (by decide) (by decide +kernel) ?_
    refine xr_iload (i := 5) (List.mem_of_getElem? (i := 0) rfl) (by decide +kernel) ?_
    refine xr_iconst (n := 1) (by decide +kernel) ?_
    refine xr_iadd (by decide +kernel) ?_
    show sh_X g (d + 1) m_State_take _ _ ((sh_i ((m1 (S + 1) (8 + day)) + 1)) :: _) _ _
    refine xr_mmin ml_State_53 (Nat.le_of_ble_eq_true rfl) (by decide +kernel) ?_
    have o9 := True.intro
    obtain ⟨o, k⟩ := k
    refine xr_iastN (j := (8 + day)) rfl (ob8_1 hS) o (by decide +kernel) ?_
    have k := k _ rfl
    generalize hg_m3 : ms m2 (S + 1) (ru (m2 (S + 1)) (8 + day) (if (i3 ((m1 (S + 1) (8 + day)) + 1)) < (i3 9) then ((m1 (S + 1) (8 + day)) + 1) else (9 : Int))) = m3 at k ⊢
    refine xr_iload (i := 4) (List.mem_of_getElem? (i := 1) rfl) (by decide +kernel) ?_
    exact xr_iret rfl (by decide +kernel) k
  · have k := k.2 c1
    refine xr_aload_n (n := 0) (i := 0) rfl (List.mem_of_getElem? (i := 2) rfl) (by decide +kernel) ?_
    refine xr_getR (o := 1) (ob8_0 hS) fl_State_11 rfl (by decide +kernel) ?_
    show sh_X g (d + 1) m_State_take _ _ ((sh_r (S + 1)) :: _) _ _
    refine xr_bipush (n := 16) (v := 16) (by decide) (by decide +kernel) ?_
    refine xr_iload_n (n := 2) (i := 2) rfl (List.mem_of_getElem? (i := 4) rfl) (by decide +kernel) ?_
    refine xr_iadd (by decide +kernel) ?_
    show sh_X g (d + 1) m_State_take _ _ ((sh_i (((16 + thief) : Nat) : Int)) :: _) _ _
    refine xr_iload (i := 4) (List.mem_of_getElem? (i := 1) rfl) (by decide +kernel) ?_
    have o9 := True.intro
    obtain ⟨o, k⟩ := k
    refine xr_iastN (j := (16 + thief)) rfl (ob8_1 hS) o (by decide +kernel) ?_
    have k := k _ rfl
    generalize hg_m4 : ms m1 (S + 1) (ru (m1 (S + 1)) (16 + thief) r1) = m4 at k ⊢
    refine xr_aload_n (n := 0) (i := 0) rfl (List.mem_of_getElem? (i := 2) rfl) (by decide +kernel) ?_
    refine xr_getR (o := 1) (ob8_0 hS) fl_State_11 rfl (by decide +kernel) ?_
    show sh_X g (d + 1) m_State_take _ _ ((sh_r (S + 1)) :: _) _ _
    refine xr_bipush (n := 20) (v := 20) (by decide) (by decide +kernel) ?_
    refine xr_iload_n (n := 2) (i := 2) rfl (List.mem_of_getElem? (i := 4) rfl) (by decide +kernel) ?_
    refine xr_iadd (by decide +kernel) ?_
    show sh_X g (d + 1) m_State_take _ _ ((sh_i (((20 + thief) : Nat) : Int)) :: _) _ _
    refine xr_aload_n (n := 1) (i := 1) rfl (List.mem_of_getElem? (i := 3) rfl) (by decide +kernel) ?_
    refine xr_getR (o := 2) (ob0_0 hB) fl_State_63 rfl (by decide +kernel) ?_
    show sh_X g (d + 1) m_State_take _ _ ((sh_r (B + 2)) :: _) _ _
    refine xr_iload_n (n := 3) (i := 3) rfl (List.mem_of_getElem? (i := 5) rfl) (by decide +kernel) ?_
    obtain ⟨o, k⟩ := k
    refine xr_ialdN (j := day) rfl (ob0_2 hB) o (by decide +kernel) ?_
    have o9 := True.intro
    obtain ⟨o, k⟩ := k
    refine xr_iastN (j := (20 + thief)) rfl (ob8_1 hS) o (by decide +kernel) ?_
    have k := k _ rfl
    generalize hg_m5 : ms m4 (S + 1) (ru (m4 (S + 1)) (20 + thief) (m4 (B + 2) day)) = m5 at k ⊢
    refine xr_aload_n (n := 0) (i := 0) rfl (List.mem_of_getElem? (i := 2) rfl) (by decide +kernel) ?_
    refine xr_getR (o := 1) (ob8_0 hS) fl_State_11 rfl (by decide +kernel) ?_
    show sh_X g (d + 1) m_State_take _ _ ((sh_r (S + 1)) :: _) _ _
    refine xr_bipush (n := 24) (v := 24) (by decide) (by decide +kernel) ?_
    refine xr_iload_n (n := 2) (i := 2) rfl (List.mem_of_getElem? (i := 4) rfl) (by decide +kernel) ?_
    refine xr_iadd (by decide +kernel) ?_
    show sh_X g (d + 1) m_State_take _ _ ((sh_i (((24 + thief) : Nat) : Int)) :: _) _ _
    refine xr_iconst (n := 0) (by decide +kernel) ?_
    have o9 := True.intro
    obtain ⟨o, k⟩ := k
    refine xr_iastN (j := (24 + thief)) rfl (ob8_1 hS) o (by decide +kernel) ?_
    have k := k _ rfl
    generalize hg_m6 : ms m5 (S + 1) (ru (m5 (S + 1)) (24 + thief) 0) = m6 at k ⊢
    refine xr_aload_n (n := 0) (i := 0) rfl (List.mem_of_getElem? (i := 2) rfl) (by decide +kernel) ?_
    refine xr_getR (o := 1) (ob8_0 hS) fl_State_11 rfl (by decide +kernel) ?_
    show sh_X g (d + 1) m_State_take _ _ ((sh_r (S + 1)) :: _) _ _
    refine xr_iconst (n := 0) (by decide +kernel) ?_
    refine xr_iload_n (n := 3) (i := 3) rfl (List.mem_of_getElem? (i := 5) rfl) (by decide +kernel) ?_
    refine xr_iadd (by decide +kernel) ?_
    rw [Int.zero_add]
    show sh_X g (d + 1) m_State_take _ _ ((sh_i (day : Int)) :: _) _ _
    refine xr_dup2 (by decide +kernel) ?_
    obtain ⟨o, k⟩ := k
    refine xr_ialdN (j := day) rfl (ob8_1 hS) o (by decide +kernel) ?_
    refine xr_iload (i := 4) (List.mem_of_getElem? (i := 1) rfl) (by decide +kernel) ?_
    refine xr_isub (by decide +kernel) ?_
    show sh_X g (d + 1) m_State_take _ _ ((sh_i ((m6 (S + 1) day) - r1)) :: _) _ _
    have o9 := True.intro
    obtain ⟨o, k⟩ := k
    refine xr_iastN (j := day) rfl (ob8_1 hS) o (by decide +kernel) ?_
    have k := k _ rfl
    generalize hg_m7 : ms m6 (S + 1) (ru (m6 (S + 1)) day ((m6 (S + 1) day) - r1)) = m7 at k ⊢
    refine xr_aload_n (n := 0) (i := 0) rfl (List.mem_of_getElem? (i := 2) rfl) (by decide +kernel) ?_
    refine xr_getR (o := 1) (ob8_0 hS) fl_State_11 rfl (by decide +kernel) ?_
    show sh_X g (d + 1) m_State_take _ _ ((sh_r (S + 1)) :: _) _ _
    refine xr_bipush (n := 8) (v := 8) (by decide) (by decide +kernel) ?_
    refine xr_iload_n (n := 3) (i := 3) rfl (List.mem_of_getElem? (i := 5) rfl) (by decide +kernel) ?_
    refine xr_iadd (by decide +kernel) ?_
    show sh_X g (d + 1) m_State_take _ _ ((sh_i (((8 + day) : Nat) : Int)) :: _) _ _
    refine xr_bipush (n := 9) (v := 9) (by decide) (by decide +kernel) ?_
    refine xr_iload (i := 5) (List.mem_of_getElem? (i := 0) rfl) (by decide +kernel) ?_
    refine xr_iconst (n := 2) (by decide +kernel) ?_
    refine xr_iadd (by decide +kernel) ?_
    show sh_X g (d + 1) m_State_take _ _ ((sh_i ((m1 (S + 1) (8 + day)) + 2)) :: _) _ _
    refine xr_mmin ml_State_53 (Nat.le_of_ble_eq_true rfl) (by decide +kernel) ?_
    have o9 := True.intro
    obtain ⟨o, k⟩ := k
    refine xr_iastN (j := (8 + day)) rfl (ob8_1 hS) o (by decide +kernel) ?_
    have k := k _ rfl
    generalize hg_m8 : ms m7 (S + 1) (ru (m7 (S + 1)) (8 + day) (if (i3 ((m1 (S + 1) (8 + day)) + 2)) < (i3 9) then ((m1 (S + 1) (8 + day)) + 2) else (9 : Int))) = m8 at k ⊢
    refine xr_goto (off := 39) (tgt := 131) (by decide) (by decide +kernel) ?_
    refine xr_iload (i := 4) (List.mem_of_getElem? (i := 1) rfl) (by decide +kernel) ?_
    exact xr_iret rfl (by decide +kernel) k

theorem v_State_cashIn {g : sh_G} {d : Nat} {S : Nat} {B : Nat} {thief : Nat}  {mem : sh_Mem} {Q : Option sh_V → sh_Mem → Prop} (hS : ob8 S) (hB : ob0 B) (k : (sh_Cal g d m_State_paidFor [(sh_r S), (sh_r B), (sh_i (thief : Int))] mem fun rv m1 => ∃ r1 : Int, rv = some (sh_i r1) ∧ ((36 + thief) < 45 ∧ ((36 + thief) < 45 ∧ (∀ m2 : sh_Mem, m2 = ms m1 (S + 1) (ru (m1 (S + 1)) (36 + thief) ((m1 (S + 1) (36 + thief)) + r1)) → ((16 + thief) < 45 ∧ (∀ m3 : sh_Mem, m3 = ms m2 (S + 1) (ru (m2 (S + 1)) (16 + thief) 0) → Q (some (sh_i r1)) m3))))))) : sh_Cal g (d + 1) m_State_cashIn [(sh_r S), (sh_r B), (sh_i (thief : Int))] mem Q := by
  refine sh_met (by decide +kernel) (Nat.le_of_ble_eq_true rfl) (lo := [(0, (sh_r S)), (1, (sh_r B)), (2, (sh_i (thief : Int)))]) rfl ?_
  refine xr_aload_n (n := 0) (i := 0) rfl (List.mem_of_getElem? (i := 0) rfl) (by decide +kernel) ?_
  refine xr_aload_n (n := 1) (i := 1) rfl (List.mem_of_getElem? (i := 1) rfl) (by decide +kernel) ?_
  refine xr_iload_n (n := 2) (i := 2) rfl (List.mem_of_getElem? (i := 2) rfl) (by decide +kernel) ?_
  refine xr_callV (av := [(sh_r B), (sh_i (thief : Int))]) (ob8_0 hS) rfl rfl mo_State_paidFor ml_State_66 im_State_paidFor se_State_paidFor rfl (Nat.le_of_ble_eq_true rfl) (by decide +kernel) (sh_mono k ?_)
  rintro rv m1 ⟨r1, rfl, k⟩
  show sh_X g (d + 1) m_State_cashIn _ _ [(sh_i r1)] _ _
  refine xr_istore_n (n := 3) (i := 3) rfl (by decide) rfl (by decide +kernel) ?_
  refine xr_aload_n (n := 0) (i := 0) rfl (List.mem_of_getElem? (i := 1) rfl) (by decide +kernel) ?_
  refine xr_getR (o := 1) (ob8_0 hS) fl_State_11 rfl (by decide +kernel) ?_
  show sh_X g (d + 1) m_State_cashIn _ _ ((sh_r (S + 1)) :: _) _ _
  refine xr_bipush (n := 36) (v := 36) (by decide) (by decide +kernel) ?_
  refine xr_iload_n (n := 2) (i := 2) rfl (List.mem_of_getElem? (i := 3) rfl) (by decide +kernel) ?_
  refine xr_iadd (by decide +kernel) ?_
  show sh_X g (d + 1) m_State_cashIn _ _ ((sh_i (((36 + thief) : Nat) : Int)) :: _) _ _
  refine xr_dup2 (by decide +kernel) ?_
  obtain ⟨o, k⟩ := k
  refine xr_ialdN (j := (36 + thief)) rfl (ob8_1 hS) o (by decide +kernel) ?_
  refine xr_iload_n (n := 3) (i := 3) rfl (List.mem_of_getElem? (i := 0) rfl) (by decide +kernel) ?_
  refine xr_iadd (by decide +kernel) ?_
  show sh_X g (d + 1) m_State_cashIn _ _ ((sh_i ((m1 (S + 1) (36 + thief)) + r1)) :: _) _ _
  have o9 := True.intro
  obtain ⟨o, k⟩ := k
  refine xr_iastN (j := (36 + thief)) rfl (ob8_1 hS) o (by decide +kernel) ?_
  have k := k _ rfl
  generalize hg_m2 : ms m1 (S + 1) (ru (m1 (S + 1)) (36 + thief) ((m1 (S + 1) (36 + thief)) + r1)) = m2 at k ⊢
  refine xr_aload_n (n := 0) (i := 0) rfl (List.mem_of_getElem? (i := 1) rfl) (by decide +kernel) ?_
  refine xr_getR (o := 1) (ob8_0 hS) fl_State_11 rfl (by decide +kernel) ?_
  show sh_X g (d + 1) m_State_cashIn _ _ ((sh_r (S + 1)) :: _) _ _
  refine xr_bipush (n := 16) (v := 16) (by decide) (by decide +kernel) ?_
  refine xr_iload_n (n := 2) (i := 2) rfl (List.mem_of_getElem? (i := 3) rfl) (by decide +kernel) ?_
  refine xr_iadd (by decide +kernel) ?_
  show sh_X g (d + 1) m_State_cashIn _ _ ((sh_i (((16 + thief) : Nat) : Int)) :: _) _ _
  refine xr_iconst (n := 0) (by decide +kernel) ?_
  have o9 := True.intro
  obtain ⟨o, k⟩ := k
  refine xr_iastN (j := (16 + thief)) rfl (ob8_1 hS) o (by decide +kernel) ?_
  have k := k _ rfl
  generalize hg_m3 : ms m2 (S + 1) (ru (m2 (S + 1)) (16 + thief) 0) = m3 at k ⊢
  refine xr_iload_n (n := 3) (i := 3) rfl (List.mem_of_getElem? (i := 0) rfl) (by decide +kernel) ?_
  exact xr_iret rfl (by decide +kernel) k

theorem v_State_enjoy {g : sh_G} {d : Nat} {S : Nat} {thief : Nat}  {mem : sh_Mem} {Q : Option sh_V → sh_Mem → Prop} (hS : ob8 S) (k : ((16 + thief) < 45 ∧ ((32 + thief) < 45 ∧ ((40 + thief) < 45 ∧ ((40 + thief) < 45 ∧ (∀ m1 : sh_Mem, m1 = ms mem (S + 1) (ru (mem (S + 1)) (40 + thief) ((mem (S + 1) (40 + thief)) + (if (i3 0) < (i3 ((mem (S + 1) (16 + thief)) - (mem (S + 1) (32 + thief)))) then ((mem (S + 1) (16 + thief)) - (mem (S + 1) (32 + thief))) else (0 : Int)))) → ((32 + thief) < 45 ∧ (∀ m2 : sh_Mem, m2 = ms m1 (S + 1) (ru (m1 (S + 1)) (32 + thief) 0) → ((16 + thief) < 45 ∧ (∀ m3 : sh_Mem, m3 = ms m2 (S + 1) (ru (m2 (S + 1)) (16 + thief) 0) → Q (some (sh_i (if (i3 0) < (i3 ((mem (S + 1) (16 + thief)) - (mem (S + 1) (32 + thief)))) then ((mem (S + 1) (16 + thief)) - (mem (S + 1) (32 + thief))) else (0 : Int)))) m3)))))))))) : sh_Cal g (d + 1) m_State_enjoy [(sh_r S), (sh_i (thief : Int))] mem Q := by
  refine sh_met (by decide +kernel) (Nat.le_of_ble_eq_true rfl) (lo := [(0, (sh_r S)), (1, (sh_i (thief : Int)))]) rfl ?_
  refine xr_iconst (n := 0) (by decide +kernel) ?_
  refine xr_aload_n (n := 0) (i := 0) rfl (List.mem_of_getElem? (i := 0) rfl) (by decide +kernel) ?_
  refine xr_getR (o := 1) (ob8_0 hS) fl_State_11 rfl (by decide +kernel) ?_
  show sh_X g (d + 1) m_State_enjoy _ _ ((sh_r (S + 1)) :: _) _ _
  refine xr_bipush (n := 16) (v := 16) (by decide) (by decide +kernel) ?_
  refine xr_iload_n (n := 1) (i := 1) rfl (List.mem_of_getElem? (i := 1) rfl) (by decide +kernel) ?_
  refine xr_iadd (by decide +kernel) ?_
  show sh_X g (d + 1) m_State_enjoy _ _ ((sh_i (((16 + thief) : Nat) : Int)) :: _) _ _
  obtain ⟨o, k⟩ := k
  refine xr_ialdN (j := (16 + thief)) rfl (ob8_1 hS) o (by decide +kernel) ?_
  refine xr_aload_n (n := 0) (i := 0) rfl (List.mem_of_getElem? (i := 0) rfl) (by decide +kernel) ?_
  refine xr_getR (o := 1) (ob8_0 hS) fl_State_11 rfl (by decide +kernel) ?_
  show sh_X g (d + 1) m_State_enjoy _ _ ((sh_r (S + 1)) :: _) _ _
  refine xr_bipush (n := 32) (v := 32) (by decide) (by decide +kernel) ?_
  refine xr_iload_n (n := 1) (i := 1) rfl (List.mem_of_getElem? (i := 1) rfl) (by decide +kernel) ?_
  refine xr_iadd (by decide +kernel) ?_
  show sh_X g (d + 1) m_State_enjoy _ _ ((sh_i (((32 + thief) : Nat) : Int)) :: _) _ _
  obtain ⟨o, k⟩ := k
  refine xr_ialdN (j := (32 + thief)) rfl (ob8_1 hS) o (by decide +kernel) ?_
  refine xr_isub (by decide +kernel) ?_
  show sh_X g (d + 1) m_State_enjoy _ _ ((sh_i ((mem (S + 1) (16 + thief)) - (mem (S + 1) (32 + thief)))) :: _) _ _
  refine xr_mmax ml_State_70 (Nat.le_of_ble_eq_true rfl) (by decide +kernel) ?_
  refine xr_istore_n (n := 2) (i := 2) rfl (by decide) rfl (by decide +kernel) ?_
  refine xr_aload_n (n := 0) (i := 0) rfl (List.mem_of_getElem? (i := 1) rfl) (by decide +kernel) ?_
  refine xr_getR (o := 1) (ob8_0 hS) fl_State_11 rfl (by decide +kernel) ?_
  show sh_X g (d + 1) m_State_enjoy _ _ ((sh_r (S + 1)) :: _) _ _
  refine xr_bipush (n := 40) (v := 40) (by decide) (by decide +kernel) ?_
  refine xr_iload_n (n := 1) (i := 1) rfl (List.mem_of_getElem? (i := 2) rfl) (by decide +kernel) ?_
  refine xr_iadd (by decide +kernel) ?_
  show sh_X g (d + 1) m_State_enjoy _ _ ((sh_i (((40 + thief) : Nat) : Int)) :: _) _ _
  refine xr_dup2 (by decide +kernel) ?_
  obtain ⟨o, k⟩ := k
  refine xr_ialdN (j := (40 + thief)) rfl (ob8_1 hS) o (by decide +kernel) ?_
  refine xr_iload_n (n := 2) (i := 2) rfl (List.mem_of_getElem? (i := 0) rfl) (by decide +kernel) ?_
  refine xr_iadd (by decide +kernel) ?_
  show sh_X g (d + 1) m_State_enjoy _ _ ((sh_i ((mem (S + 1) (40 + thief)) + (if (i3 0) < (i3 ((mem (S + 1) (16 + thief)) - (mem (S + 1) (32 + thief)))) then ((mem (S + 1) (16 + thief)) - (mem (S + 1) (32 + thief))) else (0 : Int)))) :: _) _ _
  have o9 := True.intro
  obtain ⟨o, k⟩ := k
  refine xr_iastN (j := (40 + thief)) rfl (ob8_1 hS) o (by decide +kernel) ?_
  have k := k _ rfl
  generalize hg_m1 : ms mem (S + 1) (ru (mem (S + 1)) (40 + thief) ((mem (S + 1) (40 + thief)) + (if (i3 0) < (i3 ((mem (S + 1) (16 + thief)) - (mem (S + 1) (32 + thief)))) then ((mem (S + 1) (16 + thief)) - (mem (S + 1) (32 + thief))) else (0 : Int)))) = m1 at k ⊢
  refine xr_aload_n (n := 0) (i := 0) rfl (List.mem_of_getElem? (i := 1) rfl) (by decide +kernel) ?_
  refine xr_getR (o := 1) (ob8_0 hS) fl_State_11 rfl (by decide +kernel) ?_
  show sh_X g (d + 1) m_State_enjoy _ _ ((sh_r (S + 1)) :: _) _ _
  refine xr_bipush (n := 32) (v := 32) (by decide) (by decide +kernel) ?_
  refine xr_iload_n (n := 1) (i := 1) rfl (List.mem_of_getElem? (i := 2) rfl) (by decide +kernel) ?_
  refine xr_iadd (by decide +kernel) ?_
  show sh_X g (d + 1) m_State_enjoy _ _ ((sh_i (((32 + thief) : Nat) : Int)) :: _) _ _
  refine xr_iconst (n := 0) (by decide +kernel) ?_
  have o9 := True.intro
  obtain ⟨o, k⟩ := k
  refine xr_iastN (j := (32 + thief)) rfl (ob8_1 hS) o (by decide +kernel) ?_
  have k := k _ rfl
  generalize hg_m2 : ms m1 (S + 1) (ru (m1 (S + 1)) (32 + thief) 0) = m2 at k ⊢
  refine xr_aload_n (n := 0) (i := 0) rfl (List.mem_of_getElem? (i := 1) rfl) (by decide +kernel) ?_
  refine xr_getR (o := 1) (ob8_0 hS) fl_State_11 rfl (by decide +kernel) ?_
  show sh_X g (d + 1) m_State_enjoy _ _ ((sh_r (S + 1)) :: _) _ _
  refine xr_bipush (n := 16) (v := 16) (by decide) (by decide +kernel) ?_
  refine xr_iload_n (n := 1) (i := 1) rfl (List.mem_of_getElem? (i := 2) rfl) (by decide +kernel) ?_
  refine xr_iadd (by decide +kernel) ?_
  show sh_X g (d + 1) m_State_enjoy _ _ ((sh_i (((16 + thief) : Nat) : Int)) :: _) _ _
  refine xr_iconst (n := 0) (by decide +kernel) ?_
  have o9 := True.intro
  obtain ⟨o, k⟩ := k
  refine xr_iastN (j := (16 + thief)) rfl (ob8_1 hS) o (by decide +kernel) ?_
  have k := k _ rfl
  generalize hg_m3 : ms m2 (S + 1) (ru (m2 (S + 1)) (16 + thief) 0) = m3 at k ⊢
  refine xr_iload_n (n := 2) (i := 2) rfl (List.mem_of_getElem? (i := 0) rfl) (by decide +kernel) ?_
  exact xr_iret rfl (by decide +kernel) k

theorem v_State_trade {g : sh_G} {d : Nat} {S : Nat} {thief : Nat} {other : Nat}  {mem : sh_Mem} {Q : Option sh_V → sh_Mem → Prop} (hS : ob8 S) (k : (sh_Cal g d m_State_exchange [(sh_r S), (sh_i (((16 + thief) : Nat) : Int)), (sh_i (((16 + other) : Nat) : Int))] mem fun rv m1 => rv = none ∧ (sh_Cal g d m_State_exchange [(sh_r S), (sh_i (((20 + thief) : Nat) : Int)), (sh_i (((20 + other) : Nat) : Int))] m1 fun rv m2 => rv = none ∧ (sh_Cal g d m_State_exchange [(sh_r S), (sh_i (((24 + thief) : Nat) : Int)), (sh_i (((24 + other) : Nat) : Int))] m2 fun rv m3 => rv = none ∧ Q none m3)))) : sh_Cal g (d + 1) m_State_trade [(sh_r S), (sh_i (thief : Int)), (sh_i (other : Int))] mem Q := by
  refine sh_met (by decide +kernel) (Nat.le_of_ble_eq_true rfl) (lo := [(0, (sh_r S)), (1, (sh_i (thief : Int))), (2, (sh_i (other : Int)))]) rfl ?_
  refine xr_aload_n (n := 0) (i := 0) rfl (List.mem_of_getElem? (i := 0) rfl) (by decide +kernel) ?_
  refine xr_bipush (n := 16) (v := 16) (by decide) (by decide +kernel) ?_
  refine xr_iload_n (n := 1) (i := 1) rfl (List.mem_of_getElem? (i := 1) rfl) (by decide +kernel) ?_
  refine xr_iadd (by decide +kernel) ?_
  show sh_X g (d + 1) m_State_trade _ _ ((sh_i (((16 + thief) : Nat) : Int)) :: _) _ _
  refine xr_bipush (n := 16) (v := 16) (by decide) (by decide +kernel) ?_
  refine xr_iload_n (n := 2) (i := 2) rfl (List.mem_of_getElem? (i := 2) rfl) (by decide +kernel) ?_
  refine xr_iadd (by decide +kernel) ?_
  show sh_X g (d + 1) m_State_trade _ _ ((sh_i (((16 + other) : Nat) : Int)) :: _) _ _
  refine xr_callV (av := [(sh_i (((16 + thief) : Nat) : Int)), (sh_i (((16 + other) : Nat) : Int))]) (ob8_0 hS) rfl rfl mo_State_exchange ml_State_73 im_State_exchange se_State_exchange rfl (Nat.le_of_ble_eq_true rfl) (by decide +kernel) (sh_mono k ?_)
  rintro rv m1 ⟨rfl, k⟩
  show sh_X g (d + 1) m_State_trade _ _ [] _ _
  refine xr_aload_n (n := 0) (i := 0) rfl (List.mem_of_getElem? (i := 0) rfl) (by decide +kernel) ?_
  refine xr_bipush (n := 20) (v := 20) (by decide) (by decide +kernel) ?_
  refine xr_iload_n (n := 1) (i := 1) rfl (List.mem_of_getElem? (i := 1) rfl) (by decide +kernel) ?_
  refine xr_iadd (by decide +kernel) ?_
  show sh_X g (d + 1) m_State_trade _ _ ((sh_i (((20 + thief) : Nat) : Int)) :: _) _ _
  refine xr_bipush (n := 20) (v := 20) (by decide) (by decide +kernel) ?_
  refine xr_iload_n (n := 2) (i := 2) rfl (List.mem_of_getElem? (i := 2) rfl) (by decide +kernel) ?_
  refine xr_iadd (by decide +kernel) ?_
  show sh_X g (d + 1) m_State_trade _ _ ((sh_i (((20 + other) : Nat) : Int)) :: _) _ _
  refine xr_callV (av := [(sh_i (((20 + thief) : Nat) : Int)), (sh_i (((20 + other) : Nat) : Int))]) (ob8_0 hS) rfl rfl mo_State_exchange ml_State_73 im_State_exchange se_State_exchange rfl (Nat.le_of_ble_eq_true rfl) (by decide +kernel) (sh_mono k ?_)
  rintro rv m2 ⟨rfl, k⟩
  show sh_X g (d + 1) m_State_trade _ _ [] _ _
  refine xr_aload_n (n := 0) (i := 0) rfl (List.mem_of_getElem? (i := 0) rfl) (by decide +kernel) ?_
  refine xr_bipush (n := 24) (v := 24) (by decide) (by decide +kernel) ?_
  refine xr_iload_n (n := 1) (i := 1) rfl (List.mem_of_getElem? (i := 1) rfl) (by decide +kernel) ?_
  refine xr_iadd (by decide +kernel) ?_
  show sh_X g (d + 1) m_State_trade _ _ ((sh_i (((24 + thief) : Nat) : Int)) :: _) _ _
  refine xr_bipush (n := 24) (v := 24) (by decide) (by decide +kernel) ?_
  refine xr_iload_n (n := 2) (i := 2) rfl (List.mem_of_getElem? (i := 2) rfl) (by decide +kernel) ?_
  refine xr_iadd (by decide +kernel) ?_
  show sh_X g (d + 1) m_State_trade _ _ ((sh_i (((24 + other) : Nat) : Int)) :: _) _ _
  refine xr_callV (av := [(sh_i (((24 + thief) : Nat) : Int)), (sh_i (((24 + other) : Nat) : Int))]) (ob8_0 hS) rfl rfl mo_State_exchange ml_State_73 im_State_exchange se_State_exchange rfl (Nat.le_of_ble_eq_true rfl) (by decide +kernel) (sh_mono k ?_)
  rintro rv m3 ⟨rfl, k⟩
  show sh_X g (d + 1) m_State_trade _ _ [] _ _
  exact xr_ret rfl (by decide +kernel) k

theorem v_State_exchange {g : sh_G} {d : Nat} {S : Nat} {a : Nat} {b : Nat}  {mem : sh_Mem} {Q : Option sh_V → sh_Mem → Prop} (hS : ob8 S) (k : (a < 45 ∧ (b < 45 ∧ (a < 45 ∧ (∀ m1 : sh_Mem, m1 = ms mem (S + 1) (ru (mem (S + 1)) a (mem (S + 1) b)) → (b < 45 ∧ (∀ m2 : sh_Mem, m2 = ms m1 (S + 1) (ru (m1 (S + 1)) b (mem (S + 1) a)) → Q none m2))))))) : sh_Cal g d m_State_exchange [(sh_r S), (sh_i (a : Int)), (sh_i (b : Int))] mem Q := by
  refine sh_met (by decide +kernel) (Nat.le_of_ble_eq_true rfl) (lo := [(0, (sh_r S)), (1, (sh_i (a : Int))), (2, (sh_i (b : Int)))]) rfl ?_
  refine xr_aload_n (n := 0) (i := 0) rfl (List.mem_of_getElem? (i := 0) rfl) (by decide +kernel) ?_
  refine xr_getR (o := 1) (ob8_0 hS) fl_State_11 rfl (by decide +kernel) ?_
  show sh_X g d m_State_exchange _ _ ((sh_r (S + 1)) :: _) _ _
  refine xr_iload_n (n := 1) (i := 1) rfl (List.mem_of_getElem? (i := 1) rfl) (by decide +kernel) ?_
  obtain ⟨o, k⟩ := k
  refine xr_ialdN (j := a) rfl (ob8_1 hS) o (by decide +kernel) ?_
  refine xr_istore_n (n := 3) (i := 3) rfl (by decide) rfl (by decide +kernel) ?_
  refine xr_aload_n (n := 0) (i := 0) rfl (List.mem_of_getElem? (i := 1) rfl) (by decide +kernel) ?_
  refine xr_getR (o := 1) (ob8_0 hS) fl_State_11 rfl (by decide +kernel) ?_
  show sh_X g d m_State_exchange _ _ ((sh_r (S + 1)) :: _) _ _
  refine xr_iload_n (n := 1) (i := 1) rfl (List.mem_of_getElem? (i := 2) rfl) (by decide +kernel) ?_
  refine xr_aload_n (n := 0) (i := 0) rfl (List.mem_of_getElem? (i := 1) rfl) (by decide +kernel) ?_
  refine xr_getR (o := 1) (ob8_0 hS) fl_State_11 rfl (by decide +kernel) ?_
  show sh_X g d m_State_exchange _ _ ((sh_r (S + 1)) :: _) _ _
  refine xr_iload_n (n := 2) (i := 2) rfl (List.mem_of_getElem? (i := 3) rfl) (by decide +kernel) ?_
  obtain ⟨o, k⟩ := k
  refine xr_ialdN (j := b) rfl (ob8_1 hS) o (by decide +kernel) ?_
  have o9 := True.intro
  obtain ⟨o, k⟩ := k
  refine xr_iastN (j := a) rfl (ob8_1 hS) o (by decide +kernel) ?_
  have k := k _ rfl
  generalize hg_m1 : ms mem (S + 1) (ru (mem (S + 1)) a (mem (S + 1) b)) = m1 at k ⊢
  refine xr_aload_n (n := 0) (i := 0) rfl (List.mem_of_getElem? (i := 1) rfl) (by decide +kernel) ?_
  refine xr_getR (o := 1) (ob8_0 hS) fl_State_11 rfl (by decide +kernel) ?_
  show sh_X g d m_State_exchange _ _ ((sh_r (S + 1)) :: _) _ _
  refine xr_iload_n (n := 2) (i := 2) rfl (List.mem_of_getElem? (i := 3) rfl) (by decide +kernel) ?_
  refine xr_iload_n (n := 3) (i := 3) rfl (List.mem_of_getElem? (i := 0) rfl) (by decide +kernel) ?_
  have o9 := True.intro
  obtain ⟨o, k⟩ := k
  refine xr_iastN (j := b) rfl (ob8_1 hS) o (by decide +kernel) ?_
  have k := k _ rfl
  generalize hg_m2 : ms m1 (S + 1) (ru (m1 (S + 1)) b (mem (S + 1) a)) = m2 at k ⊢
  exact xr_ret rfl (by decide +kernel) k

theorem v_State_sleep {g : sh_G} {d : Nat} {S : Nat} {B : Nat}  {mem : sh_Mem} {Q : Option sh_V → sh_Mem → Prop} (hS : ob8 S) (hB : ob0 B) (k : sh_X g (d + 1) m_State_sleep 2 [(0, (sh_r S)), (1, (sh_r B)), (2, (sh_i 0))] [] mem (sh_K m_State_sleep Q)) : sh_Cal g (d + 1) m_State_sleep [(sh_r S), (sh_r B)] mem Q := by
  refine sh_met (by decide +kernel) (Nat.le_of_ble_eq_true rfl) (lo := [(0, (sh_r S)), (1, (sh_r B))]) rfl ?_
  refine xr_iconst (n := 0) (by decide +kernel) ?_
  refine xr_istore_n (n := 2) (i := 2) rfl (by decide) rfl (by decide +kernel) ?_
  refine xr_sub (lo' := [(0, (sh_r S)), (1, (sh_r B)), (2, (sh_i 0))]) [1, 2, 0] rfl ?_
  exact k
theorem v_State_sleep_2 {g : sh_G} {d : Nat} {S : Nat} {B : Nat}  {mem : sh_Mem} {Q : Option sh_V → sh_Mem → Prop} (hS : ob8 S) (hB : ob0 B) {x2 : Nat} (k : (((i3 (mem B 1)) ≤ (i3 (x2 : Int)) → sh_X g (d + 1) m_State_sleep 93 [(0, (sh_r S)), (1, (sh_r B)), (2, (sh_i 0))] [] mem (sh_K m_State_sleep Q)) ∧ (¬ (i3 (mem B 1)) ≤ (i3 (x2 : Int)) → (sh_Cal g d m_State_hasPiece [(sh_r S), (sh_i (x2 : Int))] mem fun rv m1 => ∃ r1 : Int, rv = some (sh_i r1) ∧ (((i3 r1) = 0 → sh_X g (d + 1) m_State_sleep 61 [(0, (sh_r S)), (1, (sh_r B)), (2, (sh_i (x2 : Int)))] [] m1 (sh_K m_State_sleep Q)) ∧ (¬ (i3 r1) = 0 → (sh_Cal g d m_State_guiltBehind [(sh_r S), (sh_i (x2 : Int)), (sh_i 1)] m1 fun rv m2 => ∃ r2 : Int, rv = some (sh_i r2) ∧ ((32 + x2) < 45 ∧ (∀ m3 : sh_Mem, m3 = ms m2 (S + 1) (ru (m2 (S + 1)) (32 + x2) r2) → (sh_Cal g d m_State_muchBehind [(sh_r S), (sh_i (x2 : Int)), (sh_i 1)] m3 fun rv m4 => ∃ r3 : Int, rv = some (sh_i r3) ∧ ((16 + x2) < 45 ∧ (∀ m5 : sh_Mem, m5 = ms m4 (S + 1) (ru (m4 (S + 1)) (16 + x2) r3) → ((24 + x2) < 45 ∧ ((24 + x2) < 45 ∧ (∀ m6 : sh_Mem, m6 = ms m5 (S + 1) (ru (m5 (S + 1)) (24 + x2) ((m5 (S + 1) (24 + x2)) + 1)) → sh_X g (d + 1) m_State_sleep 61 [(0, (sh_r S)), (1, (sh_r B)), (2, (sh_i (x2 : Int)))] [] m6 (sh_K m_State_sleep Q)))))))))))))))) : sh_X g (d + 1) m_State_sleep 2 [(0, (sh_r S)), (1, (sh_r B)), (2, (sh_i (x2 : Int)))] [] mem (sh_K m_State_sleep Q) := by
  refine xr_iload_n (n := 2) (i := 2) rfl (List.mem_of_getElem? (i := 2) rfl) (by decide +kernel) ?_
  refine xr_aload_n (n := 1) (i := 1) rfl (List.mem_of_getElem? (i := 1) rfl) (by decide +kernel) ?_
  refine xr_getI (ob0_0 hB) fl_State_77 (by decide) (by decide +kernel) ?_
  refine xr_icmp_ge (a' := (i3 (x2 : Int))) (b' := (i3 (mem B 1))) rfl rfl (off := 84) (tgt := 91) (by decide) (by decide +kernel) ⟨fun c1 => ?_, fun c1 => ?_⟩
  · have k := k.1 c1
    refine xr_iconst (n := 0) (by decide +kernel) ?_
    refine xr_istore_n (n := 2) (i := 2) rfl (by decide) rfl (by decide +kernel) ?_
    refine xr_sub (lo' := [(0, (sh_r S)), (1, (sh_r B)), (2, (sh_i 0))]) [1, 2, 0] rfl ?_
    exact k
  · have k := k.2 c1
    refine xr_aload_n (n := 0) (i := 0) rfl (List.mem_of_getElem? (i := 0) rfl) (by decide +kernel) ?_
    refine xr_iload_n (n := 2) (i := 2) rfl (List.mem_of_getElem? (i := 2) rfl) (by decide +kernel) ?_
    refine xr_callV (av := [(sh_i (x2 : Int))]) (ob8_0 hS) rfl rfl mo_State_hasPiece ml_State_33 im_State_hasPiece se_State_hasPiece rfl (Nat.le_of_ble_eq_true rfl) (by decide +kernel) (sh_mono k ?_)
    rintro rv m1 ⟨r1, rfl, k⟩
    show sh_X g (d + 1) m_State_sleep _ _ [(sh_i r1)] _ _
    refine xr_if_eq (a' := (i3 r1)) rfl (off := 46) (tgt := 61) (by decide) (by decide +kernel) ⟨fun c2 => ?_, fun c2 => ?_⟩
    · have k := k.1 c2
      refine xr_sub (lo' := [(0, (sh_r S)), (1, (sh_r B)), (2, (sh_i (x2 : Int)))]) [0, 1, 2] rfl ?_
      exact k
    · have k := k.2 c2
      refine xr_aload_n (n := 0) (i := 0) rfl (List.mem_of_getElem? (i := 0) rfl) (by decide +kernel) ?_
      refine xr_getR (o := 1) (ob8_0 hS) fl_State_11 rfl (by decide +kernel) ?_
      show sh_X g (d + 1) m_State_sleep _ _ ((sh_r (S + 1)) :: _) _ _
      refine xr_bipush (n := 32) (v := 32) (by decide) (by decide +kernel) ?_
      refine xr_iload_n (n := 2) (i := 2) rfl (List.mem_of_getElem? (i := 2) rfl) (by decide +kernel) ?_
      refine xr_iadd (by decide +kernel) ?_
      show sh_X g (d + 1) m_State_sleep _ _ ((sh_i (((32 + x2) : Nat) : Int)) :: _) _ _
      refine xr_aload_n (n := 0) (i := 0) rfl (List.mem_of_getElem? (i := 0) rfl) (by decide +kernel) ?_
      refine xr_iload_n (n := 2) (i := 2) rfl (List.mem_of_getElem? (i := 2) rfl) (by decide +kernel) ?_
      refine xr_iconst (n := 1) (by decide +kernel) ?_
      refine xr_callV (av := [(sh_i (x2 : Int)), (sh_i 1)]) (ob8_0 hS) rfl rfl mo_State_guiltBehind ml_State_80 im_State_guiltBehind se_State_guiltBehind rfl (Nat.le_of_ble_eq_true rfl) (by decide +kernel) (sh_mono k ?_)
      rintro rv m2 ⟨r2, rfl, k⟩
      show sh_X g (d + 1) m_State_sleep _ _ [(sh_i r2), (sh_i (((32 + x2) : Nat) : Int)), (sh_r (S + 1))] _ _
      have o9 := True.intro
      obtain ⟨o, k⟩ := k
      refine xr_iastN (j := (32 + x2)) rfl (ob8_1 hS) o (by decide +kernel) ?_
      have k := k _ rfl
      generalize hg_m3 : ms m2 (S + 1) (ru (m2 (S + 1)) (32 + x2) r2) = m3 at k ⊢
      refine xr_aload_n (n := 0) (i := 0) rfl (List.mem_of_getElem? (i := 0) rfl) (by decide +kernel) ?_
      refine xr_getR (o := 1) (ob8_0 hS) fl_State_11 rfl (by decide +kernel) ?_
      show sh_X g (d + 1) m_State_sleep _ _ ((sh_r (S + 1)) :: _) _ _
      refine xr_bipush (n := 16) (v := 16) (by decide) (by decide +kernel) ?_
      refine xr_iload_n (n := 2) (i := 2) rfl (List.mem_of_getElem? (i := 2) rfl) (by decide +kernel) ?_
      refine xr_iadd (by decide +kernel) ?_
      show sh_X g (d + 1) m_State_sleep _ _ ((sh_i (((16 + x2) : Nat) : Int)) :: _) _ _
      refine xr_aload_n (n := 0) (i := 0) rfl (List.mem_of_getElem? (i := 0) rfl) (by decide +kernel) ?_
      refine xr_iload_n (n := 2) (i := 2) rfl (List.mem_of_getElem? (i := 2) rfl) (by decide +kernel) ?_
      refine xr_iconst (n := 1) (by decide +kernel) ?_
      refine xr_callV (av := [(sh_i (x2 : Int)), (sh_i 1)]) (ob8_0 hS) rfl rfl mo_State_muchBehind ml_State_83 im_State_muchBehind se_State_muchBehind rfl (Nat.le_of_ble_eq_true rfl) (by decide +kernel) (sh_mono k ?_)
      rintro rv m4 ⟨r3, rfl, k⟩
      show sh_X g (d + 1) m_State_sleep _ _ [(sh_i r3), (sh_i (((16 + x2) : Nat) : Int)), (sh_r (S + 1))] _ _
      have o9 := True.intro
      obtain ⟨o, k⟩ := k
      refine xr_iastN (j := (16 + x2)) rfl (ob8_1 hS) o (by decide +kernel) ?_
      have k := k _ rfl
      generalize hg_m5 : ms m4 (S + 1) (ru (m4 (S + 1)) (16 + x2) r3) = m5 at k ⊢
      refine xr_aload_n (n := 0) (i := 0) rfl (List.mem_of_getElem? (i := 0) rfl) (by decide +kernel) ?_
      refine xr_getR (o := 1) (ob8_0 hS) fl_State_11 rfl (by decide +kernel) ?_
      show sh_X g (d + 1) m_State_sleep _ _ ((sh_r (S + 1)) :: _) _ _
      refine xr_bipush (n := 24) (v := 24) (by decide) (by decide +kernel) ?_
      refine xr_iload_n (n := 2) (i := 2) rfl (List.mem_of_getElem? (i := 2) rfl) (by decide +kernel) ?_
      refine xr_iadd (by decide +kernel) ?_
      show sh_X g (d + 1) m_State_sleep _ _ ((sh_i (((24 + x2) : Nat) : Int)) :: _) _ _
      refine xr_dup2 (by decide +kernel) ?_
      obtain ⟨o, k⟩ := k
      refine xr_ialdN (j := (24 + x2)) rfl (ob8_1 hS) o (by decide +kernel) ?_
      refine xr_iconst (n := 1) (by decide +kernel) ?_
      refine xr_iadd (by decide +kernel) ?_
      show sh_X g (d + 1) m_State_sleep _ _ ((sh_i ((m5 (S + 1) (24 + x2)) + 1)) :: _) _ _
      have o9 := True.intro
      obtain ⟨o, k⟩ := k
      refine xr_iastN (j := (24 + x2)) rfl (ob8_1 hS) o (by decide +kernel) ?_
      have k := k _ rfl
      generalize hg_m6 : ms m5 (S + 1) (ru (m5 (S + 1)) (24 + x2) ((m5 (S + 1) (24 + x2)) + 1)) = m6 at k ⊢
      refine xr_sub (lo' := [(0, (sh_r S)), (1, (sh_r B)), (2, (sh_i (x2 : Int)))]) [0, 1, 2] rfl ?_
      exact k
theorem v_State_sleep_93 {g : sh_G} {d : Nat} {S : Nat} {B : Nat}  {mem : sh_Mem} {Q : Option sh_V → sh_Mem → Prop} (hS : ob8 S) (hB : ob0 B) {x2 : Nat} (k : (((i3 (mem B 0)) ≤ (i3 (x2 : Int)) → (∀ m1 : sh_Mem, m1 = ms mem (S + 1) (ru (mem (S + 1)) 44 ((mem (S + 1) 44) + 1)) → Q none m1)) ∧ (¬ (i3 (mem B 0)) ≤ (i3 (x2 : Int)) → (sh_Cal g d m_State_leftBehind [(sh_r S), (sh_r B), (sh_i (x2 : Int)), (sh_i 1)] mem fun rv m2 => ∃ r1 : Int, rv = some (sh_i r1) ∧ (x2 < 45 ∧ (∀ m3 : sh_Mem, m3 = ms m2 (S + 1) (ru (m2 (S + 1)) x2 r1) → (sh_Cal g d m_State_guardBehind [(sh_r S), (sh_r B), (sh_i (x2 : Int)), (sh_i 1)] m3 fun rv m4 => ∃ r2 : Int, rv = some (sh_i r2) ∧ ((8 + x2) < 45 ∧ (∀ m5 : sh_Mem, m5 = ms m4 (S + 1) (ru (m4 (S + 1)) (8 + x2) r2) → sh_X g (d + 1) m_State_sleep 93 [(0, (sh_r S)), (1, (sh_r B)), (2, (sh_i (((x2 + 1) : Nat) : Int)))] [] m5 (sh_K m_State_sleep Q)))))))))) : sh_X g (d + 1) m_State_sleep 93 [(0, (sh_r S)), (1, (sh_r B)), (2, (sh_i (x2 : Int)))] [] mem (sh_K m_State_sleep Q) := by
  refine xr_iload_n (n := 2) (i := 2) rfl (List.mem_of_getElem? (i := 2) rfl) (by decide +kernel) ?_
  refine xr_aload_n (n := 1) (i := 1) rfl (List.mem_of_getElem? (i := 1) rfl) (by decide +kernel) ?_
  refine xr_getI (ob0_0 hB) fl_State_21 (by decide) (by decide +kernel) ?_
  refine xr_icmp_ge (a' := (i3 (x2 : Int))) (b' := (i3 (mem B 0))) rfl rfl (off := 40) (tgt := 138) (by decide) (by decide +kernel) ⟨fun c1 => ?_, fun c1 => ?_⟩
  · have k := k.1 c1
    refine xr_aload_n (n := 0) (i := 0) rfl (List.mem_of_getElem? (i := 0) rfl) (by decide +kernel) ?_
    refine xr_getR (o := 1) (ob8_0 hS) fl_State_11 rfl (by decide +kernel) ?_
    show sh_X g (d + 1) m_State_sleep _ _ ((sh_r (S + 1)) :: _) _ _
    refine xr_bipush (n := 44) (v := 44) (by decide) (by decide +kernel) ?_
    refine xr_dup2 (by decide +kernel) ?_
    refine xr_ialdN (j := 44) rfl (ob8_1 hS) (by decide) (by decide +kernel) ?_
    refine xr_iconst (n := 1) (by decide +kernel) ?_
    refine xr_iadd (by decide +kernel) ?_
    show sh_X g (d + 1) m_State_sleep _ _ ((sh_i ((mem (S + 1) 44) + 1)) :: _) _ _
    have o9 := True.intro
    refine xr_iastN (j := 44) rfl (ob8_1 hS) (by decide) (by decide +kernel) ?_
    have k := k _ rfl
    generalize hg_m1 : ms mem (S + 1) (ru (mem (S + 1)) 44 ((mem (S + 1) 44) + 1)) = m1 at k ⊢
    exact xr_ret rfl (by decide +kernel) k
  · have k := k.2 c1
    refine xr_aload_n (n := 0) (i := 0) rfl (List.mem_of_getElem? (i := 0) rfl) (by decide +kernel) ?_
    refine xr_getR (o := 1) (ob8_0 hS) fl_State_11 rfl (by decide +kernel) ?_
    show sh_X g (d + 1) m_State_sleep _ _ ((sh_r (S + 1)) :: _) _ _
    refine xr_iconst (n := 0) (by decide +kernel) ?_
    refine xr_iload_n (n := 2) (i := 2) rfl (List.mem_of_getElem? (i := 2) rfl) (by decide +kernel) ?_
    refine xr_iadd (by decide +kernel) ?_
    rw [Int.zero_add]
    show sh_X g (d + 1) m_State_sleep _ _ ((sh_i (x2 : Int)) :: _) _ _
    refine xr_aload_n (n := 0) (i := 0) rfl (List.mem_of_getElem? (i := 0) rfl) (by decide +kernel) ?_
    refine xr_aload_n (n := 1) (i := 1) rfl (List.mem_of_getElem? (i := 1) rfl) (by decide +kernel) ?_
    refine xr_iload_n (n := 2) (i := 2) rfl (List.mem_of_getElem? (i := 2) rfl) (by decide +kernel) ?_
    refine xr_iconst (n := 1) (by decide +kernel) ?_
    refine xr_callV (av := [(sh_r B), (sh_i (x2 : Int)), (sh_i 1)]) (ob8_0 hS) rfl rfl mo_State_leftBehind ml_State_86 im_State_leftBehind se_State_leftBehind rfl (Nat.le_of_ble_eq_true rfl) (by decide +kernel) (sh_mono k ?_)
    rintro rv m2 ⟨r1, rfl, k⟩
    show sh_X g (d + 1) m_State_sleep _ _ [(sh_i r1), (sh_i (x2 : Int)), (sh_r (S + 1))] _ _
    have o9 := True.intro
    obtain ⟨o, k⟩ := k
    refine xr_iastN (j := x2) rfl (ob8_1 hS) o (by decide +kernel) ?_
    have k := k _ rfl
    generalize hg_m3 : ms m2 (S + 1) (ru (m2 (S + 1)) x2 r1) = m3 at k ⊢
    refine xr_aload_n (n := 0) (i := 0) rfl (List.mem_of_getElem? (i := 0) rfl) (by decide +kernel) ?_
    refine xr_getR (o := 1) (ob8_0 hS) fl_State_11 rfl (by decide +kernel) ?_
    show sh_X g (d + 1) m_State_sleep _ _ ((sh_r (S + 1)) :: _) _ _
    refine xr_bipush (n := 8) (v := 8) (by decide) (by decide +kernel) ?_
    refine xr_iload_n (n := 2) (i := 2) rfl (List.mem_of_getElem? (i := 2) rfl) (by decide +kernel) ?_
    refine xr_iadd (by decide +kernel) ?_
    show sh_X g (d + 1) m_State_sleep _ _ ((sh_i (((8 + x2) : Nat) : Int)) :: _) _ _
    refine xr_aload_n (n := 0) (i := 0) rfl (List.mem_of_getElem? (i := 0) rfl) (by decide +kernel) ?_
    refine xr_aload_n (n := 1) (i := 1) rfl (List.mem_of_getElem? (i := 1) rfl) (by decide +kernel) ?_
    refine xr_iload_n (n := 2) (i := 2) rfl (List.mem_of_getElem? (i := 2) rfl) (by decide +kernel) ?_
    refine xr_iconst (n := 1) (by decide +kernel) ?_
    refine xr_callV (av := [(sh_r B), (sh_i (x2 : Int)), (sh_i 1)]) (ob8_0 hS) rfl rfl mo_State_guardBehind ml_State_89 im_State_guardBehind se_State_guardBehind rfl (Nat.le_of_ble_eq_true rfl) (by decide +kernel) (sh_mono k ?_)
    rintro rv m4 ⟨r2, rfl, k⟩
    show sh_X g (d + 1) m_State_sleep _ _ [(sh_i r2), (sh_i (((8 + x2) : Nat) : Int)), (sh_r (S + 1))] _ _
    have o9 := True.intro
    obtain ⟨o, k⟩ := k
    refine xr_iastN (j := (8 + x2)) rfl (ob8_1 hS) o (by decide +kernel) ?_
    have k := k _ rfl
    generalize hg_m5 : ms m4 (S + 1) (ru (m4 (S + 1)) (8 + x2) r2) = m5 at k ⊢
    refine xr_iinc (n := 1) (lo' := [(2, (sh_i (((x2 + 1) : Nat) : Int))), (0, (sh_r S)), (1, (sh_r B))]) (List.mem_of_getElem? (i := 2) rfl) (by decide) rfl (by decide +kernel) ?_
    refine xr_goto (off := (-42)) (tgt := 93) (by decide) (by decide +kernel) ?_
    refine xr_sub (lo' := [(0, (sh_r S)), (1, (sh_r B)), (2, (sh_i (((x2 + 1) : Nat) : Int)))]) [1, 2, 0] rfl ?_
    exact k
theorem v_State_sleep_61 {g : sh_G} {d : Nat} {S : Nat} {B : Nat}  {mem : sh_Mem} {Q : Option sh_V → sh_Mem → Prop} (hS : ob8 S) (hB : ob0 B) {x2 : Nat} (k : ((28 + x2) < 45 ∧ ((28 + x2) < 45 ∧ (∀ m1 : sh_Mem, m1 = ms mem (S + 1) (ru (mem (S + 1)) (28 + x2) (if (i3 0) < (i3 ((mem (S + 1) (28 + x2)) - 1)) then ((mem (S + 1) (28 + x2)) - 1) else (0 : Int))) → sh_X g (d + 1) m_State_sleep 2 [(0, (sh_r S)), (1, (sh_r B)), (2, (sh_i (((x2 + 1) : Nat) : Int)))] [] m1 (sh_K m_State_sleep Q))))) : sh_X g (d + 1) m_State_sleep 61 [(0, (sh_r S)), (1, (sh_r B)), (2, (sh_i (x2 : Int)))] [] mem (sh_K m_State_sleep Q) := by
  refine xr_aload_n (n := 0) (i := 0) rfl (List.mem_of_getElem? (i := 0) rfl) (by decide +kernel) ?_
  refine xr_getR (o := 1) (ob8_0 hS) fl_State_11 rfl (by decide +kernel) ?_
  show sh_X g (d + 1) m_State_sleep _ _ ((sh_r (S + 1)) :: _) _ _
  refine xr_bipush (n := 28) (v := 28) (by decide) (by decide +kernel) ?_
  refine xr_iload_n (n := 2) (i := 2) rfl (List.mem_of_getElem? (i := 2) rfl) (by decide +kernel) ?_
  refine xr_iadd (by decide +kernel) ?_
  show sh_X g (d + 1) m_State_sleep _ _ ((sh_i (((28 + x2) : Nat) : Int)) :: _) _ _
  refine xr_iconst (n := 0) (by decide +kernel) ?_
  refine xr_aload_n (n := 0) (i := 0) rfl (List.mem_of_getElem? (i := 0) rfl) (by decide +kernel) ?_
  refine xr_getR (o := 1) (ob8_0 hS) fl_State_11 rfl (by decide +kernel) ?_
  show sh_X g (d + 1) m_State_sleep _ _ ((sh_r (S + 1)) :: _) _ _
  refine xr_bipush (n := 28) (v := 28) (by decide) (by decide +kernel) ?_
  refine xr_iload_n (n := 2) (i := 2) rfl (List.mem_of_getElem? (i := 2) rfl) (by decide +kernel) ?_
  refine xr_iadd (by decide +kernel) ?_
  show sh_X g (d + 1) m_State_sleep _ _ ((sh_i (((28 + x2) : Nat) : Int)) :: _) _ _
  obtain ⟨o, k⟩ := k
  refine xr_ialdN (j := (28 + x2)) rfl (ob8_1 hS) o (by decide +kernel) ?_
  refine xr_iconst (n := 1) (by decide +kernel) ?_
  refine xr_isub (by decide +kernel) ?_
  show sh_X g (d + 1) m_State_sleep _ _ ((sh_i ((mem (S + 1) (28 + x2)) - 1)) :: _) _ _
  refine xr_mmax ml_State_70 (Nat.le_of_ble_eq_true rfl) (by decide +kernel) ?_
  have o9 := True.intro
  obtain ⟨o, k⟩ := k
  refine xr_iastN (j := (28 + x2)) rfl (ob8_1 hS) o (by decide +kernel) ?_
  have k := k _ rfl
  generalize hg_m1 : ms mem (S + 1) (ru (mem (S + 1)) (28 + x2) (if (i3 0) < (i3 ((mem (S + 1) (28 + x2)) - 1)) then ((mem (S + 1) (28 + x2)) - 1) else (0 : Int))) = m1 at k ⊢
  refine xr_iinc (n := 1) (lo' := [(2, (sh_i (((x2 + 1) : Nat) : Int))), (0, (sh_r S)), (1, (sh_r B))]) (List.mem_of_getElem? (i := 2) rfl) (by decide) rfl (by decide +kernel) ?_
  refine xr_goto (off := (-86)) (tgt := 2) (by decide) (by decide +kernel) ?_
  refine xr_sub (lo' := [(0, (sh_r S)), (1, (sh_r B)), (2, (sh_i (((x2 + 1) : Nat) : Int)))]) [1, 2, 0] rfl ?_
  exact k

theorem v_State_leftBehind {g : sh_G} {d : Nat} {S : Nat} {B : Nat} {day : Nat} {nights : Int}  {mem : sh_Mem} {Q : Option sh_V → sh_Mem → Prop} (hS : ob8 S) (hB : ob0 B) (k : (day < 8 ∧ (day < 45 ∧ Q (some (sh_i (if (i3 ((mem (S + 1) day) + nights)) < (i3 (mem (B + 3) day)) then ((mem (S + 1) day) + nights) else (mem (B + 3) day)))) mem))) : sh_Cal g (d + 1) m_State_leftBehind [(sh_r S), (sh_r B), (sh_i (day : Int)), (sh_i nights)] mem Q := by
  refine sh_met (by decide +kernel) (Nat.le_of_ble_eq_true rfl) (lo := [(0, (sh_r S)), (1, (sh_r B)), (2, (sh_i (day : Int))), (3, (sh_i nights))]) rfl ?_
  refine xr_aload_n (n := 1) (i := 1) rfl (List.mem_of_getElem? (i := 1) rfl) (by decide +kernel) ?_
  refine xr_getR (o := 3) (ob0_0 hB) fl_State_27 rfl (by decide +kernel) ?_
  show sh_X g (d + 1) m_State_leftBehind _ _ ((sh_r (B + 3)) :: _) _ _
  refine xr_iload_n (n := 2) (i := 2) rfl (List.mem_of_getElem? (i := 2) rfl) (by decide +kernel) ?_
  obtain ⟨o, k⟩ := k
  refine xr_ialdN (j := day) rfl (ob0_3 hB) o (by decide +kernel) ?_
  refine xr_aload_n (n := 0) (i := 0) rfl (List.mem_of_getElem? (i := 0) rfl) (by decide +kernel) ?_
  refine xr_getR (o := 1) (ob8_0 hS) fl_State_11 rfl (by decide +kernel) ?_
  show sh_X g (d + 1) m_State_leftBehind _ _ ((sh_r (S + 1)) :: _) _ _
  refine xr_iconst (n := 0) (by decide +kernel) ?_
  refine xr_iload_n (n := 2) (i := 2) rfl (List.mem_of_getElem? (i := 2) rfl) (by decide +kernel) ?_
  refine xr_iadd (by decide +kernel) ?_
  rw [Int.zero_add]
  show sh_X g (d + 1) m_State_leftBehind _ _ ((sh_i (day : Int)) :: _) _ _
  obtain ⟨o, k⟩ := k
  refine xr_ialdN (j := day) rfl (ob8_1 hS) o (by decide +kernel) ?_
  refine xr_iload_n (n := 3) (i := 3) rfl (List.mem_of_getElem? (i := 3) rfl) (by decide +kernel) ?_
  refine xr_iadd (by decide +kernel) ?_
  show sh_X g (d + 1) m_State_leftBehind _ _ ((sh_i ((mem (S + 1) day) + nights)) :: _) _ _
  refine xr_mmin ml_State_53 (Nat.le_of_ble_eq_true rfl) (by decide +kernel) ?_
  exact xr_iret rfl (by decide +kernel) k

theorem v_State_guardBehind {g : sh_G} {d : Nat} {S : Nat} {B : Nat} {day : Nat} {nights : Int}  {mem : sh_Mem} {Q : Option sh_V → sh_Mem → Prop} (hS : ob8 S) (hB : ob0 B) (k : (day < 8 ∧ ((8 + day) < 45 ∧ Q (some (sh_i (if (i3 (mem (B + 4) day)) < (i3 ((mem (S + 1) (8 + day)) - nights)) then ((mem (S + 1) (8 + day)) - nights) else (mem (B + 4) day)))) mem))) : sh_Cal g (d + 1) m_State_guardBehind [(sh_r S), (sh_r B), (sh_i (day : Int)), (sh_i nights)] mem Q := by
  refine sh_met (by decide +kernel) (Nat.le_of_ble_eq_true rfl) (lo := [(0, (sh_r S)), (1, (sh_r B)), (2, (sh_i (day : Int))), (3, (sh_i nights))]) rfl ?_
  refine xr_aload_n (n := 1) (i := 1) rfl (List.mem_of_getElem? (i := 1) rfl) (by decide +kernel) ?_
  refine xr_getR (o := 4) (ob0_0 hB) fl_State_30 rfl (by decide +kernel) ?_
  show sh_X g (d + 1) m_State_guardBehind _ _ ((sh_r (B + 4)) :: _) _ _
  refine xr_iload_n (n := 2) (i := 2) rfl (List.mem_of_getElem? (i := 2) rfl) (by decide +kernel) ?_
  obtain ⟨o, k⟩ := k
  refine xr_ialdN (j := day) rfl (ob0_4 hB) o (by decide +kernel) ?_
  refine xr_aload_n (n := 0) (i := 0) rfl (List.mem_of_getElem? (i := 0) rfl) (by decide +kernel) ?_
  refine xr_getR (o := 1) (ob8_0 hS) fl_State_11 rfl (by decide +kernel) ?_
  show sh_X g (d + 1) m_State_guardBehind _ _ ((sh_r (S + 1)) :: _) _ _
  refine xr_bipush (n := 8) (v := 8) (by decide) (by decide +kernel) ?_
  refine xr_iload_n (n := 2) (i := 2) rfl (List.mem_of_getElem? (i := 2) rfl) (by decide +kernel) ?_
  refine xr_iadd (by decide +kernel) ?_
  show sh_X g (d + 1) m_State_guardBehind _ _ ((sh_i (((8 + day) : Nat) : Int)) :: _) _ _
  obtain ⟨o, k⟩ := k
  refine xr_ialdN (j := (8 + day)) rfl (ob8_1 hS) o (by decide +kernel) ?_
  refine xr_iload_n (n := 3) (i := 3) rfl (List.mem_of_getElem? (i := 3) rfl) (by decide +kernel) ?_
  refine xr_isub (by decide +kernel) ?_
  show sh_X g (d + 1) m_State_guardBehind _ _ ((sh_i ((mem (S + 1) (8 + day)) - nights)) :: _) _ _
  refine xr_mmax ml_State_70 (Nat.le_of_ble_eq_true rfl) (by decide +kernel) ?_
  exact xr_iret rfl (by decide +kernel) k

theorem v_State_relaxed {g : sh_G} {d : Nat} {guard : Int} {told : Int}  {mem : sh_Mem} {Q : Option sh_V → sh_Mem → Prop}  (k : (((i3 guard) ≤ (i3 told) → Q (some (sh_i guard)) mem) ∧ (¬ (i3 guard) ≤ (i3 told) → Q (some (sh_i (guard - 1))) mem))) : sh_Cal g d m_State_relaxed [(sh_i guard), (sh_i told)] mem Q := by
  refine sh_met (by decide +kernel) (Nat.le_of_ble_eq_true rfl) (lo := [(0, (sh_i guard)), (1, (sh_i told))]) rfl ?_
  refine xr_iload_n (n := 0) (i := 0) rfl (List.mem_of_getElem? (i := 0) rfl) (by decide +kernel) ?_
  refine xr_iload_n (n := 1) (i := 1) rfl (List.mem_of_getElem? (i := 1) rfl) (by decide +kernel) ?_
  refine xr_icmp_le (a' := (i3 guard)) (b' := (i3 told)) rfl rfl (off := 9) (tgt := 11) (by decide) (by decide +kernel) ⟨fun c1 => ?_, fun c1 => ?_⟩
  · have k := k.1 c1
    refine xr_iload_n (n := 0) (i := 0) rfl (List.mem_of_getElem? (i := 0) rfl) (by decide +kernel) ?_
    exact xr_iret rfl (by decide +kernel) k
  · have k := k.2 c1
    refine xr_iload_n (n := 0) (i := 0) rfl (List.mem_of_getElem? (i := 0) rfl) (by decide +kernel) ?_
    refine xr_iconst (n := 1) (by decide +kernel) ?_
    refine xr_isub (by decide +kernel) ?_
    show sh_X g d m_State_relaxed _ _ ((sh_i (guard - 1)) :: _) _ _
    refine xr_goto (off := 4) (tgt := 12) (by decide) (by decide +kernel) ?_
    exact xr_iret rfl (by decide +kernel) k

theorem v_State_isFreeBehind {g : sh_G} {d : Nat} {S : Nat} {thief : Nat} {nights : Int}  {mem : sh_Mem} {Q : Option sh_V → sh_Mem → Prop} (hS : ob8 S) (k : ((28 + thief) < 45 ∧ (((i3 nights) < (i3 (mem (S + 1) (28 + thief))) → Q (some (sh_i 0)) mem) ∧ (¬ (i3 nights) < (i3 (mem (S + 1) (28 + thief))) → Q (some (sh_i 1)) mem)))) : sh_Cal g d m_State_isFreeBehind [(sh_r S), (sh_i (thief : Int)), (sh_i nights)] mem Q := by
  refine sh_met (by decide +kernel) (Nat.le_of_ble_eq_true rfl) (lo := [(0, (sh_r S)), (1, (sh_i (thief : Int))), (2, (sh_i nights))]) rfl ?_
  refine xr_aload_n (n := 0) (i := 0) rfl (List.mem_of_getElem? (i := 0) rfl) (by decide +kernel) ?_
  refine xr_getR (o := 1) (ob8_0 hS) fl_State_11 rfl (by decide +kernel) ?_
  show sh_X g d m_State_isFreeBehind _ _ ((sh_r (S + 1)) :: _) _ _
  refine xr_bipush (n := 28) (v := 28) (by decide) (by decide +kernel) ?_
  refine xr_iload_n (n := 1) (i := 1) rfl (List.mem_of_getElem? (i := 1) rfl) (by decide +kernel) ?_
  refine xr_iadd (by decide +kernel) ?_
  show sh_X g d m_State_isFreeBehind _ _ ((sh_i (((28 + thief) : Nat) : Int)) :: _) _ _
  obtain ⟨o, k⟩ := k
  refine xr_ialdN (j := (28 + thief)) rfl (ob8_1 hS) o (by decide +kernel) ?_
  refine xr_iload_n (n := 2) (i := 2) rfl (List.mem_of_getElem? (i := 2) rfl) (by decide +kernel) ?_
  refine xr_icmp_gt (a' := (i3 (mem (S + 1) (28 + thief)))) (b' := (i3 nights)) rfl rfl (off := 7) (tgt := 17) (by decide) (by decide +kernel) ⟨fun c1 => ?_, fun c1 => ?_⟩
  · have k := k.1 c1
    refine xr_iconst (n := 0) (by decide +kernel) ?_
    exact xr_zret rfl (by decide +kernel) (by decide) k
  · have k := k.2 c1
    refine xr_iconst (n := 1) (by decide +kernel) ?_
    refine xr_goto (off := 4) (tgt := 18) (by decide) (by decide +kernel) ?_
    exact xr_zret rfl (by decide +kernel) (by decide) k

theorem v_State_isOpenBehind {g : sh_G} {d : Nat} {S : Nat} {B : Nat} {thief : Nat} {day : Nat} {nights : Int}  {mem : sh_Mem} {Q : Option sh_V → sh_Mem → Prop} (hS : ob8 S) (hB : ob0 B) (k : (sh_Cal g d m_State_isFreeBehind [(sh_r S), (sh_i (thief : Int)), (sh_i nights)] mem fun rv m1 => ∃ r1 : Int, rv = some (sh_i r1) ∧ (((i3 r1) = 0 → Q (some (sh_i 0)) m1) ∧ (¬ (i3 r1) = 0 → (sh_Cal g d m_State_leftBehind [(sh_r S), (sh_r B), (sh_i (day : Int)), (sh_i nights)] m1 fun rv m2 => ∃ r2 : Int, rv = some (sh_i r2) ∧ (((i3 r2) ≤ 0 → Q (some (sh_i 0)) m2) ∧ (¬ (i3 r2) ≤ 0 → (thief < 4 ∧ (sh_Cal g d m_State_guardBehind [(sh_r S), (sh_r B), (sh_i (day : Int)), (sh_i nights)] m2 fun rv m3 => ∃ r3 : Int, rv = some (sh_i r3) ∧ (((i3 (m2 (B + 6) thief)) < (i3 r3) → Q (some (sh_i 0)) m3) ∧ (¬ (i3 (m2 (B + 6) thief)) < (i3 r3) → Q (some (sh_i 1)) m3))))))))))) : sh_Cal g (d + 1) m_State_isOpenBehind [(sh_r S), (sh_r B), (sh_i (thief : Int)), (sh_i (day : Int)), (sh_i nights)] mem Q := by
  refine sh_met (by decide +kernel) (Nat.le_of_ble_eq_true rfl) (lo := [(0, (sh_r S)), (1, (sh_r B)), (2, (sh_i (thief : Int))), (3, (sh_i (day : Int))), (4, (sh_i nights))]) rfl ?_
  refine xr_aload_n (n := 0) (i := 0) rfl (List.mem_of_getElem? (i := 0) rfl) (by decide +kernel) ?_
  refine xr_iload_n (n := 2) (i := 2) rfl (List.mem_of_getElem? (i := 2) rfl) (by decide +kernel) ?_
  refine xr_iload (i := 4) (List.mem_of_getElem? (i := 4) rfl) (by decide +kernel) ?_
  refine xr_callV (av := [(sh_i (thief : Int)), (sh_i nights)]) (ob8_0 hS) rfl rfl mo_State_isFreeBehind ml_State_92 im_State_isFreeBehind se_State_isFreeBehind rfl (Nat.le_of_ble_eq_true rfl) (by decide +kernel) (sh_mono k ?_)
  rintro rv m1 ⟨r1, rfl, k⟩
  show sh_X g (d + 1) m_State_isOpenBehind _ _ [(sh_i r1)] _ _
  refine xr_if_eq (a' := (i3 r1)) rfl (off := 35) (tgt := 42) (by decide) (by decide +kernel) ⟨fun c1 => ?_, fun c1 => ?_⟩
  · have k := k.1 c1
    refine xr_iconst (n := 0) (by decide +kernel) ?_
    exact xr_zret rfl (by decide +kernel) (by decide) k
  · have k := k.2 c1
    refine xr_aload_n (n := 0) (i := 0) rfl (List.mem_of_getElem? (i := 0) rfl) (by decide +kernel) ?_
    refine xr_aload_n (n := 1) (i := 1) rfl (List.mem_of_getElem? (i := 1) rfl) (by decide +kernel) ?_
    refine xr_iload_n (n := 3) (i := 3) rfl (List.mem_of_getElem? (i := 3) rfl) (by decide +kernel) ?_
    refine xr_iload (i := 4) (List.mem_of_getElem? (i := 4) rfl) (by decide +kernel) ?_
    refine xr_callV (av := [(sh_r B), (sh_i (day : Int)), (sh_i nights)]) (ob8_0 hS) rfl rfl mo_State_leftBehind ml_State_86 im_State_leftBehind se_State_leftBehind rfl (Nat.le_of_ble_eq_true rfl) (by decide +kernel) (sh_mono k ?_)
    rintro rv m2 ⟨r2, rfl, k⟩
    show sh_X g (d + 1) m_State_isOpenBehind _ _ [(sh_i r2)] _ _
    refine xr_if_le (a' := (i3 r2)) rfl (off := 24) (tgt := 42) (by decide) (by decide +kernel) ⟨fun c2 => ?_, fun c2 => ?_⟩
    · have k := k.1 c2
      refine xr_iconst (n := 0) (by decide +kernel) ?_
      exact xr_zret rfl (by decide +kernel) (by decide) k
    · have k := k.2 c2
      refine xr_aload_n (n := 1) (i := 1) rfl (List.mem_of_getElem? (i := 1) rfl) (by decide +kernel) ?_
      refine xr_getR (o := 6) (ob0_0 hB) fl_State_47 rfl (by decide +kernel) ?_
      show sh_X g (d + 1) m_State_isOpenBehind _ _ ((sh_r (B + 6)) :: _) _ _
      refine xr_iload_n (n := 2) (i := 2) rfl (List.mem_of_getElem? (i := 2) rfl) (by decide +kernel) ?_
      obtain ⟨o, k⟩ := k
      refine xr_ialdN (j := thief) rfl (ob0_6 hB) o (by decide +kernel) ?_
      refine xr_aload_n (n := 0) (i := 0) rfl (List.mem_of_getElem? (i := 0) rfl) (by decide +kernel) ?_
      refine xr_aload_n (n := 1) (i := 1) rfl (List.mem_of_getElem? (i := 1) rfl) (by decide +kernel) ?_
      refine xr_iload_n (n := 3) (i := 3) rfl (List.mem_of_getElem? (i := 3) rfl) (by decide +kernel) ?_
      refine xr_iload (i := 4) (List.mem_of_getElem? (i := 4) rfl) (by decide +kernel) ?_
      refine xr_callV (av := [(sh_r B), (sh_i (day : Int)), (sh_i nights)]) (ob8_0 hS) rfl rfl mo_State_guardBehind ml_State_89 im_State_guardBehind se_State_guardBehind rfl (Nat.le_of_ble_eq_true rfl) (by decide +kernel) (sh_mono k ?_)
      rintro rv m3 ⟨r3, rfl, k⟩
      show sh_X g (d + 1) m_State_isOpenBehind _ _ [(sh_i r3), (sh_i (m2 (B + 6) thief))] _ _
      refine xr_icmp_lt (a' := (i3 (m2 (B + 6) thief))) (b' := (i3 r3)) rfl rfl (off := 7) (tgt := 42) (by decide) (by decide +kernel) ⟨fun c3 => ?_, fun c3 => ?_⟩
      · have k := k.1 c3
        refine xr_iconst (n := 0) (by decide +kernel) ?_
        exact xr_zret rfl (by decide +kernel) (by decide) k
      · have k := k.2 c3
        refine xr_iconst (n := 1) (by decide +kernel) ?_
        refine xr_goto (off := 4) (tgt := 43) (by decide) (by decide +kernel) ?_
        exact xr_zret rfl (by decide +kernel) (by decide) k

theorem v_State_muchBehind {g : sh_G} {d : Nat} {S : Nat} {thief : Nat} {nights : Int}  {mem : sh_Mem} {Q : Option sh_V → sh_Mem → Prop} (hS : ob8 S) (k : ((16 + thief) < 45 ∧ ((24 + thief) < 45 ∧ sh_X g (d + 1) m_State_muchBehind 24 [(0, (sh_r S)), (1, (sh_i (thief : Int))), (2, (sh_i nights)), (3, (sh_i (mem (S + 1) (16 + thief)))), (4, (sh_i (mem (S + 1) (24 + thief)))), (5, (sh_i 0))] [] mem (sh_K m_State_muchBehind Q)))) : sh_Cal g (d + 1) m_State_muchBehind [(sh_r S), (sh_i (thief : Int)), (sh_i nights)] mem Q := by
  refine sh_met (by decide +kernel) (Nat.le_of_ble_eq_true rfl) (lo := [(0, (sh_r S)), (1, (sh_i (thief : Int))), (2, (sh_i nights))]) rfl ?_
  refine xr_aload_n (n := 0) (i := 0) rfl (List.mem_of_getElem? (i := 0) rfl) (by decide +kernel) ?_
  refine xr_getR (o := 1) (ob8_0 hS) fl_State_11 rfl (by decide +kernel) ?_
  show sh_X g (d + 1) m_State_muchBehind _ _ ((sh_r (S + 1)) :: _) _ _
  refine xr_bipush (n := 16) (v := 16) (by decide) (by decide +kernel) ?_
  refine xr_iload_n (n := 1) (i := 1) rfl (List.mem_of_getElem? (i := 1) rfl) (by decide +kernel) ?_
  refine xr_iadd (by decide +kernel) ?_
  show sh_X g (d + 1) m_State_muchBehind _ _ ((sh_i (((16 + thief) : Nat) : Int)) :: _) _ _
  obtain ⟨o, k⟩ := k
  refine xr_ialdN (j := (16 + thief)) rfl (ob8_1 hS) o (by decide +kernel) ?_
  refine xr_istore_n (n := 3) (i := 3) rfl (by decide) rfl (by decide +kernel) ?_
  refine xr_aload_n (n := 0) (i := 0) rfl (List.mem_of_getElem? (i := 1) rfl) (by decide +kernel) ?_
  refine xr_getR (o := 1) (ob8_0 hS) fl_State_11 rfl (by decide +kernel) ?_
  show sh_X g (d + 1) m_State_muchBehind _ _ ((sh_r (S + 1)) :: _) _ _
  refine xr_bipush (n := 24) (v := 24) (by decide) (by decide +kernel) ?_
  refine xr_iload_n (n := 1) (i := 1) rfl (List.mem_of_getElem? (i := 2) rfl) (by decide +kernel) ?_
  refine xr_iadd (by decide +kernel) ?_
  show sh_X g (d + 1) m_State_muchBehind _ _ ((sh_i (((24 + thief) : Nat) : Int)) :: _) _ _
  obtain ⟨o, k⟩ := k
  refine xr_ialdN (j := (24 + thief)) rfl (ob8_1 hS) o (by decide +kernel) ?_
  refine xr_istore (i := 4) (by decide) rfl (by decide +kernel) ?_
  refine xr_iconst (n := 0) (by decide +kernel) ?_
  refine xr_istore (i := 5) (by decide) rfl (by decide +kernel) ?_
  refine xr_sub (lo' := [(0, (sh_r S)), (1, (sh_i (thief : Int))), (2, (sh_i nights)), (3, (sh_i (mem (S + 1) (16 + thief)))), (4, (sh_i (mem (S + 1) (24 + thief)))), (5, (sh_i 0))]) [3, 4, 5, 2, 1, 0] rfl ?_
  exact k
theorem v_State_muchBehind_24 {g : sh_G} {d : Nat} {S : Nat} {thief : Nat} {nights : Int}  {mem : sh_Mem} {Q : Option sh_V → sh_Mem → Prop} (hS : ob8 S) {x3 : Int} {x4 : Int} {x5 : Nat} (k : (((i3 nights) ≤ (i3 (x5 : Int)) → Q (some (sh_i x3)) mem) ∧ (¬ (i3 nights) ≤ (i3 (x5 : Int)) → (((i3 x3) ≤ 0 → Q (some (sh_i x3)) mem) ∧ (¬ (i3 x3) ≤ 0 → ((20 + thief) < 45 ∧ (sh_Cal g d m_State_spoiled [(sh_i (mem (S + 1) (20 + thief))), (sh_i x3), (sh_i (x4 + 1))] mem fun rv m1 => ∃ r1 : Int, rv = some (sh_i r1) ∧ sh_X g (d + 1) m_State_muchBehind 24 [(0, (sh_r S)), (1, (sh_i (thief : Int))), (2, (sh_i nights)), (3, (sh_i r1)), (4, (sh_i (x4 + 1))), (5, (sh_i (((x5 + 1) : Nat) : Int)))] [] m1 (sh_K m_State_muchBehind Q)))))))) : sh_X g (d + 1) m_State_muchBehind 24 [(0, (sh_r S)), (1, (sh_i (thief : Int))), (2, (sh_i nights)), (3, (sh_i x3)), (4, (sh_i x4)), (5, (sh_i (x5 : Int)))] [] mem (sh_K m_State_muchBehind Q) := by
  refine xr_iload (i := 5) (List.mem_of_getElem? (i := 5) rfl) (by decide +kernel) ?_
  refine xr_iload_n (n := 2) (i := 2) rfl (List.mem_of_getElem? (i := 2) rfl) (by decide +kernel) ?_
  refine xr_icmp_ge (a' := (i3 (x5 : Int))) (b' := (i3 nights)) rfl rfl (off := 32) (tgt := 59) (by decide) (by decide +kernel) ⟨fun c1 => ?_, fun c1 => ?_⟩
  · have k := k.1 c1
    refine xr_iload_n (n := 3) (i := 3) rfl (List.mem_of_getElem? (i := 3) rfl) (by decide +kernel) ?_
    exact xr_iret rfl (by decide +kernel) k
  · have k := k.2 c1
    refine xr_iload_n (n := 3) (i := 3) rfl (List.mem_of_getElem? (i := 3) rfl) (by decide +kernel) ?_
    refine xr_if_le (a' := (i3 x3)) rfl (off := 28) (tgt := 59) (by decide) (by decide +kernel) ⟨fun c2 => ?_, fun c2 => ?_⟩
    · have k := k.1 c2
      refine xr_iload_n (n := 3) (i := 3) rfl (List.mem_of_getElem? (i := 3) rfl) (by decide +kernel) ?_
      exact xr_iret rfl (by decide +kernel) k
    · have k := k.2 c2
      refine xr_iinc (n := 1) (lo' := [(4, (sh_i (x4 + 1))), (0, (sh_r S)), (1, (sh_i (thief : Int))), (2, (sh_i nights)), (3, (sh_i x3)), (5, (sh_i (x5 : Int)))]) (List.mem_of_getElem? (i := 4) rfl) (by decide) rfl (by decide +kernel) ?_
      refine xr_aload_n (n := 0) (i := 0) rfl (List.mem_of_getElem? (i := 1) rfl) (by decide +kernel) ?_
      refine xr_getR (o := 1) (ob8_0 hS) fl_State_11 rfl (by decide +kernel) ?_
      show sh_X g (d + 1) m_State_muchBehind _ _ ((sh_r (S + 1)) :: _) _ _
      refine xr_bipush (n := 20) (v := 20) (by decide) (by decide +kernel) ?_
      refine xr_iload_n (n := 1) (i := 1) rfl (List.mem_of_getElem? (i := 2) rfl) (by decide +kernel) ?_
      refine xr_iadd (by decide +kernel) ?_
      show sh_X g (d + 1) m_State_muchBehind _ _ ((sh_i (((20 + thief) : Nat) : Int)) :: _) _ _
      obtain ⟨o, k⟩ := k
      refine xr_ialdN (j := (20 + thief)) rfl (ob8_1 hS) o (by decide +kernel) ?_
      refine xr_iload_n (n := 3) (i := 3) rfl (List.mem_of_getElem? (i := 4) rfl) (by decide +kernel) ?_
      refine xr_iload (i := 4) (List.mem_of_getElem? (i := 0) rfl) (by decide +kernel) ?_
      refine xr_callS (av := [(sh_i (mem (S + 1) (20 + thief))), (sh_i x3), (sh_i (x4 + 1))]) mo_State_spoiled ml_State_95 sa_State_spoiled rfl (Nat.le_of_ble_eq_true rfl) (by decide +kernel) (sh_mono k ?_)
      rintro rv m1 ⟨r1, rfl, k⟩
      show sh_X g (d + 1) m_State_muchBehind _ _ [(sh_i r1)] _ _
      refine xr_istore_n (n := 3) (i := 3) rfl (by decide) rfl (by decide +kernel) ?_
      refine xr_iinc (n := 1) (lo' := [(5, (sh_i (((x5 + 1) : Nat) : Int))), (3, (sh_i r1)), (4, (sh_i (x4 + 1))), (0, (sh_r S)), (1, (sh_i (thief : Int))), (2, (sh_i nights))]) (List.mem_of_getElem? (i := 5) rfl) (by decide) rfl (by decide +kernel) ?_
      refine xr_goto (off := (-32)) (tgt := 24) (by decide) (by decide +kernel) ?_
      refine xr_sub (lo' := [(0, (sh_r S)), (1, (sh_i (thief : Int))), (2, (sh_i nights)), (3, (sh_i r1)), (4, (sh_i (x4 + 1))), (5, (sh_i (((x5 + 1) : Nat) : Int)))]) [3, 4, 5, 1, 2, 0] rfl ?_
      exact k

theorem v_State_spoiled {g : sh_G} {d : Nat} {sort : Int} {much : Int} {old : Int}  {mem : sh_Mem} {Q : Option sh_V → sh_Mem → Prop}  (k : (((i3 sort) = 0 → (((i3 old) ≤ 3 → Q (some (sh_i much)) mem) ∧ (¬ (i3 old) ≤ 3 → Q (some (sh_i (much - 1))) mem))) ∧ (((i3 sort) = 1 → Q (some (sh_i much)) mem) ∧ (((i3 sort) = 2 → Q (some (sh_i (i_div much 2))) mem) ∧ (((i3 sort) = 3 → (((i3 old) < 4 → Q (some (sh_i much)) mem) ∧ (¬ (i3 old) < 4 → Q (some (sh_i 0)) mem))) ∧ (((i3 sort) < 0 ∨ 3 < (i3 sort)) → Q (some (sh_i much)) mem)))))) : sh_Cal g d m_State_spoiled [(sh_i sort), (sh_i much), (sh_i old)] mem Q := by
  refine sh_met (by decide +kernel) (Nat.le_of_ble_eq_true rfl) (lo := [(0, (sh_i sort)), (1, (sh_i much)), (2, (sh_i old))]) rfl ?_
  refine xr_iload_n (n := 0) (i := 0) rfl (List.mem_of_getElem? (i := 0) rfl) (by decide +kernel) ?_
  rcases (by omega : (i3 sort) = 0 ∨ (i3 sort) = 1 ∨ (i3 sort) = 2 ∨ (i3 sort) = 3 ∨ ((i3 sort) < 0 ∨ 3 < (i3 sort))) with c1 | c1 | c1 | c1 | c1
  · have k := k.1 c1
    refine xr_tabIn (dflt := 59) (low := 0) (high := 3) (offs := #[31, 59, 44, 48]) (len := 31) 0 c1 (by decide) (by decide) rfl (tgt := 32) (by decide) (by decide +kernel) ?_
    refine xr_iload_n (n := 2) (i := 2) rfl (List.mem_of_getElem? (i := 2) rfl) (by decide +kernel) ?_
    refine xr_iconst (n := 3) (by decide +kernel) ?_
    refine xr_icmp_le (a' := (i3 old)) (b' := 3) rfl (by decide) (off := 9) (tgt := 43) (by decide) (by decide +kernel) ⟨fun c2 => ?_, fun c2 => ?_⟩
    · have k := k.1 c2
      refine xr_iload_n (n := 1) (i := 1) rfl (List.mem_of_getElem? (i := 1) rfl) (by decide +kernel) ?_
      exact xr_iret rfl (by decide +kernel) k
    · have k := k.2 c2
      refine xr_iload_n (n := 1) (i := 1) rfl (List.mem_of_getElem? (i := 1) rfl) (by decide +kernel) ?_
      refine xr_iconst (n := 1) (by decide +kernel) ?_
      refine xr_isub (by decide +kernel) ?_
      show sh_X g d m_State_spoiled _ _ ((sh_i (much - 1)) :: _) _ _
      refine xr_goto (off := 4) (tgt := 44) (by decide) (by decide +kernel) ?_
      exact xr_iret rfl (by decide +kernel) k
  · have k := k.2.1 c1
    refine xr_tabIn (dflt := 59) (low := 0) (high := 3) (offs := #[31, 59, 44, 48]) (len := 31) 1 c1 (by decide) (by decide) rfl (tgt := 60) (by decide) (by decide +kernel) ?_
    refine xr_iload_n (n := 1) (i := 1) rfl (List.mem_of_getElem? (i := 1) rfl) (by decide +kernel) ?_
    exact xr_iret rfl (by decide +kernel) k
  · have k := k.2.2.1 c1
    refine xr_tabIn (dflt := 59) (low := 0) (high := 3) (offs := #[31, 59, 44, 48]) (len := 31) 2 c1 (by decide) (by decide) rfl (tgt := 45) (by decide) (by decide +kernel) ?_
    refine xr_iload_n (n := 1) (i := 1) rfl (List.mem_of_getElem? (i := 1) rfl) (by decide +kernel) ?_
    refine xr_iconst (n := 2) (by decide +kernel) ?_
    refine xr_idiv (by decide) (by decide +kernel) ?_
    exact xr_iret rfl (by decide +kernel) k
  · have k := k.2.2.2.1 c1
    refine xr_tabIn (dflt := 59) (low := 0) (high := 3) (offs := #[31, 59, 44, 48]) (len := 31) 3 c1 (by decide) (by decide) rfl (tgt := 49) (by decide) (by decide +kernel) ?_
    refine xr_iload_n (n := 2) (i := 2) rfl (List.mem_of_getElem? (i := 2) rfl) (by decide +kernel) ?_
    refine xr_iconst (n := 4) (by decide +kernel) ?_
    refine xr_icmp_lt (a' := (i3 old)) (b' := 4) rfl (by decide) (off := 7) (tgt := 58) (by decide) (by decide +kernel) ⟨fun c3 => ?_, fun c3 => ?_⟩
    · have k := k.1 c3
      refine xr_iload_n (n := 1) (i := 1) rfl (List.mem_of_getElem? (i := 1) rfl) (by decide +kernel) ?_
      exact xr_iret rfl (by decide +kernel) k
    · have k := k.2 c3
      refine xr_iconst (n := 0) (by decide +kernel) ?_
      refine xr_goto (off := 4) (tgt := 59) (by decide) (by decide +kernel) ?_
      exact xr_iret rfl (by decide +kernel) k
  · have k := k.2.2.2.2 c1
    refine xr_tabOut (dflt := 59) (low := 0) (high := 3) (offs := #[31, 59, 44, 48]) (len := 31) c1 (tgt := 60) (by decide) (by decide +kernel) ?_
    refine xr_iload_n (n := 1) (i := 1) rfl (List.mem_of_getElem? (i := 1) rfl) (by decide +kernel) ?_
    exact xr_iret rfl (by decide +kernel) k

theorem v_State_guiltBehind {g : sh_G} {d : Nat} {S : Nat} {thief : Nat} {nights : Int}  {mem : sh_Mem} {Q : Option sh_V → sh_Mem → Prop} (hS : ob8 S) (k : ((32 + thief) < 45 ∧ ((20 + thief) < 45 ∧ ((¬ (i3 (mem (S + 1) (20 + thief))) = 1 → Q (some (sh_i (mem (S + 1) (32 + thief)))) mem) ∧ ((i3 (mem (S + 1) (20 + thief))) = 1 → Q (some (sh_i (if (i3 ((mem (S + 1) (32 + thief)) + nights)) < (i3 9) then ((mem (S + 1) (32 + thief)) + nights) else (9 : Int)))) mem))))) : sh_Cal g (d + 1) m_State_guiltBehind [(sh_r S), (sh_i (thief : Int)), (sh_i nights)] mem Q := by
  refine sh_met (by decide +kernel) (Nat.le_of_ble_eq_true rfl) (lo := [(0, (sh_r S)), (1, (sh_i (thief : Int))), (2, (sh_i nights))]) rfl ?_
  refine xr_aload_n (n := 0) (i := 0) rfl (List.mem_of_getElem? (i := 0) rfl) (by decide +kernel) ?_
  refine xr_getR (o := 1) (ob8_0 hS) fl_State_11 rfl (by decide +kernel) ?_
  show sh_X g (d + 1) m_State_guiltBehind _ _ ((sh_r (S + 1)) :: _) _ _
  refine xr_bipush (n := 32) (v := 32) (by decide) (by decide +kernel) ?_
  refine xr_iload_n (n := 1) (i := 1) rfl (List.mem_of_getElem? (i := 1) rfl) (by decide +kernel) ?_
  refine xr_iadd (by decide +kernel) ?_
  show sh_X g (d + 1) m_State_guiltBehind _ _ ((sh_i (((32 + thief) : Nat) : Int)) :: _) _ _
  obtain ⟨o, k⟩ := k
  refine xr_ialdN (j := (32 + thief)) rfl (ob8_1 hS) o (by decide +kernel) ?_
  refine xr_istore_n (n := 3) (i := 3) rfl (by decide) rfl (by decide +kernel) ?_
  refine xr_aload_n (n := 0) (i := 0) rfl (List.mem_of_getElem? (i := 1) rfl) (by decide +kernel) ?_
  refine xr_getR (o := 1) (ob8_0 hS) fl_State_11 rfl (by decide +kernel) ?_
  show sh_X g (d + 1) m_State_guiltBehind _ _ ((sh_r (S + 1)) :: _) _ _
  refine xr_bipush (n := 20) (v := 20) (by decide) (by decide +kernel) ?_
  refine xr_iload_n (n := 1) (i := 1) rfl (List.mem_of_getElem? (i := 2) rfl) (by decide +kernel) ?_
  refine xr_iadd (by decide +kernel) ?_
  show sh_X g (d + 1) m_State_guiltBehind _ _ ((sh_i (((20 + thief) : Nat) : Int)) :: _) _ _
  obtain ⟨o, k⟩ := k
  refine xr_ialdN (j := (20 + thief)) rfl (ob8_1 hS) o (by decide +kernel) ?_
  refine xr_iconst (n := 1) (by decide +kernel) ?_
  refine xr_icmp_ne (a' := (i3 (mem (S + 1) (20 + thief)))) (b' := 1) rfl (by decide) (off := 14) (tgt := 34) (by decide) (by decide +kernel) ⟨fun c1 => ?_, fun c1 => ?_⟩
  · have k := k.1 c1
    refine xr_iload_n (n := 3) (i := 3) rfl (List.mem_of_getElem? (i := 0) rfl) (by decide +kernel) ?_
    exact xr_iret rfl (by decide +kernel) k
  · have k := k.2 c1
    refine xr_bipush (n := 9) (v := 9) (by decide) (by decide +kernel) ?_
    refine xr_iload_n (n := 3) (i := 3) rfl (List.mem_of_getElem? (i := 0) rfl) (by decide +kernel) ?_
    refine xr_iload_n (n := 2) (i := 2) rfl (List.mem_of_getElem? (i := 3) rfl) (by decide +kernel) ?_
    refine xr_iadd (by decide +kernel) ?_
    show sh_X g (d + 1) m_State_guiltBehind _ _ ((sh_i ((mem (S + 1) (32 + thief)) + nights)) :: _) _ _
    refine xr_mmin ml_State_53 (Nat.le_of_ble_eq_true rfl) (by decide +kernel) ?_
    refine xr_goto (off := 4) (tgt := 35) (by decide) (by decide +kernel) ?_
    exact xr_iret rfl (by decide +kernel) k

theorem v_State_joyBehind {g : sh_G} {d : Nat} {S : Nat} {thief : Nat} {nights : Int}  {mem : sh_Mem} {Q : Option sh_V → sh_Mem → Prop} (hS : ob8 S) (k : (sh_Cal g d m_State_muchBehind [(sh_r S), (sh_i (thief : Int)), (sh_i nights)] mem fun rv m1 => ∃ r1 : Int, rv = some (sh_i r1) ∧ (sh_Cal g d m_State_guiltBehind [(sh_r S), (sh_i (thief : Int)), (sh_i nights)] m1 fun rv m2 => ∃ r2 : Int, rv = some (sh_i r2) ∧ Q (some (sh_i (if (i3 0) < (i3 (r1 - r2)) then (r1 - r2) else (0 : Int)))) m2))) : sh_Cal g (d + 1) m_State_joyBehind [(sh_r S), (sh_i (thief : Int)), (sh_i nights)] mem Q := by
  refine sh_met (by decide +kernel) (Nat.le_of_ble_eq_true rfl) (lo := [(0, (sh_r S)), (1, (sh_i (thief : Int))), (2, (sh_i nights))]) rfl ?_
  refine xr_iconst (n := 0) (by decide +kernel) ?_
  refine xr_aload_n (n := 0) (i := 0) rfl (List.mem_of_getElem? (i := 0) rfl) (by decide +kernel) ?_
  refine xr_iload_n (n := 1) (i := 1) rfl (List.mem_of_getElem? (i := 1) rfl) (by decide +kernel) ?_
  refine xr_iload_n (n := 2) (i := 2) rfl (List.mem_of_getElem? (i := 2) rfl) (by decide +kernel) ?_
  refine xr_callV (av := [(sh_i (thief : Int)), (sh_i nights)]) (ob8_0 hS) rfl rfl mo_State_muchBehind ml_State_83 im_State_muchBehind se_State_muchBehind rfl (Nat.le_of_ble_eq_true rfl) (by decide +kernel) (sh_mono k ?_)
  rintro rv m1 ⟨r1, rfl, k⟩
  show sh_X g (d + 1) m_State_joyBehind _ _ [(sh_i r1), (sh_i 0)] _ _
  refine xr_aload_n (n := 0) (i := 0) rfl (List.mem_of_getElem? (i := 0) rfl) (by decide +kernel) ?_
  refine xr_iload_n (n := 1) (i := 1) rfl (List.mem_of_getElem? (i := 1) rfl) (by decide +kernel) ?_
  refine xr_iload_n (n := 2) (i := 2) rfl (List.mem_of_getElem? (i := 2) rfl) (by decide +kernel) ?_
  refine xr_callV (av := [(sh_i (thief : Int)), (sh_i nights)]) (ob8_0 hS) rfl rfl mo_State_guiltBehind ml_State_80 im_State_guiltBehind se_State_guiltBehind rfl (Nat.le_of_ble_eq_true rfl) (by decide +kernel) (sh_mono k ?_)
  rintro rv m2 ⟨r2, rfl, k⟩
  show sh_X g (d + 1) m_State_joyBehind _ _ [(sh_i r2), (sh_i r1), (sh_i 0)] _ _
  refine xr_isub (by decide +kernel) ?_
  show sh_X g (d + 1) m_State_joyBehind _ _ ((sh_i (r1 - r2)) :: _) _ _
  refine xr_mmax ml_State_70 (Nat.le_of_ble_eq_true rfl) (by decide +kernel) ?_
  exact xr_iret rfl (by decide +kernel) k

theorem v_State_paidFor {g : sh_G} {d : Nat} {S : Nat} {B : Nat} {thief : Nat}  {mem : sh_Mem} {Q : Option sh_V → sh_Mem → Prop} (hS : ob8 S) (hB : ob0 B) (k : (sh_Cal g d m_State_paidBehind [(sh_r S), (sh_r B), (sh_i (thief : Int)), (sh_i 0)] mem fun rv m1 => ∃ r1 : Int, rv = some (sh_i r1) ∧ Q (some (sh_i r1)) m1)) : sh_Cal g (d + 1) m_State_paidFor [(sh_r S), (sh_r B), (sh_i (thief : Int))] mem Q := by
  refine sh_met (by decide +kernel) (Nat.le_of_ble_eq_true rfl) (lo := [(0, (sh_r S)), (1, (sh_r B)), (2, (sh_i (thief : Int)))]) rfl ?_
  refine xr_aload_n (n := 0) (i := 0) rfl (List.mem_of_getElem? (i := 0) rfl) (by decide +kernel) ?_
  refine xr_aload_n (n := 1) (i := 1) rfl (List.mem_of_getElem? (i := 1) rfl) (by decide +kernel) ?_
  refine xr_iload_n (n := 2) (i := 2) rfl (List.mem_of_getElem? (i := 2) rfl) (by decide +kernel) ?_
  refine xr_iconst (n := 0) (by decide +kernel) ?_
  refine xr_callV (av := [(sh_r B), (sh_i (thief : Int)), (sh_i 0)]) (ob8_0 hS) rfl rfl mo_State_paidBehind ml_State_99 im_State_paidBehind se_State_paidBehind rfl (Nat.le_of_ble_eq_true rfl) (by decide +kernel) (sh_mono k ?_)
  rintro rv m1 ⟨r1, rfl, k⟩
  show sh_X g (d + 1) m_State_paidFor _ _ [(sh_i r1)] _ _
  exact xr_iret rfl (by decide +kernel) k

theorem v_State_paidBehind {g : sh_G} {d : Nat} {S : Nat} {B : Nat} {thief : Nat} {nights : Int}  {mem : sh_Mem} {Q : Option sh_V → sh_Mem → Prop} (hS : ob8 S) (hB : ob0 B) (k : (sh_Cal g d m_State_muchBehind [(sh_r S), (sh_i (thief : Int)), (sh_i nights)] mem fun rv m1 => ∃ r1 : Int, rv = some (sh_i r1) ∧ ((0 < (i3 r1) → ((24 + thief) < 45 ∧ ((20 + thief) < 45 ∧ (sh_Cal g d m_Law_priceOf [(sh_r (B + 8)), (sh_i r1), (sh_i ((m1 (S + 1) (24 + thief)) + nights)), (sh_i (m1 (S + 1) (20 + thief))), (sh_i ((m1 (S + 1) 44) + nights))] m1 fun rv m2 => ∃ r2 : Int, rv = some (sh_i r2) ∧ Q (some (sh_i r2)) m2)))) ∧ (¬ 0 < (i3 r1) → Q (some (sh_i 0)) m1)))) : sh_Cal g (d + 1) m_State_paidBehind [(sh_r S), (sh_r B), (sh_i (thief : Int)), (sh_i nights)] mem Q := by
  refine sh_met (by decide +kernel) (Nat.le_of_ble_eq_true rfl) (lo := [(0, (sh_r S)), (1, (sh_r B)), (2, (sh_i (thief : Int))), (3, (sh_i nights))]) rfl ?_
  refine xr_aload_n (n := 0) (i := 0) rfl (List.mem_of_getElem? (i := 0) rfl) (by decide +kernel) ?_
  refine xr_iload_n (n := 2) (i := 2) rfl (List.mem_of_getElem? (i := 2) rfl) (by decide +kernel) ?_
  refine xr_iload_n (n := 3) (i := 3) rfl (List.mem_of_getElem? (i := 3) rfl) (by decide +kernel) ?_
  refine xr_callV (av := [(sh_i (thief : Int)), (sh_i nights)]) (ob8_0 hS) rfl rfl mo_State_muchBehind ml_State_83 im_State_muchBehind se_State_muchBehind rfl (Nat.le_of_ble_eq_true rfl) (by decide +kernel) (sh_mono k ?_)
  rintro rv m1 ⟨r1, rfl, k⟩
  show sh_X g (d + 1) m_State_paidBehind _ _ [(sh_i r1)] _ _
  refine xr_istore (i := 4) (by decide) rfl (by decide +kernel) ?_
  refine xr_iload (i := 4) (List.mem_of_getElem? (i := 0) rfl) (by decide +kernel) ?_
  refine xr_if_gt (a' := (i3 r1)) rfl (off := 5) (tgt := 15) (by decide) (by decide +kernel) ⟨fun c1 => ?_, fun c1 => ?_⟩
  · have k := k.1 c1
    refine xr_aload_n (n := 1) (i := 1) rfl (List.mem_of_getElem? (i := 2) rfl) (by decide +kernel) ?_
    refine xr_getR (o := 8) (ob0_0 hB) fl_State_102 rfl (by decide +kernel) ?_
    show sh_X g (d + 1) m_State_paidBehind _ _ ((sh_r (B + 8)) :: _) _ _
    refine xr_iload (i := 4) (List.mem_of_getElem? (i := 0) rfl) (by decide +kernel) ?_
    refine xr_aload_n (n := 0) (i := 0) rfl (List.mem_of_getElem? (i := 1) rfl) (by decide +kernel) ?_
    refine xr_getR (o := 1) (ob8_0 hS) fl_State_11 rfl (by decide +kernel) ?_
    show sh_X g (d + 1) m_State_paidBehind _ _ ((sh_r (S + 1)) :: _) _ _
    refine xr_bipush (n := 24) (v := 24) (by decide) (by decide +kernel) ?_
    refine xr_iload_n (n := 2) (i := 2) rfl (List.mem_of_getElem? (i := 3) rfl) (by decide +kernel) ?_
    refine xr_iadd (by decide +kernel) ?_
    show sh_X g (d + 1) m_State_paidBehind _ _ ((sh_i (((24 + thief) : Nat) : Int)) :: _) _ _
    obtain ⟨o, k⟩ := k
    refine xr_ialdN (j := (24 + thief)) rfl (ob8_1 hS) o (by decide +kernel) ?_
    refine xr_iload_n (n := 3) (i := 3) rfl (List.mem_of_getElem? (i := 4) rfl) (by decide +kernel) ?_
    refine xr_iadd (by decide +kernel) ?_
    show sh_X g (d + 1) m_State_paidBehind _ _ ((sh_i ((m1 (S + 1) (24 + thief)) + nights)) :: _) _ _
    refine xr_aload_n (n := 0) (i := 0) rfl (List.mem_of_getElem? (i := 1) rfl) (by decide +kernel) ?_
    refine xr_getR (o := 1) (ob8_0 hS) fl_State_11 rfl (by decide +kernel) ?_
    show sh_X g (d + 1) m_State_paidBehind _ _ ((sh_r (S + 1)) :: _) _ _
    refine xr_bipush (n := 20) (v := 20) (by decide) (by decide +kernel) ?_
    refine xr_iload_n (n := 2) (i := 2) rfl (List.mem_of_getElem? (i := 3) rfl) (by decide +kernel) ?_
    refine xr_iadd (by decide +kernel) ?_
    show sh_X g (d + 1) m_State_paidBehind _ _ ((sh_i (((20 + thief) : Nat) : Int)) :: _) _ _
    obtain ⟨o, k⟩ := k
    refine xr_ialdN (j := (20 + thief)) rfl (ob8_1 hS) o (by decide +kernel) ?_
    refine xr_aload_n (n := 0) (i := 0) rfl (List.mem_of_getElem? (i := 1) rfl) (by decide +kernel) ?_
    refine xr_getR (o := 1) (ob8_0 hS) fl_State_11 rfl (by decide +kernel) ?_
    show sh_X g (d + 1) m_State_paidBehind _ _ ((sh_r (S + 1)) :: _) _ _
    refine xr_bipush (n := 44) (v := 44) (by decide) (by decide +kernel) ?_
    refine xr_ialdN (j := 44) rfl (ob8_1 hS) (by decide) (by decide +kernel) ?_
    refine xr_iload_n (n := 3) (i := 3) rfl (List.mem_of_getElem? (i := 4) rfl) (by decide +kernel) ?_
    refine xr_iadd (by decide +kernel) ?_
    show sh_X g (d + 1) m_State_paidBehind _ _ ((sh_i ((m1 (S + 1) 44) + nights)) :: _) _ _
    refine xr_callV (av := [(sh_i r1), (sh_i ((m1 (S + 1) (24 + thief)) + nights)), (sh_i (m1 (S + 1) (20 + thief))), (sh_i ((m1 (S + 1) 44) + nights))]) (ob0_8 hB) rfl rfl mo_Law_priceOf ml_State_106 im_Law_priceOf se_Law_priceOf rfl (Nat.le_of_ble_eq_true rfl) (by decide +kernel) (sh_mono k ?_)
    rintro rv m2 ⟨r2, rfl, k⟩
    show sh_X g (d + 1) m_State_paidBehind _ _ [(sh_i r2)] _ _
    exact xr_iret rfl (by decide +kernel) k
  · have k := k.2 c1
    refine xr_iconst (n := 0) (by decide +kernel) ?_
    exact xr_iret rfl (by decide +kernel) k

theorem v_State_bestReadySkill {g : sh_G} {d : Nat} {S : Nat} {B : Nat}  {mem : sh_Mem} {Q : Option sh_V → sh_Mem → Prop} (hS : ob8 S) (hB : ob0 B) (k : sh_X g (d + 1) m_State_bestReadySkill 4 [(0, (sh_r S)), (1, (sh_r B)), (2, (sh_i (-1))), (3, (sh_i 0))] [] mem (sh_K m_State_bestReadySkill Q)) : sh_Cal g (d + 1) m_State_bestReadySkill [(sh_r S), (sh_r B)] mem Q := by
  refine sh_met (by decide +kernel) (Nat.le_of_ble_eq_true rfl) (lo := [(0, (sh_r S)), (1, (sh_r B))]) rfl ?_
  refine xr_iconst (n := (-1)) (by decide +kernel) ?_
  refine xr_istore_n (n := 2) (i := 2) rfl (by decide) rfl (by decide +kernel) ?_
  refine xr_iconst (n := 0) (by decide +kernel) ?_
  refine xr_istore_n (n := 3) (i := 3) rfl (by decide) rfl (by decide +kernel) ?_
  refine xr_sub (lo' := [(0, (sh_r S)), (1, (sh_r B)), (2, (sh_i (-1))), (3, (sh_i 0))]) [2, 3, 1, 0] rfl ?_
  exact k
theorem v_State_bestReadySkill_4 {g : sh_G} {d : Nat} {S : Nat} {B : Nat}  {mem : sh_Mem} {Q : Option sh_V → sh_Mem → Prop} (hS : ob8 S) (hB : ob0 B) {x2 : Int} {x3 : Nat} (k : (((i3 (mem B 1)) ≤ (i3 (x3 : Int)) → Q (some (sh_i x2)) mem) ∧ (¬ (i3 (mem B 1)) ≤ (i3 (x3 : Int)) → (sh_Cal g d m_State_isReady [(sh_r S), (sh_i (x3 : Int))] mem fun rv m1 => ∃ r1 : Int, rv = some (sh_i r1) ∧ (((i3 r1) = 0 → sh_X g (d + 1) m_State_bestReadySkill 4 [(0, (sh_r S)), (1, (sh_r B)), (2, (sh_i x2)), (3, (sh_i (((x3 + 1) : Nat) : Int)))] [] m1 (sh_K m_State_bestReadySkill Q)) ∧ (¬ (i3 r1) = 0 → (x3 < 4 ∧ sh_X g (d + 1) m_State_bestReadySkill 4 [(0, (sh_r S)), (1, (sh_r B)), (2, (sh_i (if (i3 x2) < (i3 (m1 (B + 6) x3)) then (m1 (B + 6) x3) else x2))), (3, (sh_i (((x3 + 1) : Nat) : Int)))] [] m1 (sh_K m_State_bestReadySkill Q)))))))) : sh_X g (d + 1) m_State_bestReadySkill 4 [(0, (sh_r S)), (1, (sh_r B)), (2, (sh_i x2)), (3, (sh_i (x3 : Int)))] [] mem (sh_K m_State_bestReadySkill Q) := by
  refine xr_iload_n (n := 3) (i := 3) rfl (List.mem_of_getElem? (i := 3) rfl) (by decide +kernel) ?_
  refine xr_aload_n (n := 1) (i := 1) rfl (List.mem_of_getElem? (i := 1) rfl) (by decide +kernel) ?_
  refine xr_getI (ob0_0 hB) fl_State_77 (by decide) (by decide +kernel) ?_
  refine xr_icmp_ge (a' := (i3 (x3 : Int))) (b' := (i3 (mem B 1))) rfl rfl (off := 28) (tgt := 37) (by decide) (by decide +kernel) ⟨fun c1 => ?_, fun c1 => ?_⟩
  · have k := k.1 c1
    refine xr_iload_n (n := 2) (i := 2) rfl (List.mem_of_getElem? (i := 2) rfl) (by decide +kernel) ?_
    exact xr_iret rfl (by decide +kernel) k
  · have k := k.2 c1
    refine xr_aload_n (n := 0) (i := 0) rfl (List.mem_of_getElem? (i := 0) rfl) (by decide +kernel) ?_
    refine xr_iload_n (n := 3) (i := 3) rfl (List.mem_of_getElem? (i := 3) rfl) (by decide +kernel) ?_
    refine xr_callV (av := [(sh_i (x3 : Int))]) (ob8_0 hS) rfl rfl mo_State_isReady ml_State_37 im_State_isReady se_State_isReady rfl (Nat.le_of_ble_eq_true rfl) (by decide +kernel) (sh_mono k ?_)
    rintro rv m1 ⟨r1, rfl, k⟩
    show sh_X g (d + 1) m_State_bestReadySkill _ _ [(sh_i r1)] _ _
    refine xr_if_eq (a' := (i3 r1)) rfl (off := 14) (tgt := 31) (by decide) (by decide +kernel) ⟨fun c2 => ?_, fun c2 => ?_⟩
    · have k := k.1 c2
      refine xr_iinc (n := 1) (lo' := [(3, (sh_i (((x3 + 1) : Nat) : Int))), (0, (sh_r S)), (1, (sh_r B)), (2, (sh_i x2))]) (List.mem_of_getElem? (i := 3) rfl) (by decide) rfl (by decide +kernel) ?_
      refine xr_goto (off := (-30)) (tgt := 4) (by decide) (by decide +kernel) ?_
      refine xr_sub (lo' := [(0, (sh_r S)), (1, (sh_r B)), (2, (sh_i x2)), (3, (sh_i (((x3 + 1) : Nat) : Int)))]) [1, 2, 3, 0] rfl ?_
      exact k
    · have k := k.2 c2
      refine xr_iload_n (n := 2) (i := 2) rfl (List.mem_of_getElem? (i := 2) rfl) (by decide +kernel) ?_
      refine xr_aload_n (n := 1) (i := 1) rfl (List.mem_of_getElem? (i := 1) rfl) (by decide +kernel) ?_
      refine xr_getR (o := 6) (ob0_0 hB) fl_State_47 rfl (by decide +kernel) ?_
      show sh_X g (d + 1) m_State_bestReadySkill _ _ ((sh_r (B + 6)) :: _) _ _
      refine xr_iload_n (n := 3) (i := 3) rfl (List.mem_of_getElem? (i := 3) rfl) (by decide +kernel) ?_
      obtain ⟨o, k⟩ := k
      refine xr_ialdN (j := x3) rfl (ob0_6 hB) o (by decide +kernel) ?_
      refine xr_mmax ml_State_70 (Nat.le_of_ble_eq_true rfl) (by decide +kernel) ?_
      refine xr_istore_n (n := 2) (i := 2) rfl (by decide) rfl (by decide +kernel) ?_
      refine xr_iinc (n := 1) (lo' := [(3, (sh_i (((x3 + 1) : Nat) : Int))), (2, (sh_i (if (i3 x2) < (i3 (m1 (B + 6) x3)) then (m1 (B + 6) x3) else x2))), (0, (sh_r S)), (1, (sh_r B))]) (List.mem_of_getElem? (i := 3) rfl) (by decide) rfl (by decide +kernel) ?_
      refine xr_goto (off := (-30)) (tgt := 4) (by decide) (by decide +kernel) ?_
      refine xr_sub (lo' := [(0, (sh_r S)), (1, (sh_r B)), (2, (sh_i (if (i3 x2) < (i3 (m1 (B + 6) x3)) then (m1 (B + 6) x3) else x2))), (3, (sh_i (((x3 + 1) : Nat) : Int)))]) [2, 3, 1, 0] rfl ?_
      exact k

theorem v_State_sumOfThieves {g : sh_G} {d : Nat} {S : Nat} {row : Nat}  {mem : sh_Mem} {Q : Option sh_V → sh_Mem → Prop} (hS : ob8 S) (k : sh_X g d m_State_sumOfThieves 4 [(0, (sh_r S)), (1, (sh_i (row : Int))), (2, (sh_i 0)), (3, (sh_i 0))] [] mem (sh_K m_State_sumOfThieves Q)) : sh_Cal g d m_State_sumOfThieves [(sh_r S), (sh_i (row : Int))] mem Q := by
  refine sh_met (by decide +kernel) (Nat.le_of_ble_eq_true rfl) (lo := [(0, (sh_r S)), (1, (sh_i (row : Int)))]) rfl ?_
  refine xr_iconst (n := 0) (by decide +kernel) ?_
  refine xr_istore_n (n := 2) (i := 2) rfl (by decide) rfl (by decide +kernel) ?_
  refine xr_iconst (n := 0) (by decide +kernel) ?_
  refine xr_istore_n (n := 3) (i := 3) rfl (by decide) rfl (by decide +kernel) ?_
  refine xr_sub (lo' := [(0, (sh_r S)), (1, (sh_i (row : Int))), (2, (sh_i 0)), (3, (sh_i 0))]) [2, 3, 1, 0] rfl ?_
  exact k
theorem v_State_sumOfThieves_4 {g : sh_G} {d : Nat} {S : Nat} {row : Nat}  {mem : sh_Mem} {Q : Option sh_V → sh_Mem → Prop} (hS : ob8 S) {x2 : Int} {x3 : Nat} (k : ((4 ≤ (i3 (x3 : Int)) → Q (some (sh_i x2)) mem) ∧ (¬ 4 ≤ (i3 (x3 : Int)) → ((row + x3) < 45 ∧ sh_X g d m_State_sumOfThieves 4 [(0, (sh_r S)), (1, (sh_i (row : Int))), (2, (sh_i (x2 + (mem (S + 1) (row + x3))))), (3, (sh_i (((x3 + 1) : Nat) : Int)))] [] mem (sh_K m_State_sumOfThieves Q))))) : sh_X g d m_State_sumOfThieves 4 [(0, (sh_r S)), (1, (sh_i (row : Int))), (2, (sh_i x2)), (3, (sh_i (x3 : Int)))] [] mem (sh_K m_State_sumOfThieves Q) := by
  refine xr_iload_n (n := 3) (i := 3) rfl (List.mem_of_getElem? (i := 3) rfl) (by decide +kernel) ?_
  refine xr_iconst (n := 4) (by decide +kernel) ?_
  refine xr_icmp_ge (a' := (i3 (x3 : Int))) (b' := 4) rfl (by decide) (off := 20) (tgt := 26) (by decide) (by decide +kernel) ⟨fun c1 => ?_, fun c1 => ?_⟩
  · have k := k.1 c1
    refine xr_iload_n (n := 2) (i := 2) rfl (List.mem_of_getElem? (i := 2) rfl) (by decide +kernel) ?_
    exact xr_iret rfl (by decide +kernel) k
  · have k := k.2 c1
    refine xr_iload_n (n := 2) (i := 2) rfl (List.mem_of_getElem? (i := 2) rfl) (by decide +kernel) ?_
    refine xr_aload_n (n := 0) (i := 0) rfl (List.mem_of_getElem? (i := 0) rfl) (by decide +kernel) ?_
    refine xr_getR (o := 1) (ob8_0 hS) fl_State_11 rfl (by decide +kernel) ?_
    show sh_X g d m_State_sumOfThieves _ _ ((sh_r (S + 1)) :: _) _ _
    refine xr_iload_n (n := 1) (i := 1) rfl (List.mem_of_getElem? (i := 1) rfl) (by decide +kernel) ?_
    refine xr_iload_n (n := 3) (i := 3) rfl (List.mem_of_getElem? (i := 3) rfl) (by decide +kernel) ?_
    refine xr_iadd (by decide +kernel) ?_
    show sh_X g d m_State_sumOfThieves _ _ ((sh_i (((row + x3) : Nat) : Int)) :: _) _ _
    obtain ⟨o, k⟩ := k
    refine xr_ialdN (j := (row + x3)) rfl (ob8_1 hS) o (by decide +kernel) ?_
    refine xr_iadd (by decide +kernel) ?_
    show sh_X g d m_State_sumOfThieves _ _ ((sh_i (x2 + (mem (S + 1) (row + x3)))) :: _) _ _
    refine xr_istore_n (n := 2) (i := 2) rfl (by decide) rfl (by decide +kernel) ?_
    refine xr_iinc (n := 1) (lo' := [(3, (sh_i (((x3 + 1) : Nat) : Int))), (2, (sh_i (x2 + (mem (S + 1) (row + x3))))), (0, (sh_r S)), (1, (sh_i (row : Int)))]) (List.mem_of_getElem? (i := 3) rfl) (by decide) rfl (by decide +kernel) ?_
    refine xr_goto (off := (-19)) (tgt := 4) (by decide) (by decide +kernel) ?_
    refine xr_sub (lo' := [(0, (sh_r S)), (1, (sh_i (row : Int))), (2, (sh_i (x2 + (mem (S + 1) (row + x3))))), (3, (sh_i (((x3 + 1) : Nat) : Int)))]) [2, 3, 1, 0] rfl ?_
    exact k

theorem v_State_holders {g : sh_G} {d : Nat} {S : Nat}  {mem : sh_Mem} {Q : Option sh_V → sh_Mem → Prop} (hS : ob8 S) (k : (sh_Cal g d m_State_bitsOf [(sh_r S), (sh_i 16)] mem fun rv m1 => ∃ r1 : Int, rv = some (sh_i r1) ∧ Q (some (sh_i r1)) m1)) : sh_Cal g (d + 1) m_State_holders [(sh_r S)] mem Q := by
  refine sh_met (by decide +kernel) (Nat.le_of_ble_eq_true rfl) (lo := [(0, (sh_r S))]) rfl ?_
  refine xr_aload_n (n := 0) (i := 0) rfl (List.mem_of_getElem? (i := 0) rfl) (by decide +kernel) ?_
  refine xr_bipush (n := 16) (v := 16) (by decide) (by decide +kernel) ?_
  refine xr_callV (av := [(sh_i 16)]) (ob8_0 hS) rfl rfl mo_State_bitsOf ml_State_112 im_State_bitsOf se_State_bitsOf rfl (Nat.le_of_ble_eq_true rfl) (by decide +kernel) (sh_mono k ?_)
  rintro rv m1 ⟨r1, rfl, k⟩
  show sh_X g (d + 1) m_State_holders _ _ [(sh_i r1)] _ _
  exact xr_iret rfl (by decide +kernel) k

theorem v_State_prisoners {g : sh_G} {d : Nat} {S : Nat}  {mem : sh_Mem} {Q : Option sh_V → sh_Mem → Prop} (hS : ob8 S) (k : (sh_Cal g d m_State_bitsOf [(sh_r S), (sh_i 28)] mem fun rv m1 => ∃ r1 : Int, rv = some (sh_i r1) ∧ Q (some (sh_i r1)) m1)) : sh_Cal g (d + 1) m_State_prisoners [(sh_r S)] mem Q := by
  refine sh_met (by decide +kernel) (Nat.le_of_ble_eq_true rfl) (lo := [(0, (sh_r S))]) rfl ?_
  refine xr_aload_n (n := 0) (i := 0) rfl (List.mem_of_getElem? (i := 0) rfl) (by decide +kernel) ?_
  refine xr_bipush (n := 28) (v := 28) (by decide) (by decide +kernel) ?_
  refine xr_callV (av := [(sh_i 28)]) (ob8_0 hS) rfl rfl mo_State_bitsOf ml_State_112 im_State_bitsOf se_State_bitsOf rfl (Nat.le_of_ble_eq_true rfl) (by decide +kernel) (sh_mono k ?_)
  rintro rv m1 ⟨r1, rfl, k⟩
  show sh_X g (d + 1) m_State_prisoners _ _ [(sh_i r1)] _ _
  exact xr_iret rfl (by decide +kernel) k

theorem v_State_bitsOf {g : sh_G} {d : Nat} {S : Nat} {row : Nat}  {mem : sh_Mem} {Q : Option sh_V → sh_Mem → Prop} (hS : ob8 S) (k : sh_X g d m_State_bitsOf 4 [(0, (sh_r S)), (1, (sh_i (row : Int))), (2, (sh_i 0)), (3, (sh_i 0))] [] mem (sh_K m_State_bitsOf Q)) : sh_Cal g d m_State_bitsOf [(sh_r S), (sh_i (row : Int))] mem Q := by
  refine sh_met (by decide +kernel) (Nat.le_of_ble_eq_true rfl) (lo := [(0, (sh_r S)), (1, (sh_i (row : Int)))]) rfl ?_
  refine xr_iconst (n := 0) (by decide +kernel) ?_
  refine xr_istore_n (n := 2) (i := 2) rfl (by decide) rfl (by decide +kernel) ?_
  refine xr_iconst (n := 0) (by decide +kernel) ?_
  refine xr_istore_n (n := 3) (i := 3) rfl (by decide) rfl (by decide +kernel) ?_
  refine xr_sub (lo' := [(0, (sh_r S)), (1, (sh_i (row : Int))), (2, (sh_i 0)), (3, (sh_i 0))]) [2, 3, 1, 0] rfl ?_
  exact k
theorem v_State_bitsOf_4 {g : sh_G} {d : Nat} {S : Nat} {row : Nat}  {mem : sh_Mem} {Q : Option sh_V → sh_Mem → Prop} (hS : ob8 S) {x2 : Int} {x3 : Nat} (k : ((4 ≤ (i3 (x3 : Int)) → Q (some (sh_i x2)) mem) ∧ (¬ 4 ≤ (i3 (x3 : Int)) → ((row + x3) < 45 ∧ (((i3 (mem (S + 1) (row + x3))) ≤ 0 → sh_X g d m_State_bitsOf 4 [(0, (sh_r S)), (1, (sh_i (row : Int))), (2, (sh_i x2)), (3, (sh_i (((x3 + 1) : Nat) : Int)))] [] mem (sh_K m_State_bitsOf Q)) ∧ (¬ (i3 (mem (S + 1) (row + x3))) ≤ 0 → sh_X g d m_State_bitsOf 4 [(0, (sh_r S)), (1, (sh_i (row : Int))), (2, (sh_i (i_or x2 (i_shl 1 (x3 : Int))))), (3, (sh_i (((x3 + 1) : Nat) : Int)))] [] mem (sh_K m_State_bitsOf Q))))))) : sh_X g d m_State_bitsOf 4 [(0, (sh_r S)), (1, (sh_i (row : Int))), (2, (sh_i x2)), (3, (sh_i (x3 : Int)))] [] mem (sh_K m_State_bitsOf Q) := by
  refine xr_iload_n (n := 3) (i := 3) rfl (List.mem_of_getElem? (i := 3) rfl) (by decide +kernel) ?_
  refine xr_iconst (n := 4) (by decide +kernel) ?_
  refine xr_icmp_ge (a' := (i3 (x3 : Int))) (b' := 4) rfl (by decide) (off := 26) (tgt := 32) (by decide) (by decide +kernel) ⟨fun c1 => ?_, fun c1 => ?_⟩
  · have k := k.1 c1
    refine xr_iload_n (n := 2) (i := 2) rfl (List.mem_of_getElem? (i := 2) rfl) (by decide +kernel) ?_
    exact xr_iret rfl (by decide +kernel) k
  · have k := k.2 c1
    refine xr_aload_n (n := 0) (i := 0) rfl (List.mem_of_getElem? (i := 0) rfl) (by decide +kernel) ?_
    refine xr_getR (o := 1) (ob8_0 hS) fl_State_11 rfl (by decide +kernel) ?_
    show sh_X g d m_State_bitsOf _ _ ((sh_r (S + 1)) :: _) _ _
    refine xr_iload_n (n := 1) (i := 1) rfl (List.mem_of_getElem? (i := 1) rfl) (by decide +kernel) ?_
    refine xr_iload_n (n := 3) (i := 3) rfl (List.mem_of_getElem? (i := 3) rfl) (by decide +kernel) ?_
    refine xr_iadd (by decide +kernel) ?_
    show sh_X g d m_State_bitsOf _ _ ((sh_i (((row + x3) : Nat) : Int)) :: _) _ _
    obtain ⟨o, k⟩ := k
    refine xr_ialdN (j := (row + x3)) rfl (ob8_1 hS) o (by decide +kernel) ?_
    refine xr_if_le (a' := (i3 (mem (S + 1) (row + x3)))) rfl (off := 9) (tgt := 26) (by decide) (by decide +kernel) ⟨fun c2 => ?_, fun c2 => ?_⟩
    · have k := k.1 c2
      refine xr_iinc (n := 1) (lo' := [(3, (sh_i (((x3 + 1) : Nat) : Int))), (0, (sh_r S)), (1, (sh_i (row : Int))), (2, (sh_i x2))]) (List.mem_of_getElem? (i := 3) rfl) (by decide) rfl (by decide +kernel) ?_
      refine xr_goto (off := (-25)) (tgt := 4) (by decide) (by decide +kernel) ?_
      refine xr_sub (lo' := [(0, (sh_r S)), (1, (sh_i (row : Int))), (2, (sh_i x2)), (3, (sh_i (((x3 + 1) : Nat) : Int)))]) [1, 2, 3, 0] rfl ?_
      exact k
    · have k := k.2 c2
      refine xr_iload_n (n := 2) (i := 2) rfl (List.mem_of_getElem? (i := 2) rfl) (by decide +kernel) ?_
      refine xr_iconst (n := 1) (by decide +kernel) ?_
      refine xr_iload_n (n := 3) (i := 3) rfl (List.mem_of_getElem? (i := 3) rfl) (by decide +kernel) ?_
      refine xr_ishl (by decide +kernel) ?_
      refine xr_ior (by decide +kernel) ?_
      refine xr_istore_n (n := 2) (i := 2) rfl (by decide) rfl (by decide +kernel) ?_
      refine xr_iinc (n := 1) (lo' := [(3, (sh_i (((x3 + 1) : Nat) : Int))), (2, (sh_i (i_or x2 (i_shl 1 (x3 : Int))))), (0, (sh_r S)), (1, (sh_i (row : Int)))]) (List.mem_of_getElem? (i := 3) rfl) (by decide) rfl (by decide +kernel) ?_
      refine xr_goto (off := (-25)) (tgt := 4) (by decide) (by decide +kernel) ?_
      refine xr_sub (lo' := [(0, (sh_r S)), (1, (sh_i (row : Int))), (2, (sh_i (i_or x2 (i_shl 1 (x3 : Int))))), (3, (sh_i (((x3 + 1) : Nat) : Int)))]) [2, 3, 1, 0] rfl ?_
      exact k
