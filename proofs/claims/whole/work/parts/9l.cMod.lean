theorem ck_sub {g : sh_G} {d mc ms : Nat} {M : sh_M} {pc : Nat} {lo lo' : List (Nat × sh_V)} {st : List sh_V} {n : Nat} {F : Nat → va_E} {ce sl : Nat} {K : ck_T} (ks : List Nat) (hl : ks.filterMap (fun k => lo[k]?) = lo') (k : ck_X g d mc ms M pc lo' st n F ce sl K) : ck_X g d mc ms M pc lo st n F ce sl K := by
  intro p e R s m args below meth c A H locs ls Qf C Rl hk
  refine k p e R s m args below meth c A H locs ls Qf C ⟨Rl.1, Rl.2.1, Rl.2.2.1, Rl.2.2.2.1, fun q hq => ?_⟩ hk
  rw [← hl] at hq
  obtain ⟨q0, hq0, e0⟩ := List.mem_map.mp hq
  obtain ⟨i, -, hi⟩ := List.mem_filterMap.mp hq0
  rw [← e0]
  exact Rl.2.2.2.2 _ (List.mem_map_of_mem (List.mem_of_getElem? hi))
/-! ===== the reference is made ===== -/
def rkF (x : Nat) : Nat → Int := fun k => if k < x ∧ 21 ≤ k ∧ k < 29 then -1 else 0
theorem rkF_S (x : Nat) (v : Int) (hv : v = if 21 ≤ x ∧ x < 29 then -1 else 0) : ru (rkF x) x v = rkF (x + 1) := by
  funext k; unfold ru rkF
  by_cases e : k = x
  · rw [if_pos e, e, hv]
    by_cases z : 21 ≤ x ∧ x < 29
    · rw [if_pos z, if_pos ⟨by omega, z⟩]
    · rw [if_neg z, if_neg (fun w => z w.2)]
  · rw [if_neg e]
    by_cases z : k < x ∧ 21 ≤ k ∧ k < 29
    · rw [if_pos z, if_pos ⟨by omega, z.2⟩]
    · rw [if_neg z, if_neg (fun w => z ⟨by omega, w.2⟩)]
theorem rkF_0 : rkF 0 = fun _ => 0 := by funext k; unfold rkF; rw [if_neg (by omega)]
theorem l_fresh2 {g : sh_G} {d : Nat} {F : Nat → va_E} {fs : List Value} (h96 : F 96 = .inr (12, fs)) (hs : fs[44]? = some (sh_cv g (sh_r 129))) (ha : fs[10]? = some (sh_cv g (sh_r 98))) (h98 : F 98 = .inl (g.2.2.2.1 0, 4, sh_ac g 0 (fun _ => 0))) : ∀ (k x : Nat), x + k = 45 →
    ck_X g d 0 0 m_Mod_fresh0 2 [(0, sh_r 96), (1, sh_i (x : Int))] [] 138 (fu F 129 (.inl (g.2.2.2.1 0, 45, sh_ac g 0 (rkF x)))) 0 0 (ck_K m_Mod_fresh0 0 0 138 (fu F 129 (.inl (g.2.2.2.1 0, 45, sh_ac g 0 (rkF 45)))))
  | 0, x, hx => by
    obtain rfl : x = 45 := by omega
    refine ck_iload_n (q := 1) (i := 1) rfl (List.mem_of_getElem? (i := 1) rfl) (by decide +kernel) ?_
    refine ck_bipush (x := 45) (v := 45) (by decide) (by decide +kernel) ?_
    refine ck_icmp_ge (a' := 45) (b' := 45) rfl rfl (off := 32) (tgt := 37) (by decide) (by decide +kernel) ⟨fun _ => ?_, fun c => absurd (by decide) c⟩
    refine ck_iconst (x := 0) (by decide +kernel) ?_
    refine ck_istore_n (q := 1) (i := 1) (lo' := [(1, sh_i 0), (0, sh_r 96)]) rfl (by decide) rfl (by decide +kernel) ?_
    refine ck_iload_n (q := 1) (i := 1) rfl (List.mem_of_getElem? (i := 0) rfl) (by decide +kernel) ?_
    refine ck_aload_n (q := 0) (i := 0) rfl (List.mem_of_getElem? (i := 1) rfl) (by decide +kernel) ?_
    refine ck_get (v := sh_r 98) ((fu_n _ _ (by decide)).trans h96) (by decide) (by decide) (by decide) fl_Mod_13 ha (by decide +kernel) ?_
    refine ck_iconst (x := 0) (by decide +kernel) ?_
    refine ck_iald ((fu_n _ _ (by decide)).trans h98) (by decide) (by decide) (by decide) (by decide) (by decide) (by decide) (by decide +kernel) ?_
    refine ck_icmp_ge (a' := 0) (b' := 0) rfl rfl (off := 38) (tgt := 84) (by decide) (by decide +kernel) ⟨fun _ => ?_, fun c => absurd (by decide) c⟩
    exact ck_ret (by decide +kernel)
  | k + 1, x, hx => by
    refine ck_iload_n (q := 1) (i := 1) rfl (List.mem_of_getElem? (i := 1) rfl) (by decide +kernel) ?_
    refine ck_bipush (x := 45) (v := 45) (by decide) (by decide +kernel) ?_
    refine ck_icmp_ge (a' := (x : Int)) (b' := 45) (i3n (by omega)) rfl (off := 32) (tgt := 37) (by decide) (by decide +kernel) ⟨fun c => by omega, fun _ => ?_⟩
    refine ck_aload_n (q := 0) (i := 0) rfl (List.mem_of_getElem? (i := 0) rfl) (by decide +kernel) ?_
    refine ck_get (v := sh_r 129) ((fu_n _ _ (by decide)).trans h96) (by decide) (by decide) (by decide) fl_Mod_108 hs (by decide +kernel) ?_
    refine ck_iload_n (q := 1) (i := 1) rfl (List.mem_of_getElem? (i := 1) rfl) (by decide +kernel) ?_
    have go : ∀ v : Int, v = (if 21 ≤ x ∧ x < 29 then -1 else 0) → ck_X g d 0 0 m_Mod_fresh0 30 [(0, sh_r 96), (1, sh_i (x : Int))] [sh_i v, sh_i (x : Int), sh_r 129] 138 (fu F 129 (.inl (g.2.2.2.1 0, 45, sh_ac g 0 (rkF x)))) 0 0 (ck_K m_Mod_fresh0 0 0 138 (fu F 129 (.inl (g.2.2.2.1 0, 45, sh_ac g 0 (rkF 45))))) := by
      intro v hv
      refine ck_iast (fu_s _ _ _) (by decide) (by decide) (by decide) (by decide) (by omega) (by omega) (by decide +kernel) ?_
      refine ck_iinc (i := 1) (v := 1) (x := (x : Int)) (lo' := [(1, sh_i ((x : Int) + 1)), (0, sh_r 96)]) (List.mem_of_getElem? (i := 1) rfl) (by decide) rfl (by decide +kernel) ?_
      refine ck_goto (off := -32) (tgt := 2) (by decide) (by decide +kernel) ?_
      rw [fu_fu, Int.toNat_natCast, rkF_S x v hv, show (x : Int) + 1 = ((x + 1 : Nat) : Int) by omega]
      refine ck_sub (lo' := [(0, sh_r 96), (1, sh_i ((x + 1 : Nat) : Int))]) [1, 0] rfl ?_
      exact l_fresh2 h96 hs ha h98 k (x + 1) (by omega)
    refine ck_iload_n (q := 1) (i := 1) rfl (List.mem_of_getElem? (i := 1) rfl) (by decide +kernel) ?_
    refine ck_bipush (x := 21) (v := 21) (by decide) (by decide +kernel) ?_
    refine ck_icmp_lt (a' := (x : Int)) (b' := 21) (i3n (by omega)) rfl (off := 13) (tgt := 29) (by decide) (by decide +kernel) ⟨fun c => ?_, fun c => ?_⟩
    · refine ck_iconst (x := 0) (by decide +kernel) ?_
      exact go 0 (by rw [if_neg (by omega)])
    · refine ck_iload_n (q := 1) (i := 1) rfl (List.mem_of_getElem? (i := 1) rfl) (by decide +kernel) ?_
      refine ck_bipush (x := 29) (v := 29) (by decide) (by decide +kernel) ?_
      refine ck_icmp_ge (a' := (x : Int)) (b' := 29) (i3n (by omega)) rfl (off := 7) (tgt := 29) (by decide) (by decide +kernel) ⟨fun c2 => ?_, fun c2 => ?_⟩
      · refine ck_iconst (x := 0) (by decide +kernel) ?_
        exact go 0 (by rw [if_neg (by omega)])
      · refine ck_iconst (x := -1) (by decide +kernel) ?_
        refine ck_goto (off := 4) (tgt := 30) (by decide) (by decide +kernel) ?_
        exact go (-1) (by rw [if_pos (by omega)])
theorem k_fresh0 {g : sh_G} {d : Nat} {F : Nat → va_E} {fs : List Value} (h96 : F 96 = .inr (12, fs)) (hs : fs[44]? = some (sh_cv g (sh_r 129))) (ha : fs[10]? = some (sh_cv g (sh_r 98))) (h98 : F 98 = .inl (g.2.2.2.1 0, 4, sh_ac g 0 (fun _ => 0))) (h129 : F 129 = .inl (g.2.2.2.1 0, 45, sh_ac g 0 (fun _ => 0))) : ck_Cal g d 0 0 m_Mod_fresh0 [sh_r 96] 138 F 138 (fu F 129 (.inl (g.2.2.2.1 0, 45, sh_ac g 0 (rkF 45)))) := by
  have e : fu F 129 (.inl (g.2.2.2.1 0, 45, sh_ac g 0 (rkF 0))) = F := by
    rw [rkF_0, ← h129]
    funext b; unfold fu; split
    · rename_i z; rw [z]
    · rfl
  refine ck_met (by decide +kernel) (Nat.le_of_ble_eq_true rfl) (lo := [(0, sh_r 96)]) rfl rfl ?_
  refine ck_iconst (x := 0) (by decide +kernel) ?_
  refine ck_istore_n (q := 1) (i := 1) (lo' := [(1, sh_i ((0 : Nat) : Int)), (0, sh_r 96)]) rfl (by decide) rfl (by decide +kernel) ?_
  refine ck_sub (lo' := [(0, sh_r 96), (1, sh_i ((0 : Nat) : Int))]) [1, 0] rfl ?_
  have q := l_fresh2 (d := d) h96 hs ha h98 45 0 (by omega)
  rw [e] at q
  exact q
def mfs0 : List Value := [.int 0, .int 0, .null, .int 0, .int 0, .int 0, .int 0, .long 0, .int 0, .int 0, .null, .null, .null, .null, .null, .null, .null, .null, .null, .null, .null, .int 0, .null, .null, .null, .null, .null, .null, .null, .null, .null, .null, .null, .null, .int 0, .long 0, .null, .null, .null, .null, .null, .null, .null, .null, .null, .null, .null, .null, .null, .null, .null, .int 0, .int 0, .null, .null, .int 0, .int 0, .null, .long 0]
theorem mfsL0 : mfs0.length = 59 := rfl
def mfs1 (g : sh_G) : List Value := (mfs0).set 2 (sh_cv g (sh_r 97))
theorem mfsX1 (g : sh_G) : mfs1 g = [.int 0, .int 0, sh_cv g (sh_r 97), .int 0, .int 0, .int 0, .int 0, .long 0, .int 0, .int 0, .null, .null, .null, .null, .null, .null, .null, .null, .null, .null, .null, .int 0, .null, .null, .null, .null, .null, .null, .null, .null, .null, .null, .null, .null, .int 0, .long 0, .null, .null, .null, .null, .null, .null, .null, .null, .null, .null, .null, .null, .null, .null, .null, .int 0, .int 0, .null, .null, .int 0, .int 0, .null, .long 0] := by
  show (mfs0).set 2 (sh_cv g (sh_r 97)) = _
  rfl
theorem mfsL1 (g : sh_G) : (mfs1 g).length = 59 := by unfold mfs1; rw [List.length_set]; exact mfsL0
def mF1 (g : sh_G) (F : Nat → va_E) : Nat → va_E := fu (fu (F) 97 (.inl (g.2.2.2.1 0, 1000, sh_ac g 0 (fun _ => 0)))) 96 (.inr (12, mfs1 g))
def mfs2 (g : sh_G) : List Value := (mfs1 g).set 10 (sh_cv g (sh_r 98))
theorem mfsX2 (g : sh_G) : mfs2 g = [.int 0, .int 0, sh_cv g (sh_r 97), .int 0, .int 0, .int 0, .int 0, .long 0, .int 0, .int 0, sh_cv g (sh_r 98), .null, .null, .null, .null, .null, .null, .null, .null, .null, .null, .int 0, .null, .null, .null, .null, .null, .null, .null, .null, .null, .null, .null, .null, .int 0, .long 0, .null, .null, .null, .null, .null, .null, .null, .null, .null, .null, .null, .null, .null, .null, .null, .int 0, .int 0, .null, .null, .int 0, .int 0, .null, .long 0] := by
  show (mfs1 g).set 10 (sh_cv g (sh_r 98)) = _
  rw [mfsX1]
  rfl
theorem mfsL2 (g : sh_G) : (mfs2 g).length = 59 := by unfold mfs2; rw [List.length_set]; exact mfsL1 g
def mF2 (g : sh_G) (F : Nat → va_E) : Nat → va_E := fu (fu (mF1 g F) 98 (.inl (g.2.2.2.1 0, 4, sh_ac g 0 (fun _ => 0)))) 96 (.inr (12, mfs2 g))
def mfs3 (g : sh_G) : List Value := (mfs2 g).set 11 (sh_cv g (sh_r 99))
theorem mfsX3 (g : sh_G) : mfs3 g = [.int 0, .int 0, sh_cv g (sh_r 97), .int 0, .int 0, .int 0, .int 0, .long 0, .int 0, .int 0, sh_cv g (sh_r 98), sh_cv g (sh_r 99), .null, .null, .null, .null, .null, .null, .null, .null, .null, .int 0, .null, .null, .null, .null, .null, .null, .null, .null, .null, .null, .null, .null, .int 0, .long 0, .null, .null, .null, .null, .null, .null, .null, .null, .null, .null, .null, .null, .null, .null, .null, .int 0, .int 0, .null, .null, .int 0, .int 0, .null, .long 0] := by
  show (mfs2 g).set 11 (sh_cv g (sh_r 99)) = _
  rw [mfsX2]
  rfl
theorem mfsL3 (g : sh_G) : (mfs3 g).length = 59 := by unfold mfs3; rw [List.length_set]; exact mfsL2 g
def mF3 (g : sh_G) (F : Nat → va_E) : Nat → va_E := fu (fu (mF2 g F) 99 (.inl (g.2.2.2.1 1, 16, sh_ac g 1 (fun _ => 0)))) 96 (.inr (12, mfs3 g))
def mfs4 (g : sh_G) : List Value := (mfs3 g).set 12 (sh_cv g (sh_r 100))
theorem mfsX4 (g : sh_G) : mfs4 g = [.int 0, .int 0, sh_cv g (sh_r 97), .int 0, .int 0, .int 0, .int 0, .long 0, .int 0, .int 0, sh_cv g (sh_r 98), sh_cv g (sh_r 99), sh_cv g (sh_r 100), .null, .null, .null, .null, .null, .null, .null, .null, .int 0, .null, .null, .null, .null, .null, .null, .null, .null, .null, .null, .null, .null, .int 0, .long 0, .null, .null, .null, .null, .null, .null, .null, .null, .null, .null, .null, .null, .null, .null, .null, .int 0, .int 0, .null, .null, .int 0, .int 0, .null, .long 0] := by
  show (mfs3 g).set 12 (sh_cv g (sh_r 100)) = _
  rw [mfsX3]
  rfl
theorem mfsL4 (g : sh_G) : (mfs4 g).length = 59 := by unfold mfs4; rw [List.length_set]; exact mfsL3 g
def mF4 (g : sh_G) (F : Nat → va_E) : Nat → va_E := fu (fu (mF3 g F) 100 (.inl (g.2.2.2.1 1, 8, sh_ac g 1 (fun _ => 0)))) 96 (.inr (12, mfs4 g))
def mfs5 (g : sh_G) : List Value := (mfs4 g).set 13 (sh_cv g (sh_r 101))
theorem mfsX5 (g : sh_G) : mfs5 g = [.int 0, .int 0, sh_cv g (sh_r 97), .int 0, .int 0, .int 0, .int 0, .long 0, .int 0, .int 0, sh_cv g (sh_r 98), sh_cv g (sh_r 99), sh_cv g (sh_r 100), sh_cv g (sh_r 101), .null, .null, .null, .null, .null, .null, .null, .int 0, .null, .null, .null, .null, .null, .null, .null, .null, .null, .null, .null, .null, .int 0, .long 0, .null, .null, .null, .null, .null, .null, .null, .null, .null, .null, .null, .null, .null, .null, .null, .int 0, .int 0, .null, .null, .int 0, .int 0, .null, .long 0] := by
  show (mfs4 g).set 13 (sh_cv g (sh_r 101)) = _
  rw [mfsX4]
  rfl
theorem mfsL5 (g : sh_G) : (mfs5 g).length = 59 := by unfold mfs5; rw [List.length_set]; exact mfsL4 g
def mF5 (g : sh_G) (F : Nat → va_E) : Nat → va_E := fu (fu (mF4 g F) 101 (.inl (g.2.2.2.1 0, 16, sh_ac g 0 (fun _ => 0)))) 96 (.inr (12, mfs5 g))
def mfs6 (g : sh_G) : List Value := (mfs5 g).set 14 (sh_cv g (sh_r 102))
theorem mfsX6 (g : sh_G) : mfs6 g = [.int 0, .int 0, sh_cv g (sh_r 97), .int 0, .int 0, .int 0, .int 0, .long 0, .int 0, .int 0, sh_cv g (sh_r 98), sh_cv g (sh_r 99), sh_cv g (sh_r 100), sh_cv g (sh_r 101), sh_cv g (sh_r 102), .null, .null, .null, .null, .null, .null, .int 0, .null, .null, .null, .null, .null, .null, .null, .null, .null, .null, .null, .null, .int 0, .long 0, .null, .null, .null, .null, .null, .null, .null, .null, .null, .null, .null, .null, .null, .null, .null, .int 0, .int 0, .null, .null, .int 0, .int 0, .null, .long 0] := by
  show (mfs5 g).set 14 (sh_cv g (sh_r 102)) = _
  rw [mfsX5]
  rfl
theorem mfsL6 (g : sh_G) : (mfs6 g).length = 59 := by unfold mfs6; rw [List.length_set]; exact mfsL5 g
def mF6 (g : sh_G) (F : Nat → va_E) : Nat → va_E := fu (fu (mF5 g F) 102 (.inl (g.2.2.2.1 0, 16, sh_ac g 0 (fun _ => 0)))) 96 (.inr (12, mfs6 g))
def mfs7 (g : sh_G) : List Value := (mfs6 g).set 15 (sh_cv g (sh_r 103))
theorem mfsX7 (g : sh_G) : mfs7 g = [.int 0, .int 0, sh_cv g (sh_r 97), .int 0, .int 0, .int 0, .int 0, .long 0, .int 0, .int 0, sh_cv g (sh_r 98), sh_cv g (sh_r 99), sh_cv g (sh_r 100), sh_cv g (sh_r 101), sh_cv g (sh_r 102), sh_cv g (sh_r 103), .null, .null, .null, .null, .null, .int 0, .null, .null, .null, .null, .null, .null, .null, .null, .null, .null, .null, .null, .int 0, .long 0, .null, .null, .null, .null, .null, .null, .null, .null, .null, .null, .null, .null, .null, .null, .null, .int 0, .int 0, .null, .null, .int 0, .int 0, .null, .long 0] := by
  show (mfs6 g).set 15 (sh_cv g (sh_r 103)) = _
  rw [mfsX6]
  rfl
theorem mfsL7 (g : sh_G) : (mfs7 g).length = 59 := by unfold mfs7; rw [List.length_set]; exact mfsL6 g
def mF7 (g : sh_G) (F : Nat → va_E) : Nat → va_E := fu (fu (mF6 g F) 103 (.inl (g.2.2.2.1 0, 16, sh_ac g 0 (fun _ => 0)))) 96 (.inr (12, mfs7 g))
def mfs8 (g : sh_G) : List Value := (mfs7 g).set 16 (sh_cv g (sh_r 104))
theorem mfsX8 (g : sh_G) : mfs8 g = [.int 0, .int 0, sh_cv g (sh_r 97), .int 0, .int 0, .int 0, .int 0, .long 0, .int 0, .int 0, sh_cv g (sh_r 98), sh_cv g (sh_r 99), sh_cv g (sh_r 100), sh_cv g (sh_r 101), sh_cv g (sh_r 102), sh_cv g (sh_r 103), sh_cv g (sh_r 104), .null, .null, .null, .null, .int 0, .null, .null, .null, .null, .null, .null, .null, .null, .null, .null, .null, .null, .int 0, .long 0, .null, .null, .null, .null, .null, .null, .null, .null, .null, .null, .null, .null, .null, .null, .null, .int 0, .int 0, .null, .null, .int 0, .int 0, .null, .long 0] := by
  show (mfs7 g).set 16 (sh_cv g (sh_r 104)) = _
  rw [mfsX7]
  rfl
theorem mfsL8 (g : sh_G) : (mfs8 g).length = 59 := by unfold mfs8; rw [List.length_set]; exact mfsL7 g
def mF8 (g : sh_G) (F : Nat → va_E) : Nat → va_E := fu (fu (mF7 g F) 104 (.inl (g.2.2.2.1 0, 8, sh_ac g 0 (fun _ => 0)))) 96 (.inr (12, mfs8 g))
def mfs9 (g : sh_G) : List Value := (mfs8 g).set 17 (sh_cv g (sh_r 105))
theorem mfsX9 (g : sh_G) : mfs9 g = [.int 0, .int 0, sh_cv g (sh_r 97), .int 0, .int 0, .int 0, .int 0, .long 0, .int 0, .int 0, sh_cv g (sh_r 98), sh_cv g (sh_r 99), sh_cv g (sh_r 100), sh_cv g (sh_r 101), sh_cv g (sh_r 102), sh_cv g (sh_r 103), sh_cv g (sh_r 104), sh_cv g (sh_r 105), .null, .null, .null, .int 0, .null, .null, .null, .null, .null, .null, .null, .null, .null, .null, .null, .null, .int 0, .long 0, .null, .null, .null, .null, .null, .null, .null, .null, .null, .null, .null, .null, .null, .null, .null, .int 0, .int 0, .null, .null, .int 0, .int 0, .null, .long 0] := by
  show (mfs8 g).set 17 (sh_cv g (sh_r 105)) = _
  rw [mfsX8]
  rfl
theorem mfsL9 (g : sh_G) : (mfs9 g).length = 59 := by unfold mfs9; rw [List.length_set]; exact mfsL8 g
def mF9 (g : sh_G) (F : Nat → va_E) : Nat → va_E := fu (fu (mF8 g F) 105 (.inl (g.2.2.2.1 0, 8, sh_ac g 0 (fun _ => 0)))) 96 (.inr (12, mfs9 g))
def mfs10 (g : sh_G) : List Value := (mfs9 g).set 18 (sh_cv g (sh_r 106))
theorem mfsX10 (g : sh_G) : mfs10 g = [.int 0, .int 0, sh_cv g (sh_r 97), .int 0, .int 0, .int 0, .int 0, .long 0, .int 0, .int 0, sh_cv g (sh_r 98), sh_cv g (sh_r 99), sh_cv g (sh_r 100), sh_cv g (sh_r 101), sh_cv g (sh_r 102), sh_cv g (sh_r 103), sh_cv g (sh_r 104), sh_cv g (sh_r 105), sh_cv g (sh_r 106), .null, .null, .int 0, .null, .null, .null, .null, .null, .null, .null, .null, .null, .null, .null, .null, .int 0, .long 0, .null, .null, .null, .null, .null, .null, .null, .null, .null, .null, .null, .null, .null, .null, .null, .int 0, .int 0, .null, .null, .int 0, .int 0, .null, .long 0] := by
  show (mfs9 g).set 18 (sh_cv g (sh_r 106)) = _
  rw [mfsX9]
  rfl
theorem mfsL10 (g : sh_G) : (mfs10 g).length = 59 := by unfold mfs10; rw [List.length_set]; exact mfsL9 g
def mF10 (g : sh_G) (F : Nat → va_E) : Nat → va_E := fu (fu (mF9 g F) 106 (.inl (g.2.2.2.1 0, 2, sh_ac g 0 (fun _ => 0)))) 96 (.inr (12, mfs10 g))
def mfs11 (g : sh_G) : List Value := (mfs10 g).set 19 (sh_cv g (sh_r 107))
theorem mfsX11 (g : sh_G) : mfs11 g = [.int 0, .int 0, sh_cv g (sh_r 97), .int 0, .int 0, .int 0, .int 0, .long 0, .int 0, .int 0, sh_cv g (sh_r 98), sh_cv g (sh_r 99), sh_cv g (sh_r 100), sh_cv g (sh_r 101), sh_cv g (sh_r 102), sh_cv g (sh_r 103), sh_cv g (sh_r 104), sh_cv g (sh_r 105), sh_cv g (sh_r 106), sh_cv g (sh_r 107), .null, .int 0, .null, .null, .null, .null, .null, .null, .null, .null, .null, .null, .null, .null, .int 0, .long 0, .null, .null, .null, .null, .null, .null, .null, .null, .null, .null, .null, .null, .null, .null, .null, .int 0, .int 0, .null, .null, .int 0, .int 0, .null, .long 0] := by
  show (mfs10 g).set 19 (sh_cv g (sh_r 107)) = _
  rw [mfsX10]
  rfl
theorem mfsL11 (g : sh_G) : (mfs11 g).length = 59 := by unfold mfs11; rw [List.length_set]; exact mfsL10 g
def mF11 (g : sh_G) (F : Nat → va_E) : Nat → va_E := fu (fu (mF10 g F) 107 (.inl (g.2.2.2.1 0, 2, sh_ac g 0 (fun _ => 0)))) 96 (.inr (12, mfs11 g))
def mfs12 (g : sh_G) : List Value := (mfs11 g).set 20 (sh_cv g (sh_r 108))
theorem mfsX12 (g : sh_G) : mfs12 g = [.int 0, .int 0, sh_cv g (sh_r 97), .int 0, .int 0, .int 0, .int 0, .long 0, .int 0, .int 0, sh_cv g (sh_r 98), sh_cv g (sh_r 99), sh_cv g (sh_r 100), sh_cv g (sh_r 101), sh_cv g (sh_r 102), sh_cv g (sh_r 103), sh_cv g (sh_r 104), sh_cv g (sh_r 105), sh_cv g (sh_r 106), sh_cv g (sh_r 107), sh_cv g (sh_r 108), .int 0, .null, .null, .null, .null, .null, .null, .null, .null, .null, .null, .null, .null, .int 0, .long 0, .null, .null, .null, .null, .null, .null, .null, .null, .null, .null, .null, .null, .null, .null, .null, .int 0, .int 0, .null, .null, .int 0, .int 0, .null, .long 0] := by
  show (mfs11 g).set 20 (sh_cv g (sh_r 108)) = _
  rw [mfsX11]
  rfl
theorem mfsL12 (g : sh_G) : (mfs12 g).length = 59 := by unfold mfs12; rw [List.length_set]; exact mfsL11 g
def mF12 (g : sh_G) (F : Nat → va_E) : Nat → va_E := fu (fu (mF11 g F) 108 (.inl (g.2.2.2.1 0, 2000, sh_ac g 0 (fun _ => 0)))) 96 (.inr (12, mfs12 g))
def mfs13 (g : sh_G) : List Value := (mfs12 g).set 22 (sh_cv g (sh_r 109))
theorem mfsX13 (g : sh_G) : mfs13 g = [.int 0, .int 0, sh_cv g (sh_r 97), .int 0, .int 0, .int 0, .int 0, .long 0, .int 0, .int 0, sh_cv g (sh_r 98), sh_cv g (sh_r 99), sh_cv g (sh_r 100), sh_cv g (sh_r 101), sh_cv g (sh_r 102), sh_cv g (sh_r 103), sh_cv g (sh_r 104), sh_cv g (sh_r 105), sh_cv g (sh_r 106), sh_cv g (sh_r 107), sh_cv g (sh_r 108), .int 0, sh_cv g (sh_r 109), .null, .null, .null, .null, .null, .null, .null, .null, .null, .null, .null, .int 0, .long 0, .null, .null, .null, .null, .null, .null, .null, .null, .null, .null, .null, .null, .null, .null, .null, .int 0, .int 0, .null, .null, .int 0, .int 0, .null, .long 0] := by
  show (mfs12 g).set 22 (sh_cv g (sh_r 109)) = _
  rw [mfsX12]
  rfl
theorem mfsL13 (g : sh_G) : (mfs13 g).length = 59 := by unfold mfs13; rw [List.length_set]; exact mfsL12 g
def mF13 (g : sh_G) (F : Nat → va_E) : Nat → va_E := fu (fu (mF12 g F) 109 (.inl (g.2.2.2.1 0, 7, sh_ac g 0 (fun _ => 0)))) 96 (.inr (12, mfs13 g))
def mfs14 (g : sh_G) : List Value := (mfs13 g).set 23 (sh_cv g (sh_r 110))
theorem mfsX14 (g : sh_G) : mfs14 g = [.int 0, .int 0, sh_cv g (sh_r 97), .int 0, .int 0, .int 0, .int 0, .long 0, .int 0, .int 0, sh_cv g (sh_r 98), sh_cv g (sh_r 99), sh_cv g (sh_r 100), sh_cv g (sh_r 101), sh_cv g (sh_r 102), sh_cv g (sh_r 103), sh_cv g (sh_r 104), sh_cv g (sh_r 105), sh_cv g (sh_r 106), sh_cv g (sh_r 107), sh_cv g (sh_r 108), .int 0, sh_cv g (sh_r 109), sh_cv g (sh_r 110), .null, .null, .null, .null, .null, .null, .null, .null, .null, .null, .int 0, .long 0, .null, .null, .null, .null, .null, .null, .null, .null, .null, .null, .null, .null, .null, .null, .null, .int 0, .int 0, .null, .null, .int 0, .int 0, .null, .long 0] := by
  show (mfs13 g).set 23 (sh_cv g (sh_r 110)) = _
  rw [mfsX13]
  rfl
theorem mfsL14 (g : sh_G) : (mfs14 g).length = 59 := by unfold mfs14; rw [List.length_set]; exact mfsL13 g
def mF14 (g : sh_G) (F : Nat → va_E) : Nat → va_E := fu (fu (mF13 g F) 110 (.inl (g.2.2.2.1 3, 7, sh_ac g 3 (fun _ => 0)))) 96 (.inr (12, mfs14 g))
def mfs15 (g : sh_G) : List Value := (mfs14 g).set 24 (sh_cv g (sh_r 111))
theorem mfsX15 (g : sh_G) : mfs15 g = [.int 0, .int 0, sh_cv g (sh_r 97), .int 0, .int 0, .int 0, .int 0, .long 0, .int 0, .int 0, sh_cv g (sh_r 98), sh_cv g (sh_r 99), sh_cv g (sh_r 100), sh_cv g (sh_r 101), sh_cv g (sh_r 102), sh_cv g (sh_r 103), sh_cv g (sh_r 104), sh_cv g (sh_r 105), sh_cv g (sh_r 106), sh_cv g (sh_r 107), sh_cv g (sh_r 108), .int 0, sh_cv g (sh_r 109), sh_cv g (sh_r 110), sh_cv g (sh_r 111), .null, .null, .null, .null, .null, .null, .null, .null, .null, .int 0, .long 0, .null, .null, .null, .null, .null, .null, .null, .null, .null, .null, .null, .null, .null, .null, .null, .int 0, .int 0, .null, .null, .int 0, .int 0, .null, .long 0] := by
  show (mfs14 g).set 24 (sh_cv g (sh_r 111)) = _
  rw [mfsX14]
  rfl
theorem mfsL15 (g : sh_G) : (mfs15 g).length = 59 := by unfold mfs15; rw [List.length_set]; exact mfsL14 g
def mF15 (g : sh_G) (F : Nat → va_E) : Nat → va_E := fu (fu (mF14 g F) 111 (.inl (g.2.2.2.1 0, 7, sh_ac g 0 (fun _ => 0)))) 96 (.inr (12, mfs15 g))
def mfs16 (g : sh_G) : List Value := (mfs15 g).set 25 (sh_cv g (sh_r 112))
theorem mfsX16 (g : sh_G) : mfs16 g = [.int 0, .int 0, sh_cv g (sh_r 97), .int 0, .int 0, .int 0, .int 0, .long 0, .int 0, .int 0, sh_cv g (sh_r 98), sh_cv g (sh_r 99), sh_cv g (sh_r 100), sh_cv g (sh_r 101), sh_cv g (sh_r 102), sh_cv g (sh_r 103), sh_cv g (sh_r 104), sh_cv g (sh_r 105), sh_cv g (sh_r 106), sh_cv g (sh_r 107), sh_cv g (sh_r 108), .int 0, sh_cv g (sh_r 109), sh_cv g (sh_r 110), sh_cv g (sh_r 111), sh_cv g (sh_r 112), .null, .null, .null, .null, .null, .null, .null, .null, .int 0, .long 0, .null, .null, .null, .null, .null, .null, .null, .null, .null, .null, .null, .null, .null, .null, .null, .int 0, .int 0, .null, .null, .int 0, .int 0, .null, .long 0] := by
  show (mfs15 g).set 25 (sh_cv g (sh_r 112)) = _
  rw [mfsX15]
  rfl
theorem mfsL16 (g : sh_G) : (mfs16 g).length = 59 := by unfold mfs16; rw [List.length_set]; exact mfsL15 g
def mF16 (g : sh_G) (F : Nat → va_E) : Nat → va_E := fu (fu (mF15 g F) 112 (.inl (g.2.2.2.1 0, 7, sh_ac g 0 (fun _ => 0)))) 96 (.inr (12, mfs16 g))
def mfs17 (g : sh_G) : List Value := (mfs16 g).set 26 (sh_cv g (sh_r 113))
theorem mfsX17 (g : sh_G) : mfs17 g = [.int 0, .int 0, sh_cv g (sh_r 97), .int 0, .int 0, .int 0, .int 0, .long 0, .int 0, .int 0, sh_cv g (sh_r 98), sh_cv g (sh_r 99), sh_cv g (sh_r 100), sh_cv g (sh_r 101), sh_cv g (sh_r 102), sh_cv g (sh_r 103), sh_cv g (sh_r 104), sh_cv g (sh_r 105), sh_cv g (sh_r 106), sh_cv g (sh_r 107), sh_cv g (sh_r 108), .int 0, sh_cv g (sh_r 109), sh_cv g (sh_r 110), sh_cv g (sh_r 111), sh_cv g (sh_r 112), sh_cv g (sh_r 113), .null, .null, .null, .null, .null, .null, .null, .int 0, .long 0, .null, .null, .null, .null, .null, .null, .null, .null, .null, .null, .null, .null, .null, .null, .null, .int 0, .int 0, .null, .null, .int 0, .int 0, .null, .long 0] := by
  show (mfs16 g).set 26 (sh_cv g (sh_r 113)) = _
  rw [mfsX16]
  rfl
theorem mfsL17 (g : sh_G) : (mfs17 g).length = 59 := by unfold mfs17; rw [List.length_set]; exact mfsL16 g
def mF17 (g : sh_G) (F : Nat → va_E) : Nat → va_E := fu (fu (mF16 g F) 113 (.inl (g.2.2.2.1 0, 7, sh_ac g 0 (fun _ => 0)))) 96 (.inr (12, mfs17 g))
def mfs18 (g : sh_G) : List Value := (mfs17 g).set 27 (sh_cv g (sh_r 114))
theorem mfsX18 (g : sh_G) : mfs18 g = [.int 0, .int 0, sh_cv g (sh_r 97), .int 0, .int 0, .int 0, .int 0, .long 0, .int 0, .int 0, sh_cv g (sh_r 98), sh_cv g (sh_r 99), sh_cv g (sh_r 100), sh_cv g (sh_r 101), sh_cv g (sh_r 102), sh_cv g (sh_r 103), sh_cv g (sh_r 104), sh_cv g (sh_r 105), sh_cv g (sh_r 106), sh_cv g (sh_r 107), sh_cv g (sh_r 108), .int 0, sh_cv g (sh_r 109), sh_cv g (sh_r 110), sh_cv g (sh_r 111), sh_cv g (sh_r 112), sh_cv g (sh_r 113), sh_cv g (sh_r 114), .null, .null, .null, .null, .null, .null, .int 0, .long 0, .null, .null, .null, .null, .null, .null, .null, .null, .null, .null, .null, .null, .null, .null, .null, .int 0, .int 0, .null, .null, .int 0, .int 0, .null, .long 0] := by
  show (mfs17 g).set 27 (sh_cv g (sh_r 114)) = _
  rw [mfsX17]
  rfl
theorem mfsL18 (g : sh_G) : (mfs18 g).length = 59 := by unfold mfs18; rw [List.length_set]; exact mfsL17 g
def mF18 (g : sh_G) (F : Nat → va_E) : Nat → va_E := fu (fu (mF17 g F) 114 (.inl (g.2.2.2.1 0, 7, sh_ac g 0 (fun _ => 0)))) 96 (.inr (12, mfs18 g))
def mfs19 (g : sh_G) : List Value := (mfs18 g).set 28 (sh_cv g (sh_r 115))
theorem mfsX19 (g : sh_G) : mfs19 g = [.int 0, .int 0, sh_cv g (sh_r 97), .int 0, .int 0, .int 0, .int 0, .long 0, .int 0, .int 0, sh_cv g (sh_r 98), sh_cv g (sh_r 99), sh_cv g (sh_r 100), sh_cv g (sh_r 101), sh_cv g (sh_r 102), sh_cv g (sh_r 103), sh_cv g (sh_r 104), sh_cv g (sh_r 105), sh_cv g (sh_r 106), sh_cv g (sh_r 107), sh_cv g (sh_r 108), .int 0, sh_cv g (sh_r 109), sh_cv g (sh_r 110), sh_cv g (sh_r 111), sh_cv g (sh_r 112), sh_cv g (sh_r 113), sh_cv g (sh_r 114), sh_cv g (sh_r 115), .null, .null, .null, .null, .null, .int 0, .long 0, .null, .null, .null, .null, .null, .null, .null, .null, .null, .null, .null, .null, .null, .null, .null, .int 0, .int 0, .null, .null, .int 0, .int 0, .null, .long 0] := by
  show (mfs18 g).set 28 (sh_cv g (sh_r 115)) = _
  rw [mfsX18]
  rfl
theorem mfsL19 (g : sh_G) : (mfs19 g).length = 59 := by unfold mfs19; rw [List.length_set]; exact mfsL18 g
def mF19 (g : sh_G) (F : Nat → va_E) : Nat → va_E := fu (fu (mF18 g F) 115 (.inl (g.2.2.2.1 0, 7, sh_ac g 0 (fun _ => 0)))) 96 (.inr (12, mfs19 g))
def mfs20 (g : sh_G) : List Value := (mfs19 g).set 29 (sh_cv g (sh_r 116))
theorem mfsX20 (g : sh_G) : mfs20 g = [.int 0, .int 0, sh_cv g (sh_r 97), .int 0, .int 0, .int 0, .int 0, .long 0, .int 0, .int 0, sh_cv g (sh_r 98), sh_cv g (sh_r 99), sh_cv g (sh_r 100), sh_cv g (sh_r 101), sh_cv g (sh_r 102), sh_cv g (sh_r 103), sh_cv g (sh_r 104), sh_cv g (sh_r 105), sh_cv g (sh_r 106), sh_cv g (sh_r 107), sh_cv g (sh_r 108), .int 0, sh_cv g (sh_r 109), sh_cv g (sh_r 110), sh_cv g (sh_r 111), sh_cv g (sh_r 112), sh_cv g (sh_r 113), sh_cv g (sh_r 114), sh_cv g (sh_r 115), sh_cv g (sh_r 116), .null, .null, .null, .null, .int 0, .long 0, .null, .null, .null, .null, .null, .null, .null, .null, .null, .null, .null, .null, .null, .null, .null, .int 0, .int 0, .null, .null, .int 0, .int 0, .null, .long 0] := by
  show (mfs19 g).set 29 (sh_cv g (sh_r 116)) = _
  rw [mfsX19]
  rfl
theorem mfsL20 (g : sh_G) : (mfs20 g).length = 59 := by unfold mfs20; rw [List.length_set]; exact mfsL19 g
def mF20 (g : sh_G) (F : Nat → va_E) : Nat → va_E := fu (fu (mF19 g F) 116 (.inl (g.2.2.2.1 0, 7, sh_ac g 0 (fun _ => 0)))) 96 (.inr (12, mfs20 g))
def mfs21 (g : sh_G) : List Value := (mfs20 g).set 30 (sh_cv g (sh_r 117))
theorem mfsX21 (g : sh_G) : mfs21 g = [.int 0, .int 0, sh_cv g (sh_r 97), .int 0, .int 0, .int 0, .int 0, .long 0, .int 0, .int 0, sh_cv g (sh_r 98), sh_cv g (sh_r 99), sh_cv g (sh_r 100), sh_cv g (sh_r 101), sh_cv g (sh_r 102), sh_cv g (sh_r 103), sh_cv g (sh_r 104), sh_cv g (sh_r 105), sh_cv g (sh_r 106), sh_cv g (sh_r 107), sh_cv g (sh_r 108), .int 0, sh_cv g (sh_r 109), sh_cv g (sh_r 110), sh_cv g (sh_r 111), sh_cv g (sh_r 112), sh_cv g (sh_r 113), sh_cv g (sh_r 114), sh_cv g (sh_r 115), sh_cv g (sh_r 116), sh_cv g (sh_r 117), .null, .null, .null, .int 0, .long 0, .null, .null, .null, .null, .null, .null, .null, .null, .null, .null, .null, .null, .null, .null, .null, .int 0, .int 0, .null, .null, .int 0, .int 0, .null, .long 0] := by
  show (mfs20 g).set 30 (sh_cv g (sh_r 117)) = _
  rw [mfsX20]
  rfl
theorem mfsL21 (g : sh_G) : (mfs21 g).length = 59 := by unfold mfs21; rw [List.length_set]; exact mfsL20 g
def mF21 (g : sh_G) (F : Nat → va_E) : Nat → va_E := fu (fu (mF20 g F) 117 (.inl (g.2.2.2.1 0, 7, sh_ac g 0 (fun _ => 0)))) 96 (.inr (12, mfs21 g))
def mfs22 (g : sh_G) : List Value := (mfs21 g).set 31 (sh_cv g (sh_r 118))
theorem mfsX22 (g : sh_G) : mfs22 g = [.int 0, .int 0, sh_cv g (sh_r 97), .int 0, .int 0, .int 0, .int 0, .long 0, .int 0, .int 0, sh_cv g (sh_r 98), sh_cv g (sh_r 99), sh_cv g (sh_r 100), sh_cv g (sh_r 101), sh_cv g (sh_r 102), sh_cv g (sh_r 103), sh_cv g (sh_r 104), sh_cv g (sh_r 105), sh_cv g (sh_r 106), sh_cv g (sh_r 107), sh_cv g (sh_r 108), .int 0, sh_cv g (sh_r 109), sh_cv g (sh_r 110), sh_cv g (sh_r 111), sh_cv g (sh_r 112), sh_cv g (sh_r 113), sh_cv g (sh_r 114), sh_cv g (sh_r 115), sh_cv g (sh_r 116), sh_cv g (sh_r 117), sh_cv g (sh_r 118), .null, .null, .int 0, .long 0, .null, .null, .null, .null, .null, .null, .null, .null, .null, .null, .null, .null, .null, .null, .null, .int 0, .int 0, .null, .null, .int 0, .int 0, .null, .long 0] := by
  show (mfs21 g).set 31 (sh_cv g (sh_r 118)) = _
  rw [mfsX21]
  rfl
theorem mfsL22 (g : sh_G) : (mfs22 g).length = 59 := by unfold mfs22; rw [List.length_set]; exact mfsL21 g
def mF22 (g : sh_G) (F : Nat → va_E) : Nat → va_E := fu (fu (mF21 g F) 118 (.inl (g.2.2.2.1 0, 7, sh_ac g 0 (fun _ => 0)))) 96 (.inr (12, mfs22 g))
def mfs23 (g : sh_G) : List Value := (mfs22 g).set 32 (sh_cv g (sh_r 119))
theorem mfsX23 (g : sh_G) : mfs23 g = [.int 0, .int 0, sh_cv g (sh_r 97), .int 0, .int 0, .int 0, .int 0, .long 0, .int 0, .int 0, sh_cv g (sh_r 98), sh_cv g (sh_r 99), sh_cv g (sh_r 100), sh_cv g (sh_r 101), sh_cv g (sh_r 102), sh_cv g (sh_r 103), sh_cv g (sh_r 104), sh_cv g (sh_r 105), sh_cv g (sh_r 106), sh_cv g (sh_r 107), sh_cv g (sh_r 108), .int 0, sh_cv g (sh_r 109), sh_cv g (sh_r 110), sh_cv g (sh_r 111), sh_cv g (sh_r 112), sh_cv g (sh_r 113), sh_cv g (sh_r 114), sh_cv g (sh_r 115), sh_cv g (sh_r 116), sh_cv g (sh_r 117), sh_cv g (sh_r 118), sh_cv g (sh_r 119), .null, .int 0, .long 0, .null, .null, .null, .null, .null, .null, .null, .null, .null, .null, .null, .null, .null, .null, .null, .int 0, .int 0, .null, .null, .int 0, .int 0, .null, .long 0] := by
  show (mfs22 g).set 32 (sh_cv g (sh_r 119)) = _
  rw [mfsX22]
  rfl
theorem mfsL23 (g : sh_G) : (mfs23 g).length = 59 := by unfold mfs23; rw [List.length_set]; exact mfsL22 g
def mF23 (g : sh_G) (F : Nat → va_E) : Nat → va_E := fu (fu (mF22 g F) 119 (.inl (g.2.2.2.1 0, 7, sh_ac g 0 (fun _ => 0)))) 96 (.inr (12, mfs23 g))
def mfs24 (g : sh_G) : List Value := (mfs23 g).set 33 (sh_cv g (sh_r 120))
theorem mfsX24 (g : sh_G) : mfs24 g = [.int 0, .int 0, sh_cv g (sh_r 97), .int 0, .int 0, .int 0, .int 0, .long 0, .int 0, .int 0, sh_cv g (sh_r 98), sh_cv g (sh_r 99), sh_cv g (sh_r 100), sh_cv g (sh_r 101), sh_cv g (sh_r 102), sh_cv g (sh_r 103), sh_cv g (sh_r 104), sh_cv g (sh_r 105), sh_cv g (sh_r 106), sh_cv g (sh_r 107), sh_cv g (sh_r 108), .int 0, sh_cv g (sh_r 109), sh_cv g (sh_r 110), sh_cv g (sh_r 111), sh_cv g (sh_r 112), sh_cv g (sh_r 113), sh_cv g (sh_r 114), sh_cv g (sh_r 115), sh_cv g (sh_r 116), sh_cv g (sh_r 117), sh_cv g (sh_r 118), sh_cv g (sh_r 119), sh_cv g (sh_r 120), .int 0, .long 0, .null, .null, .null, .null, .null, .null, .null, .null, .null, .null, .null, .null, .null, .null, .null, .int 0, .int 0, .null, .null, .int 0, .int 0, .null, .long 0] := by
  show (mfs23 g).set 33 (sh_cv g (sh_r 120)) = _
  rw [mfsX23]
  rfl
theorem mfsL24 (g : sh_G) : (mfs24 g).length = 59 := by unfold mfs24; rw [List.length_set]; exact mfsL23 g
def mF24 (g : sh_G) (F : Nat → va_E) : Nat → va_E := fu (fu (mF23 g F) 120 (.inl (g.2.2.2.1 0, 20, sh_ac g 0 (fun _ => 0)))) 96 (.inr (12, mfs24 g))
def mfs25 (g : sh_G) : List Value := (mfs24 g).set 36 (sh_cv g (sh_r 121))
theorem mfsX25 (g : sh_G) : mfs25 g = [.int 0, .int 0, sh_cv g (sh_r 97), .int 0, .int 0, .int 0, .int 0, .long 0, .int 0, .int 0, sh_cv g (sh_r 98), sh_cv g (sh_r 99), sh_cv g (sh_r 100), sh_cv g (sh_r 101), sh_cv g (sh_r 102), sh_cv g (sh_r 103), sh_cv g (sh_r 104), sh_cv g (sh_r 105), sh_cv g (sh_r 106), sh_cv g (sh_r 107), sh_cv g (sh_r 108), .int 0, sh_cv g (sh_r 109), sh_cv g (sh_r 110), sh_cv g (sh_r 111), sh_cv g (sh_r 112), sh_cv g (sh_r 113), sh_cv g (sh_r 114), sh_cv g (sh_r 115), sh_cv g (sh_r 116), sh_cv g (sh_r 117), sh_cv g (sh_r 118), sh_cv g (sh_r 119), sh_cv g (sh_r 120), .int 0, .long 0, sh_cv g (sh_r 121), .null, .null, .null, .null, .null, .null, .null, .null, .null, .null, .null, .null, .null, .null, .int 0, .int 0, .null, .null, .int 0, .int 0, .null, .long 0] := by
  show (mfs24 g).set 36 (sh_cv g (sh_r 121)) = _
  rw [mfsX24]
  rfl
theorem mfsL25 (g : sh_G) : (mfs25 g).length = 59 := by unfold mfs25; rw [List.length_set]; exact mfsL24 g
def mF25 (g : sh_G) (F : Nat → va_E) : Nat → va_E := fu (fu (mF24 g F) 121 (.inl (g.2.2.2.1 0, 6, sh_ac g 0 (fun _ => 0)))) 96 (.inr (12, mfs25 g))
def mfs26 (g : sh_G) : List Value := (mfs25 g).set 37 (sh_cv g (sh_r 122))
theorem mfsX26 (g : sh_G) : mfs26 g = [.int 0, .int 0, sh_cv g (sh_r 97), .int 0, .int 0, .int 0, .int 0, .long 0, .int 0, .int 0, sh_cv g (sh_r 98), sh_cv g (sh_r 99), sh_cv g (sh_r 100), sh_cv g (sh_r 101), sh_cv g (sh_r 102), sh_cv g (sh_r 103), sh_cv g (sh_r 104), sh_cv g (sh_r 105), sh_cv g (sh_r 106), sh_cv g (sh_r 107), sh_cv g (sh_r 108), .int 0, sh_cv g (sh_r 109), sh_cv g (sh_r 110), sh_cv g (sh_r 111), sh_cv g (sh_r 112), sh_cv g (sh_r 113), sh_cv g (sh_r 114), sh_cv g (sh_r 115), sh_cv g (sh_r 116), sh_cv g (sh_r 117), sh_cv g (sh_r 118), sh_cv g (sh_r 119), sh_cv g (sh_r 120), .int 0, .long 0, sh_cv g (sh_r 121), sh_cv g (sh_r 122), .null, .null, .null, .null, .null, .null, .null, .null, .null, .null, .null, .null, .null, .int 0, .int 0, .null, .null, .int 0, .int 0, .null, .long 0] := by
  show (mfs25 g).set 37 (sh_cv g (sh_r 122)) = _
  rw [mfsX25]
  rfl
theorem mfsL26 (g : sh_G) : (mfs26 g).length = 59 := by unfold mfs26; rw [List.length_set]; exact mfsL25 g
def mF26 (g : sh_G) (F : Nat → va_E) : Nat → va_E := fu (fu (mF25 g F) 122 (.inl (g.2.2.2.1 0, 240, sh_ac g 0 (fun _ => 0)))) 96 (.inr (12, mfs26 g))
def mfs27 (g : sh_G) : List Value := (mfs26 g).set 38 (sh_cv g (sh_r 123))
theorem mfsX27 (g : sh_G) : mfs27 g = [.int 0, .int 0, sh_cv g (sh_r 97), .int 0, .int 0, .int 0, .int 0, .long 0, .int 0, .int 0, sh_cv g (sh_r 98), sh_cv g (sh_r 99), sh_cv g (sh_r 100), sh_cv g (sh_r 101), sh_cv g (sh_r 102), sh_cv g (sh_r 103), sh_cv g (sh_r 104), sh_cv g (sh_r 105), sh_cv g (sh_r 106), sh_cv g (sh_r 107), sh_cv g (sh_r 108), .int 0, sh_cv g (sh_r 109), sh_cv g (sh_r 110), sh_cv g (sh_r 111), sh_cv g (sh_r 112), sh_cv g (sh_r 113), sh_cv g (sh_r 114), sh_cv g (sh_r 115), sh_cv g (sh_r 116), sh_cv g (sh_r 117), sh_cv g (sh_r 118), sh_cv g (sh_r 119), sh_cv g (sh_r 120), .int 0, .long 0, sh_cv g (sh_r 121), sh_cv g (sh_r 122), sh_cv g (sh_r 123), .null, .null, .null, .null, .null, .null, .null, .null, .null, .null, .null, .null, .int 0, .int 0, .null, .null, .int 0, .int 0, .null, .long 0] := by
  show (mfs26 g).set 38 (sh_cv g (sh_r 123)) = _
  rw [mfsX26]
  rfl
theorem mfsL27 (g : sh_G) : (mfs27 g).length = 59 := by unfold mfs27; rw [List.length_set]; exact mfsL26 g
def mF27 (g : sh_G) (F : Nat → va_E) : Nat → va_E := fu (fu (mF26 g F) 123 (.inl (g.2.2.2.1 0, 240, sh_ac g 0 (fun _ => 0)))) 96 (.inr (12, mfs27 g))
def mfs28 (g : sh_G) : List Value := (mfs27 g).set 39 (sh_cv g (sh_r 124))
theorem mfsX28 (g : sh_G) : mfs28 g = [.int 0, .int 0, sh_cv g (sh_r 97), .int 0, .int 0, .int 0, .int 0, .long 0, .int 0, .int 0, sh_cv g (sh_r 98), sh_cv g (sh_r 99), sh_cv g (sh_r 100), sh_cv g (sh_r 101), sh_cv g (sh_r 102), sh_cv g (sh_r 103), sh_cv g (sh_r 104), sh_cv g (sh_r 105), sh_cv g (sh_r 106), sh_cv g (sh_r 107), sh_cv g (sh_r 108), .int 0, sh_cv g (sh_r 109), sh_cv g (sh_r 110), sh_cv g (sh_r 111), sh_cv g (sh_r 112), sh_cv g (sh_r 113), sh_cv g (sh_r 114), sh_cv g (sh_r 115), sh_cv g (sh_r 116), sh_cv g (sh_r 117), sh_cv g (sh_r 118), sh_cv g (sh_r 119), sh_cv g (sh_r 120), .int 0, .long 0, sh_cv g (sh_r 121), sh_cv g (sh_r 122), sh_cv g (sh_r 123), sh_cv g (sh_r 124), .null, .null, .null, .null, .null, .null, .null, .null, .null, .null, .null, .int 0, .int 0, .null, .null, .int 0, .int 0, .null, .long 0] := by
  show (mfs27 g).set 39 (sh_cv g (sh_r 124)) = _
  rw [mfsX27]
  rfl
theorem mfsL28 (g : sh_G) : (mfs28 g).length = 59 := by unfold mfs28; rw [List.length_set]; exact mfsL27 g
def mF28 (g : sh_G) (F : Nat → va_E) : Nat → va_E := fu (fu (mF27 g F) 124 (.inl (g.2.2.2.1 0, 240, sh_ac g 0 (fun _ => 0)))) 96 (.inr (12, mfs28 g))
def mfs29 (g : sh_G) : List Value := (mfs28 g).set 40 (sh_cv g (sh_r 125))
theorem mfsX29 (g : sh_G) : mfs29 g = [.int 0, .int 0, sh_cv g (sh_r 97), .int 0, .int 0, .int 0, .int 0, .long 0, .int 0, .int 0, sh_cv g (sh_r 98), sh_cv g (sh_r 99), sh_cv g (sh_r 100), sh_cv g (sh_r 101), sh_cv g (sh_r 102), sh_cv g (sh_r 103), sh_cv g (sh_r 104), sh_cv g (sh_r 105), sh_cv g (sh_r 106), sh_cv g (sh_r 107), sh_cv g (sh_r 108), .int 0, sh_cv g (sh_r 109), sh_cv g (sh_r 110), sh_cv g (sh_r 111), sh_cv g (sh_r 112), sh_cv g (sh_r 113), sh_cv g (sh_r 114), sh_cv g (sh_r 115), sh_cv g (sh_r 116), sh_cv g (sh_r 117), sh_cv g (sh_r 118), sh_cv g (sh_r 119), sh_cv g (sh_r 120), .int 0, .long 0, sh_cv g (sh_r 121), sh_cv g (sh_r 122), sh_cv g (sh_r 123), sh_cv g (sh_r 124), sh_cv g (sh_r 125), .null, .null, .null, .null, .null, .null, .null, .null, .null, .null, .int 0, .int 0, .null, .null, .int 0, .int 0, .null, .long 0] := by
  show (mfs28 g).set 40 (sh_cv g (sh_r 125)) = _
  rw [mfsX28]
  rfl
theorem mfsL29 (g : sh_G) : (mfs29 g).length = 59 := by unfold mfs29; rw [List.length_set]; exact mfsL28 g
def mF29 (g : sh_G) (F : Nat → va_E) : Nat → va_E := fu (fu (mF28 g F) 125 (.inl (g.2.2.2.1 0, 5, sh_ac g 0 (fun _ => 0)))) 96 (.inr (12, mfs29 g))
def mfs30 (g : sh_G) : List Value := (mfs29 g).set 41 (sh_cv g (sh_r 126))
theorem mfsX30 (g : sh_G) : mfs30 g = [.int 0, .int 0, sh_cv g (sh_r 97), .int 0, .int 0, .int 0, .int 0, .long 0, .int 0, .int 0, sh_cv g (sh_r 98), sh_cv g (sh_r 99), sh_cv g (sh_r 100), sh_cv g (sh_r 101), sh_cv g (sh_r 102), sh_cv g (sh_r 103), sh_cv g (sh_r 104), sh_cv g (sh_r 105), sh_cv g (sh_r 106), sh_cv g (sh_r 107), sh_cv g (sh_r 108), .int 0, sh_cv g (sh_r 109), sh_cv g (sh_r 110), sh_cv g (sh_r 111), sh_cv g (sh_r 112), sh_cv g (sh_r 113), sh_cv g (sh_r 114), sh_cv g (sh_r 115), sh_cv g (sh_r 116), sh_cv g (sh_r 117), sh_cv g (sh_r 118), sh_cv g (sh_r 119), sh_cv g (sh_r 120), .int 0, .long 0, sh_cv g (sh_r 121), sh_cv g (sh_r 122), sh_cv g (sh_r 123), sh_cv g (sh_r 124), sh_cv g (sh_r 125), sh_cv g (sh_r 126), .null, .null, .null, .null, .null, .null, .null, .null, .null, .int 0, .int 0, .null, .null, .int 0, .int 0, .null, .long 0] := by
  show (mfs29 g).set 41 (sh_cv g (sh_r 126)) = _
  rw [mfsX29]
  rfl
theorem mfsL30 (g : sh_G) : (mfs30 g).length = 59 := by unfold mfs30; rw [List.length_set]; exact mfsL29 g
def mF30 (g : sh_G) (F : Nat → va_E) : Nat → va_E := fu (fu (mF29 g F) 126 (.inl (g.2.2.2.1 0, 40, sh_ac g 0 (fun _ => 0)))) 96 (.inr (12, mfs30 g))
def mfs31 (g : sh_G) : List Value := (mfs30 g).set 42 (sh_cv g (sh_r 127))
theorem mfsX31 (g : sh_G) : mfs31 g = [.int 0, .int 0, sh_cv g (sh_r 97), .int 0, .int 0, .int 0, .int 0, .long 0, .int 0, .int 0, sh_cv g (sh_r 98), sh_cv g (sh_r 99), sh_cv g (sh_r 100), sh_cv g (sh_r 101), sh_cv g (sh_r 102), sh_cv g (sh_r 103), sh_cv g (sh_r 104), sh_cv g (sh_r 105), sh_cv g (sh_r 106), sh_cv g (sh_r 107), sh_cv g (sh_r 108), .int 0, sh_cv g (sh_r 109), sh_cv g (sh_r 110), sh_cv g (sh_r 111), sh_cv g (sh_r 112), sh_cv g (sh_r 113), sh_cv g (sh_r 114), sh_cv g (sh_r 115), sh_cv g (sh_r 116), sh_cv g (sh_r 117), sh_cv g (sh_r 118), sh_cv g (sh_r 119), sh_cv g (sh_r 120), .int 0, .long 0, sh_cv g (sh_r 121), sh_cv g (sh_r 122), sh_cv g (sh_r 123), sh_cv g (sh_r 124), sh_cv g (sh_r 125), sh_cv g (sh_r 126), sh_cv g (sh_r 127), .null, .null, .null, .null, .null, .null, .null, .null, .int 0, .int 0, .null, .null, .int 0, .int 0, .null, .long 0] := by
  show (mfs30 g).set 42 (sh_cv g (sh_r 127)) = _
  rw [mfsX30]
  rfl
theorem mfsL31 (g : sh_G) : (mfs31 g).length = 59 := by unfold mfs31; rw [List.length_set]; exact mfsL30 g
def mF31 (g : sh_G) (F : Nat → va_E) : Nat → va_E := fu (fu (mF30 g F) 127 (.inl (g.2.2.2.1 0, 40, sh_ac g 0 (fun _ => 0)))) 96 (.inr (12, mfs31 g))
def mfs32 (g : sh_G) : List Value := (mfs31 g).set 43 (sh_cv g (sh_r 128))
theorem mfsX32 (g : sh_G) : mfs32 g = [.int 0, .int 0, sh_cv g (sh_r 97), .int 0, .int 0, .int 0, .int 0, .long 0, .int 0, .int 0, sh_cv g (sh_r 98), sh_cv g (sh_r 99), sh_cv g (sh_r 100), sh_cv g (sh_r 101), sh_cv g (sh_r 102), sh_cv g (sh_r 103), sh_cv g (sh_r 104), sh_cv g (sh_r 105), sh_cv g (sh_r 106), sh_cv g (sh_r 107), sh_cv g (sh_r 108), .int 0, sh_cv g (sh_r 109), sh_cv g (sh_r 110), sh_cv g (sh_r 111), sh_cv g (sh_r 112), sh_cv g (sh_r 113), sh_cv g (sh_r 114), sh_cv g (sh_r 115), sh_cv g (sh_r 116), sh_cv g (sh_r 117), sh_cv g (sh_r 118), sh_cv g (sh_r 119), sh_cv g (sh_r 120), .int 0, .long 0, sh_cv g (sh_r 121), sh_cv g (sh_r 122), sh_cv g (sh_r 123), sh_cv g (sh_r 124), sh_cv g (sh_r 125), sh_cv g (sh_r 126), sh_cv g (sh_r 127), sh_cv g (sh_r 128), .null, .null, .null, .null, .null, .null, .null, .int 0, .int 0, .null, .null, .int 0, .int 0, .null, .long 0] := by
  show (mfs31 g).set 43 (sh_cv g (sh_r 128)) = _
  rw [mfsX31]
  rfl
theorem mfsL32 (g : sh_G) : (mfs32 g).length = 59 := by unfold mfs32; rw [List.length_set]; exact mfsL31 g
def mF32 (g : sh_G) (F : Nat → va_E) : Nat → va_E := fu (fu (mF31 g F) 128 (.inl (g.2.2.2.1 3, 40, sh_ac g 3 (fun _ => 0)))) 96 (.inr (12, mfs32 g))
def mfs33 (g : sh_G) : List Value := (mfs32 g).set 44 (sh_cv g (sh_r 129))
theorem mfsX33 (g : sh_G) : mfs33 g = [.int 0, .int 0, sh_cv g (sh_r 97), .int 0, .int 0, .int 0, .int 0, .long 0, .int 0, .int 0, sh_cv g (sh_r 98), sh_cv g (sh_r 99), sh_cv g (sh_r 100), sh_cv g (sh_r 101), sh_cv g (sh_r 102), sh_cv g (sh_r 103), sh_cv g (sh_r 104), sh_cv g (sh_r 105), sh_cv g (sh_r 106), sh_cv g (sh_r 107), sh_cv g (sh_r 108), .int 0, sh_cv g (sh_r 109), sh_cv g (sh_r 110), sh_cv g (sh_r 111), sh_cv g (sh_r 112), sh_cv g (sh_r 113), sh_cv g (sh_r 114), sh_cv g (sh_r 115), sh_cv g (sh_r 116), sh_cv g (sh_r 117), sh_cv g (sh_r 118), sh_cv g (sh_r 119), sh_cv g (sh_r 120), .int 0, .long 0, sh_cv g (sh_r 121), sh_cv g (sh_r 122), sh_cv g (sh_r 123), sh_cv g (sh_r 124), sh_cv g (sh_r 125), sh_cv g (sh_r 126), sh_cv g (sh_r 127), sh_cv g (sh_r 128), sh_cv g (sh_r 129), .null, .null, .null, .null, .null, .null, .int 0, .int 0, .null, .null, .int 0, .int 0, .null, .long 0] := by
  show (mfs32 g).set 44 (sh_cv g (sh_r 129)) = _
  rw [mfsX32]
  rfl
theorem mfsL33 (g : sh_G) : (mfs33 g).length = 59 := by unfold mfs33; rw [List.length_set]; exact mfsL32 g
def mF33 (g : sh_G) (F : Nat → va_E) : Nat → va_E := fu (fu (mF32 g F) 129 (.inl (g.2.2.2.1 0, 45, sh_ac g 0 (fun _ => 0)))) 96 (.inr (12, mfs33 g))
def mfs34 (g : sh_G) : List Value := (mfs33 g).set 45 (sh_cv g (sh_r 130))
theorem mfsX34 (g : sh_G) : mfs34 g = [.int 0, .int 0, sh_cv g (sh_r 97), .int 0, .int 0, .int 0, .int 0, .long 0, .int 0, .int 0, sh_cv g (sh_r 98), sh_cv g (sh_r 99), sh_cv g (sh_r 100), sh_cv g (sh_r 101), sh_cv g (sh_r 102), sh_cv g (sh_r 103), sh_cv g (sh_r 104), sh_cv g (sh_r 105), sh_cv g (sh_r 106), sh_cv g (sh_r 107), sh_cv g (sh_r 108), .int 0, sh_cv g (sh_r 109), sh_cv g (sh_r 110), sh_cv g (sh_r 111), sh_cv g (sh_r 112), sh_cv g (sh_r 113), sh_cv g (sh_r 114), sh_cv g (sh_r 115), sh_cv g (sh_r 116), sh_cv g (sh_r 117), sh_cv g (sh_r 118), sh_cv g (sh_r 119), sh_cv g (sh_r 120), .int 0, .long 0, sh_cv g (sh_r 121), sh_cv g (sh_r 122), sh_cv g (sh_r 123), sh_cv g (sh_r 124), sh_cv g (sh_r 125), sh_cv g (sh_r 126), sh_cv g (sh_r 127), sh_cv g (sh_r 128), sh_cv g (sh_r 129), sh_cv g (sh_r 130), .null, .null, .null, .null, .null, .int 0, .int 0, .null, .null, .int 0, .int 0, .null, .long 0] := by
  show (mfs33 g).set 45 (sh_cv g (sh_r 130)) = _
  rw [mfsX33]
  rfl
theorem mfsL34 (g : sh_G) : (mfs34 g).length = 59 := by unfold mfs34; rw [List.length_set]; exact mfsL33 g
def mF34 (g : sh_G) (F : Nat → va_E) : Nat → va_E := fu (fu (mF33 g F) 130 (.inl (g.2.2.2.1 0, 45, sh_ac g 0 (fun _ => 0)))) 96 (.inr (12, mfs34 g))
def mfs35 (g : sh_G) : List Value := (mfs34 g).set 46 (sh_cv g (sh_r 131))
theorem mfsX35 (g : sh_G) : mfs35 g = [.int 0, .int 0, sh_cv g (sh_r 97), .int 0, .int 0, .int 0, .int 0, .long 0, .int 0, .int 0, sh_cv g (sh_r 98), sh_cv g (sh_r 99), sh_cv g (sh_r 100), sh_cv g (sh_r 101), sh_cv g (sh_r 102), sh_cv g (sh_r 103), sh_cv g (sh_r 104), sh_cv g (sh_r 105), sh_cv g (sh_r 106), sh_cv g (sh_r 107), sh_cv g (sh_r 108), .int 0, sh_cv g (sh_r 109), sh_cv g (sh_r 110), sh_cv g (sh_r 111), sh_cv g (sh_r 112), sh_cv g (sh_r 113), sh_cv g (sh_r 114), sh_cv g (sh_r 115), sh_cv g (sh_r 116), sh_cv g (sh_r 117), sh_cv g (sh_r 118), sh_cv g (sh_r 119), sh_cv g (sh_r 120), .int 0, .long 0, sh_cv g (sh_r 121), sh_cv g (sh_r 122), sh_cv g (sh_r 123), sh_cv g (sh_r 124), sh_cv g (sh_r 125), sh_cv g (sh_r 126), sh_cv g (sh_r 127), sh_cv g (sh_r 128), sh_cv g (sh_r 129), sh_cv g (sh_r 130), sh_cv g (sh_r 131), .null, .null, .null, .null, .int 0, .int 0, .null, .null, .int 0, .int 0, .null, .long 0] := by
  show (mfs34 g).set 46 (sh_cv g (sh_r 131)) = _
  rw [mfsX34]
  rfl
theorem mfsL35 (g : sh_G) : (mfs35 g).length = 59 := by unfold mfs35; rw [List.length_set]; exact mfsL34 g
def mF35 (g : sh_G) (F : Nat → va_E) : Nat → va_E := fu (fu (mF34 g F) 131 (.inl (g.2.2.2.1 0, 45, sh_ac g 0 (fun _ => 0)))) 96 (.inr (12, mfs35 g))
def mfs36 (g : sh_G) : List Value := (mfs35 g).set 47 (sh_cv g (sh_r 132))
theorem mfsX36 (g : sh_G) : mfs36 g = [.int 0, .int 0, sh_cv g (sh_r 97), .int 0, .int 0, .int 0, .int 0, .long 0, .int 0, .int 0, sh_cv g (sh_r 98), sh_cv g (sh_r 99), sh_cv g (sh_r 100), sh_cv g (sh_r 101), sh_cv g (sh_r 102), sh_cv g (sh_r 103), sh_cv g (sh_r 104), sh_cv g (sh_r 105), sh_cv g (sh_r 106), sh_cv g (sh_r 107), sh_cv g (sh_r 108), .int 0, sh_cv g (sh_r 109), sh_cv g (sh_r 110), sh_cv g (sh_r 111), sh_cv g (sh_r 112), sh_cv g (sh_r 113), sh_cv g (sh_r 114), sh_cv g (sh_r 115), sh_cv g (sh_r 116), sh_cv g (sh_r 117), sh_cv g (sh_r 118), sh_cv g (sh_r 119), sh_cv g (sh_r 120), .int 0, .long 0, sh_cv g (sh_r 121), sh_cv g (sh_r 122), sh_cv g (sh_r 123), sh_cv g (sh_r 124), sh_cv g (sh_r 125), sh_cv g (sh_r 126), sh_cv g (sh_r 127), sh_cv g (sh_r 128), sh_cv g (sh_r 129), sh_cv g (sh_r 130), sh_cv g (sh_r 131), sh_cv g (sh_r 132), .null, .null, .null, .int 0, .int 0, .null, .null, .int 0, .int 0, .null, .long 0] := by
  show (mfs35 g).set 47 (sh_cv g (sh_r 132)) = _
  rw [mfsX35]
  rfl
theorem mfsL36 (g : sh_G) : (mfs36 g).length = 59 := by unfold mfs36; rw [List.length_set]; exact mfsL35 g
def mF36 (g : sh_G) (F : Nat → va_E) : Nat → va_E := fu (fu (mF35 g F) 132 (.inl (g.2.2.2.1 0, 270, sh_ac g 0 (fun _ => 0)))) 96 (.inr (12, mfs36 g))
def mfs37 (g : sh_G) : List Value := (mfs36 g).set 48 (sh_cv g (sh_r 133))
theorem mfsX37 (g : sh_G) : mfs37 g = [.int 0, .int 0, sh_cv g (sh_r 97), .int 0, .int 0, .int 0, .int 0, .long 0, .int 0, .int 0, sh_cv g (sh_r 98), sh_cv g (sh_r 99), sh_cv g (sh_r 100), sh_cv g (sh_r 101), sh_cv g (sh_r 102), sh_cv g (sh_r 103), sh_cv g (sh_r 104), sh_cv g (sh_r 105), sh_cv g (sh_r 106), sh_cv g (sh_r 107), sh_cv g (sh_r 108), .int 0, sh_cv g (sh_r 109), sh_cv g (sh_r 110), sh_cv g (sh_r 111), sh_cv g (sh_r 112), sh_cv g (sh_r 113), sh_cv g (sh_r 114), sh_cv g (sh_r 115), sh_cv g (sh_r 116), sh_cv g (sh_r 117), sh_cv g (sh_r 118), sh_cv g (sh_r 119), sh_cv g (sh_r 120), .int 0, .long 0, sh_cv g (sh_r 121), sh_cv g (sh_r 122), sh_cv g (sh_r 123), sh_cv g (sh_r 124), sh_cv g (sh_r 125), sh_cv g (sh_r 126), sh_cv g (sh_r 127), sh_cv g (sh_r 128), sh_cv g (sh_r 129), sh_cv g (sh_r 130), sh_cv g (sh_r 131), sh_cv g (sh_r 132), sh_cv g (sh_r 133), .null, .null, .int 0, .int 0, .null, .null, .int 0, .int 0, .null, .long 0] := by
  show (mfs36 g).set 48 (sh_cv g (sh_r 133)) = _
  rw [mfsX36]
  rfl
theorem mfsL37 (g : sh_G) : (mfs37 g).length = 59 := by unfold mfs37; rw [List.length_set]; exact mfsL36 g
def mF37 (g : sh_G) (F : Nat → va_E) : Nat → va_E := fu (fu (mF36 g F) 133 (.inl (g.2.2.2.1 0, 180, sh_ac g 0 (fun _ => 0)))) 96 (.inr (12, mfs37 g))
def mfs38 (g : sh_G) : List Value := (mfs37 g).set 49 (sh_cv g (sh_r 134))
theorem mfsX38 (g : sh_G) : mfs38 g = [.int 0, .int 0, sh_cv g (sh_r 97), .int 0, .int 0, .int 0, .int 0, .long 0, .int 0, .int 0, sh_cv g (sh_r 98), sh_cv g (sh_r 99), sh_cv g (sh_r 100), sh_cv g (sh_r 101), sh_cv g (sh_r 102), sh_cv g (sh_r 103), sh_cv g (sh_r 104), sh_cv g (sh_r 105), sh_cv g (sh_r 106), sh_cv g (sh_r 107), sh_cv g (sh_r 108), .int 0, sh_cv g (sh_r 109), sh_cv g (sh_r 110), sh_cv g (sh_r 111), sh_cv g (sh_r 112), sh_cv g (sh_r 113), sh_cv g (sh_r 114), sh_cv g (sh_r 115), sh_cv g (sh_r 116), sh_cv g (sh_r 117), sh_cv g (sh_r 118), sh_cv g (sh_r 119), sh_cv g (sh_r 120), .int 0, .long 0, sh_cv g (sh_r 121), sh_cv g (sh_r 122), sh_cv g (sh_r 123), sh_cv g (sh_r 124), sh_cv g (sh_r 125), sh_cv g (sh_r 126), sh_cv g (sh_r 127), sh_cv g (sh_r 128), sh_cv g (sh_r 129), sh_cv g (sh_r 130), sh_cv g (sh_r 131), sh_cv g (sh_r 132), sh_cv g (sh_r 133), sh_cv g (sh_r 134), .null, .int 0, .int 0, .null, .null, .int 0, .int 0, .null, .long 0] := by
  show (mfs37 g).set 49 (sh_cv g (sh_r 134)) = _
  rw [mfsX37]
  rfl
theorem mfsL38 (g : sh_G) : (mfs38 g).length = 59 := by unfold mfs38; rw [List.length_set]; exact mfsL37 g
def mF38 (g : sh_G) (F : Nat → va_E) : Nat → va_E := fu (fu (mF37 g F) 134 (.inl (g.2.2.2.1 0, 720, sh_ac g 0 (fun _ => 0)))) 96 (.inr (12, mfs38 g))
def mfs39 (g : sh_G) : List Value := (mfs38 g).set 50 (sh_cv g (sh_r 135))
theorem mfsX39 (g : sh_G) : mfs39 g = [.int 0, .int 0, sh_cv g (sh_r 97), .int 0, .int 0, .int 0, .int 0, .long 0, .int 0, .int 0, sh_cv g (sh_r 98), sh_cv g (sh_r 99), sh_cv g (sh_r 100), sh_cv g (sh_r 101), sh_cv g (sh_r 102), sh_cv g (sh_r 103), sh_cv g (sh_r 104), sh_cv g (sh_r 105), sh_cv g (sh_r 106), sh_cv g (sh_r 107), sh_cv g (sh_r 108), .int 0, sh_cv g (sh_r 109), sh_cv g (sh_r 110), sh_cv g (sh_r 111), sh_cv g (sh_r 112), sh_cv g (sh_r 113), sh_cv g (sh_r 114), sh_cv g (sh_r 115), sh_cv g (sh_r 116), sh_cv g (sh_r 117), sh_cv g (sh_r 118), sh_cv g (sh_r 119), sh_cv g (sh_r 120), .int 0, .long 0, sh_cv g (sh_r 121), sh_cv g (sh_r 122), sh_cv g (sh_r 123), sh_cv g (sh_r 124), sh_cv g (sh_r 125), sh_cv g (sh_r 126), sh_cv g (sh_r 127), sh_cv g (sh_r 128), sh_cv g (sh_r 129), sh_cv g (sh_r 130), sh_cv g (sh_r 131), sh_cv g (sh_r 132), sh_cv g (sh_r 133), sh_cv g (sh_r 134), sh_cv g (sh_r 135), .int 0, .int 0, .null, .null, .int 0, .int 0, .null, .long 0] := by
  show (mfs38 g).set 50 (sh_cv g (sh_r 135)) = _
  rw [mfsX38]
  rfl
theorem mfsL39 (g : sh_G) : (mfs39 g).length = 59 := by unfold mfs39; rw [List.length_set]; exact mfsL38 g
def mF39 (g : sh_G) (F : Nat → va_E) : Nat → va_E := fu (fu (mF38 g F) 135 (.inl (g.2.2.2.1 3, 4, sh_ac g 3 (fun _ => 0)))) 96 (.inr (12, mfs39 g))
def mfs40 (g : sh_G) : List Value := (mfs39 g).set 53 (sh_cv g (sh_r 136))
theorem mfsX40 (g : sh_G) : mfs40 g = [.int 0, .int 0, sh_cv g (sh_r 97), .int 0, .int 0, .int 0, .int 0, .long 0, .int 0, .int 0, sh_cv g (sh_r 98), sh_cv g (sh_r 99), sh_cv g (sh_r 100), sh_cv g (sh_r 101), sh_cv g (sh_r 102), sh_cv g (sh_r 103), sh_cv g (sh_r 104), sh_cv g (sh_r 105), sh_cv g (sh_r 106), sh_cv g (sh_r 107), sh_cv g (sh_r 108), .int 0, sh_cv g (sh_r 109), sh_cv g (sh_r 110), sh_cv g (sh_r 111), sh_cv g (sh_r 112), sh_cv g (sh_r 113), sh_cv g (sh_r 114), sh_cv g (sh_r 115), sh_cv g (sh_r 116), sh_cv g (sh_r 117), sh_cv g (sh_r 118), sh_cv g (sh_r 119), sh_cv g (sh_r 120), .int 0, .long 0, sh_cv g (sh_r 121), sh_cv g (sh_r 122), sh_cv g (sh_r 123), sh_cv g (sh_r 124), sh_cv g (sh_r 125), sh_cv g (sh_r 126), sh_cv g (sh_r 127), sh_cv g (sh_r 128), sh_cv g (sh_r 129), sh_cv g (sh_r 130), sh_cv g (sh_r 131), sh_cv g (sh_r 132), sh_cv g (sh_r 133), sh_cv g (sh_r 134), sh_cv g (sh_r 135), .int 0, .int 0, sh_cv g (sh_r 136), .null, .int 0, .int 0, .null, .long 0] := by
  show (mfs39 g).set 53 (sh_cv g (sh_r 136)) = _
  rw [mfsX39]
  rfl
theorem mfsL40 (g : sh_G) : (mfs40 g).length = 59 := by unfold mfs40; rw [List.length_set]; exact mfsL39 g
def mF40 (g : sh_G) (F : Nat → va_E) : Nat → va_E := fu (fu (mF39 g F) 136 (.inl (g.2.2.2.1 0, 4, sh_ac g 0 (fun _ => 0)))) 96 (.inr (12, mfs40 g))
def mfs41 (g : sh_G) : List Value := (mfs40 g).set 54 (sh_cv g (sh_r 137))
theorem mfsX41 (g : sh_G) : mfs41 g = [.int 0, .int 0, sh_cv g (sh_r 97), .int 0, .int 0, .int 0, .int 0, .long 0, .int 0, .int 0, sh_cv g (sh_r 98), sh_cv g (sh_r 99), sh_cv g (sh_r 100), sh_cv g (sh_r 101), sh_cv g (sh_r 102), sh_cv g (sh_r 103), sh_cv g (sh_r 104), sh_cv g (sh_r 105), sh_cv g (sh_r 106), sh_cv g (sh_r 107), sh_cv g (sh_r 108), .int 0, sh_cv g (sh_r 109), sh_cv g (sh_r 110), sh_cv g (sh_r 111), sh_cv g (sh_r 112), sh_cv g (sh_r 113), sh_cv g (sh_r 114), sh_cv g (sh_r 115), sh_cv g (sh_r 116), sh_cv g (sh_r 117), sh_cv g (sh_r 118), sh_cv g (sh_r 119), sh_cv g (sh_r 120), .int 0, .long 0, sh_cv g (sh_r 121), sh_cv g (sh_r 122), sh_cv g (sh_r 123), sh_cv g (sh_r 124), sh_cv g (sh_r 125), sh_cv g (sh_r 126), sh_cv g (sh_r 127), sh_cv g (sh_r 128), sh_cv g (sh_r 129), sh_cv g (sh_r 130), sh_cv g (sh_r 131), sh_cv g (sh_r 132), sh_cv g (sh_r 133), sh_cv g (sh_r 134), sh_cv g (sh_r 135), .int 0, .int 0, sh_cv g (sh_r 136), sh_cv g (sh_r 137), .int 0, .int 0, .null, .long 0] := by
  show (mfs40 g).set 54 (sh_cv g (sh_r 137)) = _
  rw [mfsX40]
  rfl
theorem mfsL41 (g : sh_G) : (mfs41 g).length = 59 := by unfold mfs41; rw [List.length_set]; exact mfsL40 g
def mF41 (g : sh_G) (F : Nat → va_E) : Nat → va_E := fu (fu (mF40 g F) 137 (.inl (g.2.2.2.1 0, 4, sh_ac g 0 (fun _ => 0)))) 96 (.inr (12, mfs41 g))
def mfs42 (g : sh_G) : List Value := (mfs41 g).set 57 (sh_cv g (sh_r 138))
theorem mfsX42 (g : sh_G) : mfs42 g = [.int 0, .int 0, sh_cv g (sh_r 97), .int 0, .int 0, .int 0, .int 0, .long 0, .int 0, .int 0, sh_cv g (sh_r 98), sh_cv g (sh_r 99), sh_cv g (sh_r 100), sh_cv g (sh_r 101), sh_cv g (sh_r 102), sh_cv g (sh_r 103), sh_cv g (sh_r 104), sh_cv g (sh_r 105), sh_cv g (sh_r 106), sh_cv g (sh_r 107), sh_cv g (sh_r 108), .int 0, sh_cv g (sh_r 109), sh_cv g (sh_r 110), sh_cv g (sh_r 111), sh_cv g (sh_r 112), sh_cv g (sh_r 113), sh_cv g (sh_r 114), sh_cv g (sh_r 115), sh_cv g (sh_r 116), sh_cv g (sh_r 117), sh_cv g (sh_r 118), sh_cv g (sh_r 119), sh_cv g (sh_r 120), .int 0, .long 0, sh_cv g (sh_r 121), sh_cv g (sh_r 122), sh_cv g (sh_r 123), sh_cv g (sh_r 124), sh_cv g (sh_r 125), sh_cv g (sh_r 126), sh_cv g (sh_r 127), sh_cv g (sh_r 128), sh_cv g (sh_r 129), sh_cv g (sh_r 130), sh_cv g (sh_r 131), sh_cv g (sh_r 132), sh_cv g (sh_r 133), sh_cv g (sh_r 134), sh_cv g (sh_r 135), .int 0, .int 0, sh_cv g (sh_r 136), sh_cv g (sh_r 137), .int 0, .int 0, sh_cv g (sh_r 138), .long 0] := by
  show (mfs41 g).set 57 (sh_cv g (sh_r 138)) = _
  rw [mfsX41]
  rfl
theorem mfsL42 (g : sh_G) : (mfs42 g).length = 59 := by unfold mfs42; rw [List.length_set]; exact mfsL41 g
def mF42 (g : sh_G) (F : Nat → va_E) : Nat → va_E := fu (fu (mF41 g F) 138 (.inl (g.2.2.2.1 0, 124, sh_ac g 0 (fun _ => 0)))) 96 (.inr (12, mfs42 g))
set_option maxHeartbeats 8000000 in
theorem k_Mod_init {g : sh_G} {d : Nat} {F : Nat → va_E} (hF : F 96 = .inr (12, mfs0)) : ck_Cal g (d + 1) 42 5485 m_Mod_init [sh_r 96] 96 F 138 (fu (mF42 g F) 129 (.inl (g.2.2.2.1 0, 45, sh_ac g 0 (rkF 45)))) := by
  refine ck_met (by decide +kernel) (Nat.le_of_ble_eq_true rfl) (lo := [(0, sh_r 96)]) rfl rfl ?_
  refine ck_aload_n (q := 0) (i := 0) rfl (List.mem_of_getElem? (i := 0) rfl) (by decide +kernel) ?_
  refine ck_obj ol_Mod oi_obj oc_obj (Nat.le_of_ble_eq_true rfl) (by decide +kernel) ?_
  refine ck_aload_n (q := 0) (i := 0) rfl (List.mem_of_getElem? (i := 0) rfl) (by decide +kernel) ?_
  refine ck_sipush (x := 1000) (v := 1000) (by decide) (by decide +kernel) ?_
  refine ck_newa (aty := .int) (t := 0) (N := 1000) ac_int rfl (by decide) (fun _ => rfl) (by decide) (by decide) rfl (by decide) (by decide) (by decide) (by decide +kernel) ?_
  show ck_X g (d + 1) _ _ m_Mod_init 10 [(0, sh_r 96)] [sh_r 97, sh_r 96] 97 (fu (F) 97 (.inl (g.2.2.2.1 0, 1000, sh_ac g 0 (fun _ => 0)))) 1 1000 _
  refine ck_putF (v := sh_r 97) (fs := mfs0) hF (by decide) (by decide) (by decide) rfl fp_Mod_7 (by rw [mfsL0]; decide) rfl rfl (by decide +kernel) ?_
  show ck_X g (d + 1) _ _ m_Mod_init 13 [(0, sh_r 96)] [] 97 (mF1 g F) 1 1000 _
  refine ck_aload_n (q := 0) (i := 0) rfl (List.mem_of_getElem? (i := 0) rfl) (by decide +kernel) ?_
  refine ck_iconst (x := 4) (by decide +kernel) ?_
  refine ck_newa (aty := .int) (t := 0) (N := 4) ac_int rfl (by decide) (fun _ => rfl) (by decide) (by decide) rfl (by decide) (by decide) (by decide) (by decide +kernel) ?_
  show ck_X g (d + 1) _ _ m_Mod_init 17 [(0, sh_r 96)] [sh_r 98, sh_r 96] 98 (fu (mF1 g F) 98 (.inl (g.2.2.2.1 0, 4, sh_ac g 0 (fun _ => 0)))) 2 1004 _
  refine ck_putF (v := sh_r 98) (fs := mfs1 g) rfl (by decide) (by decide) (by decide) rfl fp_Mod_13 (by rw [mfsL1]; decide) rfl rfl (by decide +kernel) ?_
  show ck_X g (d + 1) _ _ m_Mod_init 20 [(0, sh_r 96)] [] 98 (mF2 g F) 2 1004 _
  refine ck_aload_n (q := 0) (i := 0) rfl (List.mem_of_getElem? (i := 0) rfl) (by decide +kernel) ?_
  refine ck_bipush (x := 16) (v := 16) (by decide) (by decide +kernel) ?_
  refine ck_newa (aty := .long) (t := 1) (N := 16) ac_long rfl (by decide) (fun _ => rfl) (by decide) (by decide) rfl (by decide) (by decide) (by decide) (by decide +kernel) ?_
  show ck_X g (d + 1) _ _ m_Mod_init 25 [(0, sh_r 96)] [sh_r 99, sh_r 96] 99 (fu (mF2 g F) 99 (.inl (g.2.2.2.1 1, 16, sh_ac g 1 (fun _ => 0)))) 3 1020 _
  refine ck_putF (v := sh_r 99) (fs := mfs2 g) rfl (by decide) (by decide) (by decide) rfl fp_Mod_16 (by rw [mfsL2]; decide) rfl rfl (by decide +kernel) ?_
  show ck_X g (d + 1) _ _ m_Mod_init 28 [(0, sh_r 96)] [] 99 (mF3 g F) 3 1020 _
  refine ck_aload_n (q := 0) (i := 0) rfl (List.mem_of_getElem? (i := 0) rfl) (by decide +kernel) ?_
  refine ck_bipush (x := 8) (v := 8) (by decide) (by decide +kernel) ?_
  refine ck_newa (aty := .long) (t := 1) (N := 8) ac_long rfl (by decide) (fun _ => rfl) (by decide) (by decide) rfl (by decide) (by decide) (by decide) (by decide +kernel) ?_
  show ck_X g (d + 1) _ _ m_Mod_init 33 [(0, sh_r 96)] [sh_r 100, sh_r 96] 100 (fu (mF3 g F) 100 (.inl (g.2.2.2.1 1, 8, sh_ac g 1 (fun _ => 0)))) 4 1028 _
  refine ck_putF (v := sh_r 100) (fs := mfs3 g) rfl (by decide) (by decide) (by decide) rfl fp_Mod_20 (by rw [mfsL3]; decide) rfl rfl (by decide +kernel) ?_
  show ck_X g (d + 1) _ _ m_Mod_init 36 [(0, sh_r 96)] [] 100 (mF4 g F) 4 1028 _
  refine ck_aload_n (q := 0) (i := 0) rfl (List.mem_of_getElem? (i := 0) rfl) (by decide +kernel) ?_
  refine ck_bipush (x := 16) (v := 16) (by decide) (by decide +kernel) ?_
  refine ck_newa (aty := .int) (t := 0) (N := 16) ac_int rfl (by decide) (fun _ => rfl) (by decide) (by decide) rfl (by decide) (by decide) (by decide) (by decide +kernel) ?_
  show ck_X g (d + 1) _ _ m_Mod_init 41 [(0, sh_r 96)] [sh_r 101, sh_r 96] 101 (fu (mF4 g F) 101 (.inl (g.2.2.2.1 0, 16, sh_ac g 0 (fun _ => 0)))) 5 1044 _
  refine ck_putF (v := sh_r 101) (fs := mfs4 g) rfl (by decide) (by decide) (by decide) rfl fp_Mod_23 (by rw [mfsL4]; decide) rfl rfl (by decide +kernel) ?_
  show ck_X g (d + 1) _ _ m_Mod_init 44 [(0, sh_r 96)] [] 101 (mF5 g F) 5 1044 _
  refine ck_aload_n (q := 0) (i := 0) rfl (List.mem_of_getElem? (i := 0) rfl) (by decide +kernel) ?_
  refine ck_bipush (x := 16) (v := 16) (by decide) (by decide +kernel) ?_
  refine ck_newa (aty := .int) (t := 0) (N := 16) ac_int rfl (by decide) (fun _ => rfl) (by decide) (by decide) rfl (by decide) (by decide) (by decide) (by decide +kernel) ?_
  show ck_X g (d + 1) _ _ m_Mod_init 49 [(0, sh_r 96)] [sh_r 102, sh_r 96] 102 (fu (mF5 g F) 102 (.inl (g.2.2.2.1 0, 16, sh_ac g 0 (fun _ => 0)))) 6 1060 _
  refine ck_putF (v := sh_r 102) (fs := mfs5 g) rfl (by decide) (by decide) (by decide) rfl fp_Mod_26 (by rw [mfsL5]; decide) rfl rfl (by decide +kernel) ?_
  show ck_X g (d + 1) _ _ m_Mod_init 52 [(0, sh_r 96)] [] 102 (mF6 g F) 6 1060 _
  refine ck_aload_n (q := 0) (i := 0) rfl (List.mem_of_getElem? (i := 0) rfl) (by decide +kernel) ?_
  refine ck_bipush (x := 16) (v := 16) (by decide) (by decide +kernel) ?_
  refine ck_newa (aty := .int) (t := 0) (N := 16) ac_int rfl (by decide) (fun _ => rfl) (by decide) (by decide) rfl (by decide) (by decide) (by decide) (by decide +kernel) ?_
  show ck_X g (d + 1) _ _ m_Mod_init 57 [(0, sh_r 96)] [sh_r 103, sh_r 96] 103 (fu (mF6 g F) 103 (.inl (g.2.2.2.1 0, 16, sh_ac g 0 (fun _ => 0)))) 7 1076 _
  refine ck_putF (v := sh_r 103) (fs := mfs6 g) rfl (by decide) (by decide) (by decide) rfl fp_Mod_29 (by rw [mfsL6]; decide) rfl rfl (by decide +kernel) ?_
  show ck_X g (d + 1) _ _ m_Mod_init 60 [(0, sh_r 96)] [] 103 (mF7 g F) 7 1076 _
  refine ck_aload_n (q := 0) (i := 0) rfl (List.mem_of_getElem? (i := 0) rfl) (by decide +kernel) ?_
  refine ck_bipush (x := 8) (v := 8) (by decide) (by decide +kernel) ?_
  refine ck_newa (aty := .int) (t := 0) (N := 8) ac_int rfl (by decide) (fun _ => rfl) (by decide) (by decide) rfl (by decide) (by decide) (by decide) (by decide +kernel) ?_
  show ck_X g (d + 1) _ _ m_Mod_init 65 [(0, sh_r 96)] [sh_r 104, sh_r 96] 104 (fu (mF7 g F) 104 (.inl (g.2.2.2.1 0, 8, sh_ac g 0 (fun _ => 0)))) 8 1084 _
  refine ck_putF (v := sh_r 104) (fs := mfs7 g) rfl (by decide) (by decide) (by decide) rfl fp_Mod_32 (by rw [mfsL7]; decide) rfl rfl (by decide +kernel) ?_
  show ck_X g (d + 1) _ _ m_Mod_init 68 [(0, sh_r 96)] [] 104 (mF8 g F) 8 1084 _
  refine ck_aload_n (q := 0) (i := 0) rfl (List.mem_of_getElem? (i := 0) rfl) (by decide +kernel) ?_
  refine ck_bipush (x := 8) (v := 8) (by decide) (by decide +kernel) ?_
  refine ck_newa (aty := .int) (t := 0) (N := 8) ac_int rfl (by decide) (fun _ => rfl) (by decide) (by decide) rfl (by decide) (by decide) (by decide) (by decide +kernel) ?_
  show ck_X g (d + 1) _ _ m_Mod_init 73 [(0, sh_r 96)] [sh_r 105, sh_r 96] 105 (fu (mF8 g F) 105 (.inl (g.2.2.2.1 0, 8, sh_ac g 0 (fun _ => 0)))) 9 1092 _
  refine ck_putF (v := sh_r 105) (fs := mfs8 g) rfl (by decide) (by decide) (by decide) rfl fp_Mod_35 (by rw [mfsL8]; decide) rfl rfl (by decide +kernel) ?_
  show ck_X g (d + 1) _ _ m_Mod_init 76 [(0, sh_r 96)] [] 105 (mF9 g F) 9 1092 _
  refine ck_aload_n (q := 0) (i := 0) rfl (List.mem_of_getElem? (i := 0) rfl) (by decide +kernel) ?_
  refine ck_iconst (x := 2) (by decide +kernel) ?_
  refine ck_newa (aty := .int) (t := 0) (N := 2) ac_int rfl (by decide) (fun _ => rfl) (by decide) (by decide) rfl (by decide) (by decide) (by decide) (by decide +kernel) ?_
  show ck_X g (d + 1) _ _ m_Mod_init 80 [(0, sh_r 96)] [sh_r 106, sh_r 96] 106 (fu (mF9 g F) 106 (.inl (g.2.2.2.1 0, 2, sh_ac g 0 (fun _ => 0)))) 10 1094 _
  refine ck_putF (v := sh_r 106) (fs := mfs9 g) rfl (by decide) (by decide) (by decide) rfl fp_Mod_38 (by rw [mfsL9]; decide) rfl rfl (by decide +kernel) ?_
  show ck_X g (d + 1) _ _ m_Mod_init 83 [(0, sh_r 96)] [] 106 (mF10 g F) 10 1094 _
  refine ck_aload_n (q := 0) (i := 0) rfl (List.mem_of_getElem? (i := 0) rfl) (by decide +kernel) ?_
  refine ck_iconst (x := 2) (by decide +kernel) ?_
  refine ck_newa (aty := .int) (t := 0) (N := 2) ac_int rfl (by decide) (fun _ => rfl) (by decide) (by decide) rfl (by decide) (by decide) (by decide) (by decide +kernel) ?_
  show ck_X g (d + 1) _ _ m_Mod_init 87 [(0, sh_r 96)] [sh_r 107, sh_r 96] 107 (fu (mF10 g F) 107 (.inl (g.2.2.2.1 0, 2, sh_ac g 0 (fun _ => 0)))) 11 1096 _
  refine ck_putF (v := sh_r 107) (fs := mfs10 g) rfl (by decide) (by decide) (by decide) rfl fp_Mod_41 (by rw [mfsL10]; decide) rfl rfl (by decide +kernel) ?_
  show ck_X g (d + 1) _ _ m_Mod_init 90 [(0, sh_r 96)] [] 107 (mF11 g F) 11 1096 _
  refine ck_aload_n (q := 0) (i := 0) rfl (List.mem_of_getElem? (i := 0) rfl) (by decide +kernel) ?_
  refine ck_sipush (x := 2000) (v := 2000) (by decide) (by decide +kernel) ?_
  refine ck_newa (aty := .int) (t := 0) (N := 2000) ac_int rfl (by decide) (fun _ => rfl) (by decide) (by decide) rfl (by decide) (by decide) (by decide) (by decide +kernel) ?_
  show ck_X g (d + 1) _ _ m_Mod_init 96 [(0, sh_r 96)] [sh_r 108, sh_r 96] 108 (fu (mF11 g F) 108 (.inl (g.2.2.2.1 0, 2000, sh_ac g 0 (fun _ => 0)))) 12 3096 _
  refine ck_putF (v := sh_r 108) (fs := mfs11 g) rfl (by decide) (by decide) (by decide) rfl fp_Mod_44 (by rw [mfsL11]; decide) rfl rfl (by decide +kernel) ?_
  show ck_X g (d + 1) _ _ m_Mod_init 99 [(0, sh_r 96)] [] 108 (mF12 g F) 12 3096 _
  refine ck_aload_n (q := 0) (i := 0) rfl (List.mem_of_getElem? (i := 0) rfl) (by decide +kernel) ?_
  refine ck_bipush (x := 7) (v := 7) (by decide) (by decide +kernel) ?_
  refine ck_newa (aty := .int) (t := 0) (N := 7) ac_int rfl (by decide) (fun _ => rfl) (by decide) (by decide) rfl (by decide) (by decide) (by decide) (by decide +kernel) ?_
  show ck_X g (d + 1) _ _ m_Mod_init 104 [(0, sh_r 96)] [sh_r 109, sh_r 96] 109 (fu (mF12 g F) 109 (.inl (g.2.2.2.1 0, 7, sh_ac g 0 (fun _ => 0)))) 13 3103 _
  refine ck_putF (v := sh_r 109) (fs := mfs12 g) rfl (by decide) (by decide) (by decide) rfl fp_Mod_47 (by rw [mfsL12]; decide) rfl rfl (by decide +kernel) ?_
  show ck_X g (d + 1) _ _ m_Mod_init 107 [(0, sh_r 96)] [] 109 (mF13 g F) 13 3103 _
  refine ck_aload_n (q := 0) (i := 0) rfl (List.mem_of_getElem? (i := 0) rfl) (by decide +kernel) ?_
  refine ck_bipush (x := 7) (v := 7) (by decide) (by decide +kernel) ?_
  refine ck_newa (aty := .boolean) (t := 3) (N := 7) ac_boolean rfl (by decide) (fun _ => rfl) (by decide) (by decide) rfl (by decide) (by decide) (by decide) (by decide +kernel) ?_
  show ck_X g (d + 1) _ _ m_Mod_init 112 [(0, sh_r 96)] [sh_r 110, sh_r 96] 110 (fu (mF13 g F) 110 (.inl (g.2.2.2.1 3, 7, sh_ac g 3 (fun _ => 0)))) 14 3110 _
  refine ck_putF (v := sh_r 110) (fs := mfs13 g) rfl (by decide) (by decide) (by decide) rfl fp_Mod_50 (by rw [mfsL13]; decide) rfl rfl (by decide +kernel) ?_
  show ck_X g (d + 1) _ _ m_Mod_init 115 [(0, sh_r 96)] [] 110 (mF14 g F) 14 3110 _
  refine ck_aload_n (q := 0) (i := 0) rfl (List.mem_of_getElem? (i := 0) rfl) (by decide +kernel) ?_
  refine ck_bipush (x := 7) (v := 7) (by decide) (by decide +kernel) ?_
  refine ck_newa (aty := .int) (t := 0) (N := 7) ac_int rfl (by decide) (fun _ => rfl) (by decide) (by decide) rfl (by decide) (by decide) (by decide) (by decide +kernel) ?_
  show ck_X g (d + 1) _ _ m_Mod_init 120 [(0, sh_r 96)] [sh_r 111, sh_r 96] 111 (fu (mF14 g F) 111 (.inl (g.2.2.2.1 0, 7, sh_ac g 0 (fun _ => 0)))) 15 3117 _
  refine ck_putF (v := sh_r 111) (fs := mfs14 g) rfl (by decide) (by decide) (by decide) rfl fp_Mod_54 (by rw [mfsL14]; decide) rfl rfl (by decide +kernel) ?_
  show ck_X g (d + 1) _ _ m_Mod_init 123 [(0, sh_r 96)] [] 111 (mF15 g F) 15 3117 _
  refine ck_aload_n (q := 0) (i := 0) rfl (List.mem_of_getElem? (i := 0) rfl) (by decide +kernel) ?_
  refine ck_bipush (x := 7) (v := 7) (by decide) (by decide +kernel) ?_
  refine ck_newa (aty := .int) (t := 0) (N := 7) ac_int rfl (by decide) (fun _ => rfl) (by decide) (by decide) rfl (by decide) (by decide) (by decide) (by decide +kernel) ?_
  show ck_X g (d + 1) _ _ m_Mod_init 128 [(0, sh_r 96)] [sh_r 112, sh_r 96] 112 (fu (mF15 g F) 112 (.inl (g.2.2.2.1 0, 7, sh_ac g 0 (fun _ => 0)))) 16 3124 _
  refine ck_putF (v := sh_r 112) (fs := mfs15 g) rfl (by decide) (by decide) (by decide) rfl fp_Mod_57 (by rw [mfsL15]; decide) rfl rfl (by decide +kernel) ?_
  show ck_X g (d + 1) _ _ m_Mod_init 131 [(0, sh_r 96)] [] 112 (mF16 g F) 16 3124 _
  refine ck_aload_n (q := 0) (i := 0) rfl (List.mem_of_getElem? (i := 0) rfl) (by decide +kernel) ?_
  refine ck_bipush (x := 7) (v := 7) (by decide) (by decide +kernel) ?_
  refine ck_newa (aty := .int) (t := 0) (N := 7) ac_int rfl (by decide) (fun _ => rfl) (by decide) (by decide) rfl (by decide) (by decide) (by decide) (by decide +kernel) ?_
  show ck_X g (d + 1) _ _ m_Mod_init 136 [(0, sh_r 96)] [sh_r 113, sh_r 96] 113 (fu (mF16 g F) 113 (.inl (g.2.2.2.1 0, 7, sh_ac g 0 (fun _ => 0)))) 17 3131 _
  refine ck_putF (v := sh_r 113) (fs := mfs16 g) rfl (by decide) (by decide) (by decide) rfl fp_Mod_60 (by rw [mfsL16]; decide) rfl rfl (by decide +kernel) ?_
  show ck_X g (d + 1) _ _ m_Mod_init 139 [(0, sh_r 96)] [] 113 (mF17 g F) 17 3131 _
  refine ck_aload_n (q := 0) (i := 0) rfl (List.mem_of_getElem? (i := 0) rfl) (by decide +kernel) ?_
  refine ck_bipush (x := 7) (v := 7) (by decide) (by decide +kernel) ?_
  refine ck_newa (aty := .int) (t := 0) (N := 7) ac_int rfl (by decide) (fun _ => rfl) (by decide) (by decide) rfl (by decide) (by decide) (by decide) (by decide +kernel) ?_
  show ck_X g (d + 1) _ _ m_Mod_init 144 [(0, sh_r 96)] [sh_r 114, sh_r 96] 114 (fu (mF17 g F) 114 (.inl (g.2.2.2.1 0, 7, sh_ac g 0 (fun _ => 0)))) 18 3138 _
  refine ck_putF (v := sh_r 114) (fs := mfs17 g) rfl (by decide) (by decide) (by decide) rfl fp_Mod_63 (by rw [mfsL17]; decide) rfl rfl (by decide +kernel) ?_
  show ck_X g (d + 1) _ _ m_Mod_init 147 [(0, sh_r 96)] [] 114 (mF18 g F) 18 3138 _
  refine ck_aload_n (q := 0) (i := 0) rfl (List.mem_of_getElem? (i := 0) rfl) (by decide +kernel) ?_
  refine ck_bipush (x := 7) (v := 7) (by decide) (by decide +kernel) ?_
  refine ck_newa (aty := .int) (t := 0) (N := 7) ac_int rfl (by decide) (fun _ => rfl) (by decide) (by decide) rfl (by decide) (by decide) (by decide) (by decide +kernel) ?_
  show ck_X g (d + 1) _ _ m_Mod_init 152 [(0, sh_r 96)] [sh_r 115, sh_r 96] 115 (fu (mF18 g F) 115 (.inl (g.2.2.2.1 0, 7, sh_ac g 0 (fun _ => 0)))) 19 3145 _
  refine ck_putF (v := sh_r 115) (fs := mfs18 g) rfl (by decide) (by decide) (by decide) rfl fp_Mod_66 (by rw [mfsL18]; decide) rfl rfl (by decide +kernel) ?_
  show ck_X g (d + 1) _ _ m_Mod_init 155 [(0, sh_r 96)] [] 115 (mF19 g F) 19 3145 _
  refine ck_aload_n (q := 0) (i := 0) rfl (List.mem_of_getElem? (i := 0) rfl) (by decide +kernel) ?_
  refine ck_bipush (x := 7) (v := 7) (by decide) (by decide +kernel) ?_
  refine ck_newa (aty := .int) (t := 0) (N := 7) ac_int rfl (by decide) (fun _ => rfl) (by decide) (by decide) rfl (by decide) (by decide) (by decide) (by decide +kernel) ?_
  show ck_X g (d + 1) _ _ m_Mod_init 160 [(0, sh_r 96)] [sh_r 116, sh_r 96] 116 (fu (mF19 g F) 116 (.inl (g.2.2.2.1 0, 7, sh_ac g 0 (fun _ => 0)))) 20 3152 _
  refine ck_putF (v := sh_r 116) (fs := mfs19 g) rfl (by decide) (by decide) (by decide) rfl fp_Mod_69 (by rw [mfsL19]; decide) rfl rfl (by decide +kernel) ?_
  show ck_X g (d + 1) _ _ m_Mod_init 163 [(0, sh_r 96)] [] 116 (mF20 g F) 20 3152 _
  refine ck_aload_n (q := 0) (i := 0) rfl (List.mem_of_getElem? (i := 0) rfl) (by decide +kernel) ?_
  refine ck_bipush (x := 7) (v := 7) (by decide) (by decide +kernel) ?_
  refine ck_newa (aty := .int) (t := 0) (N := 7) ac_int rfl (by decide) (fun _ => rfl) (by decide) (by decide) rfl (by decide) (by decide) (by decide) (by decide +kernel) ?_
  show ck_X g (d + 1) _ _ m_Mod_init 168 [(0, sh_r 96)] [sh_r 117, sh_r 96] 117 (fu (mF20 g F) 117 (.inl (g.2.2.2.1 0, 7, sh_ac g 0 (fun _ => 0)))) 21 3159 _
  refine ck_putF (v := sh_r 117) (fs := mfs20 g) rfl (by decide) (by decide) (by decide) rfl fp_Mod_72 (by rw [mfsL20]; decide) rfl rfl (by decide +kernel) ?_
  show ck_X g (d + 1) _ _ m_Mod_init 171 [(0, sh_r 96)] [] 117 (mF21 g F) 21 3159 _
  refine ck_aload_n (q := 0) (i := 0) rfl (List.mem_of_getElem? (i := 0) rfl) (by decide +kernel) ?_
  refine ck_bipush (x := 7) (v := 7) (by decide) (by decide +kernel) ?_
  refine ck_newa (aty := .int) (t := 0) (N := 7) ac_int rfl (by decide) (fun _ => rfl) (by decide) (by decide) rfl (by decide) (by decide) (by decide) (by decide +kernel) ?_
  show ck_X g (d + 1) _ _ m_Mod_init 176 [(0, sh_r 96)] [sh_r 118, sh_r 96] 118 (fu (mF21 g F) 118 (.inl (g.2.2.2.1 0, 7, sh_ac g 0 (fun _ => 0)))) 22 3166 _
  refine ck_putF (v := sh_r 118) (fs := mfs21 g) rfl (by decide) (by decide) (by decide) rfl fp_Mod_75 (by rw [mfsL21]; decide) rfl rfl (by decide +kernel) ?_
  show ck_X g (d + 1) _ _ m_Mod_init 179 [(0, sh_r 96)] [] 118 (mF22 g F) 22 3166 _
  refine ck_aload_n (q := 0) (i := 0) rfl (List.mem_of_getElem? (i := 0) rfl) (by decide +kernel) ?_
  refine ck_bipush (x := 7) (v := 7) (by decide) (by decide +kernel) ?_
  refine ck_newa (aty := .int) (t := 0) (N := 7) ac_int rfl (by decide) (fun _ => rfl) (by decide) (by decide) rfl (by decide) (by decide) (by decide) (by decide +kernel) ?_
  show ck_X g (d + 1) _ _ m_Mod_init 184 [(0, sh_r 96)] [sh_r 119, sh_r 96] 119 (fu (mF22 g F) 119 (.inl (g.2.2.2.1 0, 7, sh_ac g 0 (fun _ => 0)))) 23 3173 _
  refine ck_putF (v := sh_r 119) (fs := mfs22 g) rfl (by decide) (by decide) (by decide) rfl fp_Mod_78 (by rw [mfsL22]; decide) rfl rfl (by decide +kernel) ?_
  show ck_X g (d + 1) _ _ m_Mod_init 187 [(0, sh_r 96)] [] 119 (mF23 g F) 23 3173 _
  refine ck_aload_n (q := 0) (i := 0) rfl (List.mem_of_getElem? (i := 0) rfl) (by decide +kernel) ?_
  refine ck_bipush (x := 20) (v := 20) (by decide) (by decide +kernel) ?_
  refine ck_newa (aty := .int) (t := 0) (N := 20) ac_int rfl (by decide) (fun _ => rfl) (by decide) (by decide) rfl (by decide) (by decide) (by decide) (by decide +kernel) ?_
  show ck_X g (d + 1) _ _ m_Mod_init 192 [(0, sh_r 96)] [sh_r 120, sh_r 96] 120 (fu (mF23 g F) 120 (.inl (g.2.2.2.1 0, 20, sh_ac g 0 (fun _ => 0)))) 24 3193 _
  refine ck_putF (v := sh_r 120) (fs := mfs23 g) rfl (by decide) (by decide) (by decide) rfl fp_Mod_81 (by rw [mfsL23]; decide) rfl rfl (by decide +kernel) ?_
  show ck_X g (d + 1) _ _ m_Mod_init 195 [(0, sh_r 96)] [] 120 (mF24 g F) 24 3193 _
  refine ck_aload_n (q := 0) (i := 0) rfl (List.mem_of_getElem? (i := 0) rfl) (by decide +kernel) ?_
  refine ck_bipush (x := 6) (v := 6) (by decide) (by decide +kernel) ?_
  refine ck_newa (aty := .int) (t := 0) (N := 6) ac_int rfl (by decide) (fun _ => rfl) (by decide) (by decide) rfl (by decide) (by decide) (by decide) (by decide +kernel) ?_
  show ck_X g (d + 1) _ _ m_Mod_init 200 [(0, sh_r 96)] [sh_r 121, sh_r 96] 121 (fu (mF24 g F) 121 (.inl (g.2.2.2.1 0, 6, sh_ac g 0 (fun _ => 0)))) 25 3199 _
  refine ck_putF (v := sh_r 121) (fs := mfs24 g) rfl (by decide) (by decide) (by decide) rfl fp_Mod_84 (by rw [mfsL24]; decide) rfl rfl (by decide +kernel) ?_
  show ck_X g (d + 1) _ _ m_Mod_init 203 [(0, sh_r 96)] [] 121 (mF25 g F) 25 3199 _
  refine ck_aload_n (q := 0) (i := 0) rfl (List.mem_of_getElem? (i := 0) rfl) (by decide +kernel) ?_
  refine ck_sipush (x := 240) (v := 240) (by decide) (by decide +kernel) ?_
  refine ck_newa (aty := .int) (t := 0) (N := 240) ac_int rfl (by decide) (fun _ => rfl) (by decide) (by decide) rfl (by decide) (by decide) (by decide) (by decide +kernel) ?_
  show ck_X g (d + 1) _ _ m_Mod_init 209 [(0, sh_r 96)] [sh_r 122, sh_r 96] 122 (fu (mF25 g F) 122 (.inl (g.2.2.2.1 0, 240, sh_ac g 0 (fun _ => 0)))) 26 3439 _
  refine ck_putF (v := sh_r 122) (fs := mfs25 g) rfl (by decide) (by decide) (by decide) rfl fp_Mod_87 (by rw [mfsL25]; decide) rfl rfl (by decide +kernel) ?_
  show ck_X g (d + 1) _ _ m_Mod_init 212 [(0, sh_r 96)] [] 122 (mF26 g F) 26 3439 _
  refine ck_aload_n (q := 0) (i := 0) rfl (List.mem_of_getElem? (i := 0) rfl) (by decide +kernel) ?_
  refine ck_sipush (x := 240) (v := 240) (by decide) (by decide +kernel) ?_
  refine ck_newa (aty := .int) (t := 0) (N := 240) ac_int rfl (by decide) (fun _ => rfl) (by decide) (by decide) rfl (by decide) (by decide) (by decide) (by decide +kernel) ?_
  show ck_X g (d + 1) _ _ m_Mod_init 218 [(0, sh_r 96)] [sh_r 123, sh_r 96] 123 (fu (mF26 g F) 123 (.inl (g.2.2.2.1 0, 240, sh_ac g 0 (fun _ => 0)))) 27 3679 _
  refine ck_putF (v := sh_r 123) (fs := mfs26 g) rfl (by decide) (by decide) (by decide) rfl fp_Mod_90 (by rw [mfsL26]; decide) rfl rfl (by decide +kernel) ?_
  show ck_X g (d + 1) _ _ m_Mod_init 221 [(0, sh_r 96)] [] 123 (mF27 g F) 27 3679 _
  refine ck_aload_n (q := 0) (i := 0) rfl (List.mem_of_getElem? (i := 0) rfl) (by decide +kernel) ?_
  refine ck_sipush (x := 240) (v := 240) (by decide) (by decide +kernel) ?_
  refine ck_newa (aty := .int) (t := 0) (N := 240) ac_int rfl (by decide) (fun _ => rfl) (by decide) (by decide) rfl (by decide) (by decide) (by decide) (by decide +kernel) ?_
  show ck_X g (d + 1) _ _ m_Mod_init 227 [(0, sh_r 96)] [sh_r 124, sh_r 96] 124 (fu (mF27 g F) 124 (.inl (g.2.2.2.1 0, 240, sh_ac g 0 (fun _ => 0)))) 28 3919 _
  refine ck_putF (v := sh_r 124) (fs := mfs27 g) rfl (by decide) (by decide) (by decide) rfl fp_Mod_93 (by rw [mfsL27]; decide) rfl rfl (by decide +kernel) ?_
  show ck_X g (d + 1) _ _ m_Mod_init 230 [(0, sh_r 96)] [] 124 (mF28 g F) 28 3919 _
  refine ck_aload_n (q := 0) (i := 0) rfl (List.mem_of_getElem? (i := 0) rfl) (by decide +kernel) ?_
  refine ck_iconst (x := 5) (by decide +kernel) ?_
  refine ck_newa (aty := .int) (t := 0) (N := 5) ac_int rfl (by decide) (fun _ => rfl) (by decide) (by decide) rfl (by decide) (by decide) (by decide) (by decide +kernel) ?_
  show ck_X g (d + 1) _ _ m_Mod_init 234 [(0, sh_r 96)] [sh_r 125, sh_r 96] 125 (fu (mF28 g F) 125 (.inl (g.2.2.2.1 0, 5, sh_ac g 0 (fun _ => 0)))) 29 3924 _
  refine ck_putF (v := sh_r 125) (fs := mfs28 g) rfl (by decide) (by decide) (by decide) rfl fp_Mod_96 (by rw [mfsL28]; decide) rfl rfl (by decide +kernel) ?_
  show ck_X g (d + 1) _ _ m_Mod_init 237 [(0, sh_r 96)] [] 125 (mF29 g F) 29 3924 _
  refine ck_aload_n (q := 0) (i := 0) rfl (List.mem_of_getElem? (i := 0) rfl) (by decide +kernel) ?_
  refine ck_bipush (x := 40) (v := 40) (by decide) (by decide +kernel) ?_
  refine ck_newa (aty := .int) (t := 0) (N := 40) ac_int rfl (by decide) (fun _ => rfl) (by decide) (by decide) rfl (by decide) (by decide) (by decide) (by decide +kernel) ?_
  show ck_X g (d + 1) _ _ m_Mod_init 242 [(0, sh_r 96)] [sh_r 126, sh_r 96] 126 (fu (mF29 g F) 126 (.inl (g.2.2.2.1 0, 40, sh_ac g 0 (fun _ => 0)))) 30 3964 _
  refine ck_putF (v := sh_r 126) (fs := mfs29 g) rfl (by decide) (by decide) (by decide) rfl fp_Mod_99 (by rw [mfsL29]; decide) rfl rfl (by decide +kernel) ?_
  show ck_X g (d + 1) _ _ m_Mod_init 245 [(0, sh_r 96)] [] 126 (mF30 g F) 30 3964 _
  refine ck_aload_n (q := 0) (i := 0) rfl (List.mem_of_getElem? (i := 0) rfl) (by decide +kernel) ?_
  refine ck_bipush (x := 40) (v := 40) (by decide) (by decide +kernel) ?_
  refine ck_newa (aty := .int) (t := 0) (N := 40) ac_int rfl (by decide) (fun _ => rfl) (by decide) (by decide) rfl (by decide) (by decide) (by decide) (by decide +kernel) ?_
  show ck_X g (d + 1) _ _ m_Mod_init 250 [(0, sh_r 96)] [sh_r 127, sh_r 96] 127 (fu (mF30 g F) 127 (.inl (g.2.2.2.1 0, 40, sh_ac g 0 (fun _ => 0)))) 31 4004 _
  refine ck_putF (v := sh_r 127) (fs := mfs30 g) rfl (by decide) (by decide) (by decide) rfl fp_Mod_102 (by rw [mfsL30]; decide) rfl rfl (by decide +kernel) ?_
  show ck_X g (d + 1) _ _ m_Mod_init 253 [(0, sh_r 96)] [] 127 (mF31 g F) 31 4004 _
  refine ck_aload_n (q := 0) (i := 0) rfl (List.mem_of_getElem? (i := 0) rfl) (by decide +kernel) ?_
  refine ck_bipush (x := 40) (v := 40) (by decide) (by decide +kernel) ?_
  refine ck_newa (aty := .boolean) (t := 3) (N := 40) ac_boolean rfl (by decide) (fun _ => rfl) (by decide) (by decide) rfl (by decide) (by decide) (by decide) (by decide +kernel) ?_
  show ck_X g (d + 1) _ _ m_Mod_init 258 [(0, sh_r 96)] [sh_r 128, sh_r 96] 128 (fu (mF31 g F) 128 (.inl (g.2.2.2.1 3, 40, sh_ac g 3 (fun _ => 0)))) 32 4044 _
  refine ck_putF (v := sh_r 128) (fs := mfs31 g) rfl (by decide) (by decide) (by decide) rfl fp_Mod_105 (by rw [mfsL31]; decide) rfl rfl (by decide +kernel) ?_
  show ck_X g (d + 1) _ _ m_Mod_init 261 [(0, sh_r 96)] [] 128 (mF32 g F) 32 4044 _
  refine ck_aload_n (q := 0) (i := 0) rfl (List.mem_of_getElem? (i := 0) rfl) (by decide +kernel) ?_
  refine ck_bipush (x := 45) (v := 45) (by decide) (by decide +kernel) ?_
  refine ck_newa (aty := .int) (t := 0) (N := 45) ac_int rfl (by decide) (fun _ => rfl) (by decide) (by decide) rfl (by decide) (by decide) (by decide) (by decide +kernel) ?_
  show ck_X g (d + 1) _ _ m_Mod_init 266 [(0, sh_r 96)] [sh_r 129, sh_r 96] 129 (fu (mF32 g F) 129 (.inl (g.2.2.2.1 0, 45, sh_ac g 0 (fun _ => 0)))) 33 4089 _
  refine ck_putF (v := sh_r 129) (fs := mfs32 g) rfl (by decide) (by decide) (by decide) rfl fp_Mod_108 (by rw [mfsL32]; decide) rfl rfl (by decide +kernel) ?_
  show ck_X g (d + 1) _ _ m_Mod_init 269 [(0, sh_r 96)] [] 129 (mF33 g F) 33 4089 _
  refine ck_aload_n (q := 0) (i := 0) rfl (List.mem_of_getElem? (i := 0) rfl) (by decide +kernel) ?_
  refine ck_bipush (x := 45) (v := 45) (by decide) (by decide +kernel) ?_
  refine ck_newa (aty := .int) (t := 0) (N := 45) ac_int rfl (by decide) (fun _ => rfl) (by decide) (by decide) rfl (by decide) (by decide) (by decide) (by decide +kernel) ?_
  show ck_X g (d + 1) _ _ m_Mod_init 274 [(0, sh_r 96)] [sh_r 130, sh_r 96] 130 (fu (mF33 g F) 130 (.inl (g.2.2.2.1 0, 45, sh_ac g 0 (fun _ => 0)))) 34 4134 _
  refine ck_putF (v := sh_r 130) (fs := mfs33 g) rfl (by decide) (by decide) (by decide) rfl fp_Mod_111 (by rw [mfsL33]; decide) rfl rfl (by decide +kernel) ?_
  show ck_X g (d + 1) _ _ m_Mod_init 277 [(0, sh_r 96)] [] 130 (mF34 g F) 34 4134 _
  refine ck_aload_n (q := 0) (i := 0) rfl (List.mem_of_getElem? (i := 0) rfl) (by decide +kernel) ?_
  refine ck_bipush (x := 45) (v := 45) (by decide) (by decide +kernel) ?_
  refine ck_newa (aty := .int) (t := 0) (N := 45) ac_int rfl (by decide) (fun _ => rfl) (by decide) (by decide) rfl (by decide) (by decide) (by decide) (by decide +kernel) ?_
  show ck_X g (d + 1) _ _ m_Mod_init 282 [(0, sh_r 96)] [sh_r 131, sh_r 96] 131 (fu (mF34 g F) 131 (.inl (g.2.2.2.1 0, 45, sh_ac g 0 (fun _ => 0)))) 35 4179 _
  refine ck_putF (v := sh_r 131) (fs := mfs34 g) rfl (by decide) (by decide) (by decide) rfl fp_Mod_114 (by rw [mfsL34]; decide) rfl rfl (by decide +kernel) ?_
  show ck_X g (d + 1) _ _ m_Mod_init 285 [(0, sh_r 96)] [] 131 (mF35 g F) 35 4179 _
  refine ck_aload_n (q := 0) (i := 0) rfl (List.mem_of_getElem? (i := 0) rfl) (by decide +kernel) ?_
  refine ck_sipush (x := 270) (v := 270) (by decide) (by decide +kernel) ?_
  refine ck_newa (aty := .int) (t := 0) (N := 270) ac_int rfl (by decide) (fun _ => rfl) (by decide) (by decide) rfl (by decide) (by decide) (by decide) (by decide +kernel) ?_
  show ck_X g (d + 1) _ _ m_Mod_init 291 [(0, sh_r 96)] [sh_r 132, sh_r 96] 132 (fu (mF35 g F) 132 (.inl (g.2.2.2.1 0, 270, sh_ac g 0 (fun _ => 0)))) 36 4449 _
  refine ck_putF (v := sh_r 132) (fs := mfs35 g) rfl (by decide) (by decide) (by decide) rfl fp_Mod_117 (by rw [mfsL35]; decide) rfl rfl (by decide +kernel) ?_
  show ck_X g (d + 1) _ _ m_Mod_init 294 [(0, sh_r 96)] [] 132 (mF36 g F) 36 4449 _
  refine ck_aload_n (q := 0) (i := 0) rfl (List.mem_of_getElem? (i := 0) rfl) (by decide +kernel) ?_
  refine ck_sipush (x := 180) (v := 180) (by decide) (by decide +kernel) ?_
  refine ck_newa (aty := .int) (t := 0) (N := 180) ac_int rfl (by decide) (fun _ => rfl) (by decide) (by decide) rfl (by decide) (by decide) (by decide) (by decide +kernel) ?_
  show ck_X g (d + 1) _ _ m_Mod_init 300 [(0, sh_r 96)] [sh_r 133, sh_r 96] 133 (fu (mF36 g F) 133 (.inl (g.2.2.2.1 0, 180, sh_ac g 0 (fun _ => 0)))) 37 4629 _
  refine ck_putF (v := sh_r 133) (fs := mfs36 g) rfl (by decide) (by decide) (by decide) rfl fp_Mod_120 (by rw [mfsL36]; decide) rfl rfl (by decide +kernel) ?_
  show ck_X g (d + 1) _ _ m_Mod_init 303 [(0, sh_r 96)] [] 133 (mF37 g F) 37 4629 _
  refine ck_aload_n (q := 0) (i := 0) rfl (List.mem_of_getElem? (i := 0) rfl) (by decide +kernel) ?_
  refine ck_sipush (x := 720) (v := 720) (by decide) (by decide +kernel) ?_
  refine ck_newa (aty := .int) (t := 0) (N := 720) ac_int rfl (by decide) (fun _ => rfl) (by decide) (by decide) rfl (by decide) (by decide) (by decide) (by decide +kernel) ?_
  show ck_X g (d + 1) _ _ m_Mod_init 309 [(0, sh_r 96)] [sh_r 134, sh_r 96] 134 (fu (mF37 g F) 134 (.inl (g.2.2.2.1 0, 720, sh_ac g 0 (fun _ => 0)))) 38 5349 _
  refine ck_putF (v := sh_r 134) (fs := mfs37 g) rfl (by decide) (by decide) (by decide) rfl fp_Mod_123 (by rw [mfsL37]; decide) rfl rfl (by decide +kernel) ?_
  show ck_X g (d + 1) _ _ m_Mod_init 312 [(0, sh_r 96)] [] 134 (mF38 g F) 38 5349 _
  refine ck_aload_n (q := 0) (i := 0) rfl (List.mem_of_getElem? (i := 0) rfl) (by decide +kernel) ?_
  refine ck_iconst (x := 4) (by decide +kernel) ?_
  refine ck_newa (aty := .boolean) (t := 3) (N := 4) ac_boolean rfl (by decide) (fun _ => rfl) (by decide) (by decide) rfl (by decide) (by decide) (by decide) (by decide +kernel) ?_
  show ck_X g (d + 1) _ _ m_Mod_init 316 [(0, sh_r 96)] [sh_r 135, sh_r 96] 135 (fu (mF38 g F) 135 (.inl (g.2.2.2.1 3, 4, sh_ac g 3 (fun _ => 0)))) 39 5353 _
  refine ck_putF (v := sh_r 135) (fs := mfs38 g) rfl (by decide) (by decide) (by decide) rfl fp_Mod_126 (by rw [mfsL38]; decide) rfl rfl (by decide +kernel) ?_
  show ck_X g (d + 1) _ _ m_Mod_init 319 [(0, sh_r 96)] [] 135 (mF39 g F) 39 5353 _
  refine ck_aload_n (q := 0) (i := 0) rfl (List.mem_of_getElem? (i := 0) rfl) (by decide +kernel) ?_
  refine ck_iconst (x := 4) (by decide +kernel) ?_
  refine ck_newa (aty := .int) (t := 0) (N := 4) ac_int rfl (by decide) (fun _ => rfl) (by decide) (by decide) rfl (by decide) (by decide) (by decide) (by decide +kernel) ?_
  show ck_X g (d + 1) _ _ m_Mod_init 323 [(0, sh_r 96)] [sh_r 136, sh_r 96] 136 (fu (mF39 g F) 136 (.inl (g.2.2.2.1 0, 4, sh_ac g 0 (fun _ => 0)))) 40 5357 _
  refine ck_putF (v := sh_r 136) (fs := mfs39 g) rfl (by decide) (by decide) (by decide) rfl fp_Mod_129 (by rw [mfsL39]; decide) rfl rfl (by decide +kernel) ?_
  show ck_X g (d + 1) _ _ m_Mod_init 326 [(0, sh_r 96)] [] 136 (mF40 g F) 40 5357 _
  refine ck_aload_n (q := 0) (i := 0) rfl (List.mem_of_getElem? (i := 0) rfl) (by decide +kernel) ?_
  refine ck_iconst (x := 4) (by decide +kernel) ?_
  refine ck_newa (aty := .int) (t := 0) (N := 4) ac_int rfl (by decide) (fun _ => rfl) (by decide) (by decide) rfl (by decide) (by decide) (by decide) (by decide +kernel) ?_
  show ck_X g (d + 1) _ _ m_Mod_init 330 [(0, sh_r 96)] [sh_r 137, sh_r 96] 137 (fu (mF40 g F) 137 (.inl (g.2.2.2.1 0, 4, sh_ac g 0 (fun _ => 0)))) 41 5361 _
  refine ck_putF (v := sh_r 137) (fs := mfs40 g) rfl (by decide) (by decide) (by decide) rfl fp_Mod_132 (by rw [mfsL40]; decide) rfl rfl (by decide +kernel) ?_
  show ck_X g (d + 1) _ _ m_Mod_init 333 [(0, sh_r 96)] [] 137 (mF41 g F) 41 5361 _
  refine ck_aload_n (q := 0) (i := 0) rfl (List.mem_of_getElem? (i := 0) rfl) (by decide +kernel) ?_
  refine ck_bipush (x := 124) (v := 124) (by decide) (by decide +kernel) ?_
  refine ck_newa (aty := .int) (t := 0) (N := 124) ac_int rfl (by decide) (fun _ => rfl) (by decide) (by decide) rfl (by decide) (by decide) (by decide) (by decide +kernel) ?_
  show ck_X g (d + 1) _ _ m_Mod_init 338 [(0, sh_r 96)] [sh_r 138, sh_r 96] 138 (fu (mF41 g F) 138 (.inl (g.2.2.2.1 0, 124, sh_ac g 0 (fun _ => 0)))) 42 5485 _
  refine ck_putF (v := sh_r 138) (fs := mfs41 g) rfl (by decide) (by decide) (by decide) rfl fp_Mod_135 (by rw [mfsL41]; decide) rfl rfl (by decide +kernel) ?_
  show ck_X g (d + 1) _ _ m_Mod_init 341 [(0, sh_r 96)] [] 138 (mF42 g F) 42 5485 _
  refine ck_aload_n (q := 0) (i := 0) rfl (List.mem_of_getElem? (i := 0) rfl) (by decide +kernel) ?_
  refine ck_callV (av := []) (fs := mfs42 g) rfl (by decide) (by decide) (by decide) rfl rfl mo_Mod_fresh0 ml_Mod_138 im_Mod_fresh0 se_Mod_fresh0 rfl (Nat.le_of_ble_eq_true rfl) (by decide) (by decide) (by decide +kernel) (k_fresh0 (fs := mfs42 g) rfl (by rw [mfsX42]; rfl) (by rw [mfsX42]; rfl) rfl rfl) ?_
  show ck_X g (d + 1) _ _ m_Mod_init 345 [(0, sh_r 96)] [] 138 (fu (mF42 g F) 129 (.inl (g.2.2.2.1 0, 45, sh_ac g 0 (rkF 45)))) 42 5485 _
  exact ck_ret (by decide +kernel)
