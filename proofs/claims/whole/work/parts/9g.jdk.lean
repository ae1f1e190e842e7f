/-! ===== the JDK's members of a text ===== -/
theorem sh_ad_v (g : sh_G) (i : Nat) : sh_ad g (i + 2000) = g.2.2.2.2.2 i := by
  unfold sh_ad; rw [if_neg (by omega), if_neg (by omega), Nat.add_sub_cancel]
theorem cv_t (g : sh_G) {i : Nat} (h : i < sh_nS) : sh_cv g (sh_r (i + 1000)) = .ref (g.2.2.2.2.1 i) := congrArg Value.ref (sh_ad_t g h)
theorem cv_v (g : sh_G) (i : Nat) : sh_cv g (sh_r (i + 2000)) = .ref (g.2.2.2.2.2 i) := congrArg Value.ref (sh_ad_v g i)
theorem txL_le : ∀ i, i < 3 → txL i ≤ 100 := by decide +kernel
theorem tx_shr : ∀ i, i < 3 → i_shr (txL i : Int) 0 = (txL i : Int) := by decide +kernel
theorem tx_i3 : ∀ i, i < 3 → i3 (txL i : Int) = (txL i : Int) := by decide +kernel
theorem tx_2c : ∀ i, i < 3 → ∀ k, k < txL i → i_2c (i_and (txC i k) 255) = txC i k := by decide +kernel
theorem tx_ch : ∀ i, i < 3 → ∀ k, k < txL i → 0 ≤ txC i k ∧ txC i k < 65536 ∧ i3 (txC i k) = txC i k := by decide +kernel
section XJ
variable {g : sh_G} {d : Nat} {M : sh_M} {pc : Nat} {lo : List (Nat × sh_V)} {st : List sh_V} {mem : sh_Mem} {K : Nat → List (Nat × sh_V) → List sh_V → sh_Mem → Prop}
theorem xr_getTV {i : Nat} (hi : i < sh_nS) (hM : M.1.cls = "java/lang/String") (hd : decode M.2.1 pc = .ok (.getfield 9, 3)) (k : sh_X g d M (pc + 3) lo (sh_r (i + 2000) :: st) mem K) : sh_X g d M pc lo (sh_r (i + 1000) :: st) mem K := by
  refine sh_go (fun p e R s m args below meth c A H locs ls cells slots Qf C Rl z => ?_) k
  have hE := (C.2.2.2.2.2.2.2.2.1.1 i hi).2.2.1
  rw [List.map_cons, cv_v] at z
  rw [List.map_cons, cv_t g hi]
  exact vk_getf (own := M.1.cls) (ref := "java/lang/String") C.1 C.2.1 hE Rl.2.1 C.2.2.2.1 (by rw [hM]; exact C.2.2.2.2.1 _ fk_Str_9) (fun _ h => h) hd z
theorem xr_getTC {i : Nat} (hi : i < sh_nS) (hM : M.1.cls = "java/lang/String") (hd : decode M.2.1 pc = .ok (.getfield 15, 3)) (k : sh_X g d M (pc + 3) lo (sh_i 0 :: st) mem K) : sh_X g d M pc lo (sh_r (i + 1000) :: st) mem K := by
  refine sh_go (fun p e R s m args below meth c A H locs ls cells slots Qf C Rl z => ?_) k
  have hE := (C.2.2.2.2.2.2.2.2.1.1 i hi).2.1
  rw [List.map_cons, cv_t g hi]
  exact vk_getf (own := M.1.cls) (ref := "java/lang/String") C.1 C.2.1 hE Rl.2.1 C.2.2.2.1 (by rw [hM]; exact C.2.2.2.2.1 _ fk_Str_15) (fun _ h => h) hd z
theorem xr_getsC (hM : M.1.cls = "java/lang/String") (hd : decode M.2.1 pc = .ok (.getstatic 38, 3)) (k : sh_X g d M (pc + 3) lo (sh_i 1 :: st) mem K) : sh_X g d M pc lo st mem K := by
  refine sh_go (fun p e R s m args below meth c A H locs ls cells slots Qf C Rl z => ?_) k
  exact va_gets (own := M.1.cls) (ref := "java/lang/String") C.1 C.2.1 C.2.2.2.2.2.2.2.2.2.2.1 Rl.2.1 C.2.2.2.1 (by rw [hM]; exact C.2.2.2.2.1 _ fk_Str_38) (fun _ h => h) hd z
theorem xr_alenT {i : Nat} (hi : i < sh_nS) (hd : decode M.2.1 pc = .ok (.arraylength, 1)) (k : sh_X g d M (pc + 1) lo (sh_i (txL i : Int) :: st) mem K) : sh_X g d M pc lo (sh_r (i + 2000) :: st) mem K := by
  refine sh_go (fun p e R s m args below meth c A H locs ls cells slots Qf C Rl z => ?_) k
  have hT := (C.2.2.2.2.2.2.2.2.1.1 i hi).2.2.2
  rw [List.map_cons, cv_v]
  exact va_tlen C.1 C.2.1 hT Rl.2.1 (v := Int32.ofInt (txL i : Int)) Int32.ofInt_eq_ofNat.symm hd z
theorem xr_baldT {i k : Nat} (hi : i < sh_nS) (hk : k < txL i) (hd : decode M.2.1 pc = .ok (.baload, 1)) (kk : sh_X g d M (pc + 1) lo (sh_i (txC i k) :: st) mem K) : sh_X g d M pc lo (sh_i (k : Int) :: sh_r (i + 2000) :: st) mem K := by
  refine sh_go (fun p e R s m args below meth c A H locs ls cells slots Qf C Rl z => ?_) kk
  have hT := (C.2.2.2.2.2.2.2.2.1.1 i hi).2.2.2
  have hl := txL_le i hi
  obtain ⟨q1, q2⟩ := sh_ix (i := (k : Int)) (n := txL i) (by omega) (by omega) (by omega)
  rw [List.map_cons, List.map_cons, cv_v]
  refine va_tb C.1 C.2.1 hT Rl.2.1 q1 (v := .int (Int32.ofInt (txC i k))) ?_ hd z
  rw [q2, Int.toNat_natCast]
  unfold txC
  rw [Int32.ofInt_toInt]
end XJ
/-! a callee whose last argument is not of the world -/
def sh_PcV (g : sh_G) (vs : List Value) (mem : sh_Mem) : Array Value → State → Prop := va_Pc vs (fun U => va_P g.2.1 sh_cl (sh_w g mem) U.heap ∧ sh_E g (sh_A g) U U.heap)
theorem sh_blindV (g : sh_G) (vs : List Value) (mem : sh_Mem) : FrameBlind (sh_PcV g vs mem) := by
  intro a U g' mk h
  obtain ⟨h0, hP, h1, h2, h3, h4, h5, h6⟩ := h
  exact ⟨h0, hP, va_K.moved (u := U) (U := U.calling g' mk a) (Vm.Alike.refl U.vm) h1, vk_S.moved (u := U) (U := U.calling g' mk a) (Vm.Alike.refl U.vm) h2, fun i q hq => (h3 i q hq).same rfl, va_Z.moved (u := U) (U := U.calling g' mk a) (Vm.Alike.refl U.vm) h4, va_Nw.same (u := U) (U := U.calling g' mk a) rfl rfl h5, va_Zq.moved (u := U) (U := U.calling g' mk a) (Vm.Alike.refl U.vm) h6⟩
theorem sh_metV {g : sh_G} {d : Nat} {M : sh_M} {lo : List (Nat × sh_V)} {mem : sh_Mem} {Q : Option sh_V → sh_Mem → Prop} {vs : List Value} (hp : plainFor M.1 = true) (hsz : (lg_sl vs).length ≤ M.2.2.1) (hlo : ∀ q ∈ lo.map (sh_cl1 g), q ∈ lv_args 0 vs) (h : sh_X g d M 0 lo [] mem (sh_K M Q)) : Met g.1 M.1 (sh_ws M) (sh_rm d) (sh_PcV g vs mem) (sh_Qc g Q) 0 0 (sh_A g) := by
  refine va_MetF (cc := M.2.1) (maxL := M.2.2.1) (ret := M.2.2.2) hp rfl ?_
  intro p e s m args below meth c s₁ B hml hv
  obtain ⟨rfl, hP, hE⟩ := hv
  have hlocks := B.notSynchronized
  have hts := atoms_spec (ws := sh_ws M) B.pre
  have hown : s.vm.findClass M.1.cls = some m.cls := findClass_of_methodNamed B.named
  rw [lg_entry_eq]
  refine h p e _ s m _ below meth c (sh_A g) s.heap [] _ 0 0 _ ⟨B.exec, B.bytes, hml, hown, fun x hx => hts x (List.mem_cons_of_mem _ hx), ⟨Nat.le_refl _, Nat.le_refl _, Nat.le_refl _, Nat.le_refl _⟩, fun _ z => z, hE⟩ ⟨hP, va_S.rf, ?_⟩ ?_
  · have hl := lv_entry vs (n := M.2.2.1) hsz
    exact ⟨hl.1, hl.2.1, fun q hq => hl.2.2 q (hlo q hq)⟩
  · intro pc' lo' st' mem' H' locs' ls' hk hR
    rcases hk with ⟨h1, rfl, h3, h4⟩ | ⟨x, ⟨ty, h1, h2⟩, rfl, h3, h4⟩
    · exact W.vret B.exec B.bytes (B.returns.trans h1) (fun t ht hW => ⟨⟨none, mem', rfl, h4, by rw [ht]; exact hR.1⟩, hR.2.1.F ht⟩) hR.2.1.2.2 h3
    · exact W.zret B.exec B.bytes (B.returns.trans h1) h2 (fun t ht hW => ⟨⟨some (sh_i x), mem', rfl, h4, by rw [ht]; exact hR.1⟩, hR.2.1.F ht⟩) hR.2.1.2.2 h3
section JDK
variable {g : sh_G} {d : Nat} {mem : sh_Mem} {Q : Option sh_V → sh_Mem → Prop}
theorem s_Pre_check {v : Value} {k n : Nat} (hv : v = .null ∨ ∃ t, v = .ref t) (hk : k < n) (hn : n ≤ 1000) (h : Q (some (sh_i (k : Int))) mem) : Met g.1 m_Pre_checkIndex.1 (sh_ws m_Pre_checkIndex) (sh_rm d) (sh_PcV g [.int (Int32.ofInt (k : Int)), .int (Int32.ofInt (n : Int)), v] mem) (sh_Qc g Q) 0 0 (sh_A g) := by
  refine sh_metV (lo := [(0, sh_i (k : Int)), (1, sh_i (n : Int))]) (by decide +kernel) ?_ ?_ ?_
  · rcases hv with rfl | ⟨t, rfl⟩
    · exact Nat.le_of_ble_eq_true rfl
    · exact Nat.le_of_ble_eq_true rfl
  · intro q hq
    rcases List.mem_cons.mp hq with e | hq
    · exact List.mem_cons.mpr (Or.inl e)
    · rcases List.mem_cons.mp hq with e | hq
      · exact List.mem_cons.mpr (Or.inr (List.mem_cons.mpr (Or.inl e)))
      · exact absurd hq List.not_mem_nil
  · refine xr_iload_n (n := 0) (i := 0) rfl (List.mem_of_getElem? (i := 0) rfl) (by decide +kernel) ?_
    refine xr_if_lt (a' := (k : Int)) (i3n (by omega)) (off := 8) (tgt := 9) (by decide) (by decide +kernel) ⟨fun c => by omega, fun _ => ?_⟩
    refine xr_iload_n (n := 0) (i := 0) rfl (List.mem_of_getElem? (i := 0) rfl) (by decide +kernel) ?_
    refine xr_iload_n (n := 1) (i := 1) rfl (List.mem_of_getElem? (i := 1) rfl) (by decide +kernel) ?_
    refine xr_icmp_lt (a' := (k : Int)) (b' := (n : Int)) (i3n (by omega)) (i3n (by omega)) (off := 10) (tgt := 16) (by decide) (by decide +kernel) ⟨fun _ => ?_, fun c => by omega⟩
    refine xr_iload_n (n := 0) (i := 0) rfl (List.mem_of_getElem? (i := 0) rfl) (by decide +kernel) ?_
    exact xr_iret rfl (by decide +kernel) h
theorem xr_chk {M : sh_M} {pc : Nat} {lo : List (Nat × sh_V)} {K : Nat → List (Nat × sh_V) → List sh_V → sh_Mem → Prop} {k n : Nat} (hk : k < n) (hn : n ≤ 1000) (hM : M.1.cls = "java/lang/String") (hd1 : decode M.2.1 pc = .ok (.getstatic 1053, 3)) (hd2 : decode M.2.1 (pc + 3) = .ok (.invokestatic 1059, 3)) (kk : sh_X g (d + 1) M (pc + 3 + 3) lo [sh_i (k : Int)] mem K) : sh_X g (d + 1) M pc lo [sh_i (n : Int), sh_i (k : Int)] mem K := by
  intro p e R s m args below meth c A H locs ls cells slots Qf C Rl hk'
  have hR := C.2.2.2.2.2.1
  have hts := C.2.2.2.2.1
  have key : ∀ v : Value, (v = .null ∨ ∃ t, v = .ref t) → va_Z "jdk/internal/util/Preconditions" "SIOOBE_FORMATTER" "Ljava/util/function/BiFunction;" v A s s.heap → W p g.1 e R s m args below meth c H locs cells slots Qf (F0 m pc ls ([sh_i (n : Int), sh_i (k : Int)].map (sh_cv g))) := by
    intro v hv hZ
    refine va_gets (own := M.1.cls) (ref := "jdk/internal/util/Preconditions") C.1 C.2.1 hZ Rl.2.1 C.2.2.2.1 (by rw [hM]; exact hts _ fk_Str_1053) (fun _ h => h) hd1 ?_
    have cb : CallB R s args M.1.cls 1059 m_Pre_checkIndex.1 m_Pre_checkIndex.2.1 m_Pre_checkIndex.2.2.1 m_Pre_checkIndex.2.2.2 (sh_ws m_Pre_checkIndex) (sh_rm d) 0 0 3 := callB_of 3 hts (sh_good mo_Pre_checkIndex) rfl rfl rfl (hts _ mo_Pre_checkIndex.2.2.2) (by rw [hM]; exact hts _ ml_Str_1059) mo_Pre_checkIndex.1 ⟨hR.1, by show 8 + (m_Pre_checkIndex.2.2.1 + 11) + 64 * d ≤ R.locals; have := mo_Pre_checkIndex.2.2.1; have := hR.2.1; omega⟩
    refine sh_callW (rest := []) (Q2 := fun rv mem' => rv = some (sh_i (k : Int)) ∧ mem' = mem) (va_runS (As := [.int (Int32.ofInt (k : Int)), .int (Int32.ofInt (n : Int)), v]) ⟨C.1, C.2.1, C.2.2.1, C.2.2.2.1, hts⟩ (s_Pre_check hv hk hn ⟨rfl, rfl⟩) ⟨cb, hts _ sa_Pre_checkIndex⟩ ⟨sh_blindV g _ _, fun U hU hW => ⟨rfl, by rw [hU]; exact Rl.1, sh_E_call C.2.2.2.2.2.2.2 Rl.2.1 C.2.2.2.2.2.2.1 hU hW⟩⟩ rfl rfl Rl.2.2.1 rfl (Nat.le_of_ble_eq_true rfl) hd2 ⟨hR.2.2.1, hR.2.2.2⟩) Rl.2.1 C.2.2.2.2.2.2.1 (fun rv mem' H1 locs1 hx hP hS => ?_)
    obtain ⟨e1, e2⟩ := hx
    rw [e1]
    rw [e2] at hP
    exact kk p e R s m args below meth c A H1 locs1 ls cells slots Qf C ⟨hP, hS, Rl.2.2⟩ hk'
  rcases C.2.2.2.2.2.2.2.2.2.2.2.2 with h | ⟨t, h⟩
  · exact key _ (Or.inl rfl) h
  · exact key _ (Or.inr ⟨t, rfl⟩) h
theorem s_Str_coder {i : Nat} (hi : i < sh_nS) (h : Q (some (sh_i 0)) mem) : sh_Cal g d m_Str_coder [sh_r (i + 1000)] mem Q := by
  refine sh_metF (by decide +kernel) (Nat.le_of_ble_eq_true rfl) (lo := [(0, sh_r (i + 1000))]) rfl ?_
  refine xr_getsC rfl (by decide +kernel) ?_
  refine xr_if_eq (a' := 1) rfl (off := 10) (tgt := 13) (by decide) (by decide +kernel) ⟨fun c => absurd c (by decide), fun _ => ?_⟩
  refine xr_aload_n (n := 0) (i := 0) rfl (List.mem_of_getElem? (i := 0) rfl) (by decide +kernel) ?_
  refine xr_getTC hi rfl (by decide +kernel) ?_
  refine xr_goto (off := 4) (tgt := 14) (by decide) (by decide +kernel) ?_
  exact xr_bret rfl (by decide +kernel) (Or.inl rfl) h
theorem s_Str_isLatin1 {i : Nat} (hi : i < sh_nS) (h : Q (some (sh_i 1)) mem) : sh_Cal g d m_Str_isLatin1 [sh_r (i + 1000)] mem Q := by
  refine sh_metF (by decide +kernel) (Nat.le_of_ble_eq_true rfl) (lo := [(0, sh_r (i + 1000))]) rfl ?_
  refine xr_getsC rfl (by decide +kernel) ?_
  refine xr_if_eq (a' := 1) rfl (off := 14) (tgt := 17) (by decide) (by decide +kernel) ⟨fun c => absurd c (by decide), fun _ => ?_⟩
  refine xr_aload_n (n := 0) (i := 0) rfl (List.mem_of_getElem? (i := 0) rfl) (by decide +kernel) ?_
  refine xr_getTC hi rfl (by decide +kernel) ?_
  refine xr_if_ne (a' := 0) rfl (off := 7) (tgt := 17) (by decide) (by decide +kernel) ⟨fun c => absurd rfl c, fun _ => ?_⟩
  refine xr_iconst (n := 1) (by decide +kernel) ?_
  refine xr_goto (off := 4) (tgt := 18) (by decide) (by decide +kernel) ?_
  exact xr_zret rfl (by decide +kernel) (Or.inr rfl) h
theorem s_Str_length {i : Nat} (hi : i < sh_nS) (h : Q (some (sh_i (txL i : Int))) mem) : sh_Cal g (d + 1) m_Str_length [sh_r (i + 1000)] mem Q := by
  refine sh_metF (by decide +kernel) (Nat.le_of_ble_eq_true rfl) (lo := [(0, sh_r (i + 1000))]) rfl ?_
  refine xr_aload_n (n := 0) (i := 0) rfl (List.mem_of_getElem? (i := 0) rfl) (by decide +kernel) ?_
  refine xr_getTV hi rfl (by decide +kernel) ?_
  refine xr_alenT hi (by decide +kernel) ?_
  refine xr_aload_n (n := 0) (i := 0) rfl (List.mem_of_getElem? (i := 0) rfl) (by decide +kernel) ?_
  refine xr_callT (i := i) (av := []) hi rfl mo_Str_coder ml_Str_335 im_Str_coder se_Str_coder rfl (Nat.le_of_ble_eq_true rfl) (by decide +kernel) (s_Str_coder hi ?_)
  show sh_X g (d + 1) m_Str_length _ _ [sh_i 0, sh_i (txL i : Int)] _ _
  refine xr_ishr (by decide +kernel) ?_
  rw [tx_shr i hi]
  exact xr_iret rfl (by decide +kernel) h
theorem s_Str_checkIndex {k n : Nat} (hk : k < n) (hn : n ≤ 1000) (h : Q none mem) : sh_Cal g (d + 1) m_Str_checkIndex [sh_i (k : Int), sh_i (n : Int)] mem Q := by
  refine sh_metF (by decide +kernel) (Nat.le_of_ble_eq_true rfl) (lo := [(0, sh_i (k : Int)), (1, sh_i (n : Int))]) rfl ?_
  refine xr_iload_n (n := 0) (i := 0) rfl (List.mem_of_getElem? (i := 0) rfl) (by decide +kernel) ?_
  refine xr_iload_n (n := 1) (i := 1) rfl (List.mem_of_getElem? (i := 1) rfl) (by decide +kernel) ?_
  refine xr_chk hk hn rfl (by decide +kernel) (by decide +kernel) ?_
  refine xr_popI (by decide +kernel) ?_
  exact xr_ret rfl (by decide +kernel) h
theorem s_Lat_charAt {i k : Nat} (hi : i < sh_nS) (hk : k < txL i) (h : Q (some (sh_i (txC i k))) mem) : sh_Cal g (d + 2) m_Lat_charAt [sh_r (i + 2000), sh_i (k : Int)] mem Q := by
  have hl := txL_le i hi
  have hc := tx_ch i hi k hk
  refine sh_metF (by decide +kernel) (Nat.le_of_ble_eq_true rfl) (lo := [(0, sh_r (i + 2000)), (1, sh_i (k : Int))]) rfl ?_
  refine xr_iload_n (n := 1) (i := 1) rfl (List.mem_of_getElem? (i := 1) rfl) (by decide +kernel) ?_
  refine xr_aload_n (n := 0) (i := 0) rfl (List.mem_of_getElem? (i := 0) rfl) (by decide +kernel) ?_
  refine xr_alenT hi (by decide +kernel) ?_
  refine xr_callS (av := [sh_i (k : Int), sh_i (txL i : Int)]) mo_Str_checkIndex ml_Lat_9 sa_Str_checkIndex rfl (Nat.le_of_ble_eq_true rfl) (by decide +kernel) (s_Str_checkIndex hk (by omega) ?_)
  show sh_X g (d + 2) m_Lat_charAt _ _ [] _ _
  refine xr_aload_n (n := 0) (i := 0) rfl (List.mem_of_getElem? (i := 0) rfl) (by decide +kernel) ?_
  refine xr_iload_n (n := 1) (i := 1) rfl (List.mem_of_getElem? (i := 1) rfl) (by decide +kernel) ?_
  refine xr_baldT hi hk (by decide +kernel) ?_
  refine xr_sipush (n := 255) (v := 255) (by decide) (by decide +kernel) ?_
  refine xr_iand (by decide +kernel) ?_
  refine xr_i2c (by decide +kernel) ?_
  rw [tx_2c i hi k hk]
  exact xr_cret rfl (by decide +kernel) ⟨hc.1, hc.2.1⟩ h
theorem s_Str_charAt {i k : Nat} (hi : i < sh_nS) (hk : k < txL i) (h : Q (some (sh_i (txC i k))) mem) : sh_Cal g (d + 3) m_Str_charAt [sh_r (i + 1000), sh_i (k : Int)] mem Q := by
  have hc := tx_ch i hi k hk
  refine sh_metF (by decide +kernel) (Nat.le_of_ble_eq_true rfl) (lo := [(0, sh_r (i + 1000)), (1, sh_i (k : Int))]) rfl ?_
  refine xr_aload_n (n := 0) (i := 0) rfl (List.mem_of_getElem? (i := 0) rfl) (by decide +kernel) ?_
  refine xr_callT (i := i) (av := []) hi rfl mo_Str_isLatin1 ml_Str_492 im_Str_isLatin1 se_Str_isLatin1 rfl (Nat.le_of_ble_eq_true rfl) (by decide +kernel) (s_Str_isLatin1 hi ?_)
  show sh_X g (d + 3) m_Str_charAt _ _ [sh_i 1] _ _
  refine xr_if_eq (a' := 1) rfl (off := 12) (tgt := 16) (by decide) (by decide +kernel) ⟨fun c => absurd c (by decide), fun _ => ?_⟩
  refine xr_aload_n (n := 0) (i := 0) rfl (List.mem_of_getElem? (i := 0) rfl) (by decide +kernel) ?_
  refine xr_getTV hi rfl (by decide +kernel) ?_
  refine xr_iload_n (n := 1) (i := 1) rfl (List.mem_of_getElem? (i := 1) rfl) (by decide +kernel) ?_
  refine xr_callS (av := [sh_r (i + 2000), sh_i (k : Int)]) mo_Lat_charAt ml_Str_495 sa_Lat_charAt rfl (Nat.le_of_ble_eq_true rfl) (by decide +kernel) (s_Lat_charAt hi hk ?_)
  show sh_X g (d + 3) m_Str_charAt _ _ [sh_i (txC i k)] _ _
  exact xr_cret rfl (by decide +kernel) ⟨hc.1, hc.2.1⟩ h
theorem s_Lat_canEncode {x : Int} (hx : 0 ≤ x ∧ x ≤ 126) (h : Q (some (sh_i 1)) mem) : sh_Cal g d m_Lat_canEncode [sh_i x] mem Q := by
  refine sh_metF (by decide +kernel) (Nat.le_of_ble_eq_true rfl) (lo := [(0, sh_i x)]) rfl ?_
  refine xr_iload_n (n := 0) (i := 0) rfl (List.mem_of_getElem? (i := 0) rfl) (by decide +kernel) ?_
  refine xr_if_lt (a' := x) (i3s (by omega) (by omega)) (off := 14) (tgt := 15) (by decide) (by decide +kernel) ⟨fun c => by omega, fun _ => ?_⟩
  refine xr_iload_n (n := 0) (i := 0) rfl (List.mem_of_getElem? (i := 0) rfl) (by decide +kernel) ?_
  refine xr_sipush (n := 255) (v := 255) (by decide) (by decide +kernel) ?_
  refine xr_icmp_gt (a' := x) (b' := 255) (i3s (by omega) (by omega)) rfl (off := 7) (tgt := 15) (by decide) (by decide +kernel) ⟨fun c => by omega, fun _ => ?_⟩
  refine xr_iconst (n := 1) (by decide +kernel) ?_
  refine xr_goto (off := 4) (tgt := 16) (by decide) (by decide +kernel) ?_
  exact xr_zret rfl (by decide +kernel) (Or.inr rfl) h
theorem b127 : ∀ n, n < 127 → i_2b ((n : Nat) : Int) = (n : Int) := by decide +kernel
theorem sg_at : ∀ k, k < txL 0 → isSg (txC 0 k) := by decide +kernel
theorem sg_no : ∀ n, n < 127 → isSg ((n : Nat) : Int) → ∃ k, k < txL 0 ∧ txC 0 k = (n : Int) := by decide +kernel
theorem l_indexOfChar {x : Int} (hx : 0 ≤ x ∧ x ≤ 126) (h : ∀ r : Int, -1 ≤ r ∧ r ≤ 100 → (0 ≤ r ↔ isSg x) → Q (some (sh_i r)) mem) : ∀ (k j : Nat), j + k = 8 → (∀ t, t < j → txC 0 t ≠ x) →
    sh_X g d m_Lat_indexOfChar 7 [(0, sh_r 2000), (1, sh_i x), (2, sh_i 0), (3, sh_i 8), (4, sh_i x), (5, sh_i (j : Int))] [] mem (sh_K m_Lat_indexOfChar Q)
  | 0, j, hj, hn => by
    refine xr_iload (i := 5) (List.mem_of_getElem? (i := 5) rfl) (by decide +kernel) ?_
    refine xr_iload_n (n := 3) (i := 3) rfl (List.mem_of_getElem? (i := 3) rfl) (by decide +kernel) ?_
    refine xr_icmp_ge (a' := (j : Int)) (b' := 8) (i3n (by omega)) rfl (off := 21) (tgt := 31) (by decide) (by decide +kernel) ⟨fun _ => ?_, fun c => by omega⟩
    refine xr_iconst (n := -1) (by decide +kernel) ?_
    refine xr_iret rfl (by decide +kernel) (h (-1) (by omega) ⟨fun z => by omega, fun z => ?_⟩)
    have e : x = ((x.toNat : Nat) : Int) := by omega
    rw [e] at z
    obtain ⟨t, t1, t2⟩ := sg_no x.toNat (by omega) z
    have t3 : t < 8 := t1
    exact absurd (t2.trans e.symm) (hn t (by omega))
  | k + 1, j, hj, hn => by
    have j8 : j < txL 0 := by show j < 8; omega
    refine xr_iload (i := 5) (List.mem_of_getElem? (i := 5) rfl) (by decide +kernel) ?_
    refine xr_iload_n (n := 3) (i := 3) rfl (List.mem_of_getElem? (i := 3) rfl) (by decide +kernel) ?_
    refine xr_icmp_ge (a' := (j : Int)) (b' := 8) (i3n (by omega)) rfl (off := 21) (tgt := 31) (by decide) (by decide +kernel) ⟨fun c => by omega, fun _ => ?_⟩
    refine xr_aload_n (n := 0) (i := 0) rfl (List.mem_of_getElem? (i := 0) rfl) (by decide +kernel) ?_
    refine xr_iload (i := 5) (List.mem_of_getElem? (i := 5) rfl) (by decide +kernel) ?_
    refine xr_baldT (i := 0) (by decide) j8 (by decide +kernel) ?_
    refine xr_iload (i := 4) (List.mem_of_getElem? (i := 4) rfl) (by decide +kernel) ?_
    refine xr_icmp_ne (a' := txC 0 j) (b' := x) (tx_ch 0 (by decide) j j8).2.2 (i3s (by omega) (by omega)) (off := 6) (tgt := 25) (by decide) (by decide +kernel) ⟨fun c => ?_, fun c => ?_⟩
    · refine xr_iinc (i := 5) (n := 1) (x := (j : Int)) (lo' := [(5, sh_i ((j : Int) + 1)), (0, sh_r 2000), (1, sh_i x), (2, sh_i 0), (3, sh_i 8), (4, sh_i x)]) (List.mem_of_getElem? (i := 5) rfl) (by decide) rfl (by decide +kernel) ?_
      refine xr_goto (off := -21) (tgt := 7) (by decide) (by decide +kernel) ?_
      refine xr_sub (lo' := [(0, sh_r 2000), (1, sh_i x), (2, sh_i 0), (3, sh_i 8), (4, sh_i x), (5, sh_i ((j : Int) + 1))]) [1, 2, 3, 4, 5, 0] rfl ?_
      rw [show (j : Int) + 1 = ((j + 1 : Nat) : Int) by omega]
      refine l_indexOfChar hx h k (j + 1) (by omega) (fun t ht => ?_)
      by_cases e : t = j
      · rw [e]; exact c
      · exact hn t (by omega)
    · refine xr_iload (i := 5) (List.mem_of_getElem? (i := 5) rfl) (by decide +kernel) ?_
      refine xr_iret rfl (by decide +kernel) (h _ (by omega) ⟨fun _ => ?_, fun _ => by omega⟩)
      rw [← c]; exact sg_at j j8
theorem s_Lat_indexOfChar {x : Int} (hx : 0 ≤ x ∧ x ≤ 126) (h : ∀ r : Int, -1 ≤ r ∧ r ≤ 100 → (0 ≤ r ↔ isSg x) → Q (some (sh_i r)) mem) : sh_Cal g d m_Lat_indexOfChar [sh_r 2000, sh_i x, sh_i 0, sh_i 8] mem Q := by
  have e : x = ((x.toNat : Nat) : Int) := by omega
  have b := b127 x.toNat (by omega)
  rw [← e] at b
  refine sh_metF (by decide +kernel) (Nat.le_of_ble_eq_true rfl) (lo := [(0, sh_r 2000), (1, sh_i x), (2, sh_i 0), (3, sh_i 8)]) rfl ?_
  refine xr_iload_n (n := 1) (i := 1) rfl (List.mem_of_getElem? (i := 1) rfl) (by decide +kernel) ?_
  refine xr_i2b (by decide +kernel) ?_
  rw [b]
  refine xr_istore (i := 4) (lo' := [(4, sh_i x), (0, sh_r 2000), (1, sh_i x), (2, sh_i 0), (3, sh_i 8)]) (by decide) rfl (by decide +kernel) ?_
  refine xr_iload_n (n := 2) (i := 2) rfl (List.mem_of_getElem? (i := 3) rfl) (by decide +kernel) ?_
  refine xr_istore (i := 5) (lo' := [(5, sh_i ((0 : Nat) : Int)), (4, sh_i x), (0, sh_r 2000), (1, sh_i x), (2, sh_i 0), (3, sh_i 8)]) (by decide) rfl (by decide +kernel) ?_
  refine xr_sub (lo' := [(0, sh_r 2000), (1, sh_i x), (2, sh_i 0), (3, sh_i 8), (4, sh_i x), (5, sh_i ((0 : Nat) : Int))]) [2, 3, 4, 5, 1, 0] rfl ?_
  exact l_indexOfChar hx h 8 0 (by omega) (fun t ht => absurd ht (Nat.not_lt_zero t))
theorem s_Lat_indexOf {x : Int} (hx : 0 ≤ x ∧ x ≤ 126) (h : ∀ r : Int, -1 ≤ r ∧ r ≤ 100 → (0 ≤ r ↔ isSg x) → Q (some (sh_i r)) mem) : sh_Cal g (d + 1) m_Lat_indexOf [sh_r 2000, sh_i x, sh_i 0, sh_i 8] mem Q := by
  refine sh_metF (by decide +kernel) (Nat.le_of_ble_eq_true rfl) (lo := [(0, sh_r 2000), (1, sh_i x), (2, sh_i 0), (3, sh_i 8)]) rfl ?_
  refine xr_iload_n (n := 1) (i := 1) rfl (List.mem_of_getElem? (i := 1) rfl) (by decide +kernel) ?_
  refine xr_callS (av := [sh_i x]) mo_Lat_canEncode ml_Lat_88 sa_Lat_canEncode rfl (Nat.le_of_ble_eq_true rfl) (by decide +kernel) (s_Lat_canEncode hx ?_)
  show sh_X g (d + 1) m_Lat_indexOf _ _ [sh_i 1] _ _
  refine xr_if_ne (a' := 1) rfl (off := 5) (tgt := 9) (by decide) (by decide +kernel) ⟨fun _ => ?_, fun c => absurd c (by decide)⟩
  refine xr_iload_n (n := 2) (i := 2) rfl (List.mem_of_getElem? (i := 2) rfl) (by decide +kernel) ?_
  refine xr_iconst (n := 0) (by decide +kernel) ?_
  refine xr_mmax ml_Lat_92 (Nat.le_of_ble_eq_true rfl) (by decide +kernel) ?_
  rw [if_neg (by decide)]
  refine xr_istore_n (n := 2) (i := 2) (lo' := [(2, sh_i 0), (0, sh_r 2000), (1, sh_i x), (3, sh_i 8)]) rfl (by decide) rfl (by decide +kernel) ?_
  refine xr_sub (lo' := [(0, sh_r 2000), (1, sh_i x), (2, sh_i 0), (3, sh_i 8)]) [1, 2, 0, 3] rfl ?_
  refine xr_iload_n (n := 3) (i := 3) rfl (List.mem_of_getElem? (i := 3) rfl) (by decide +kernel) ?_
  refine xr_aload_n (n := 0) (i := 0) rfl (List.mem_of_getElem? (i := 0) rfl) (by decide +kernel) ?_
  refine xr_alenT (i := 0) (by decide) (by decide +kernel) ?_
  refine xr_mmin ml_Lat_38 (Nat.le_of_ble_eq_true rfl) (by decide +kernel) ?_
  rw [if_neg (by decide)]
  refine xr_istore_n (n := 3) (i := 3) (lo' := [(3, sh_i 8), (0, sh_r 2000), (1, sh_i x), (2, sh_i 0)]) rfl (by decide) rfl (by decide +kernel) ?_
  refine xr_sub (lo' := [(0, sh_r 2000), (1, sh_i x), (2, sh_i 0), (3, sh_i 8)]) [1, 2, 3, 0] rfl ?_
  refine xr_iload_n (n := 2) (i := 2) rfl (List.mem_of_getElem? (i := 2) rfl) (by decide +kernel) ?_
  refine xr_iload_n (n := 3) (i := 3) rfl (List.mem_of_getElem? (i := 3) rfl) (by decide +kernel) ?_
  refine xr_icmp_lt (a' := 0) (b' := 8) rfl rfl (off := 5) (tgt := 29) (by decide) (by decide +kernel) ⟨fun _ => ?_, fun c => absurd (by decide) c⟩
  refine xr_aload_n (n := 0) (i := 0) rfl (List.mem_of_getElem? (i := 0) rfl) (by decide +kernel) ?_
  refine xr_iload_n (n := 1) (i := 1) rfl (List.mem_of_getElem? (i := 1) rfl) (by decide +kernel) ?_
  refine xr_iload_n (n := 2) (i := 2) rfl (List.mem_of_getElem? (i := 2) rfl) (by decide +kernel) ?_
  refine xr_iload_n (n := 3) (i := 3) rfl (List.mem_of_getElem? (i := 3) rfl) (by decide +kernel) ?_
  refine xr_callS (av := [sh_r 2000, sh_i x, sh_i 0, sh_i 8]) mo_Lat_indexOfChar ml_Lat_95 sa_Lat_indexOfChar rfl (Nat.le_of_ble_eq_true rfl) (by decide +kernel) (s_Lat_indexOfChar hx (fun r r1 r2 => ?_))
  show sh_X g (d + 1) m_Lat_indexOf _ _ [sh_i r] _ _
  exact xr_iret rfl (by decide +kernel) (h r r1 r2)
theorem s_Str_indexOf2 {x : Int} (hx : 0 ≤ x ∧ x ≤ 126) (h : ∀ r : Int, -1 ≤ r ∧ r ≤ 100 → (0 ≤ r ↔ isSg x) → Q (some (sh_i r)) mem) : sh_Cal g (d + 2) m_Str_indexOf2 [sh_r 1000, sh_i x, sh_i 0] mem Q := by
  refine sh_metF (by decide +kernel) (Nat.le_of_ble_eq_true rfl) (lo := [(0, sh_r 1000), (1, sh_i x), (2, sh_i 0)]) rfl ?_
  refine xr_aload_n (n := 0) (i := 0) rfl (List.mem_of_getElem? (i := 0) rfl) (by decide +kernel) ?_
  refine xr_callT (i := 0) (av := []) (by decide) rfl mo_Str_isLatin1 ml_Str_492 im_Str_isLatin1 se_Str_isLatin1 rfl (Nat.le_of_ble_eq_true rfl) (by decide +kernel) (s_Str_isLatin1 (i := 0) (by decide) ?_)
  show sh_X g (d + 2) m_Str_indexOf2 _ _ [sh_i 1] _ _
  refine xr_if_eq (a' := 1) rfl (off := 19) (tgt := 23) (by decide) (by decide +kernel) ⟨fun c => absurd c (by decide), fun _ => ?_⟩
  refine xr_aload_n (n := 0) (i := 0) rfl (List.mem_of_getElem? (i := 0) rfl) (by decide +kernel) ?_
  refine xr_getTV (i := 0) (by decide) rfl (by decide +kernel) ?_
  refine xr_iload_n (n := 1) (i := 1) rfl (List.mem_of_getElem? (i := 1) rfl) (by decide +kernel) ?_
  refine xr_iload_n (n := 2) (i := 2) rfl (List.mem_of_getElem? (i := 2) rfl) (by decide +kernel) ?_
  refine xr_aload_n (n := 0) (i := 0) rfl (List.mem_of_getElem? (i := 0) rfl) (by decide +kernel) ?_
  refine xr_callT (i := 0) (av := []) (by decide) rfl mo_Str_length ml_Str_505 im_Str_length se_Str_length rfl (Nat.le_of_ble_eq_true rfl) (by decide +kernel) (s_Str_length (i := 0) (by decide) ?_)
  show sh_X g (d + 2) m_Str_indexOf2 _ _ [sh_i 8, sh_i 0, sh_i x, sh_r 2000] _ _
  refine xr_callS (av := [sh_r 2000, sh_i x, sh_i 0, sh_i 8]) mo_Lat_indexOf ml_Str_637 sa_Lat_indexOf rfl (Nat.le_of_ble_eq_true rfl) (by decide +kernel) (s_Lat_indexOf hx (fun r r1 r2 => ?_))
  show sh_X g (d + 2) m_Str_indexOf2 _ _ [sh_i r] _ _
  refine xr_goto (off := 16) (tgt := 36) (by decide) (by decide +kernel) ?_
  exact xr_iret rfl (by decide +kernel) (h r r1 r2)
theorem s_Str_indexOf {x : Int} (hx : 0 ≤ x ∧ x ≤ 126) (h : ∀ r : Int, -1 ≤ r ∧ r ≤ 100 → (0 ≤ r ↔ isSg x) → Q (some (sh_i r)) mem) : sh_Cal g (d + 3) m_Str_indexOf [sh_r 1000, sh_i x] mem Q := by
  refine sh_metF (by decide +kernel) (Nat.le_of_ble_eq_true rfl) (lo := [(0, sh_r 1000), (1, sh_i x)]) rfl ?_
  refine xr_aload_n (n := 0) (i := 0) rfl (List.mem_of_getElem? (i := 0) rfl) (by decide +kernel) ?_
  refine xr_iload_n (n := 1) (i := 1) rfl (List.mem_of_getElem? (i := 1) rfl) (by decide +kernel) ?_
  refine xr_iconst (n := 0) (by decide +kernel) ?_
  refine xr_callT (i := 0) (av := [sh_i x, sh_i 0]) (by decide) rfl mo_Str_indexOf2 ml_Str_633 im_Str_indexOf2 se_Str_indexOf2 rfl (Nat.le_of_ble_eq_true rfl) (by decide +kernel) (s_Str_indexOf2 hx (fun r r1 r2 => ?_))
  show sh_X g (d + 3) m_Str_indexOf _ _ [sh_i r] _ _
  exact xr_iret rfl (by decide +kernel) (h r r1 r2)
end JDK
/-- the JDK's three members of a text are as the class's walks take them -/
theorem JD_all (g : sh_G) : JD g :=
  ⟨fun d i m Q hi h => s_Str_length (d := d + 6) hi h, fun d i k m Q hi hk h => s_Str_charAt (d := d + 4) hi hk h, fun d x m Q hx h => s_Str_indexOf (d := d + 4) hx h⟩
