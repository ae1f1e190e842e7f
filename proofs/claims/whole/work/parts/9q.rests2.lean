/-! ===== rests of the class and of the law: contracts ===== -/
theorem c_rests {g : sh_G} {d : Nat} {mem : sh_Mem} {lo te no what : Int} (hl : g.1.stackTraces = false) (h1 : i3 lo = lo) (h2 : i3 te = te) (h3 : i3 no = no) (hw : i3 what = what) : vx_Met g.1 m_Sto_rests.1 (sh_ws m_Sto_rests) (rs_rm (d + 7)) (rs_Pc g [sh_r 1, sh_i lo, sh_i te, sh_i no, sh_i what] mem) (sh_Qc g (fun rv m' => m' = mem ∧ ∃ y, q_rests lo te no what = some y ∧ rv = some (sh_i y))) (rs_X g mem (q_rests lo te no what = none)) 1 6 (sh_A g) := by
  refine vx_ofW (cc := m_Sto_rests.2.1) (maxL := m_Sto_rests.2.2.1) (ret := m_Sto_rests.2.2.2) (by decide +kernel) rfl ?_
  intro p e s m args below meth c s₁ B hml htab hv
  obtain ⟨rfl, hP, hE⟩ := hv
  have hlocks := B.notSynchronized
  have hts := atoms_spec (ws := sh_ws m_Sto_rests) B.pre
  have hts' := fun x (hx : x ∈ lw_g) => hts x (List.mem_cons_of_mem _ hx)
  have hown : s.vm.findClass m_Sto_rests.1.cls = some m.cls := findClass_of_methodNamed B.named
  rw [lg_entry_eq]
  refine x_rests (d := d + 5) h1 h2 h3 hw (Q := fun rv m' => m' = mem ∧ ∃ y, q_rests lo te no what = some y ∧ rv = some (sh_i y)) (X := fun m' => m' = mem ∧ q_rests lo te no what = none) (fun y hy => ⟨rfl, y, hy, rfl⟩) (fun hn => ⟨rfl, hn⟩) p e _ s m _ below meth c (sh_A g) s.heap [] _ 0 0 _ ⟨B.exec, B.bytes, hml, hown, hts', ⟨Nat.le_refl _, Nat.le_refl _, Nat.zero_le _, Nat.zero_le _⟩, fun _ z => z, hE.1⟩ ⟨hP, va_S.rf, ?_⟩ ?_
  · have hl := lv_entry ([sh_r 1, sh_i lo, sh_i te, sh_i no, sh_i what].map (sh_cv g)) (n := m_Sto_rests.2.2.1) (by rw [sh_sz_map]; exact Nat.le_of_ble_eq_true rfl)
    rw [sh_la_map] at hl
    exact hl
  · intro pc' lo' st' mem' H' locs' ls' hk hR
    rcases hk with hk | ⟨hpc, rfl, em, hX⟩
    · rcases hk with ⟨z1, -, -, -⟩ | ⟨x, ⟨ty, z1, z2⟩, rfl, z3, z4⟩
      · cases z1
      · refine vx_ret (W.widen (k := 1) (n := 6) (Nat.zero_le _) (Nat.zero_le _) ?_)
        exact W.zret B.exec B.bytes (B.returns.trans z1) z2 (fun t ht hW => ⟨⟨some (sh_i x), mem', rfl, z4, by rw [ht]; exact hR.1⟩, hR.2.1.F ht⟩) hR.2.1.2.2 z3
    · rw [em] at hR
      have hat : ∀ w ∈ vx_at0 "StolenHolidays" 300 rsN rsNm, w.before _ s = true := vx_hat (fun w hw => hts' w (rs_good w hw)) rs_rest (vx_c (va_Nw.use rfl hE.2.2.2.1) (vx_c (va_Nw.use rfl hE.2.2.2.2.1) (vx_c (va_Nw.use rfl hE.2.2.2.2.2.1) (vx_c (va_Nw.use rfl hE.2.2.2.2.2.2) vx_n))))
      have hx : ∀ t : State, s.vm.Alike t.vm → H'.size ≤ t.heap.size → (∀ q : Nat, q < H'.size → t.heap[q]? = H'[q]?) → rs_X g mem (q_rests lo te no what = none) rsN s t := by
        intro t _ z1 z2
        refine ⟨rfl, hX, hR.1.kept (fun k x hx => z2 x.1 ((hR.1 k x hx).lt)), Nat.le_trans hR.2.1.1 z1, fun q q1 q2 => ?_⟩
        rw [z2 q (Nat.lt_of_lt_of_le q1 hR.2.1.1)]
        exact hR.2.1.2.1 q q1 q2
      rcases hpc with rfl | rfl
      · exact vx_throw0 (own := "StolenHolidays") (cls := rsN) (names := rsNm) (ik := 298) (ic := 300) (A := sh_A g) B.exec B.bytes hl hown (by decide +kernel) (by decide +kernel) (hts' _ (rs_two _ (List.mem_of_getElem? (i := 0) rfl))) (hts' _ (rs_two _ (List.mem_of_getElem? (i := 1) rfl))) hat rs_ot hE.2.1 hE.2.2.1 hR.2.1 (hR.2.2.1.trans hml.symm) (by decide +kernel) (by decide +kernel) (by decide +kernel) (by decide +kernel) (fun x hx => (htab x hx).elim) (by show 2 + 3 < d + 7; omega) (by show 0 + (13 * (2 + 1) + 42) ≤ 64 * (d + 7); omega) (Nat.le_refl _) (Nat.le_refl _) hlocks hx hR.2.1.2.2 (Nat.le_refl _) (Nat.le_refl _)
      · exact vx_throw0 (own := "StolenHolidays") (cls := rsN) (names := rsNm) (ik := 298) (ic := 300) (A := sh_A g) B.exec B.bytes hl hown (by decide +kernel) (by decide +kernel) (hts' _ (rs_two _ (List.mem_of_getElem? (i := 0) rfl))) (hts' _ (rs_two _ (List.mem_of_getElem? (i := 1) rfl))) hat rs_ot hE.2.1 hE.2.2.1 hR.2.1 (hR.2.2.1.trans hml.symm) (by decide +kernel) (by decide +kernel) (by decide +kernel) (by decide +kernel) (fun x hx => (htab x hx).elim) (by show 2 + 3 < d + 7; omega) (by show 0 + (13 * (2 + 1) + 42) ≤ 64 * (d + 7); omega) (Nat.le_refl _) (Nat.le_refl _) hlocks hx hR.2.1.2.2 (Nat.le_refl _) (Nat.le_refl _)
/-- a call that returns or throws, out of a world -/
theorem rs_callW {g : sh_G} {p : Program} {e : Env} {R : Room} {s : State} {m : MethodId} {args : Array Value} {below : List Frame} {meth : Method} {c : Code} {H : Heap} {locs : List Loc} {cells slots mc ms : Nat} {Qf : State → Prop} {A : Nat → Prop} {pc : Nat} {ls : Array Slot} {st0 rest : List Value} {a : Array Value} {Q2 : Option sh_V → sh_Mem → Prop} {mem : sh_Mem} {P : Prop}
    (hr : vx_Run p g.1 e R s m args below meth c H locs cells slots mc ms (F0 m pc ls st0) rest (sh_Qc g Q2 a) (rs_X g mem P) (sh_A g)) (hS : va_S A s.heap H locs) (hA : ∀ q, sh_A g q → A q)
    (kx : ∀ (q : Addr) (ce : Cell) (H1 : Heap) (locs1 : List Loc), P → va_P g.2.1 sh_cl (sh_w g mem) H1 → va_S A s.heap H1 locs1 → H1[q]? = some ce → ce.vm = .none → s.vm.findClass rsN = some ce.cls → vx_W p g.1 e R s m args below meth c H1 locs1 (cells + mc) (slots + ms) Qf (F0 m pc ls rest) q)
    (kk : ∀ (rv : Option sh_V) (mem' : sh_Mem) (H1 : Heap) (locs1 : List Loc), Q2 rv mem' → va_P g.2.1 sh_cl (sh_w g mem') H1 → va_S A s.heap H1 locs1 → W p g.1 e R s m args below meth c H1 locs1 (cells + mc) (slots + ms) Qf (F0 m (pc + 3) ls ((rv.map (sh_cv g)).toList ++ rest))) : W p g.1 e R s m args below meth c H locs cells slots Qf (F0 m pc ls st0) := by
  intro T hT X
  rcases hr T hT X with ⟨v, st₀, t, T', L, h0, X', hL, e1, e2, ⟨⟨rv, mem', hv, hq, hP'⟩, hF⟩, st⟩ | ⟨q, st₀, t, T', L, E, ce, h0, X', hL, e1, e2, ⟨rfl, hp, hP', hF⟩, hce, hcv, hcl, st⟩
  · cases hv
    obtain ⟨k1, k2, k3⟩ := vx_keep h0 e1 hS (fun q _ z => hA q z) hA hL hF
    obtain ⟨t2, a1, b1⟩ := kk rv mem' T'.heap (locs ++ L) hq (by rw [e1]; exact hP') k3 T' rfl X'
    exact ⟨t2, st t2 a1, b1⟩
  · obtain ⟨k1, k2, k3⟩ := vx_keep h0 e1 hS (fun q _ z => hA q z) hA hL hF
    obtain ⟨t2, a1, b1⟩ := kx q ce T'.heap (locs ++ L) hp (by rw [e1]; exact hP') k3 (by rw [e1]; exact hce) hcv hcl T' rfl X'
    exact ⟨t2, st.trans a1, b1⟩
def m_Lw_rests : sh_M := (⟨"StolenHolidaysLaw", "rests", "(LStolenHolidays;IIII[J)I"⟩, method_3_code, 7, some .int)
def lr_hh : List (Nat × Nat × Nat × Nat) := [(0, 14, 17, 13)]
def lr_ws : List Cond := Cond.codeWith m_Lw_rests.1 m_Lw_rests.2.1 7 (some .int) lr_hh :: lw_g
theorem lr_in : ∀ x ∈ [Cond.methodLink "StolenHolidaysLaw" 7 m_Sto_rests.1, Cond.methodLink "StolenHolidaysLaw" 169 m_Lw_rests.1, Cond.static m_Lw_rests.1, Cond.codeWith m_Lw_rests.1 m_Lw_rests.2.1 7 (some .int) lr_hh, Cond.initialized "StolenHolidaysLaw"], x ∈ lw_g := sh_words [1146, 1142, 1143, 1144, 99] (by decide +kernel) (by decide +kernel)
def lr_Q (mem : sh_Mem) (o : Option Int) : Option sh_V → sh_Mem → Prop := fun rv m' => (o = none ∧ rv = some (sh_i 1) ∧ m' = mem) ∨ ∃ y, o = some y ∧ rv = some (sh_i 0) ∧ m' = ms mem 139 (ru (mem 139) 0 (i_2l y))
theorem lr_met {g : sh_G} {d : Nat} {mem : sh_Mem} {lo te no what : Int} (hl : g.1.stackTraces = false) (h1 : i3 lo = lo) (h2 : i3 te = te) (h3 : i3 no = no) (hw : i3 what = what) : Met g.1 m_Lw_rests.1 lr_ws (rs_rm (d + 8)) (rs_Pc g [sh_r 1, sh_i lo, sh_i te, sh_i no, sh_i what, sh_r 139] mem) (sh_Qc g (lr_Q mem (q_rests lo te no what))) 1 6 (sh_A g) := by
  refine va_MetW (cc := m_Lw_rests.2.1) (maxL := 7) (ret := some .int) (hh := lr_hh) (by decide +kernel) rfl ?_
  intro p e s m args below meth c s₁ B hml hv
  obtain ⟨rfl, hP, hE⟩ := hv
  have hlocks := B.notSynchronized
  have hts := atoms_spec (ws := lr_ws) B.pre
  have hts' := fun x (hx : x ∈ lw_g) => hts x (List.mem_cons_of_mem _ hx)
  have htab : c.exceptionTable.toList = tableOf lr_hh := vx_table (x := m_Lw_rests.1) B (hts _ List.mem_cons_self)
  have hown : s.vm.findClass m_Lw_rests.1.cls = some m.cls := findClass_of_methodNamed B.named
  rw [lg_entry_eq]
  have X9 : sh_X g (d + 8) m_Lw_rests 0 [(0, sh_r 1), (1, sh_i lo), (2, sh_i te), (3, sh_i no), (4, sh_i what), (5, sh_r 139)] [] mem (fun pc' lo' st' mem' => pc' = 9 ∧ lo' = [(0, sh_r 1), (1, sh_i lo), (2, sh_i te), (3, sh_i no), (4, sh_i what), (5, sh_r 139)] ∧ st' = [sh_i what, sh_i no, sh_i te, sh_i lo, sh_r 1, sh_i 0, sh_r 139] ∧ mem' = mem) := by
    refine xr_aload (i := 5) (List.mem_of_getElem? (i := 5) rfl) (by decide +kernel) ?_
    refine xr_iconst (n := 0) (by decide +kernel) ?_
    refine xr_aload_n (n := 0) (i := 0) rfl (List.mem_of_getElem? (i := 0) rfl) (by decide +kernel) ?_
    refine xr_iload_n (n := 1) (i := 1) rfl (List.mem_of_getElem? (i := 1) rfl) (by decide +kernel) ?_
    refine xr_iload_n (n := 2) (i := 2) rfl (List.mem_of_getElem? (i := 2) rfl) (by decide +kernel) ?_
    refine xr_iload_n (n := 3) (i := 3) rfl (List.mem_of_getElem? (i := 3) rfl) (by decide +kernel) ?_
    refine xr_iload (i := 4) (List.mem_of_getElem? (i := 4) rfl) (by decide +kernel) ?_
    exact xr_here ⟨rfl, rfl, rfl, rfl⟩
  refine X9 p e _ s m _ below meth c (sh_A g) s.heap [] _ 0 0 _ ⟨B.exec, B.bytes, hml, hown, hts', ⟨Nat.le_refl _, Nat.le_refl _, Nat.zero_le _, Nat.zero_le _⟩, fun _ z => z, hE.1⟩ ⟨hP, va_S.rf, ?_⟩ ?_
  · have hl := lv_entry ([sh_r 1, sh_i lo, sh_i te, sh_i no, sh_i what, sh_r 139].map (sh_cv g)) (n := m_Lw_rests.2.2.1) (by rw [sh_sz_map]; exact Nat.le_of_ble_eq_true rfl)
    rw [sh_la_map] at hl
    exact hl
  intro pc' lo' st' mem' H' locs' ls' hk hR
  obtain ⟨rfl, rfl, rfl, em⟩ := hk
  rw [em] at hR
  have hwd := sh_w_get g mem (a := 1) (by decide) (by decide)
  rw [sh_cel_o g mem (rfl : sh_shp 1 = some (.inl 11))] at hwd
  obtain ⟨cell, c1, c2, c3⟩ := va_recv hE.1.1 hR.1 (rfl : sh_cl[11]? = some (RX11, TX11, 13)) hwd
  have cb : CallB (headSpec lr_ws (rs_rm (d + 8))).room s _ "StolenHolidaysLaw" 7 m_Sto_rests.1 m_Sto_rests.2.1 m_Sto_rests.2.2.1 m_Sto_rests.2.2.2 (sh_ws m_Sto_rests) (rs_rm (d + 7)) 1 6 4 := callB_of 4 hts' (sh_good mo_Sto_rests) rfl rfl rfl (hts' _ mo_Sto_rests.2.2.2) (hts' _ (lr_in _ (List.mem_of_getElem? (i := 0) rfl))) mo_Sto_rests.1 ⟨Nat.le_refl _, by show 8 + (m_Sto_rests.2.2.1 + 11) + 64 * (d + 7) ≤ 64 * (d + 8); have := mo_Sto_rests.2.2.1; omega⟩
  refine rs_callW (rest := [sh_i 0, sh_r 139].map (sh_cv g)) (vx_runV (As := [sh_i lo, sh_i te, sh_i no, sh_i what].map (sh_cv g)) (C := "StolenHolidays") (b := sh_ad g 1) ⟨B.exec, B.bytes, hml, hown, hts'⟩ (c_rests (mem := mem) hl h1 h2 h3 hw) ⟨cb, hts' _ im_Sto_rests, hts' _ se_Sto_rests⟩ ⟨rs_blind g [sh_r 1, sh_i lo, sh_i te, sh_i no, sh_i what] mem, ⟨cell, c1, c2, c3⟩, fun U hU hW => ⟨rfl, by rw [hU]; exact hR.1, rs_E_call hE hR.2.1 (fun _ z => z) hU hW⟩⟩ rfl rfl hR.2.2.1 rfl (Nat.le_of_ble_eq_true rfl) (show decode m_Lw_rests.2.1 9 = .ok (.invokevirtual 7, 3) by decide +kernel) ⟨Nat.le_refl _, Nat.le_refl _⟩) hR.2.1 (fun _ z => z) (fun q ce H1 locs1 hn hP1 hS1 hce hcv hcl => ?_) (fun rv mem2 H1 locs1 hq hP1 hS1 => ?_)
  · refine vx_catch (own := "StolenHolidaysLaw") (name := rsN) (E := rsN) hown [] ⟨0, 14, 17, 13⟩ [] (htab.trans rfl) (fun z hz => nomatch hz) rfl (by decide) (hts' _ (rs_two _ (List.mem_of_getElem? (i := 2) rfl))) (va_Nw.use rfl hE.2.2.2.2.2.2) hce hcv hcl ?_
    refine lv_astore (lv := []) (lv' := [(6, Value.ref q)]) B.exec B.bytes (by decide +kernel) ⟨hR.2.2.1, hR.2.2.2.1, fun z hz => nomatch hz⟩ (by decide) rfl (fun ls2 _ => ?_)
    refine lv_iconst (v := 1) B.exec B.bytes (show decode m_Lw_rests.2.1 (17 + 2) = .ok (.iconst 1, 1) by decide +kernel) rfl ?_
    exact W.zret B.exec B.bytes B.returns rfl (fun t ht hW => ⟨⟨some (sh_i 1), mem, rfl, Or.inl ⟨hn, rfl, rfl⟩, by rw [ht]; exact hP1⟩, hS1.F ht⟩) hS1.2.2 (by decide +kernel)
  · obtain ⟨em2, y, hy, erv⟩ := hq
    rw [em2] at hP1
    rw [erv]
    have X12 : sh_X g (d + 8) m_Lw_rests 12 [(0, sh_r 1), (1, sh_i lo), (2, sh_i te), (3, sh_i no), (4, sh_i what), (5, sh_r 139)] [sh_i y, sh_i 0, sh_r 139] mem (sh_K m_Lw_rests (lr_Q mem (q_rests lo te no what))) := by
      refine xr_i2l (by decide +kernel) ?_
      refine xr_last (a := 139) (n := 1) rfl (by decide) (by decide) (by decide +kernel) ?_
      refine xr_goto (off := 7) (tgt := 21) (by decide) (by decide +kernel) ?_
      refine xr_iconst (n := 0) (by decide +kernel) ?_
      exact xr_iret rfl (by decide +kernel) (Or.inr ⟨y, hy, rfl, rfl⟩)
    refine X12 p e _ s m _ below meth c (sh_A g) H1 locs1 ls' (0 + 1) (0 + 6) _ ⟨B.exec, B.bytes, hml, hown, hts', ⟨Nat.le_refl _, Nat.le_refl _, Nat.le_refl _, Nat.le_refl _⟩, fun _ z => z, hE.1⟩ ⟨hP1, hS1, hR.2.2⟩ ?_
    intro pc2 lo2 st2 mem3 H2 locs2 ls2 hk2 hR2
    rcases hk2 with ⟨z1, -, -, -⟩ | ⟨x, ⟨ty, z1, z2⟩, rfl, z3, z4⟩
    · cases z1
    · exact W.zret B.exec B.bytes (B.returns.trans z1) z2 (fun t ht hW => ⟨⟨some (sh_i x), mem3, rfl, z4, by rw [ht]; exact hR2.1⟩, hR2.2.1.F ht⟩) hR2.2.1.2.2 z3
