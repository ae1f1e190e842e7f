/-! ===== the cases of the law: year, rests ===== -/
theorem lc_2 {g : sh_G} {b L d i N : Nat} {xs : Nat → Int32} {w : Wd} {mem : sh_Mem} {K : ly_T} (hI : LI N w mem) (k : ∀ w' m', LI (N + 1) w' m' → K 1516 (LO i) [] m') : ly_X g b L xs (d + 50) 372 (LO i) [] mem K := by
  refine ly_al (q := 1) (j := 1) rfl (List.mem_of_getElem? (i := 1) rfl) (by decide +kernel) ?_
  show ly_X g b L xs (d + 50) 373 (LO i) _ mem K
  refine ly_callV (av := []) rfl rfl rfl mo_Sto_year ml_Lw_31 im_Sto_year se_Sto_year rfl (Nat.le_of_ble_eq_true rfl) (by decide +kernel) (c_year (d := d + 34) (JD_all g) hI.1.2.1 hI.1.2.2.1 hI.2.1 (fun f m1 e hc => ?_) (fun y m1 e hc => ?_))
  · show ly_X g b L xs (d + 50) 376 (LO i) [sh_i f] m1 K
    refine ly_al (q := 2) (j := 2) rfl (List.mem_of_getElem? (i := 2) rfl) (by decide +kernel) ?_
    show ly_X g b L xs (d + 50) 377 (LO i) _ m1 K
    refine ly_callV (av := []) rfl rfl rfl mo_Mod_year ml_Lw_34 im_Mod_year se_Mod_year rfl (Nat.le_of_ble_eq_true rfl) (by decide +kernel) (r_year (d := d + 45) hI.1.1 hI.1.2.1 hI.1.2.2.1 (RR1 hI.2.2 hc) (fun f2 m2 e2 hr => ?_) (fun y2 y' m2 e2 _ _ _ => ?_))
    · show ly_X g b L xs (d + 50) 380 (LO i) [sh_i f2, sh_i f] m2 K
      have ef : f2 = f := Sum.inl.inj (e2.symm.trans e)
      rw [ef]
      exact ly_same (off := 1136) (by decide) (by decide +kernel) (k _ _ (LI_of (WI_tp hI.1 (TpOk_z _)) hc hr))
    · rw [e] at e2; cases e2
  · show ly_X g b L xs (d + 50) 376 (LO i) [sh_i 0] m1 K
    refine ly_al (q := 2) (j := 2) rfl (List.mem_of_getElem? (i := 2) rfl) (by decide +kernel) ?_
    show ly_X g b L xs (d + 50) 377 (LO i) _ m1 K
    refine ly_callV (av := []) rfl rfl rfl mo_Mod_year ml_Lw_34 im_Mod_year se_Mod_year rfl (Nat.le_of_ble_eq_true rfl) (by decide +kernel) (r_year (d := d + 45) hI.1.1 hI.1.2.1 hI.1.2.2.1 (RR1 hI.2.2 hc) (fun f2 m2 e2 hr => ?_) (fun y2 y' m2 e2 ag yok hr => ?_))
    · rw [e] at e2; cases e2
    · show ly_X g b L xs (d + 50) 380 (LO i) [sh_i 0, sh_i 0] m2 K
      have ey : y2 = y := Sum.inr.inj (e2.symm.trans e)
      rw [ey] at ag
      exact ly_same (off := 1136) (by decide) (by decide +kernel) (k _ _ (LI_of (WI_yr hI.1 yok) ⟨CRel_Ag hc.1 ag, hc.2⟩ hr))
section LYG
variable {g : sh_G} {b L d : Nat} {xs : Nat → Int32} {pc : Nat} {lo : List (Nat × sh_V)} {st : List sh_V} {mem : sh_Mem} {K : ly_T}
theorem ly_argG {i k : Nat} (m0 : (0, sh_r 2900) ∈ lo) (m4 : (4, sh_i (i : Int)) ∈ lo) (hk : i + k < L) (hL : L ≤ 3584) (hb : g.2.2.2.2.2 900 = b) (d0 : decode code pc = .ok (.aload_n 0, 1)) (d1 : decode code (pc + 1) = .ok (.iload 4, 2)) (d2 : decode code (pc + 1 + 2) = .ok (.iconst (k : Int), 1)) (d3 : decode code (pc + 1 + 2 + 1) = .ok (.iadd, 1)) (d4 : decode code (pc + 1 + 2 + 1 + 1) = .ok (.iaload, 1)) (kk : ly_X g b L xs d (pc + 1 + 2 + 1 + 1 + 1) lo (sh_i (sc xs (i + k)) :: st) mem K) : ly_X g b L xs d pc lo st mem K := by
  refine ly_step (fun _ z => xr_aload_n (M := m_Lw_law) (n := 0) (i := 0) rfl m0 d0 z) ?_
  refine ly_step (fun _ z => xr_iload (M := m_Lw_law) (i := 4) m4 d1 z) ?_
  refine ly_step (fun _ z => xr_iconst (M := m_Lw_law) d2 z) ?_
  refine ly_step (fun _ z => xr_iadd (M := m_Lw_law) d3 z) ?_
  exact ly_sld (j := i + k) (by omega) hk hL hb d4 kk
end LYG
theorem l_cmp_rf (x : Int) : i3 (l_cmp x x) = 0 := by
  have : l_cmp x x = 0 := (l_cmp0 x x).mpr rfl
  rw [this]; rfl
theorem lc_35b {g : sh_G} {b L d i N : Nat} {xs : Nat → Int32} {w : Wd} {mem mem1 : sh_Mem} {kk : Int} {K : ly_T} (hb : g.2.2.2.2.2 900 = b) (hL : L ≤ 3584) (hi : i + 7 ≤ L) (hI : LI N w mem) (k : ∀ w' m', LI (N + 1) w' m' → K 1516 (LO i) [] m') (hq : lr_Q mem (q_rests (sc xs (i + 1)) (sc xs (i + 2)) (sc xs (i + 3)) (sc xs (i + 4))) (some (sh_i kk)) mem1) : ly_X g b L xs (d + 50) 1326 (LO i) [sh_i kk] mem1 K := by
  have e96 : ∀ a, a ≠ 139 → mem1 a = mem a := by
    intro a ha
    rcases hq with ⟨-, -, e⟩ | ⟨y, -, -, e⟩
    · rw [e]
    · rw [e, ms_n _ _ ha]
  refine ly_step (fun _ z => xr_istore (M := m_Lw_law) (i := 5) (lo' := [(5, sh_i kk), (0, sh_r 2900), (1, sh_r 1), (2, sh_r 96), (3, sh_r 139), (4, sh_i (i : Int))]) (by decide) rfl (by decide +kernel) z) ?_
  show ly_X g b L xs (d + 50) 1328 [(5, sh_i kk), (0, sh_r 2900), (1, sh_r 1), (2, sh_r 96), (3, sh_r 139), (4, sh_i (i : Int))] [] mem1 K
  refine ly_al (q := 2) (j := 2) rfl (List.mem_of_getElem? (i := 3) rfl) (by decide +kernel) ?_
  show ly_X g b L xs (d + 50) 1329 _ _ mem1 K
  refine ly_argG (i := i) (k := 1) (List.mem_of_getElem? (i := 1) rfl) (List.mem_of_getElem? (i := 5) rfl) (by omega) hL hb (by decide +kernel) (by decide +kernel) (by decide +kernel) (by decide +kernel) (by decide +kernel) ?_
  show ly_X g b L xs (d + 50) 1335 _ _ mem1 K
  refine ly_argG (i := i) (k := 2) (List.mem_of_getElem? (i := 1) rfl) (List.mem_of_getElem? (i := 5) rfl) (by omega) hL hb (by decide +kernel) (by decide +kernel) (by decide +kernel) (by decide +kernel) (by decide +kernel) ?_
  show ly_X g b L xs (d + 50) 1341 _ _ mem1 K
  refine ly_argG (i := i) (k := 3) (List.mem_of_getElem? (i := 1) rfl) (List.mem_of_getElem? (i := 5) rfl) (by omega) hL hb (by decide +kernel) (by decide +kernel) (by decide +kernel) (by decide +kernel) (by decide +kernel) ?_
  show ly_X g b L xs (d + 50) 1347 _ _ mem1 K
  refine ly_argG (i := i) (k := 4) (List.mem_of_getElem? (i := 1) rfl) (List.mem_of_getElem? (i := 5) rfl) (by omega) hL hb (by decide +kernel) (by decide +kernel) (by decide +kernel) (by decide +kernel) (by decide +kernel) ?_
  show ly_X g b L xs (d + 50) 1353 _ _ mem1 K
  refine ly_callV (av := [sh_i (sc xs (i + 1)), sh_i (sc xs (i + 2)), sh_i (sc xs (i + 3)), sh_i (sc xs (i + 4))]) rfl rfl rfl mo_Mod_rests ml_Lw_174 im_Mod_rests se_Mod_rests rfl (Nat.le_of_ble_eq_true rfl) (by decide +kernel) (r_rests (d := d + 48) (w := w) (RRel_cg hI.2.2 (fun a _ h2 => e96 a (by omega))) (sc_i3 xs _) (sc_i3 xs _) (sc_i3 xs _) (sc_i3 xs _) (fun m2 v hr hv => ?_))
  show ly_X g b L xs (d + 50) 1356 [(5, sh_i kk), (0, sh_r 2900), (1, sh_r 1), (2, sh_r 96), (3, sh_r 139), (4, sh_i (i : Int))] [sh_i v] m2 K
  have hLI : LI (N + 1) w m2 := ⟨WI_id hI.1, CRel_cg hI.2.1 (fun a ha => (hr.2.2.1 a ha).trans (e96 a (by omega))), hr.1⟩
  refine ly_step (fun _ z => xr_istore (M := m_Lw_law) (i := 6) (lo' := [(6, sh_i v), (5, sh_i kk), (0, sh_r 2900), (1, sh_r 1), (2, sh_r 96), (3, sh_r 139), (4, sh_i (i : Int))]) (by decide) rfl (by decide +kernel) z) ?_
  show ly_X g b L xs (d + 50) 1358 [(6, sh_i v), (5, sh_i kk), (0, sh_r 2900), (1, sh_r 1), (2, sh_r 96), (3, sh_r 139), (4, sh_i (i : Int))] [] m2 K
  refine ly_al (q := 2) (j := 2) rfl (List.mem_of_getElem? (i := 4) rfl) (by decide +kernel) ?_
  show ly_X g b L xs (d + 50) 1359 _ _ m2 K
  refine ly_callV (av := []) rfl rfl rfl mo_Mod_thrown ml_Lw_175 im_Mod_thrown se_Mod_thrown rfl (Nat.le_of_ble_eq_true rfl) (by decide +kernel) (v_Mod_thrown ?_)
  rw [hr.2.1]
  have fin : ly_X g b L xs (d + 50) 1386 [(6, sh_i v), (5, sh_i kk), (0, sh_r 2900), (1, sh_r 1), (2, sh_r 96), (3, sh_r 139), (4, sh_i (i : Int))] [] m2 K := by
    refine ly_step (fun _ z => xr_goto (M := m_Lw_law) (off := 130) (tgt := 1516) (by decide) (by decide +kernel) z) ?_
    refine ly_step (fun _ z => xr_sub (M := m_Lw_law) (lo' := LO i) [2, 3, 4, 5, 6] rfl z) ?_
    exact ly_here (k w m2 hLI)
  rcases hq with ⟨hn, ek, -⟩ | ⟨y, hy, ek, em⟩
  · cases ek
    rw [hn]
    show ly_X g b L xs (d + 50) 1362 [(6, sh_i v), (5, sh_i 1), (0, sh_r 2900), (1, sh_r 1), (2, sh_r 96), (3, sh_r 139), (4, sh_i (i : Int))] [sh_i 1] m2 K
    refine ly_step (fun _ z => xr_iload (M := m_Lw_law) (i := 5) (List.mem_of_getElem? (i := 1) rfl) (by decide +kernel) z) ?_
    refine ly_step (fun _ z => xr_icmp_eq (M := m_Lw_law) (a' := 1) (b' := 1) (off := 5) (tgt := 1369) rfl rfl (by decide) (by decide +kernel) ⟨fun _ => z, fun c => absurd rfl c⟩) ?_
    refine ly_step (fun _ z => xr_iload (M := m_Lw_law) (i := 5) (List.mem_of_getElem? (i := 1) rfl) (by decide +kernel) z) ?_
    exact ly_step (fun _ z => xr_if_ne (M := m_Lw_law) (a' := 1) (off := 15) (tgt := 1386) rfl (by decide) (by decide +kernel) ⟨fun _ => z, fun c => absurd c (by decide)⟩) fin
  · cases ek
    have ev := hv y hy
    rw [hy]
    show ly_X g b L xs (d + 50) 1362 [(6, sh_i v), (5, sh_i 0), (0, sh_r 2900), (1, sh_r 1), (2, sh_r 96), (3, sh_r 139), (4, sh_i (i : Int))] [sh_i 0] m2 K
    refine ly_step (fun _ z => xr_iload (M := m_Lw_law) (i := 5) (List.mem_of_getElem? (i := 1) rfl) (by decide +kernel) z) ?_
    refine ly_step (fun _ z => xr_icmp_eq (M := m_Lw_law) (a' := 0) (b' := 0) (off := 5) (tgt := 1369) rfl rfl (by decide) (by decide +kernel) ⟨fun _ => z, fun c => absurd rfl c⟩) ?_
    refine ly_step (fun _ z => xr_iload (M := m_Lw_law) (i := 5) (List.mem_of_getElem? (i := 1) rfl) (by decide +kernel) z) ?_
    refine ly_step (fun _ z => xr_if_ne (M := m_Lw_law) (a' := 0) (off := 15) (tgt := 1386) rfl (by decide) (by decide +kernel) ⟨fun c => absurd rfl c, fun _ => z⟩) ?_
    show ly_X g b L xs (d + 50) 1374 [(6, sh_i v), (5, sh_i 0), (0, sh_r 2900), (1, sh_r 1), (2, sh_r 96), (3, sh_r 139), (4, sh_i (i : Int))] [] m2 K
    refine ly_al (q := 3) (j := 3) rfl (List.mem_of_getElem? (i := 5) rfl) (by decide +kernel) ?_
    refine ly_step (fun _ z => xr_iconst (M := m_Lw_law) (n := 0) (by decide +kernel) z) ?_
    refine ly_step (fun _ z => xr_lald (M := m_Lw_law) (a := 139) (n := 1) rfl (by decide) (by decide) (by decide +kernel) z) ?_
    refine ly_step (fun _ z => xr_iload (M := m_Lw_law) (i := 6) (List.mem_of_getElem? (i := 0) rfl) (by decide +kernel) z) ?_
    refine ly_step (fun _ z => xr_i2l (M := m_Lw_law) (by decide +kernel) z) ?_
    refine ly_step (fun _ z => xr_lcmp (M := m_Lw_law) (by decide +kernel) z) ?_
    have e0 : m2 139 (0 : Int).toNat = i_2l v := by rw [hr.2.2.2, em, ms_s, ev]; exact ru_s _ _ _
    rw [e0]
    exact ly_step (fun _ z => xr_if_eq (M := m_Lw_law) (a' := 0) (off := 5) (tgt := 1386) (l_cmp_rf _) (by decide) (by decide +kernel) ⟨fun _ => z, fun c => absurd rfl c⟩) fin
/-- a call that makes cells -/
theorem sh_callWm {g : sh_G} {p : Program} {e : Env} {R : Room} {s : State} {m : MethodId} {args : Array Value} {below : List Frame} {meth : Method} {c : Code} {H : Heap} {locs : List Loc} {cells slots mc ms : Nat} {Qf : State → Prop} {A : Nat → Prop} {pc : Nat} {ls : Array Slot} {st0 rest : List Value} {a : Array Value} {Q2 : Option sh_V → sh_Mem → Prop}
    (hr : va_Run p g.1 e R s m args below meth c H locs cells slots mc ms (F0 m pc ls st0) rest (sh_Qc g Q2 a) (sh_A g)) (hS : va_S A s.heap H locs) (hA : ∀ q, sh_A g q → A q)
    (kk : ∀ (rv : Option sh_V) (mem' : sh_Mem) (H1 : Heap) (locs1 : List Loc), Q2 rv mem' → va_P g.2.1 sh_cl (sh_w g mem') H1 → va_S A s.heap H1 locs1 → W p g.1 e R s m args below meth c H1 locs1 (cells + mc) (slots + ms) Qf (F0 m (pc + 3) ls ((rv.map (sh_cv g)).toList ++ rest))) : W p g.1 e R s m args below meth c H locs cells slots Qf (F0 m pc ls st0) := by
  intro T hT X
  obtain ⟨v, st₀, t, T', L, h0, X', hL, e1, e2, ⟨⟨rv, mem', hv, hq, hP'⟩, hz, hk⟩, st⟩ := hr T hT X
  cases hv
  rw [h0] at hz hk
  obtain ⟨t2, a1, b1⟩ := kk rv mem' T'.heap (locs ++ L) hq (by rw [e1]; exact hP')
    ⟨Nat.le_trans hS.1 (by rw [e1]; exact hz), fun q h1 h2 => by rw [e1, hk q (Nat.lt_of_lt_of_le h1 hS.1) (fun z => h2 (hA q z))]; exact hS.2.1 q h1 h2, fun q hq => by
      rcases List.mem_append.mp hq with h | h
      · exact hS.2.2 q h
      · exact hA _ (hL q h)⟩ T' rfl X'
  exact ⟨t2, st t2 a1, b1⟩
theorem lr_good : GoodIn lw_g lr_ws := by
  intro x hx
  rcases List.mem_cons.mp hx with e | hx
  · rw [e]; exact ⟨lr_in _ (List.mem_of_getElem? (i := 3) rfl), lw_g_good _ (lr_in _ (List.mem_of_getElem? (i := 3) rfl))⟩
  · exact ⟨hx, lw_g_good _ hx⟩
theorem lc_35 {g : sh_G} {b L d i N : Nat} {xs : Nat → Int32} {w : Wd} {mem : sh_Mem} {p : Program} {e : Env} {R : Room} {s : State} {m : MethodId} {args : Array Value} {below : List Frame} {meth : Method} {c : Code} {A : Nat → Prop} {H : Heap} {locs : List Loc} {ls : Array Slot} {cells slots : Nat} {Qf : State → Prop} (hl : g.1.stackTraces = false) (hb : g.2.2.2.2.2 900 = b) (hL : L ≤ 3584) (hi : i + 7 ≤ L) (hI : LI N w mem)
    (C : sh_C g m_Lw_law (d + 50) A p R s m args c cells slots) (hX : ly_B b L xs s A) (hE : rs_E g A s s.heap) (Rl : sh_R g m_Lw_law A s mem (LO i) H locs ls) (hc : cells + 1 ≤ R.cells) (hs : slots + 6 ≤ R.slots)
    (kk : ∀ w' m' H' locs' ls', LI (N + 1) w' m' → sh_R g m_Lw_law A s m' (LO i) H' locs' ls' → W p g.1 e R s m args below meth c H' locs' (cells + 1) (slots + 6) Qf (F0 m 1516 ls' [])) :
    W p g.1 e R s m args below meth c H locs cells slots Qf (F0 m 1297 ls []) := by
  have X1 : ly_X g b L xs (d + 50) 1297 (LO i) [] mem (fun a1 a2 a3 a4 => a1 = 1323 ∧ a2 = LO i ∧ a3 = [sh_r 139, sh_i (sc xs (i + 4)), sh_i (sc xs (i + 3)), sh_i (sc xs (i + 2)), sh_i (sc xs (i + 1)), sh_r 1] ∧ a4 = mem) := by
    refine ly_al (q := 1) (j := 1) rfl (List.mem_of_getElem? (i := 1) rfl) (by decide +kernel) ?_
    refine ly_arg (k := 1) (by omega) hL hb (by decide +kernel) (by decide +kernel) (by decide +kernel) (by decide +kernel) (by decide +kernel) ?_
    refine ly_arg (k := 2) (by omega) hL hb (by decide +kernel) (by decide +kernel) (by decide +kernel) (by decide +kernel) (by decide +kernel) ?_
    refine ly_arg (k := 3) (by omega) hL hb (by decide +kernel) (by decide +kernel) (by decide +kernel) (by decide +kernel) (by decide +kernel) ?_
    refine ly_arg (k := 4) (by omega) hL hb (by decide +kernel) (by decide +kernel) (by decide +kernel) (by decide +kernel) (by decide +kernel) ?_
    refine ly_al (q := 3) (j := 3) rfl (List.mem_of_getElem? (i := 3) rfl) (by decide +kernel) ?_
    exact ly_here ⟨rfl, rfl, rfl, rfl⟩
  refine X1 p e R s m args below meth c A H locs ls cells slots Qf C hX Rl (fun a1 a2 a3 a4 H1 locs1 ls1 hK hR => ?_)
  obtain ⟨rfl, rfl, rfl, em⟩ := hK
  rw [em] at hR
  have hts := C.2.2.2.2.1
  have hRm := C.2.2.2.2.2.1
  have cw9 : vx_CSW R s args "StolenHolidaysLaw" 169 m_Lw_rests.1 m_Lw_rests.2.1 7 (some .int) lr_hh lr_ws (rs_rm (d + 8)) 1 6 6 := by
    refine ⟨⟨rfl, rfl, ?_, ?_, pay_in hts lr_good, List.mem_cons_self⟩, hts _ (lr_in _ (List.mem_of_getElem? (i := 3) rfl)), hts _ (lr_in _ (List.mem_of_getElem? (i := 4) rfl)), ⟨by decide, by decide⟩, fun sig h => ?_, hts _ (lr_in _ (List.mem_of_getElem? (i := 1) rfl)), hts _ (lr_in _ (List.mem_of_getElem? (i := 2) rfl))⟩
    · show d + 8 + 1 ≤ R.frames
      omega
    · show 8 + (7 + 11) + 64 * (d + 8) ≤ R.locals
      omega
    · have h2 : (parseMethodDescriptor m_Lw_rests.1.desc).map (fun d => d.parameters.length) = some 6 := by decide +kernel
      rw [h] at h2
      exact (Option.some.inj h2).symm
  refine sh_callWm (rest := []) (vx_runSW (As := [sh_r 1, sh_i (sc xs (i + 1)), sh_i (sc xs (i + 2)), sh_i (sc xs (i + 3)), sh_i (sc xs (i + 4)), sh_r 139].map (sh_cv g)) ⟨C.1, C.2.1, C.2.2.1, C.2.2.2.1, hts⟩ (lr_met (mem := mem) hl (sc_i3 xs (i + 1)) (sc_i3 xs (i + 2)) (sc_i3 xs (i + 3)) (sc_i3 xs (i + 4))) cw9 ⟨rs_blind g [sh_r 1, sh_i (sc xs (i + 1)), sh_i (sc xs (i + 2)), sh_i (sc xs (i + 3)), sh_i (sc xs (i + 4)), sh_r 139] mem, fun U hU hW => ⟨rfl, by rw [hU]; exact hR.1, rs_E_call hE hR.2.1 C.2.2.2.2.2.2.1 hU hW⟩⟩ rfl rfl hR.2.2.1 rfl (Nat.le_of_ble_eq_true rfl) (show decode code 1323 = .ok (.invokestatic 169, 3) by decide +kernel) ⟨hc, hs⟩) hR.2.1 C.2.2.2.2.2.2.1 (fun rv mem1 H2 locs2 hq hP2 hS2 => ?_)
  have hrv : ∃ kk9 : Int, rv = some (sh_i kk9) := by
    rcases hq with ⟨-, z, -⟩ | ⟨y, -, z, -⟩
    · exact ⟨1, z⟩
    · exact ⟨0, z⟩
  obtain ⟨kv, ev⟩ := hrv
  subst ev
  refine lc_35b (K := fun a1 a2 a3 a4 => a1 = 1516 ∧ a2 = LO i ∧ a3 = [] ∧ ∃ w', LI (N + 1) w' a4) hb hL hi hI (fun w' m' h9 => ⟨rfl, rfl, rfl, w', h9⟩) hq p e R s m args below meth c A H2 locs2 ls1 (cells + 1) (slots + 6) Qf ⟨C.1, C.2.1, C.2.2.1, C.2.2.2.1, hts, ⟨hRm.1, hRm.2.1, hc, hs⟩, C.2.2.2.2.2.2⟩ hX ⟨hP2, hS2, hR.2.2⟩ (fun a1 a2 a3 a4 H3 locs3 ls3 hK hR3 => ?_)
  obtain ⟨rfl, rfl, rfl, w', h9⟩ := hK
  exact kk w' a4 H3 locs3 ls3 h9 hR3
