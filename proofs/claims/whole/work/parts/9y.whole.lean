/-! ===== THE START: the making of the cells, and the whole ===== -/
theorem sy_make {g : sh_G} {K : ck_T} (k : K 23 (LO 0) [] 139 (finF g) 139 10767) : ck_X g (49 + 1) 139 10767 m_Lw_law 0 [(0, sh_r 2900)] [] 0 zF 0 0 K := by
  refine ck_new sfs0 cf_X11 cl_Lw_8 it_Sto in_Sto (by decide +kernel) (by decide) (by decide) (by decide) (by decide +kernel) ?_
  show ck_X g (49 + 1) 139 10767 m_Lw_law 3 [(0, sh_r 2900)] [sh_r 1] 1 f1F 1 13 K
  refine ck_dupR (by decide +kernel) ?_
  refine ck_callI (av := []) (st := [sh_r 1]) mo_Sto_init ml_Lw_15 im_Sto_init rfl rfl rfl (Nat.le_of_ble_eq_true rfl) (by decide) (by decide) (by decide +kernel) (k_Sto_init (d := 46) (F := f1F) (fu_s _ _ _)) ?_
  show ck_X g (49 + 1) 139 10767 m_Lw_law 7 [(0, sh_r 2900)] [sh_r 1] 95 (sF17 g f1F) 95 5222 K
  refine ck_astore_n (q := 1) (i := 1) (lo' := [(1, sh_r 1), (0, sh_r 2900)]) rfl (by decide) rfl (by decide +kernel) ?_
  refine ck_new mfs0 cf_X12 cl_Lw_16 it_Mod in_Mod (by decide +kernel) (by decide) (by decide) (by decide) (by decide +kernel) ?_
  show ck_X g (49 + 1) 139 10767 m_Lw_law 11 [(1, sh_r 1), (0, sh_r 2900)] [sh_r 96] 96 (f2F g) 96 5281 K
  refine ck_dupR (by decide +kernel) ?_
  refine ck_callI (av := []) (st := [sh_r 96]) mo_Mod_init ml_Lw_18 im_Mod_init rfl rfl rfl (Nat.le_of_ble_eq_true rfl) (by decide) (by decide) (by decide +kernel) (k_Mod_init (d := 48) (F := f2F g) (fu_s _ _ _)) ?_
  show ck_X g (49 + 1) 139 10767 m_Lw_law 15 [(1, sh_r 1), (0, sh_r 2900)] [sh_r 96] 138 (f3F g) 138 10766 K
  refine ck_astore_n (q := 2) (i := 2) (lo' := [(2, sh_r 96), (1, sh_r 1), (0, sh_r 2900)]) rfl (by decide) rfl (by decide +kernel) ?_
  refine ck_iconst (x := 1) (by decide +kernel) ?_
  refine ck_newa (aty := .long) (t := 1) (N := 1) ac_long rfl (by decide) (fun _ => rfl) (by decide) (by decide) rfl (by decide) (by decide) (by decide) (by decide +kernel) ?_
  show ck_X g (49 + 1) 139 10767 m_Lw_law 19 [(2, sh_r 96), (1, sh_r 1), (0, sh_r 2900)] [sh_r 139] 139 (finF g) 139 10767 K
  refine ck_astore_n (q := 3) (i := 3) (lo' := [(3, sh_r 139), (2, sh_r 96), (1, sh_r 1), (0, sh_r 2900)]) rfl (by decide) rfl (by decide +kernel) ?_
  refine ck_iconst (x := 0) (by decide +kernel) ?_
  refine ck_istore (i := 4) (lo' := [(4, sh_i 0), (3, sh_r 139), (2, sh_r 96), (1, sh_r 1), (0, sh_r 2900)]) (by decide) rfl (by decide +kernel) ?_
  refine ck_sub (lo' := LO 0) [4, 3, 2, 1, 0] rfl ?_
  exact ck_here k
/-- from the entry, for every script of at most 3584 ints, the law comes to its end with true -/
theorem whole_start {p : Program} {e : Env} {s : State} {m : MethodId} {below : List Frame} {meth : Method} {c : Code} (l : Launch) (hflags : l.flags = flags0) {b L : Nat} {xs : Nat → Int32} (hL : L ≤ 3584) (C0 : lw_At p s m meth c b L xs) : W p l e room_1 s m #[Value.ref b] below meth c s.heap [] 0 0 (lw_Z below #[Value.ref b] s) (entryFrame m ([Value.ref b] : List Value).toArray 7) := by
  obtain ⟨hx, hb, hr, hml, hown, hts, hX, hbl, hlk, hgv⟩ := id C0
  obtain ⟨g, g1, g2, g3, gE, gR⟩ := sy_G l b hts hgv
  subst g1
  have htg : ∀ x ∈ lw_g, x.before #[Value.ref b] s = true := fun x hx => hts x (List.mem_filter.mp hx).1
  have htr : g.1.stackTraces = false := by
    unfold Launch.stackTraces
    rw [hflags]
    decide
  have hl := lv_entry ([.ref b]) (n := 7) (Nat.le_of_ble_eq_true rfl)
  rw [lg_entry_eq]
  generalize (lg_sl ([.ref b]) ++ List.replicate (7 - (lg_sl ([.ref b])).length) Slot.unset).toArray = ls at hl ⊢
  have hl : lv_has ls 7 [(0, .ref b)] := hl
  have e1 : sh_cv g (sh_r 2900) = .ref b := by rw [← g3]; exact cv_v g 900
  have hlo : lv_has ls 7 [(0, sh_cv g (sh_r 2900))] := by rw [e1]; exact hl
  refine sy_make (g := g) (K := fun a1 a2 a3 a4 a5 a6 a7 => a1 = 23 ∧ a2 = LO 0 ∧ a3 = [] ∧ a4 = 139 ∧ a5 = finF g ∧ a6 = 139 ∧ a7 = 10767) ⟨rfl, rfl, rfl, rfl, rfl, rfl, rfl⟩ p e room_1 s m #[Value.ref b] below meth c (fun q => s.heap.size ≤ q) s.heap [] ls _ ⟨hx, hb, hml, hown, htg, ⟨Nat.le_of_ble_eq_true rfl, Nat.le_of_ble_eq_true rfl, Nat.le_of_ble_eq_true rfl, Nat.le_of_ble_eq_true rfl⟩, fun q h => ?_, ?_, fun h => absurd h (by decide), gE⟩ ⟨⟨fun k q h => ?_, ?_⟩, va_S.rf, hlo⟩ (fun a1 a2 a3 a4 a5 a6 a7 H1 locs1 ls1 hK hR => ?_)
  · have h2 : g.2.2.1 < q := h
    show s.heap.size ≤ q
    omega
  · omega
  · exact absurd h (by simp [cw])
  · omega
  · obtain ⟨f1, f2, f3, f4, f5, f6, f7⟩ := hK
    rw [f2, f4, f5] at hR
    rw [f1, f3, f6, f7]
    refine lp_loop (A := fun q => s.heap.size ≤ q) htr g3 hL (fun q h => h) hx hb hml hown htg (fun q h => ?_) gR ⟨hX, hbl, Nat.not_le.mpr hbl⟩ hr hlk 513 0 w0 mem0 H1 locs1 ls1 139 10767 (by omega) (by omega) (by omega) (by omega) ⟨WI_st, CRel_st, RRel_st⟩ ⟨?_, hR.2.1, hR.2.2⟩
    · have h2 : g.2.2.1 < q := h.1
      show s.heap.size ≤ q
      omega
    · rw [← cw_fin g]; exact hR.1.1
