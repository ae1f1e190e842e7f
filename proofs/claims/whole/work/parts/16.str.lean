/-! ===== calls on a text ===== -/
theorem sh_ad_t (g : sh_G) {i : Nat} (h : i < sh_nS) : sh_ad g (i + 1000) = g.2.2.2.2.1 i := by
  have h2 : i < 3 := h
  unfold sh_ad; rw [if_neg (by omega), if_pos (by omega), Nat.add_sub_cancel]
section XT
variable {g : sh_G} {d : Nat} {M M2 : sh_M} {pc : Nat} {lo : List (Nat × sh_V)} {st : List sh_V} {mem : sh_Mem} {K : Nat → List (Nat × sh_V) → List sh_V → sh_Mem → Prop}
theorem xr_callT {ix i n : Nat} {av : List sh_V} (hs : i < sh_nS) (hq : M2.1.cls = "java/lang/String") (hm : sh_MO M2 n) (hl : Cond.methodLink M.1.cls ix M2.1 ∈ lw_g) (hin : Cond.instanceMethod M2.1 ∈ lw_g) (hsel : Cond.selects M2.1.cls M2.1 M2.1 ∈ lw_g) (hn : av.length = n) (hst : (st.map fun v => (sh_cv g v).category).sum ≤ 8)
    (hd : decode M.2.1 pc = .ok (.invokevirtual ix, 3)) (h : sh_Cal g d M2 (sh_r (i + 1000) :: av) mem (fun rv mem' => sh_X g (d + 1) M (pc + 3) lo (rv.toList ++ st) mem' K)) : sh_X g (d + 1) M pc lo (av.reverse ++ sh_r (i + 1000) :: st) mem K := by
  intro p e R s m args below meth c A H locs ls cells slots Qf C Rl hk
  have hrec := vk_recv (H := H) (locs := locs) C.2.2.2.2.2.2.2.2.1 hs Rl.2.1
  have hR := C.2.2.2.2.2.1
  have hts := C.2.2.2.2.1
  have cb : CallB R s args M.1.cls ix M2.1 M2.2.1 M2.2.2.1 M2.2.2.2 (sh_ws M2) (sh_rm d) 0 0 n := callB_of n hts (sh_good hm) rfl rfl rfl (hts _ hm.2.2.2) (hts _ hl) hm.1 ⟨hR.1, by show 8 + (M2.2.2.1 + 11) + 64 * d ≤ R.locals; have := hm.2.2.1; have := hR.2.1; omega⟩
  refine sh_callW (rest := st.map (sh_cv g)) (va_runV (As := av.map (sh_cv g)) (C := "java/lang/String") (b := sh_ad g (i + 1000)) ⟨C.1, C.2.1, C.2.2.1, C.2.2.2.1, hts⟩ h ⟨cb, hts _ hin, by rw [← hq]; exact hts _ hsel⟩ ⟨sh_blind g _ _, by rw [sh_ad_t g hs]; exact hrec, fun U hU hW => ⟨rfl, by rw [hU]; exact Rl.1, sh_E_call C.2.2.2.2.2.2.2 Rl.2.1 C.2.2.2.2.2.2.1 hU hW⟩⟩ rfl (by rw [List.length_map]; exact hn) Rl.2.2.1 (by simp only [List.map_append, List.map_cons, List.map_reverse]; rfl) (lv_room (by rw [List.map_map]; exact hst)) hd ⟨hR.2.2.1, hR.2.2.2⟩) Rl.2.1 C.2.2.2.2.2.2.1 (fun rv mem' H1 locs1 hx hP hS => ?_)
  rw [sh_rv]
  exact hx p e R s m args below meth c A H1 locs1 ls cells slots Qf C ⟨hP, hS, Rl.2.2⟩ hk
end XT
