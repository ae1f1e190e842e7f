/-! ===== rules with natural numbers as places; small facts ===== -/
theorem i3_nrm (x : Int32) : i3 x.toInt = x.toInt := by unfold i3; rw [Int32.ofInt_toInt]
theorem ob3_ix {j : Nat} (h : j < 4) : ob3 (52 + 11 * j) := (by decide : ∀ j, j < 4 → 52 + 11 * j ∈ ([52, 63, 74, 85] : List Nat)) j h
theorem mm_sta : Cond.static Lib.Math.max.name ∈ lw_g := sa_Math_max
theorem mm_stb : Cond.static Lib.Math.min.name ∈ lw_g := sa_Math_min
theorem mm_ini : Cond.initialized "java/lang/Math" ∈ lw_g := mo_Math_max.2.2.2
theorem mm_max : Cond.code Lib.Math.max.name Lib.Math.max.code 2 (some .int) ∈ lw_g := mo_Math_max.2.1
theorem mm_min : Cond.code Lib.Math.min.name Lib.Math.min.code 2 (some .int) ∈ lw_g := mo_Math_min.2.1
section XN
variable {g : sh_G} {d : Nat} {M : sh_M} {pc : Nat} {lo : List (Nat × sh_V)} {st : List sh_V} {mem : sh_Mem} {K : Nat → List (Nat × sh_V) → List sh_V → sh_Mem → Prop}
theorem xr_ialdN {a n j : Nat} {i : Int} (hj : i = (j : Int)) (hs : sh_shp a = some (.inr (0, n))) (h : j < n) (hd : decode M.2.1 pc = .ok (.iaload, 1)) (k : sh_X g d M (pc + 1) lo (sh_i (mem a j) :: st) mem K) : sh_X g d M pc lo (sh_i i :: sh_r a :: st) mem K := by
  subst hj; exact xr_iald hs (by omega) (by omega) hd k
theorem xr_zaldN {a n j : Nat} {i : Int} (hj : i = (j : Int)) (hs : sh_shp a = some (.inr (3, n))) (h : j < n) (hd : decode M.2.1 pc = .ok (.baload, 1)) (k : sh_X g d M (pc + 1) lo (sh_i (mem a j) :: st) mem K) : sh_X g d M pc lo (sh_i i :: sh_r a :: st) mem K := by
  subst hj; exact xr_zald hs (by omega) (by omega) hd k
theorem xr_baldN {a n j : Nat} {i : Int} (hj : i = (j : Int)) (hs : sh_shp a = some (.inr (4, n))) (h : j < n) (hd : decode M.2.1 pc = .ok (.baload, 1)) (k : sh_X g d M (pc + 1) lo (sh_i (mem a j) :: st) mem K) : sh_X g d M pc lo (sh_i i :: sh_r a :: st) mem K := by
  subst hj; exact xr_bald hs (by omega) (by omega) hd k
theorem xr_laldN {a n j : Nat} {i : Int} (hj : i = (j : Int)) (hs : sh_shp a = some (.inr (1, n))) (h : j < n) (hd : decode M.2.1 pc = .ok (.laload, 1)) (k : sh_X g d M (pc + 1) lo (sh_l (mem a j) :: st) mem K) : sh_X g d M pc lo (sh_i i :: sh_r a :: st) mem K := by
  subst hj; exact xr_lald hs (by omega) (by omega) hd k
theorem xr_aaldN {j : Nat} {i : Int} (hj : i = (j : Int)) (h : j < 4) (hd : decode M.2.1 pc = .ok (.aaload, 1)) (k : sh_X g d M (pc + 1) lo (sh_r (52 + 11 * j) :: st) mem K) : sh_X g d M pc lo (sh_i i :: sh_r 21 :: st) mem K := by
  subst hj; exact xr_aald (by omega) (by omega) hd k
theorem xr_iastN {a n j : Nat} {i x : Int} (hj : i = (j : Int)) (hs : sh_shp a = some (.inr (0, n))) (h : j < n) (hd : decode M.2.1 pc = .ok (.iastore, 1)) (k : sh_X g d M (pc + 1) lo st (ms mem a (ru (mem a) j x)) K) : sh_X g d M pc lo (sh_i x :: sh_i i :: sh_r a :: st) mem K := by
  subst hj; exact xr_iast hs (by omega) (by omega) hd k
theorem xr_lastN {a n j : Nat} {i x : Int} (hj : i = (j : Int)) (hs : sh_shp a = some (.inr (1, n))) (h : j < n) (hd : decode M.2.1 pc = .ok (.lastore, 1)) (k : sh_X g d M (pc + 1) lo st (ms mem a (ru (mem a) j x)) K) : sh_X g d M pc lo (sh_l x :: sh_i i :: sh_r a :: st) mem K := by
  subst hj; exact xr_last hs (by omega) (by omega) hd k
theorem xr_zastN {a n j : Nat} {i x : Int} (hx : x = 0 ∨ x = 1) (hj : i = (j : Int)) (hs : sh_shp a = some (.inr (3, n))) (h : j < n) (hd : decode M.2.1 pc = .ok (.bastore, 1)) (k : sh_X g d M (pc + 1) lo st (ms mem a (ru (mem a) j x)) K) : sh_X g d M pc lo (sh_i x :: sh_i i :: sh_r a :: st) mem K := by
  subst hj; exact xr_zast hx hs (by omega) (by omega) hd k
theorem xr_bastN {a n j : Nat} {i x : Int} (hx : -128 ≤ x ∧ x < 128) (hj : i = (j : Int)) (hs : sh_shp a = some (.inr (4, n))) (h : j < n) (hd : decode M.2.1 pc = .ok (.bastore, 1)) (k : sh_X g d M (pc + 1) lo st (ms mem a (ru (mem a) j x)) K) : sh_X g d M pc lo (sh_i x :: sh_i i :: sh_r a :: st) mem K := by
  subst hj; exact xr_bast hx hs (by omega) (by omega) hd k
/-- Math.max, Math.min -/
theorem xr_mmax {ix : Nat} {a b : Int} (hl : Cond.methodLink M.1.cls ix Lib.Math.max.name ∈ lw_g) (hst : (st.map fun v => (sh_cv g v).category).sum ≤ 8) (hd : decode M.2.1 pc = .ok (.invokestatic ix, 3)) (k : sh_X g (d + 1) M (pc + 3) lo (sh_i (if i3 a < i3 b then b else a) :: st) mem K) : sh_X g (d + 1) M pc lo (sh_i b :: sh_i a :: st) mem K := by
  refine sh_go (fun p e R s m args below meth c A H locs ls cells slots Qf C Rl z => ?_) k
  have hR := C.2.2.2.2.2.1
  refine va_mmax C.1 C.2.1 (C.2.2.1.trans Rl.2.2.1.symm) C.2.2.2.1 (C.2.2.2.2.1 _ hl) (C.2.2.2.2.1 _ mm_sta) (C.2.2.2.2.1 _ mm_ini) (C.2.2.2.2.1 _ mm_max) (by omega) (by rw [List.map_map]; exact Nat.le_trans (Nat.add_le_add_right hst 13) (by omega)) hR.2.2.1 hR.2.2.2 hd ?_
  have e1 : Value.int (if Int32.ofInt a < Int32.ofInt b then Int32.ofInt b else Int32.ofInt a) = sh_cv g (sh_i (if i3 a < i3 b then b else a)) := by
    by_cases h : i3 a < i3 b
    · rw [if_pos ((i3_lt a b).mpr h), if_pos h]; rfl
    · rw [if_neg (fun q => h ((i3_lt a b).mp q)), if_neg h]; rfl
  show W _ _ _ _ _ _ _ _ _ _ _ _ _ _ _ (F0 m (pc + 3) ls (Value.int (if Int32.ofInt a < Int32.ofInt b then Int32.ofInt b else Int32.ofInt a) :: _))
  rw [e1]
  exact z
theorem xr_mmin {ix : Nat} {a b : Int} (hl : Cond.methodLink M.1.cls ix Lib.Math.min.name ∈ lw_g) (hst : (st.map fun v => (sh_cv g v).category).sum ≤ 8) (hd : decode M.2.1 pc = .ok (.invokestatic ix, 3)) (k : sh_X g (d + 1) M (pc + 3) lo (sh_i (if i3 b < i3 a then b else a) :: st) mem K) : sh_X g (d + 1) M pc lo (sh_i b :: sh_i a :: st) mem K := by
  refine sh_go (fun p e R s m args below meth c A H locs ls cells slots Qf C Rl z => ?_) k
  have hR := C.2.2.2.2.2.1
  refine va_mmin C.1 C.2.1 (C.2.2.1.trans Rl.2.2.1.symm) C.2.2.2.1 (C.2.2.2.2.1 _ hl) (C.2.2.2.2.1 _ mm_stb) (C.2.2.2.2.1 _ mm_ini) (C.2.2.2.2.1 _ mm_min) (by omega) (by rw [List.map_map]; exact Nat.le_trans (Nat.add_le_add_right hst 13) (by omega)) hR.2.2.1 hR.2.2.2 hd ?_
  have e1 : Value.int (if Int32.ofInt b < Int32.ofInt a then Int32.ofInt b else Int32.ofInt a) = sh_cv g (sh_i (if i3 b < i3 a then b else a)) := by
    by_cases h : i3 b < i3 a
    · rw [if_pos ((i3_lt b a).mpr h), if_pos h]; rfl
    · rw [if_neg (fun q => h ((i3_lt b a).mp q)), if_neg h]; rfl
  show W _ _ _ _ _ _ _ _ _ _ _ _ _ _ _ (F0 m (pc + 3) ls (Value.int (if Int32.ofInt b < Int32.ofInt a then Int32.ofInt b else Int32.ofInt a) :: _))
  rw [e1]
  exact z
end XN
theorem sh_metF {g : sh_G} {d : Nat} {M : sh_M} {lo : List (Nat × sh_V)} {mem : sh_Mem} {Q : Option sh_V → sh_Mem → Prop} {av : List sh_V} (hp : plainFor M.1 = true) (hsz : sh_sz av ≤ M.2.2.1) (hlo : sh_la 0 av = lo) (h : sh_X g d M 0 lo [] mem (sh_K M Q)) : sh_Cal g d M av mem Q := by
  refine va_MetF (cc := M.2.1) (maxL := M.2.2.1) (ret := M.2.2.2) hp rfl ?_
  intro p e s m args below meth c s₁ B hml hv
  obtain ⟨rfl, hP, hE⟩ := hv
  have hlocks := B.notSynchronized
  have hts := atoms_spec (ws := sh_ws M) B.pre
  have hown : s.vm.findClass M.1.cls = some m.cls := findClass_of_methodNamed B.named
  rw [lg_entry_eq]
  refine h p e _ s m _ below meth c (sh_A g) s.heap [] _ 0 0 _ ⟨B.exec, B.bytes, hml, hown, fun x hx => hts x (List.mem_cons_of_mem _ hx), ⟨Nat.le_refl _, Nat.le_refl _, Nat.le_refl _, Nat.le_refl _⟩, fun _ z => z, hE⟩ ⟨hP, va_S.rf, ?_⟩ ?_
  · have hl := lv_entry (av.map (sh_cv g)) (n := M.2.2.1) (by rw [sh_sz_map]; exact hsz)
    rw [sh_la_map, hlo] at hl
    exact hl
  · intro pc' lo' st' mem' H' locs' ls' hk hR
    rcases hk with ⟨h1, rfl, h3, h4⟩ | ⟨x, ⟨ty, h1, h2⟩, rfl, h3, h4⟩
    · exact W.vret B.exec B.bytes (B.returns.trans h1) (fun t ht hW => ⟨⟨none, mem', rfl, h4, by rw [ht]; exact hR.1⟩, hR.2.1.F ht⟩) hR.2.1.2.2 h3
    · exact W.zret B.exec B.bytes (B.returns.trans h1) h2 (fun t ht hW => ⟨⟨some (sh_i x), mem', rfl, h4, by rw [ht]; exact hR.1⟩, hR.2.1.F ht⟩) hR.2.1.2.2 h3
