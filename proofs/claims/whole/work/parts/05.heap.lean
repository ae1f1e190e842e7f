/-! ===== rules of the heap, calls, returns ===== -/
def sh_CF (ci : Nat) (C : String) (T : u_T) (N : Nat) (ty0 : Nat → FieldType) : Prop :=
  sh_cl[ci]? = some (C, T, N) ∧ sh_nf ci = N ∧ (∀ x ∈ u_ws C T N, x ∈ lw_g) ∧ (∀ k, k < N → parseFieldDescriptor (T k).2.2.1 = some (ty0 k)) ∧ (∀ a, a < N → ∀ b, b < N → a ≠ b → (T a).2.1 ≠ (T b).2.1)
def sh_FL (own : String) (ix ci k : Nat) : Prop := ∃ (C : String) (T : u_T) (N : Nat) (ty0 : Nat → FieldType), sh_CF ci C T N ty0 ∧ k < N ∧ Cond.fieldLink own ix (T k).1 (T k).2.1 (T k).2.2.1 ∈ lw_g
def sh_PL (own : String) (ix ci k : Nat) (ty : FieldType) : Prop := ∃ (C : String) (T : u_T) (N : Nat) (ty0 : Nat → FieldType), sh_CF ci C T N ty0 ∧ k < N ∧ Cond.fieldLink own ix (T k).1 (T k).2.1 (T k).2.2.1 ∈ lw_g ∧ (T k).2.2.2 = false ∧ ty0 k = ty
theorem sh_len_le {a t n : Nat} (h : sh_shp a = some (.inr (t, n))) : n ≤ 2000 := by
  have key : ∀ q ∈ sh_shl, (match q with | .inl _ => 0 | .inr q => q.2) ≤ 2000 := by decide +kernel
  unfold sh_shp at h
  by_cases h0 : a = 0
  · rw [if_pos h0] at h; cases h
  · rw [if_neg h0] at h
    exact key _ (List.mem_of_getElem? h)
theorem sh_ix {i : Int} {n : Nat} (h0 : 0 ≤ i) (h1 : i < (n : Int)) (hn : n ≤ 2000) : vp_in (Int32.ofInt i) n ∧ (Int32.ofInt i).toNatClampNeg = i.toNat := by
  have e : (Int32.ofInt i).toInt = i := i3_id (by omega) (by omega)
  refine ⟨vp_in_iff.mpr ⟨by rw [e]; exact h0, by rw [e]; exact h1⟩, ?_⟩
  show (Int32.ofInt i).toInt.toNat = i.toNat
  rw [e]
theorem sh_upd (f : Nat → Int) (j : Nat) (x : Int) : upd (fun j => Int32.ofInt (f j)) j (Int32.ofInt x) = fun q => Int32.ofInt (ru f j x q) := by
  funext q
  unfold upd ru
  by_cases h : q = j
  · rw [if_pos h, if_pos h]
  · rw [if_neg h, if_neg h]
theorem sh_updL (f : Nat → Int) (j : Nat) (x : Int) : vp_updL (fun j => Int64.ofInt (f j)) j (Int64.ofInt x) = fun q => Int64.ofInt (ru f j x q) := by
  funext q
  unfold vp_updL ru
  by_cases h : q = j
  · rw [if_pos h, if_pos h]
  · rw [if_neg h, if_neg h]
def cpy (f r : Nat → Int) (sp dp n : Nat) : Nat → Int := fun k => if dp ≤ k ∧ k < dp + n then f (sp + (k - dp)) else r k
theorem sh_cpy (f r : Nat → Int) (sp dp n : Nat) : va_cpy (fun j => Int32.ofInt (f j)) (fun j => Int32.ofInt (r j)) sp dp n = fun j => Int32.ofInt (cpy f r sp dp n j) := by
  funext k
  unfold va_cpy cpy
  by_cases h : dp ≤ k ∧ k < dp + n
  · rw [if_pos h, if_pos h]
  · rw [if_neg h, if_neg h]
section XH
variable {g : sh_G} {d : Nat} {M : sh_M} {pc : Nat} {lo : List (Nat × sh_V)} {st : List sh_V} {mem : sh_Mem} {K : Nat → List (Nat × sh_V) → List sh_V → sh_Mem → Prop}
theorem xr_get {ix ci k a : Nat} {v : sh_V} (hs : sh_shp a = some (.inl ci)) (hf : sh_FL M.1.cls ix ci k) (hv : sh_cv g v = sh_fv g a (sh_ft ci k) (mem a k)) (hd : decode M.2.1 pc = .ok (.getfield ix, 3)) (kx : sh_X g d M (pc + 3) lo (v :: st) mem K) : sh_X g d M pc lo (sh_r a :: st) mem K := by
  obtain ⟨C0, T, N, ty0, ⟨h1, h2, h3, h4, h5⟩, h6, h7⟩ := hf
  refine sh_go (fun p e R s m args below meth c A H locs ls cells slots Qf C Rl z => ?_) kx
  have hw := sh_w_get g mem (sh_shp_lt hs).1 (sh_shp_lt hs).2
  rw [sh_cel_o g mem hs] at hw
  exact va_get C.1 C.2.1 C.2.2.2.2.1 h3 C.2.2.2.1 C.2.2.2.2.2.2.2.1 Rl.1 (a - 1) hw h1 k h6 (C.2.2.2.2.1 _ h7) (fun _ h => h) (v := sh_cv g v) (by rw [hv]; exact sh_fs_get g _ (by rw [h2]; exact h6)) hd z
theorem xr_getI {ix ci k a : Nat} (hs : sh_shp a = some (.inl ci)) (hf : sh_FL M.1.cls ix ci k) (ht : sh_ft ci k = 0 ∨ sh_ft ci k = 3) (hd : decode M.2.1 pc = .ok (.getfield ix, 3)) (kx : sh_X g d M (pc + 3) lo (sh_i (mem a k) :: st) mem K) : sh_X g d M pc lo (sh_r a :: st) mem K :=
  xr_get hs hf (by rcases ht with h | h <;> rw [h] <;> rfl) hd kx
theorem xr_getL {ix ci k a : Nat} (hs : sh_shp a = some (.inl ci)) (hf : sh_FL M.1.cls ix ci k) (ht : sh_ft ci k = 1) (hd : decode M.2.1 pc = .ok (.getfield ix, 3)) (kx : sh_X g d M (pc + 3) lo (sh_l (mem a k) :: st) mem K) : sh_X g d M pc lo (sh_r a :: st) mem K :=
  xr_get hs hf (by rw [ht]; rfl) hd kx
theorem xr_getR {ix ci k a o : Nat} (hs : sh_shp a = some (.inl ci)) (hf : sh_FL M.1.cls ix ci k) (ht : sh_ft ci k = 10 + o) (hd : decode M.2.1 pc = .ok (.getfield ix, 3)) (kx : sh_X g d M (pc + 3) lo (sh_r (a + o) :: st) mem K) : sh_X g d M pc lo (sh_r a :: st) mem K :=
  xr_get hs hf (by rw [ht]; unfold sh_fv; rw [if_neg (by omega), if_neg (by omega), if_neg (by omega), if_pos (by omega), Nat.add_sub_cancel_left]; rfl) hd kx
theorem xr_getT {ix ci k a : Nat} (hs : sh_shp a = some (.inl ci)) (hf : sh_FL M.1.cls ix ci k) (ht : sh_ft ci k = 6) (hd : decode M.2.1 pc = .ok (.getfield ix, 3)) (kx : sh_X g d M (pc + 3) lo (sh_r 2 :: st) mem K) : sh_X g d M pc lo (sh_r a :: st) mem K :=
  xr_get hs hf (by rw [ht]; rfl) hd kx
theorem xr_getD {ix ci k a b : Nat} (hs : sh_shp a = some (.inl ci)) (hf : sh_FL M.1.cls ix ci k) (ht : sh_ft ci k = 2) (hb : mem a k = (b : Int)) (hd : decode M.2.1 pc = .ok (.getfield ix, 3)) (kx : sh_X g d M (pc + 3) lo (sh_r b :: st) mem K) : sh_X g d M pc lo (sh_r a :: st) mem K :=
  xr_get hs hf (by rw [ht, hb]; rfl) hd kx
theorem xr_put {ix ci k a : Nat} {ty : FieldType} {v : sh_V} {x : Int} (hs : sh_shp a = some (.inl ci)) (hf : sh_PL M.1.cls ix ci k ty) (hv : sh_cv g v = sh_fv g a (sh_ft ci k) x) (hn : narrow ty (sh_cv g v) = sh_cv g v) (hfit : fits ty (sh_cv g v) = true) (hd : decode M.2.1 pc = .ok (.putfield ix, 3)) (kx : sh_X g d M (pc + 3) lo st (ms mem a (ru (mem a) k x)) K) : sh_X g d M pc lo (v :: sh_r a :: st) mem K := by
  obtain ⟨C0, T, N, ty0, ⟨h1, h2, h3, h4, h5⟩, h6, h7, h8, h9⟩ := hf
  intro p e R s m args below meth c A H locs ls cells slots Qf C Rl hk
  have hw := sh_w_get g mem (sh_shp_lt hs).1 (sh_shp_lt hs).2
  rw [sh_cel_o g mem hs] at hw
  refine va_put (D := g.2.1) (v := sh_cv g v) (ty := ty) C.1 C.2.1 C.2.2.2.2.1 h3 ty0 h4 h5 C.2.2.2.1 C.2.2.2.2.2.2.2.1 Rl.1 (sh_w_D g mem C.2.2.2.2.2.2.1) Rl.2.1 (a - 1) hw h1 k h6 (C.2.2.2.2.1 _ h7) (fun _ h => h) h8 (by rw [← h9]; exact h4 k h6) hn hfit (by unfold sh_fs; rw [List.length_map, List.length_range, h2]; exact h6) hd (fun H1 locs1 hP hD hS => ?_)
  rw [hv, sh_fs_set, sh_w_set g (mem' := ms mem a (ru (mem a) k x)) (sh_shp_lt hs).1 (fun b hb => ms_n _ _ hb) (by rw [sh_cel_o g _ hs, ms_s])] at hP
  exact kx p e R s m args below meth c A H1 locs1 ls cells slots Qf C ⟨hP, hS, Rl.2.2⟩ hk
theorem xr_putI {ix ci k a : Nat} {x : Int} (hs : sh_shp a = some (.inl ci)) (hf : sh_PL M.1.cls ix ci k .int) (ht : sh_ft ci k = 0) (hd : decode M.2.1 pc = .ok (.putfield ix, 3)) (kx : sh_X g d M (pc + 3) lo st (ms mem a (ru (mem a) k x)) K) : sh_X g d M pc lo (sh_i x :: sh_r a :: st) mem K :=
  xr_put hs hf (by rw [ht]; rfl) rfl rfl hd kx
theorem xr_putL {ix ci k a : Nat} {x : Int} (hs : sh_shp a = some (.inl ci)) (hf : sh_PL M.1.cls ix ci k .long) (ht : sh_ft ci k = 1) (hd : decode M.2.1 pc = .ok (.putfield ix, 3)) (kx : sh_X g d M (pc + 3) lo st (ms mem a (ru (mem a) k x)) K) : sh_X g d M pc lo (sh_l x :: sh_r a :: st) mem K :=
  xr_put hs hf (by rw [ht]; rfl) rfl rfl hd kx
theorem xr_putZ {ix ci k a : Nat} {x : Int} (hx : x = 0 ∨ x = 1) (hs : sh_shp a = some (.inl ci)) (hf : sh_PL M.1.cls ix ci k .boolean) (ht : sh_ft ci k = 3) (hd : decode M.2.1 pc = .ok (.putfield ix, 3)) (kx : sh_X g d M (pc + 3) lo st (ms mem a (ru (mem a) k x)) K) : sh_X g d M pc lo (sh_i x :: sh_r a :: st) mem K :=
  xr_put hs hf (by rw [ht]; rfl) (by rcases hx with rfl | rfl <;> rfl) (by rcases hx with rfl | rfl <;> rfl) hd kx
theorem xr_putD {ix ci k a b : Nat} {C : String} (hs : sh_shp a = some (.inl ci)) (hf : sh_PL M.1.cls ix ci k (.object C)) (ht : sh_ft ci k = 2) (hd : decode M.2.1 pc = .ok (.putfield ix, 3)) (kx : sh_X g d M (pc + 3) lo st (ms mem a (ru (mem a) k (b : Int))) K) : sh_X g d M pc lo (sh_r b :: sh_r a :: st) mem K :=
  xr_put hs hf (by rw [ht]; rfl) rfl rfl hd kx
/-! arrays -/
theorem xr_iald {a n : Nat} {i : Int} (hs : sh_shp a = some (.inr (0, n))) (h0 : 0 ≤ i) (h1 : i < (n : Int)) (hd : decode M.2.1 pc = .ok (.iaload, 1)) (k : sh_X g d M (pc + 1) lo (sh_i (mem a i.toNat) :: st) mem K) : sh_X g d M pc lo (sh_i i :: sh_r a :: st) mem K := by
  refine sh_go (fun p e R s m args below meth c A H locs ls cells slots Qf C Rl z => ?_) k
  have hw := sh_w_get g mem (sh_shp_lt hs).1 (sh_shp_lt hs).2
  rw [sh_cel_a g mem hs] at hw
  obtain ⟨q1, q2⟩ := sh_ix h0 h1 (sh_len_le hs)
  refine va_iald C.1 C.2.1 C.2.2.2.2.2.2.2.1 Rl.1 (a - 1) 0 hw rfl q1 hd ?_
  rw [q2]; exact z
theorem xr_zald {a n : Nat} {i : Int} (hs : sh_shp a = some (.inr (3, n))) (h0 : 0 ≤ i) (h1 : i < (n : Int)) (hd : decode M.2.1 pc = .ok (.baload, 1)) (k : sh_X g d M (pc + 1) lo (sh_i (mem a i.toNat) :: st) mem K) : sh_X g d M pc lo (sh_i i :: sh_r a :: st) mem K := by
  refine sh_go (fun p e R s m args below meth c A H locs ls cells slots Qf C Rl z => ?_) k
  have hw := sh_w_get g mem (sh_shp_lt hs).1 (sh_shp_lt hs).2
  rw [sh_cel_a g mem hs] at hw
  obtain ⟨q1, q2⟩ := sh_ix h0 h1 (sh_len_le hs)
  refine va_zald C.1 C.2.1 C.2.2.2.2.2.2.2.1 Rl.1 (a - 1) 3 hw rfl q1 hd ?_
  rw [q2]; exact z
theorem xr_bald {a n : Nat} {i : Int} (hs : sh_shp a = some (.inr (4, n))) (h0 : 0 ≤ i) (h1 : i < (n : Int)) (hd : decode M.2.1 pc = .ok (.baload, 1)) (k : sh_X g d M (pc + 1) lo (sh_i (mem a i.toNat) :: st) mem K) : sh_X g d M pc lo (sh_i i :: sh_r a :: st) mem K := by
  refine sh_go (fun p e R s m args below meth c A H locs ls cells slots Qf C Rl z => ?_) k
  have hw := sh_w_get g mem (sh_shp_lt hs).1 (sh_shp_lt hs).2
  rw [sh_cel_a g mem hs] at hw
  obtain ⟨q1, q2⟩ := sh_ix h0 h1 (sh_len_le hs)
  refine va_bald C.1 C.2.1 C.2.2.2.2.2.2.2.1 Rl.1 (a - 1) 4 hw rfl q1 hd ?_
  rw [q2]; exact z
theorem xr_lald {a n : Nat} {i : Int} (hs : sh_shp a = some (.inr (1, n))) (h0 : 0 ≤ i) (h1 : i < (n : Int)) (hd : decode M.2.1 pc = .ok (.laload, 1)) (k : sh_X g d M (pc + 1) lo (sh_l (mem a i.toNat) :: st) mem K) : sh_X g d M pc lo (sh_i i :: sh_r a :: st) mem K := by
  refine sh_go (fun p e R s m args below meth c A H locs ls cells slots Qf C Rl z => ?_) k
  have hw := sh_w_get g mem (sh_shp_lt hs).1 (sh_shp_lt hs).2
  rw [sh_cel_a g mem hs] at hw
  obtain ⟨q1, q2⟩ := sh_ix h0 h1 (sh_len_le hs)
  refine va_lald C.1 C.2.1 C.2.2.2.2.2.2.2.1 Rl.1 (a - 1) 1 hw rfl q1 hd ?_
  rw [q2]; exact z
theorem xr_aald {i : Int} (h0 : 0 ≤ i) (h1 : i < 4) (hd : decode M.2.1 pc = .ok (.aaload, 1)) (k : sh_X g d M (pc + 1) lo (sh_r (52 + 11 * i.toNat) :: st) mem K) : sh_X g d M pc lo (sh_i i :: sh_r 21 :: st) mem K := by
  refine sh_go (fun p e R s m args below meth c A H locs ls cells slots Qf C Rl z => ?_) k
  have hs : sh_shp 21 = some (.inr (2, 4)) := rfl
  have hw := sh_w_get g mem (sh_shp_lt hs).1 (sh_shp_lt hs).2
  rw [sh_cel_a g mem hs] at hw
  obtain ⟨q1, q2⟩ := sh_ix (n := 4) h0 h1 (by decide)
  refine va_aldq C.1 C.2.1 C.2.2.2.2.2.2.2.1 Rl.1 20 2 hw rfl q1 hd ?_
  rw [q2, if_pos (by omega)]; exact z
theorem xr_iast {a n : Nat} {i x : Int} (hs : sh_shp a = some (.inr (0, n))) (h0 : 0 ≤ i) (h1 : i < (n : Int)) (hd : decode M.2.1 pc = .ok (.iastore, 1)) (k : sh_X g d M (pc + 1) lo st (ms mem a (ru (mem a) i.toNat x)) K) : sh_X g d M pc lo (sh_i x :: sh_i i :: sh_r a :: st) mem K := by
  intro p e R s m args below meth c A H locs ls cells slots Qf C Rl hk
  have hw := sh_w_get g mem (sh_shp_lt hs).1 (sh_shp_lt hs).2
  rw [sh_cel_a g mem hs] at hw
  obtain ⟨q1, q2⟩ := sh_ix h0 h1 (sh_len_le hs)
  refine va_iast C.1 C.2.1 C.2.2.2.2.2.2.2.1 Rl.1 (sh_w_D g mem C.2.2.2.2.2.2.1) Rl.2.1 (a - 1) 0 hw rfl q1 hd (fun H1 locs1 hP hD hS => ?_)
  rw [q2, sh_upd, sh_w_set g (mem' := ms mem a (ru (mem a) i.toNat x)) (sh_shp_lt hs).1 (fun b hb => ms_n _ _ hb) (by rw [sh_cel_a g _ hs, ms_s]; rfl)] at hP
  exact k p e R s m args below meth c A H1 locs1 ls cells slots Qf C ⟨hP, hS, Rl.2.2⟩ hk
theorem xr_last {a n : Nat} {i x : Int} (hs : sh_shp a = some (.inr (1, n))) (h0 : 0 ≤ i) (h1 : i < (n : Int)) (hd : decode M.2.1 pc = .ok (.lastore, 1)) (k : sh_X g d M (pc + 1) lo st (ms mem a (ru (mem a) i.toNat x)) K) : sh_X g d M pc lo (sh_l x :: sh_i i :: sh_r a :: st) mem K := by
  intro p e R s m args below meth c A H locs ls cells slots Qf C Rl hk
  have hw := sh_w_get g mem (sh_shp_lt hs).1 (sh_shp_lt hs).2
  rw [sh_cel_a g mem hs] at hw
  obtain ⟨q1, q2⟩ := sh_ix h0 h1 (sh_len_le hs)
  refine va_last C.1 C.2.1 C.2.2.2.2.2.2.2.1 Rl.1 (sh_w_D g mem C.2.2.2.2.2.2.1) Rl.2.1 (a - 1) 1 hw rfl q1 hd (fun H1 locs1 hP hD hS => ?_)
  rw [q2, sh_updL, sh_w_set g (mem' := ms mem a (ru (mem a) i.toNat x)) (sh_shp_lt hs).1 (fun b hb => ms_n _ _ hb) (by rw [sh_cel_a g _ hs, ms_s]; rfl)] at hP
  exact k p e R s m args below meth c A H1 locs1 ls cells slots Qf C ⟨hP, hS, Rl.2.2⟩ hk
theorem xr_zast {a n : Nat} {i x : Int} (hx : x = 0 ∨ x = 1) (hs : sh_shp a = some (.inr (3, n))) (h0 : 0 ≤ i) (h1 : i < (n : Int)) (hd : decode M.2.1 pc = .ok (.bastore, 1)) (k : sh_X g d M (pc + 1) lo st (ms mem a (ru (mem a) i.toNat x)) K) : sh_X g d M pc lo (sh_i x :: sh_i i :: sh_r a :: st) mem K := by
  intro p e R s m args below meth c A H locs ls cells slots Qf C Rl hk
  have hw := sh_w_get g mem (sh_shp_lt hs).1 (sh_shp_lt hs).2
  rw [sh_cel_a g mem hs] at hw
  obtain ⟨q1, q2⟩ := sh_ix h0 h1 (sh_len_le hs)
  have hx2 : vp_nar .boolean (Int32.ofInt x) = Int32.ofInt x := by rcases hx with rfl | rfl <;> rfl
  refine va_zast C.1 C.2.1 C.2.2.2.2.2.2.2.1 Rl.1 (sh_w_D g mem C.2.2.2.2.2.2.1) Rl.2.1 (a - 1) 3 hw rfl q1 hd (fun H1 locs1 hP hD hS => ?_)
  rw [q2, hx2, sh_upd, sh_w_set g (mem' := ms mem a (ru (mem a) i.toNat x)) (sh_shp_lt hs).1 (fun b hb => ms_n _ _ hb) (by rw [sh_cel_a g _ hs, ms_s]; rfl)] at hP
  exact k p e R s m args below meth c A H1 locs1 ls cells slots Qf C ⟨hP, hS, Rl.2.2⟩ hk
theorem sh_byte {x : Int} (h0 : -128 ≤ x) (h1 : x < 128) : (Int32.ofInt x).toInt8.toInt32 = Int32.ofInt x := by
  have e : (Int32.ofInt x).toInt = x := i3_id (by omega) (by omega)
  apply Int32.toInt_inj.mp
  rw [Int8.toInt_toInt32, Int32.toInt_toInt8, e]
  exact Int.bmod_eq_of_le_mul_two (by omega) (by omega)
theorem xr_bast {a n : Nat} {i x : Int} (hx : -128 ≤ x ∧ x < 128) (hs : sh_shp a = some (.inr (4, n))) (h0 : 0 ≤ i) (h1 : i < (n : Int)) (hd : decode M.2.1 pc = .ok (.bastore, 1)) (k : sh_X g d M (pc + 1) lo st (ms mem a (ru (mem a) i.toNat x)) K) : sh_X g d M pc lo (sh_i x :: sh_i i :: sh_r a :: st) mem K := by
  intro p e R s m args below meth c A H locs ls cells slots Qf C Rl hk
  have hw := sh_w_get g mem (sh_shp_lt hs).1 (sh_shp_lt hs).2
  rw [sh_cel_a g mem hs] at hw
  obtain ⟨q1, q2⟩ := sh_ix h0 h1 (sh_len_le hs)
  have hx2 : vp_nar .byte (Int32.ofInt x) = Int32.ofInt x := by rw [vp_nar_byte, sh_byte hx.1 hx.2]
  refine va_bast C.1 C.2.1 C.2.2.2.2.2.2.2.1 Rl.1 (sh_w_D g mem C.2.2.2.2.2.2.1) Rl.2.1 (a - 1) 4 hw rfl q1 hd (fun H1 locs1 hP hD hS => ?_)
  rw [q2, hx2, sh_upd, sh_w_set g (mem' := ms mem a (ru (mem a) i.toNat x)) (sh_shp_lt hs).1 (fun b hb => ms_n _ _ hb) (by rw [sh_cel_a g _ hs, ms_s]; rfl)] at hP
  exact k p e R s m args below meth c A H1 locs1 ls cells slots Qf C ⟨hP, hS, Rl.2.2⟩ hk
theorem xr_copy {ix a0 a1 n0 n1 : Nat} {sp dp n : Int} (hl : Cond.methodLink M.1.cls ix arraycopyName ∈ lw_g) (hnat : Cond.native arraycopyName ∈ lw_g) (hsta : Cond.static arraycopyName ∈ lw_g) (hini : Cond.initialized "java/lang/System" ∈ lw_g) (hs0 : sh_shp a0 = some (.inr (0, n0))) (hs1 : sh_shp a1 = some (.inr (0, n1))) (h1 : 0 ≤ sp) (h2 : 0 ≤ dp) (h3 : 0 ≤ n) (h4 : sp + n ≤ n0) (h5 : dp + n ≤ n1) (hd : decode M.2.1 pc = .ok (.invokestatic ix, 3)) (k : sh_X g (d + 1) M (pc + 3) lo [] (ms mem a1 (cpy (mem a0) (mem a1) sp.toNat dp.toNat n.toNat)) K) : sh_X g (d + 1) M pc lo [sh_i n, sh_i dp, sh_r a1, sh_i sp, sh_r a0] mem K := by
  intro p e R s m args below meth c A H locs ls cells slots Qf C Rl hk
  have hw0 := sh_w_get g mem (sh_shp_lt hs0).1 (sh_shp_lt hs0).2
  rw [sh_cel_a g mem hs0] at hw0
  have hw1 := sh_w_get g mem (sh_shp_lt hs1).1 (sh_shp_lt hs1).2
  rw [sh_cel_a g mem hs1] at hw1
  have l0 := sh_len_le hs0
  have l1 := sh_len_le hs1
  have cl : ∀ z : Int, 0 ≤ z → z ≤ 2000 → ¬ Int32.ofInt z < 0 ∧ (Int32.ofInt z).toNatClampNeg = z.toNat := by
    intro z z0 z1
    have e : (Int32.ofInt z).toInt = z := i3_id (by omega) (by omega)
    refine ⟨fun q => ?_, by show (Int32.ofInt z).toInt.toNat = z.toNat; rw [e]⟩
    have q2 := (i3_lt0 z).mp q
    rw [i3_id (by omega) (by omega)] at q2
    omega
  obtain ⟨s1, s2⟩ := cl sp h1 (by omega)
  obtain ⟨d1, d2⟩ := cl dp h2 (by omega)
  obtain ⟨n1', n2'⟩ := cl n h3 (by omega)
  have hfr := C.2.2.2.2.2.1
  refine va_copyi C.1 C.2.1 (C.2.2.1.trans Rl.2.2.1.symm) C.2.2.2.1 (C.2.2.2.2.1 _ hl) (C.2.2.2.2.1 _ hnat) (C.2.2.2.2.1 _ hsta) (C.2.2.2.2.1 _ hini) C.2.2.2.2.2.2.2.1 Rl.1 (sh_w_D g mem C.2.2.2.2.2.2.1) Rl.2.1 (a0 - 1) (a1 - 1) 0 0 (ty := .int) hw0 hw1 rfl rfl rfl s1 d1 n1' (by rw [s2, n2']; omega) (by rw [d2, n2']; omega) (fun _ _ => rfl) (by omega) (by show 0 + (nativeFrameWords "java/lang/System" "arraycopy" 5 + 11) ≤ R.locals; have hnf : nativeFrameWords "java/lang/System" "arraycopy" 5 + 11 ≤ 64 := (by decide); omega) hd (fun H1 locs1 hP hD hS => ?_)
  rw [s2, d2, n2', sh_cpy, sh_w_set g (mem' := ms mem a1 (cpy (mem a0) (mem a1) sp.toNat dp.toNat n.toNat)) (sh_shp_lt hs1).1 (fun b hb => ms_n _ _ hb) (by rw [sh_cel_a g _ hs1, ms_s]; rfl)] at hP
  exact k p e R s m args below meth c A H1 locs1 ls cells slots Qf C ⟨hP, hS, Rl.2.2⟩ hk
end XH
/-! ===== methods ===== -/
def sh_rm (d : Nat) : Room := { frames := d, cells := 0, slots := 0, locals := 64 * d }
def sh_ws (M : sh_M) : List Cond := .code M.1 M.2.1 M.2.2.1 M.2.2.2 :: lw_g
def sh_Pc (g : sh_G) (av : List sh_V) (mem : sh_Mem) : Array Value → State → Prop := va_Pc (av.map (sh_cv g)) (fun U => va_P g.2.1 sh_cl (sh_w g mem) U.heap ∧ sh_E g (sh_A g) U U.heap)
def sh_Qc (g : sh_G) (Q : Option sh_V → sh_Mem → Prop) : Array Value → State → Outcome → State → Prop := fun _ s0 oc t => (∃ (rv : Option sh_V) (mem' : sh_Mem), oc = .returned (rv.map (sh_cv g)) ∧ Q rv mem' ∧ va_P g.2.1 sh_cl (sh_w g mem') t.heap) ∧ va_F (sh_A g) s0 t
/-- the method, called so, returns so -/
def sh_Cal (g : sh_G) (d : Nat) (M : sh_M) (av : List sh_V) (mem : sh_Mem) (Q : Option sh_V → sh_Mem → Prop) : Prop := Met g.1 M.1 (sh_ws M) (sh_rm d) (sh_Pc g av mem) (sh_Qc g Q) 0 0 (sh_A g)
theorem sh_E_call {g : sh_G} {A : Nat → Prop} {s U : State} {H : Heap} {locs : List Loc} (hE : sh_E g A s s.heap) (hS : va_S A s.heap H locs) (hA : ∀ q, sh_A g q → A q) (hU : U.heap = H) (hW : s.WarmedH U.vm) : sh_E g (sh_A g) U U.heap := by
  obtain ⟨h1, h2, h3, h4, h5, h6⟩ := hE
  rw [hU]
  exact ⟨va_K.moved hW.alike h1, ((h2.kept hS.2.1).narrow hA).moved hW.alike, fun i q hq => (h3 i q hq).warm hW, ((h4.kept hS.2.1).narrow hA).moved hW.alike, h5.warmM hW, ((h6.kept hS.2.1).narrow hA).moved hW.alike⟩
theorem sh_blind (g : sh_G) (av : List sh_V) (mem : sh_Mem) : FrameBlind (sh_Pc g av mem) := by
  intro a U g' mk h
  obtain ⟨h0, hP, h1, h2, h3, h4, h5, h6⟩ := h
  exact ⟨h0, hP, va_K.moved (u := U) (U := U.calling g' mk a) (Vm.Alike.refl U.vm) h1, vk_S.moved (u := U) (U := U.calling g' mk a) (Vm.Alike.refl U.vm) h2, fun i q hq => (h3 i q hq).same rfl, va_Z.moved (u := U) (U := U.calling g' mk a) (Vm.Alike.refl U.vm) h4, va_Nw.same (u := U) (U := U.calling g' mk a) rfl rfl h5, va_Zq.moved (u := U) (U := U.calling g' mk a) (Vm.Alike.refl U.vm) h6⟩
theorem sh_callW {g : sh_G} {p : Program} {e : Env} {R : Room} {s : State} {m : MethodId} {args : Array Value} {below : List Frame} {meth : Method} {c : Code} {H : Heap} {locs : List Loc} {cells slots : Nat} {Qf : State → Prop} {A : Nat → Prop} {pc : Nat} {ls : Array Slot} {st0 rest : List Value} {a : Array Value} {Q2 : Option sh_V → sh_Mem → Prop}
    (hr : va_Run p g.1 e R s m args below meth c H locs cells slots 0 0 (F0 m pc ls st0) rest (sh_Qc g Q2 a) (sh_A g)) (hS : va_S A s.heap H locs) (hA : ∀ q, sh_A g q → A q)
    (kk : ∀ (rv : Option sh_V) (mem' : sh_Mem) (H1 : Heap) (locs1 : List Loc), Q2 rv mem' → va_P g.2.1 sh_cl (sh_w g mem') H1 → va_S A s.heap H1 locs1 → W p g.1 e R s m args below meth c H1 locs1 cells slots Qf (F0 m (pc + 3) ls ((rv.map (sh_cv g)).toList ++ rest))) : W p g.1 e R s m args below meth c H locs cells slots Qf (F0 m pc ls st0) := by
  intro T hT X
  obtain ⟨v, st₀, t, T', L, h0, X', hL, e1, e2, ⟨⟨rv, mem', hv, hq, hP'⟩, hz, hk⟩, st⟩ := hr T hT X
  cases hv
  rw [h0] at hz hk
  obtain ⟨t2, a1, b1⟩ := kk rv mem' T'.heap (locs ++ L) hq (by rw [e1]; exact hP')
    ⟨Nat.le_trans hS.1 (by rw [e1]; exact hz), fun q h1 h2 => by rw [e1, hk q (Nat.lt_of_lt_of_le h1 hS.1) (fun z => h2 (hA q z))]; exact hS.2.1 q h1 h2, fun q hq => by
      rcases List.mem_append.mp hq with h | h
      · exact hS.2.2 q h
      · exact hA _ (hL q h)⟩ T' rfl X'
  exact ⟨t2, st t2 a1, b1⟩
/-- what the tables say of a method that may be called: by its name's class not strange, its parameters n, its code there, its locals few -/
def sh_MO (M : sh_M) (n : Nat) : Prop := (M.1.cls ≠ "java/lang/invoke/MethodHandle" ∧ M.1.cls ≠ "java/lang/invoke/VarHandle" ∧ (parseMethodDescriptor M.1.desc).map (fun d => d.parameters.length) = some n) ∧ Cond.code M.1 M.2.1 M.2.2.1 M.2.2.2 ∈ lw_g ∧ M.2.2.1 ≤ 40 ∧ Cond.initialized M.1.cls ∈ lw_g
theorem sh_good {M : sh_M} {n : Nat} (h : sh_MO M n) : GoodIn lw_g (sh_ws M) := by
  intro x hx
  rcases List.mem_cons.mp hx with e | hx
  · rw [e]; exact ⟨h.2.1, lw_g_good _ h.2.1⟩
  · exact ⟨hx, lw_g_good _ hx⟩
section XC
variable {g : sh_G} {d : Nat} {M M2 : sh_M} {pc : Nat} {lo : List (Nat × sh_V)} {st : List sh_V} {mem : sh_Mem} {K : Nat → List (Nat × sh_V) → List sh_V → sh_Mem → Prop}
theorem sh_rv (rv : Option sh_V) (st : List sh_V) : (rv.map (sh_cv g)).toList ++ st.map (sh_cv g) = (rv.toList ++ st).map (sh_cv g) := by cases rv <;> rfl
theorem xr_callV {ix ci a n : Nat} {av : List sh_V} {q : vw_C} (hs : sh_shp a = some (.inl ci)) (hc : sh_cl[ci]? = some q) (hq : M2.1.cls = q.1) (hm : sh_MO M2 n) (hl : Cond.methodLink M.1.cls ix M2.1 ∈ lw_g) (hin : Cond.instanceMethod M2.1 ∈ lw_g) (hsel : Cond.selects M2.1.cls M2.1 M2.1 ∈ lw_g) (hn : av.length = n) (hst : (st.map fun v => (sh_cv g v).category).sum ≤ 8)
    (hd : decode M.2.1 pc = .ok (.invokevirtual ix, 3)) (h : sh_Cal g d M2 (sh_r a :: av) mem (fun rv mem' => sh_X g (d + 1) M (pc + 3) lo (rv.toList ++ st) mem' K)) : sh_X g (d + 1) M pc lo (av.reverse ++ sh_r a :: st) mem K := by
  intro p e R s m args below meth c A H locs ls cells slots Qf C Rl hk
  have hw := sh_w_get g mem (sh_shp_lt hs).1 (sh_shp_lt hs).2
  rw [sh_cel_o g mem hs] at hw
  obtain ⟨cell, c1, c2, c3⟩ := va_recv C.2.2.2.2.2.2.2.1 Rl.1 hc hw
  have hR := C.2.2.2.2.2.1
  have hts := C.2.2.2.2.1
  have cb : CallB R s args M.1.cls ix M2.1 M2.2.1 M2.2.2.1 M2.2.2.2 (sh_ws M2) (sh_rm d) 0 0 n := callB_of n hts (sh_good hm) rfl rfl rfl (hts _ hm.2.2.2) (hts _ hl) hm.1 ⟨hR.1, by show 8 + (M2.2.2.1 + 11) + 64 * d ≤ R.locals; have := hm.2.2.1; have := hR.2.1; omega⟩
  refine sh_callW (rest := st.map (sh_cv g)) (va_runV (As := av.map (sh_cv g)) (C := q.1) (b := sh_ad g a) ⟨C.1, C.2.1, C.2.2.1, C.2.2.2.1, hts⟩ h ⟨cb, hts _ hin, by rw [← hq]; exact hts _ hsel⟩ ⟨sh_blind g _ _, ⟨cell, c1, c2, c3⟩, fun U hU hW => ⟨rfl, by rw [hU]; exact Rl.1, sh_E_call C.2.2.2.2.2.2.2 Rl.2.1 C.2.2.2.2.2.2.1 hU hW⟩⟩ rfl (by rw [List.length_map]; exact hn) Rl.2.2.1 (by simp only [List.map_append, List.map_cons, List.map_reverse]; rfl) (lv_room (by rw [List.map_map]; exact hst)) hd ⟨hR.2.2.1, hR.2.2.2⟩) Rl.2.1 C.2.2.2.2.2.2.1 (fun rv mem' H1 locs1 hx hP hS => ?_)
  rw [sh_rv]
  exact hx p e R s m args below meth c A H1 locs1 ls cells slots Qf C ⟨hP, hS, Rl.2.2⟩ hk
theorem xr_callS {ix n : Nat} {av : List sh_V} (hm : sh_MO M2 n) (hl : Cond.methodLink M.1.cls ix M2.1 ∈ lw_g) (hsta : Cond.static M2.1 ∈ lw_g) (hn : av.length = n) (hst : (st.map fun v => (sh_cv g v).category).sum ≤ 8)
    (hd : decode M.2.1 pc = .ok (.invokestatic ix, 3)) (h : sh_Cal g d M2 av mem (fun rv mem' => sh_X g (d + 1) M (pc + 3) lo (rv.toList ++ st) mem' K)) : sh_X g (d + 1) M pc lo (av.reverse ++ st) mem K := by
  intro p e R s m args below meth c A H locs ls cells slots Qf C Rl hk
  have hR := C.2.2.2.2.2.1
  have hts := C.2.2.2.2.1
  have cb : CallB R s args M.1.cls ix M2.1 M2.2.1 M2.2.2.1 M2.2.2.2 (sh_ws M2) (sh_rm d) 0 0 n := callB_of n hts (sh_good hm) rfl rfl rfl (hts _ hm.2.2.2) (hts _ hl) hm.1 ⟨hR.1, by show 8 + (M2.2.2.1 + 11) + 64 * d ≤ R.locals; have := hm.2.2.1; have := hR.2.1; omega⟩
  refine sh_callW (rest := st.map (sh_cv g)) (va_runS (As := av.map (sh_cv g)) ⟨C.1, C.2.1, C.2.2.1, C.2.2.2.1, hts⟩ h ⟨cb, hts _ hsta⟩ ⟨sh_blind g _ _, fun U hU hW => ⟨rfl, by rw [hU]; exact Rl.1, sh_E_call C.2.2.2.2.2.2.2 Rl.2.1 C.2.2.2.2.2.2.1 hU hW⟩⟩ rfl (by rw [List.length_map]; exact hn) Rl.2.2.1 (by simp only [List.map_append, List.map_reverse]) (lv_room (by rw [List.map_map]; exact hst)) hd ⟨hR.2.2.1, hR.2.2.2⟩) Rl.2.1 C.2.2.2.2.2.2.1 (fun rv mem' H1 locs1 hx hP hS => ?_)
  rw [sh_rv]
  exact hx p e R s m args below meth c A H1 locs1 ls cells slots Qf C ⟨hP, hS, Rl.2.2⟩ hk
theorem xr_callN {n : Nat} {av : List sh_V} (hm : sh_MO M2 n) (hM : M.1.cls = "StolenHolidays$Reader") (hM2 : M2.1 = ⟨"StolenHolidays", "isWithin", "(III)Z"⟩) (hsta : Cond.static M2.1 ∈ lw_g) (hn : av.length = n) (hst : (st.map fun v => (sh_cv g v).category).sum ≤ 8)
    (hd : decode M.2.1 pc = .ok (.invokestatic 76, 3)) (h : sh_Cal g d M2 av mem (fun rv mem' => sh_X g (d + 1) M (pc + 3) lo (rv.toList ++ st) mem' K)) : sh_X g (d + 1) M pc lo (av.reverse ++ st) mem K := by
  intro p e R s m args below meth c A H locs ls cells slots Qf C Rl hk
  have hR := C.2.2.2.2.2.1
  have hts := C.2.2.2.2.1
  have cb : va_CN R s args M.1.cls 76 M2.1 "StolenHolidays" M2.2.1 M2.2.2.1 M2.2.2.2 (sh_ws M2) (sh_rm d) 0 0 n := ⟨⟨rfl, rfl, hR.1, by show 8 + (M2.2.2.1 + 11) + 64 * d ≤ R.locals; have := hm.2.2.1; have := hR.2.1; omega, pay_in hts (sh_good hm), List.mem_cons_self⟩, hts _ hm.2.1, hts _ hm.2.2.2, ⟨hm.1.1, hm.1.2.1⟩, fun sig hsig => (by have h2 := hm.1.2.2; rw [hsig] at h2; exact (Option.some.inj h2).symm), by rw [hM, hM2]; exact va_Nw.use rfl C.2.2.2.2.2.2.2.2.2.2.2.1⟩
  refine sh_callW (rest := st.map (sh_cv g)) (va_runSN (As := av.map (sh_cv g)) ⟨C.1, C.2.1, C.2.2.1, C.2.2.2.1, hts⟩ h ⟨cb, hts _ hsta, trivial⟩ ⟨sh_blind g _ _, fun U hU hW => ⟨rfl, by rw [hU]; exact Rl.1, sh_E_call C.2.2.2.2.2.2.2 Rl.2.1 C.2.2.2.2.2.2.1 hU hW⟩⟩ rfl (by rw [List.length_map]; exact hn) Rl.2.2.1 (by simp only [List.map_append, List.map_reverse]) (lv_room (by rw [List.map_map]; exact hst)) hd ⟨hR.2.2.1, hR.2.2.2⟩) Rl.2.1 C.2.2.2.2.2.2.1 (fun rv mem' H1 locs1 hx hP hS => ?_)
  rw [sh_rv]
  exact hx p e R s m args below meth c A H1 locs1 ls cells slots Qf C ⟨hP, hS, Rl.2.2⟩ hk
end XC
/-- a method's end -/
def sh_K (M : sh_M) (Q : Option sh_V → sh_Mem → Prop) : Nat → List (Nat × sh_V) → List sh_V → sh_Mem → Prop := fun pc _ st mem =>
  (M.2.2.2 = none ∧ st = [] ∧ decode M.2.1 pc = .ok (.return_, 1) ∧ Q none mem) ∨ (∃ x, (∃ ty, M.2.2.2 = some ty ∧ narrow ty (.int (Int32.ofInt x)) = .int (Int32.ofInt x)) ∧ st = [sh_i x] ∧ decode M.2.1 pc = .ok (.ireturn, 1) ∧ Q (some (sh_i x)) mem)
section XE
variable {g : sh_G} {d : Nat} {M : sh_M} {pc : Nat} {lo : List (Nat × sh_V)} {st : List sh_V} {mem : sh_Mem} {Q : Option sh_V → sh_Mem → Prop}
theorem xr_ret (hr : M.2.2.2 = none) (hd : decode M.2.1 pc = .ok (.return_, 1)) (h : Q none mem) : sh_X g d M pc lo [] mem (sh_K M Q) := xr_here (Or.inl ⟨hr, rfl, hd, h⟩)
theorem xr_iret {x : Int} (hr : M.2.2.2 = some .int) (hd : decode M.2.1 pc = .ok (.ireturn, 1)) (h : Q (some (sh_i x)) mem) : sh_X g d M pc lo [sh_i x] mem (sh_K M Q) := xr_here (Or.inr ⟨x, ⟨.int, hr, rfl⟩, rfl, hd, h⟩)
theorem xr_zret {x : Int} (hr : M.2.2.2 = some .boolean) (hd : decode M.2.1 pc = .ok (.ireturn, 1)) (hx : x = 0 ∨ x = 1) (h : Q (some (sh_i x)) mem) : sh_X g d M pc lo [sh_i x] mem (sh_K M Q) := xr_here (Or.inr ⟨x, ⟨.boolean, hr, by rcases hx with rfl | rfl <;> rfl⟩, rfl, hd, h⟩)
theorem xr_cret {x : Int} (hr : M.2.2.2 = some .char) (hd : decode M.2.1 pc = .ok (.ireturn, 1)) (hx : 0 ≤ x ∧ x < 65536) (h : Q (some (sh_i x)) mem) : sh_X g d M pc lo [sh_i x] mem (sh_K M Q) := xr_here (Or.inr ⟨x, ⟨.char, hr, by
  have e : Int32.ofInt x = nI x.toNat := by
    unfold nI
    rw [← Int32.ofInt_eq_ofNat, Int.toNat_of_nonneg hx.1]
  rw [e]
  exact (pk_charN (by omega)).1⟩, rfl, hd, h⟩)
theorem xr_bret {x : Int} (hr : M.2.2.2 = some .byte) (hd : decode M.2.1 pc = .ok (.ireturn, 1)) (hx : x = 0 ∨ x = 1) (h : Q (some (sh_i x)) mem) : sh_X g d M pc lo [sh_i x] mem (sh_K M Q) := xr_here (Or.inr ⟨x, ⟨.byte, hr, by rcases hx with rfl | rfl <;> rfl⟩, rfl, hd, h⟩)
def sh_la : Nat → List sh_V → List (Nat × sh_V)
  | _, [] => []
  | i, v :: vs => (i, v) :: sh_la (if sh_isl v = true then i + 2 else i + 1) vs
theorem sh_la_map (g : sh_G) : ∀ (av : List sh_V) (i : Nat), lv_args i (av.map (sh_cv g)) = (sh_la i av).map (sh_cl1 g)
  | [], _ => rfl
  | v :: vs, i => by
    rw [List.map_cons, lv_args, sh_la, List.map_cons, sh_la_map g vs]
    congr 3
    rw [← sh_isl_cv (g := g) v]
    simp only [beq_iff_eq]
def sh_sz (av : List sh_V) : Nat := (av.map fun v => if sh_isl v = true then 2 else 1).sum
theorem sh_sz_map (g : sh_G) : ∀ av : List sh_V, (lg_sl (av.map (sh_cv g))).length = sh_sz av
  | [] => rfl
  | v :: vs => by
    have h := sh_sz_map g vs
    unfold lg_sl sh_sz at *
    rw [List.map_cons, List.flatMap_cons, List.length_append, h, List.map_cons, List.sum_cons]
    rcases v with x | x | x <;> rfl
theorem sh_met {av : List sh_V} (hp : plainName M.1.cls = true) (hsz : sh_sz av ≤ M.2.2.1) (hlo : sh_la 0 av = lo) (h : sh_X g d M 0 lo [] mem (sh_K M Q)) : sh_Cal g d M av mem Q := by
  refine Met.ofW (cc := M.2.1) (maxL := M.2.2.1) (ret := M.2.2.2) hp rfl ?_
  intro p e s m args below meth c s₁ B hml hv
  obtain ⟨rfl, hP, hE⟩ := hv
  have hlocks := B.notSynchronized
  have hts := atoms_spec (ws := sh_ws M) B.pre
  have hown : s.vm.findClass M.1.cls = some m.cls := findClass_of_methodNamed B.named
  rw [lg_entry_eq]
  refine h p e _ s m _ below meth c (sh_A g) s.heap [] _ 0 0 _ ⟨B.exec, B.bytes, hml, hown, fun x hx => hts x (List.mem_cons_of_mem _ hx), ⟨Nat.le_refl _, Nat.le_refl _, Nat.le_refl _, Nat.le_refl _⟩, fun _ z => z, hE⟩ ⟨hP, va_S.rf, ?_⟩ ?_
  · have hl := lv_entry (av.map (sh_cv g)) (n := M.2.2.1) (by rw [sh_sz_map]; exact hsz)
    rw [sh_la_map, hlo] at hl
    exact hl
  · intro pc' lo' st' mem' H' locs' ls' hk hR
    rcases hk with ⟨h1, rfl, h3, h4⟩ | ⟨x, ⟨ty, h1, h2⟩, rfl, h3, h4⟩
    · exact W.vret B.exec B.bytes (B.returns.trans h1) (fun t ht hW => ⟨⟨none, mem', rfl, h4, by rw [ht]; exact hR.1⟩, hR.2.1.F ht⟩) hR.2.1.2.2 h3
    · exact W.zret B.exec B.bytes (B.returns.trans h1) h2 (fun t ht hW => ⟨⟨some (sh_i x), mem', rfl, h4, by rw [ht]; exact hR.1⟩, hR.2.1.F ht⟩) hR.2.1.2.2 h3
end XE
theorem sh_mono {g : sh_G} {d : Nat} {M : sh_M} {av : List sh_V} {mem : sh_Mem} {Q1 Q2 : Option sh_V → sh_Mem → Prop} (h : sh_Cal g d M av mem Q1) (hi : ∀ rv mem', Q1 rv mem' → Q2 rv mem') : sh_Cal g d M av mem Q2 := by
  intro p e ha hc hk s m args below hf happ hP hK
  obtain ⟨n, o, h1, h2, h3, ⟨⟨⟨rv, mem', q1, q2, q3⟩, h4⟩, h5⟩⟩ := h p e ha hc hk s m args below hf happ hP hK
  exact ⟨n, o, h1, h2, h3, ⟨⟨⟨rv, mem', q1, hi rv mem' q2, q3⟩, h4⟩, h5⟩⟩
theorem xr_sub {g : sh_G} {d : Nat} {M : sh_M} {pc : Nat} {lo lo' : List (Nat × sh_V)} {st : List sh_V} {mem : sh_Mem} {K : Nat → List (Nat × sh_V) → List sh_V → sh_Mem → Prop} (ks : List Nat) (hl : ks.filterMap (fun k => lo[k]?) = lo') (k : sh_X g d M pc lo' st mem K) : sh_X g d M pc lo st mem K := by
  intro p e R s m args below meth c A H locs ls cells slots Qf C Rl hk
  refine k p e R s m args below meth c A H locs ls cells slots Qf C ⟨Rl.1, Rl.2.1, Rl.2.2.1, Rl.2.2.2.1, fun q hq => ?_⟩ hk
  rw [← hl] at hq
  obtain ⟨q0, hq0, e0⟩ := List.mem_map.mp hq
  obtain ⟨i, -, hi⟩ := List.mem_filterMap.mp hq0
  rw [← e0]
  exact Rl.2.2.2.2 _ (List.mem_map_of_mem (List.mem_of_getElem? hi))
