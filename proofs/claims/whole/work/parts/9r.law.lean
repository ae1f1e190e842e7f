/-! ===== THE LAW: its machine, which also knows the script ===== -/
def m_Lw_law : sh_M := (⟨"StolenHolidaysLaw", "law", "([I)Z"⟩, code, 7, some .boolean)
def sc (xs : Nat → Int32) (j : Nat) : Int := (xs j).toInt
theorem sc_i3 (xs : Nat → Int32) (j : Nat) : i3 (sc xs j) = sc xs j := i3_nrm (xs j)
abbrev LO (i : Nat) : List (Nat × sh_V) := [(0, sh_r 2900), (1, sh_r 1), (2, sh_r 96), (3, sh_r 139), (4, sh_i (i : Int))]
def ly_B (b L : Nat) (xs : Nat → Int32) (s : State) (A : Nat → Prop) : Prop := va_X b L xs s s.heap ∧ b < s.heap.size ∧ ¬ A b
abbrev ly_T : Type := Nat → List (Nat × sh_V) → List sh_V → sh_Mem → Prop
def ly_X (g : sh_G) (b L : Nat) (xs : Nat → Int32) (d : Nat) (pc : Nat) (lo : List (Nat × sh_V)) (st : List sh_V) (mem : sh_Mem) (K : ly_T) : Prop :=
  ∀ (p : Program) (e : Env) (R : Room) (s : State) (m : MethodId) (args : Array Value) (below : List Frame) (meth : Method) (c : Code) (A : Nat → Prop) (H : Heap) (locs : List Loc) (ls : Array Slot) (cells slots : Nat) (Qf : State → Prop),
    sh_C g m_Lw_law d A p R s m args c cells slots → ly_B b L xs s A → sh_R g m_Lw_law A s mem lo H locs ls →
    (∀ pc' lo' st' mem' H' locs' ls', K pc' lo' st' mem' → sh_R g m_Lw_law A s mem' lo' H' locs' ls' → W p g.1 e R s m args below meth c H' locs' cells slots Qf (F0 m pc' ls' (st'.map (sh_cv g)))) →
    W p g.1 e R s m args below meth c H locs cells slots Qf (F0 m pc ls (st.map (sh_cv g)))
theorem ly_ix {i : Int} {n : Nat} (h0 : 0 ≤ i) (h1 : i < (n : Int)) (hn : n ≤ 5000) : vp_in (Int32.ofInt i) n ∧ (Int32.ofInt i).toNatClampNeg = i.toNat := by
  have e : (Int32.ofInt i).toInt = i := i3_id (by omega) (by omega)
  refine ⟨vp_in_iff.mpr ⟨by rw [e]; exact h0, by rw [e]; exact h1⟩, ?_⟩
  show (Int32.ofInt i).toInt.toNat = i.toNat
  rw [e]
section LY
variable {g : sh_G} {b L d : Nat} {xs : Nat → Int32} {pc : Nat} {lo : List (Nat × sh_V)} {st : List sh_V} {mem : sh_Mem} {K : ly_T}
theorem ly_here (h : K pc lo st mem) : ly_X g b L xs d pc lo st mem K := fun p e R s m args below meth c A H locs ls cells slots Qf C hX Rl hk => hk pc lo st mem H locs ls h Rl
theorem ly_step {pc' : Nat} {lo' : List (Nat × sh_V)} {st' : List sh_V} {mem' : sh_Mem} (h : ∀ K', sh_X g d m_Lw_law pc' lo' st' mem' K' → sh_X g d m_Lw_law pc lo st mem K') (k : ly_X g b L xs d pc' lo' st' mem' K) : ly_X g b L xs d pc lo st mem K := by
  intro p e R s m args below meth c A H locs ls cells slots Qf C hX Rl hk
  refine h (fun a1 a2 a3 a4 => a1 = pc' ∧ a2 = lo' ∧ a3 = st' ∧ a4 = mem') (xr_here ⟨rfl, rfl, rfl, rfl⟩) p e R s m args below meth c A H locs ls cells slots Qf C Rl (fun a1 a2 a3 a4 H2 locs2 ls2 hK hR => ?_)
  obtain ⟨rfl, rfl, rfl, rfl⟩ := hK
  exact k p e R s m args below meth c A H2 locs2 ls2 cells slots Qf C hX hR hk
theorem ly_callV {ix ci a n : Nat} {M2 : sh_M} {av : List sh_V} {q : vw_C} (hs : sh_shp a = some (.inl ci)) (hc : sh_cl[ci]? = some q) (hq : M2.1.cls = q.1) (hm : sh_MO M2 n) (hl : Cond.methodLink "StolenHolidaysLaw" ix M2.1 ∈ lw_g) (hin : Cond.instanceMethod M2.1 ∈ lw_g) (hsel : Cond.selects M2.1.cls M2.1 M2.1 ∈ lw_g) (hn : av.length = n) (hst : (st.map fun v => (sh_cv g v).category).sum ≤ 8)
    (hd : decode code pc = .ok (.invokevirtual ix, 3)) (h : sh_Cal g d M2 (sh_r a :: av) mem (fun rv mem' => ly_X g b L xs (d + 1) (pc + 3) lo (rv.toList ++ st) mem' K)) : ly_X g b L xs (d + 1) pc lo (av.reverse ++ sh_r a :: st) mem K := by
  intro p e R s m args below meth c A H locs ls cells slots Qf C hX Rl hk
  refine xr_callV (M := m_Lw_law) (K := fun a1 a2 a3 a4 => ∃ rv : Option sh_V, ly_X g b L xs (d + 1) (pc + 3) lo (rv.toList ++ st) a4 K ∧ a1 = pc + 3 ∧ a2 = lo ∧ a3 = rv.toList ++ st) hs hc hq hm hl hin hsel hn hst hd (sh_mono h (fun rv mem' hh => xr_here ⟨rv, hh, rfl, rfl, rfl⟩)) p e R s m args below meth c A H locs ls cells slots Qf C Rl (fun a1 a2 a3 a4 H2 locs2 ls2 hK hR => ?_)
  obtain ⟨rv, hh, rfl, rfl, rfl⟩ := hK
  exact hh p e R s m args below meth c A H2 locs2 ls2 cells slots Qf C hX hR hk
theorem ly_sld {j : Nat} {x : Int} (hx : x = (j : Int)) (hj : j < L) (hL : L ≤ 3584) (hb : g.2.2.2.2.2 900 = b) (hd : decode code pc = .ok (.iaload, 1)) (k : ly_X g b L xs d (pc + 1) lo (sh_i (sc xs j) :: st) mem K) : ly_X g b L xs d pc lo (sh_i x :: sh_r 2900 :: st) mem K := by
  intro p e R s m args below meth c A H locs ls cells slots Qf C hX Rl hk
  have z := k p e R s m args below meth c A H locs ls cells slots Qf C hX Rl hk
  obtain ⟨q1, q2⟩ := ly_ix (i := x) (n := L) (by omega) (by omega) (by omega)
  have e1 : sh_cv g (sh_r 2900) = .ref b := by rw [← hb]; exact cv_v g 900
  rw [List.map_cons, List.map_cons, e1]
  refine va_sld C.1 C.2.1 hX.1 hX.2.1 hX.2.2 Rl.2.1 q1 hd ?_
  rw [q2, show x.toNat = j by omega]
  have e2 : Value.int (xs j) = sh_cv g (sh_i (sc xs j)) := by
    show Value.int (xs j) = Value.int (Int32.ofInt (xs j).toInt)
    rw [Int32.ofInt_toInt]
  rw [e2]; exact z
theorem ly_slen (hb : g.2.2.2.2.2 900 = b) (hd : decode code pc = .ok (.arraylength, 1)) (k : ly_X g b L xs d (pc + 1) lo (sh_i (L : Int) :: st) mem K) : ly_X g b L xs d pc lo (sh_r 2900 :: st) mem K := by
  intro p e R s m args below meth c A H locs ls cells slots Qf C hX Rl hk
  have z := k p e R s m args below meth c A H locs ls cells slots Qf C hX Rl hk
  have e1 : sh_cv g (sh_r 2900) = .ref b := by rw [← hb]; exact cv_v g 900
  rw [List.map_cons, e1]
  refine va_slen C.1 C.2.1 hX.1 hX.2.1 hX.2.2 Rl.2.1 hd ?_
  have e2 : Value.int (Int32.ofNat L) = sh_cv g (sh_i (L : Int)) := by
    show Value.int (Int32.ofNat L) = Value.int (Int32.ofInt (L : Int))
    rw [Int32.ofInt_eq_ofNat]
  rw [e2]; exact z
theorem ly_al {q : Fin 4} {j a : Nat} (hi : (q : Nat) = j) (hm : (j, sh_r a) ∈ lo) (hd : decode code pc = .ok (.aload_n q, 1)) (k : ly_X g b L xs d (pc + 1) lo (sh_r a :: st) mem K) : ly_X g b L xs d pc lo st mem K :=
  ly_step (fun _ z => xr_aload_n hi hm hd z) k
/-- a number of the script, as an argument -/
theorem ly_arg {i k : Nat} (hk : i + k < L) (hL : L ≤ 3584) (hb : g.2.2.2.2.2 900 = b) (d0 : decode code pc = .ok (.aload_n 0, 1)) (d1 : decode code (pc + 1) = .ok (.iload 4, 2)) (d2 : decode code (pc + 1 + 2) = .ok (.iconst (k : Int), 1)) (d3 : decode code (pc + 1 + 2 + 1) = .ok (.iadd, 1)) (d4 : decode code (pc + 1 + 2 + 1 + 1) = .ok (.iaload, 1)) (kk : ly_X g b L xs d (pc + 1 + 2 + 1 + 1 + 1) (LO i) (sh_i (sc xs (i + k)) :: st) mem K) : ly_X g b L xs d pc (LO i) st mem K := by
  refine ly_step (fun _ z => xr_aload_n (M := m_Lw_law) (n := 0) (i := 0) rfl (List.mem_of_getElem? (i := 0) rfl) d0 z) ?_
  refine ly_step (fun _ z => xr_iload (M := m_Lw_law) (i := 4) (List.mem_of_getElem? (i := 4) rfl) d1 z) ?_
  refine ly_step (fun _ z => xr_iconst (M := m_Lw_law) d2 z) ?_
  refine ly_step (fun _ z => xr_iadd (M := m_Lw_law) d3 z) ?_
  exact ly_sld (j := i + k) (by omega) hk hL hb d4 kk
theorem ly_arg6 {i : Nat} (hk : i + 6 < L) (hL : L ≤ 3584) (hb : g.2.2.2.2.2 900 = b) (d0 : decode code pc = .ok (.aload_n 0, 1)) (d1 : decode code (pc + 1) = .ok (.iload 4, 2)) (d2 : decode code (pc + 1 + 2) = .ok (.bipush 6, 2)) (d3 : decode code (pc + 1 + 2 + 2) = .ok (.iadd, 1)) (d4 : decode code (pc + 1 + 2 + 2 + 1) = .ok (.iaload, 1)) (kk : ly_X g b L xs d (pc + 1 + 2 + 2 + 1 + 1) (LO i) (sh_i (sc xs (i + 6)) :: st) mem K) : ly_X g b L xs d pc (LO i) st mem K := by
  refine ly_step (fun _ z => xr_aload_n (M := m_Lw_law) (n := 0) (i := 0) rfl (List.mem_of_getElem? (i := 0) rfl) d0 z) ?_
  refine ly_step (fun _ z => xr_iload (M := m_Lw_law) (i := 4) (List.mem_of_getElem? (i := 4) rfl) d1 z) ?_
  refine ly_step (fun _ z => xr_bipush (M := m_Lw_law) (v := 6) (by decide) d2 z) ?_
  refine ly_step (fun _ z => xr_iadd (M := m_Lw_law) d3 z) ?_
  exact ly_sld (j := i + 6) (by omega) hk hL hb d4 kk
theorem ly_bool {v : Int} (hv : i3 v = v) (d0 : decode code pc = .ok (.ifCond .eq 7, 3)) (d1 : decode code (pc + 3) = .ok (.iconst 1, 1)) (d2 : decode code (pc + 3 + 1) = .ok (.goto 4, 3)) (d3 : decode code (pc + 7) = .ok (.iconst 0, 1)) (kk : ∀ o : Int, o = (if v = 0 then 0 else 1) → ly_X g b L xs d (pc + 8) lo (sh_i o :: st) mem K) : ly_X g b L xs d pc lo (sh_i v :: st) mem K := by
  by_cases c : v = 0
  · refine ly_step (fun _ z => xr_if_eq (M := m_Lw_law) (tgt := pc + 7) (a' := v) hv (by omega) d0 ⟨fun _ => z, fun c2 => absurd c c2⟩) ?_
    refine ly_step (fun _ z => xr_iconst (M := m_Lw_law) d3 z) ?_
    exact kk 0 (by rw [if_pos c])
  · refine ly_step (fun _ z => xr_if_eq (M := m_Lw_law) (tgt := pc + 7) (a' := v) hv (by omega) d0 ⟨fun c2 => absurd c2 c, fun _ => z⟩) ?_
    refine ly_step (fun _ z => xr_iconst (M := m_Lw_law) d1 z) ?_
    refine ly_step (fun _ z => xr_goto (M := m_Lw_law) (tgt := pc + 8) (by omega) d2 z) ?_
    exact kk 1 (by rw [if_neg c])
/-- both answer the same: on to the next call -/
theorem ly_same {v : Int} {off : Int} (ht : (pc : Int) + off = ((1516 : Nat) : Int)) (hd : decode code pc = .ok (.if_icmp .eq off, 3)) (h : K 1516 lo [] mem) : ly_X g b L xs d pc lo [sh_i v, sh_i v] mem K :=
  ly_step (fun _ z => xr_icmp_eq (M := m_Lw_law) (a' := i3 v) (b' := i3 v) (tgt := 1516) rfl rfl ht hd ⟨fun _ => z, fun c => absurd rfl c⟩) (ly_here h)
end LY
def LI (N : Nat) (w : Wd) (mem : sh_Mem) : Prop := WI N w ∧ CRel w mem ∧ RRel w mem
theorem LI_of {N : Nat} {w' : Wd} {mem m1 m2 : sh_Mem} (h : WI (N + 1) w') (hc : CPost w' mem m1) (hr : RPost w' m1 m2) : LI (N + 1) w' m2 := ⟨h, CRel_cg hc.1 (fun a ha => hr.2.2 a ha), hr.1⟩
theorem RR1 {w w' : Wd} {mem m1 : sh_Mem} (h : RRel w mem) (hc : CPost w' mem m1) : RRel w m1 := RRel_cg h (fun a h1 _ => hc.2 a h1)
theorem b01 (v : Int) {o : Int} (h : o = (if v = 0 then 0 else 1)) : o = 0 ∨ o = 1 := by
  rw [h]; split
  · exact Or.inl rfl
  · exact Or.inr rfl
