/-! THE CLAIM OUT OF ONE WALK OF THE LAW'S BODY. Your part is whole_start (and what it stands on); all else here is the same for every law, but numbers. -/
def R_law : String := "StolenHolidaysLaw"
def lw_P (b : Addr) (xs : List Int32) (args : Array Value) (s : State) : Prop := args = #[.ref b] ∧ s.IntsAt b xs ∧ xs.length ≤ 3584 ∧ (Jvm.Cond.and given_1 narrow_1).before args s = true
def lw_Q (_ : Array Value) (s : State) (o : Outcome) (t : State) : Prop := o = .returned (some (.int 1)) ∧ Framed s o t [] 601024 7293034
def lw_Z (below : List Frame) (a : Array Value) (s : State) : State → Prop := fun t => ∃ o, t.status = .running ∧ Ended t below o ∧ lw_Q a s o t
/-- the law's own end, with 1 on the stack, nothing written that was there before, its room as the claim has it -/
theorem lw_ret {p : Program} {l : Launch} {e : Env} {s : State} {m : MethodId} {below : List Frame} {meth : Method} {c : Code} {b : Nat} (hx : p.tables.exec = Jvm.exec) (hb : c.code = code) (hr : meth.sig.returnType = ret) (hlocks : meth.locks = false) {pc : Nat} {H : Heap} {ls : Array Slot} (hdg : decode code pc = .ok (.ireturn, 1)) : W p l e room_1 s m #[Value.ref b] below meth c H [] 601024 7293034 (lw_Z below #[Value.ref b] s) (F0 m pc ls [.int 1]) := by
  intro T hT X
  obtain ⟨fs, hret, hrun, hended, hW, hframe⟩ := X.leave (v := some (.int 1)) (hlocks := hlocks) (fun h => by rw [hr] at h; cases h)
  have hmeth' : T.vm.method? m = some meth := X.method'
  refine ⟨T.setFrames fs, ?_, .returned (some (.int 1)), hrun, hended, rfl, ⟨_, rfl⟩, hW, hframe⟩
  jvm_step X.here [X.here.top, hx, hb, hdg, hmeth', hr, ret, narrow_b1]
  (try refine ⟨rfl, ?_⟩); (try refine ⟨rfl, ?_⟩)
  first | (intro acts; rw [hret _ acts rfl rfl rfl]) | rw [hret _ _ rfl rfl rfl]
  exact Steps.refl _
/-- what holds at the law's entry: the machine, the code, the tables' words (any of lw_tbl by 'hts w (by decide +kernel)'), the script of L ints xs at the cell b, what the Statement gives of the start (any of its parts by flat_of_before) -/
def lw_At (p : Program) (s : State) (m : MethodId) (meth : Method) (c : Code) (b L : Nat) (xs : Nat → Int32) : Prop :=
  p.tables.exec = Jvm.exec ∧ c.code = code ∧ meth.sig.returnType = ret ∧ c.maxLocals = 7 ∧ s.vm.findClass R_law = some m.cls ∧ (∀ w ∈ lw_tbl, w.before #[Value.ref b] s = true) ∧ va_X b L xs s s.heap ∧ b < s.heap.size ∧ meth.locks = false ∧ (Jvm.Cond.and given_1 narrow_1).before #[Value.ref b] s = true
/-! ===== THE LAW: its loop ===== -/
theorem i_and63 (y : Int) : i_and y 63 = y % 64 := by
  have hm : (Int32.ofInt 63).toBitVec.toNat = 2 ^ 6 - 1 := by decide
  have e1 : (Int32.ofInt y).toBitVec.toNat = (y % 4294967296).toNat := by rw [Int32.toBitVec_ofInt, BitVec.toNat_ofInt]; rfl
  unfold i_and
  rw [pk_and _ 6 hm, e1, nI_toInt (by omega)]
  omega
theorem lp_d40 : decode code 40 = .ok (.tableswitch 1476 0 38 #[172, 319, 332, 345, 382, 419, 456, 481, 506, 543, 556, 569, 594, 619, 656, 681, 694, 707, 720, 757, 794, 831, 856, 893, 906, 943, 980, 1005, 1030, 1043, 1056, 1105, 1170, 1183, 1196, 1257, 1349, 1398, 1451], 172) := by decide +kernel
theorem lp_tab {g : sh_G} {b L d i N : Nat} {xs : Nat → Int32} {w : Wd} {mem : sh_Mem} {K : ly_T} (hb : g.2.2.2.2.2 900 = b) (hL : L ≤ 3584) (hi : i + 7 ≤ L) (hN : N ≤ 512) (hI : LI N w mem) (k : ∀ w' m', LI (N + 1) w' m' → K 1516 (LO i) [] m') (v : Int) (h1 : 0 ≤ v) (h2 : v ≤ 38) (h35 : v ≠ 35) : ly_X g b L xs (d + 50) 40 (LO i) [sh_i v] mem K := by
  rcases (show v = 0 ∨ v = 1 ∨ v = 2 ∨ v = 3 ∨ v = 4 ∨ v = 5 ∨ v = 6 ∨ v = 7 ∨ v = 8 ∨ v = 9 ∨ v = 10 ∨ v = 11 ∨ v = 12 ∨ v = 13 ∨ v = 14 ∨ v = 15 ∨ v = 16 ∨ v = 17 ∨ v = 18 ∨ v = 19 ∨ v = 20 ∨ v = 21 ∨ v = 22 ∨ v = 23 ∨ v = 24 ∨ v = 25 ∨ v = 26 ∨ v = 27 ∨ v = 28 ∨ v = 29 ∨ v = 30 ∨ v = 31 ∨ v = 32 ∨ v = 33 ∨ v = 34 ∨ v = 36 ∨ v = 37 ∨ v = 38 by omega) with e | e | e | e | e | e | e | e | e | e | e | e | e | e | e | e | e | e | e | e | e | e | e | e | e | e | e | e | e | e | e | e | e | e | e | e | e | e
  · rw [e]
    exact ly_step (fun _ z => xr_tabIn (M := m_Lw_law) (off := 172) (tgt := 212) 0 (i3_id (by decide) (by decide)) (by decide) (by decide) rfl (by decide) lp_d40 z) (lc_0 hb hL hi hN hI k)
  · rw [e]
    exact ly_step (fun _ z => xr_tabIn (M := m_Lw_law) (off := 319) (tgt := 359) 1 (i3_id (by decide) (by decide)) (by decide) (by decide) rfl (by decide) lp_d40 z) (lc_1 hb hL hi hN hI k)
  · rw [e]
    exact ly_step (fun _ z => xr_tabIn (M := m_Lw_law) (off := 332) (tgt := 372) 2 (i3_id (by decide) (by decide)) (by decide) (by decide) rfl (by decide) lp_d40 z) (lc_2 hI k)
  · rw [e]
    exact ly_step (fun _ z => xr_tabIn (M := m_Lw_law) (off := 345) (tgt := 385) 3 (i3_id (by decide) (by decide)) (by decide) (by decide) rfl (by decide) lp_d40 z) (lc_3 hb hL hi hN hI k)
  · rw [e]
    exact ly_step (fun _ z => xr_tabIn (M := m_Lw_law) (off := 382) (tgt := 422) 4 (i3_id (by decide) (by decide)) (by decide) (by decide) rfl (by decide) lp_d40 z) (lc_4 hb hL hi hN hI k)
  · rw [e]
    exact ly_step (fun _ z => xr_tabIn (M := m_Lw_law) (off := 419) (tgt := 459) 5 (i3_id (by decide) (by decide)) (by decide) (by decide) rfl (by decide) lp_d40 z) (lc_5 hb hL hi hN hI k)
  · rw [e]
    exact ly_step (fun _ z => xr_tabIn (M := m_Lw_law) (off := 456) (tgt := 496) 6 (i3_id (by decide) (by decide)) (by decide) (by decide) rfl (by decide) lp_d40 z) (lc_6 hb hL hi hN hI k)
  · rw [e]
    exact ly_step (fun _ z => xr_tabIn (M := m_Lw_law) (off := 481) (tgt := 521) 7 (i3_id (by decide) (by decide)) (by decide) (by decide) rfl (by decide) lp_d40 z) (lc_7 hb hL hi hN hI k)
  · rw [e]
    exact ly_step (fun _ z => xr_tabIn (M := m_Lw_law) (off := 506) (tgt := 546) 8 (i3_id (by decide) (by decide)) (by decide) (by decide) rfl (by decide) lp_d40 z) (lc_8 hb hL hi hN hI k)
  · rw [e]
    exact ly_step (fun _ z => xr_tabIn (M := m_Lw_law) (off := 543) (tgt := 583) 9 (i3_id (by decide) (by decide)) (by decide) (by decide) rfl (by decide) lp_d40 z) (lc_9 hb hL hi hN hI k)
  · rw [e]
    exact ly_step (fun _ z => xr_tabIn (M := m_Lw_law) (off := 556) (tgt := 596) 10 (i3_id (by decide) (by decide)) (by decide) (by decide) rfl (by decide) lp_d40 z) (lc_10 hb hL hi hN hI k)
  · rw [e]
    exact ly_step (fun _ z => xr_tabIn (M := m_Lw_law) (off := 569) (tgt := 609) 11 (i3_id (by decide) (by decide)) (by decide) (by decide) rfl (by decide) lp_d40 z) (lc_11 hb hL hi hN hI k)
  · rw [e]
    exact ly_step (fun _ z => xr_tabIn (M := m_Lw_law) (off := 594) (tgt := 634) 12 (i3_id (by decide) (by decide)) (by decide) (by decide) rfl (by decide) lp_d40 z) (lc_12 hb hL hi hN hI k)
  · rw [e]
    exact ly_step (fun _ z => xr_tabIn (M := m_Lw_law) (off := 619) (tgt := 659) 13 (i3_id (by decide) (by decide)) (by decide) (by decide) rfl (by decide) lp_d40 z) (lc_13 hb hL hi hN hI k)
  · rw [e]
    exact ly_step (fun _ z => xr_tabIn (M := m_Lw_law) (off := 656) (tgt := 696) 14 (i3_id (by decide) (by decide)) (by decide) (by decide) rfl (by decide) lp_d40 z) (lc_14 hb hL hi hN hI k)
  · rw [e]
    exact ly_step (fun _ z => xr_tabIn (M := m_Lw_law) (off := 681) (tgt := 721) 15 (i3_id (by decide) (by decide)) (by decide) (by decide) rfl (by decide) lp_d40 z) (lc_15 hb hL hi hN hI k)
  · rw [e]
    exact ly_step (fun _ z => xr_tabIn (M := m_Lw_law) (off := 694) (tgt := 734) 16 (i3_id (by decide) (by decide)) (by decide) (by decide) rfl (by decide) lp_d40 z) (lc_16 hb hL hi hN hI k)
  · rw [e]
    exact ly_step (fun _ z => xr_tabIn (M := m_Lw_law) (off := 707) (tgt := 747) 17 (i3_id (by decide) (by decide)) (by decide) (by decide) rfl (by decide) lp_d40 z) (lc_17 hb hL hi hN hI k)
  · rw [e]
    exact ly_step (fun _ z => xr_tabIn (M := m_Lw_law) (off := 720) (tgt := 760) 18 (i3_id (by decide) (by decide)) (by decide) (by decide) rfl (by decide) lp_d40 z) (lc_18 hb hL hi hN hI k)
  · rw [e]
    exact ly_step (fun _ z => xr_tabIn (M := m_Lw_law) (off := 757) (tgt := 797) 19 (i3_id (by decide) (by decide)) (by decide) (by decide) rfl (by decide) lp_d40 z) (lc_19 hb hL hi hN hI k)
  · rw [e]
    exact ly_step (fun _ z => xr_tabIn (M := m_Lw_law) (off := 794) (tgt := 834) 20 (i3_id (by decide) (by decide)) (by decide) (by decide) rfl (by decide) lp_d40 z) (lc_20 hb hL hi hN hI k)
  · rw [e]
    exact ly_step (fun _ z => xr_tabIn (M := m_Lw_law) (off := 831) (tgt := 871) 21 (i3_id (by decide) (by decide)) (by decide) (by decide) rfl (by decide) lp_d40 z) (lc_21 hb hL hi hN hI k)
  · rw [e]
    exact ly_step (fun _ z => xr_tabIn (M := m_Lw_law) (off := 856) (tgt := 896) 22 (i3_id (by decide) (by decide)) (by decide) (by decide) rfl (by decide) lp_d40 z) (lc_22 hb hL hi hN hI k)
  · rw [e]
    exact ly_step (fun _ z => xr_tabIn (M := m_Lw_law) (off := 893) (tgt := 933) 23 (i3_id (by decide) (by decide)) (by decide) (by decide) rfl (by decide) lp_d40 z) (lc_23 hb hL hi hN hI k)
  · rw [e]
    exact ly_step (fun _ z => xr_tabIn (M := m_Lw_law) (off := 906) (tgt := 946) 24 (i3_id (by decide) (by decide)) (by decide) (by decide) rfl (by decide) lp_d40 z) (lc_24 hb hL hi hN hI k)
  · rw [e]
    exact ly_step (fun _ z => xr_tabIn (M := m_Lw_law) (off := 943) (tgt := 983) 25 (i3_id (by decide) (by decide)) (by decide) (by decide) rfl (by decide) lp_d40 z) (lc_25 hb hL hi hN hI k)
  · rw [e]
    exact ly_step (fun _ z => xr_tabIn (M := m_Lw_law) (off := 980) (tgt := 1020) 26 (i3_id (by decide) (by decide)) (by decide) (by decide) rfl (by decide) lp_d40 z) (lc_26 hb hL hi hN hI k)
  · rw [e]
    exact ly_step (fun _ z => xr_tabIn (M := m_Lw_law) (off := 1005) (tgt := 1045) 27 (i3_id (by decide) (by decide)) (by decide) (by decide) rfl (by decide) lp_d40 z) (lc_27 hb hL hi hN hI k)
  · rw [e]
    exact ly_step (fun _ z => xr_tabIn (M := m_Lw_law) (off := 1030) (tgt := 1070) 28 (i3_id (by decide) (by decide)) (by decide) (by decide) rfl (by decide) lp_d40 z) (lc_28 hb hL hi hN hI k)
  · rw [e]
    exact ly_step (fun _ z => xr_tabIn (M := m_Lw_law) (off := 1043) (tgt := 1083) 29 (i3_id (by decide) (by decide)) (by decide) (by decide) rfl (by decide) lp_d40 z) (lc_29 hb hL hi hN hI k)
  · rw [e]
    exact ly_step (fun _ z => xr_tabIn (M := m_Lw_law) (off := 1056) (tgt := 1096) 30 (i3_id (by decide) (by decide)) (by decide) (by decide) rfl (by decide) lp_d40 z) (lc_30 hb hL hi hN hI k)
  · rw [e]
    exact ly_step (fun _ z => xr_tabIn (M := m_Lw_law) (off := 1105) (tgt := 1145) 31 (i3_id (by decide) (by decide)) (by decide) (by decide) rfl (by decide) lp_d40 z) (lc_31 hb hL hi hN hI k)
  · rw [e]
    exact ly_step (fun _ z => xr_tabIn (M := m_Lw_law) (off := 1170) (tgt := 1210) 32 (i3_id (by decide) (by decide)) (by decide) (by decide) rfl (by decide) lp_d40 z) (lc_32 hb hL hi hN hI k)
  · rw [e]
    exact ly_step (fun _ z => xr_tabIn (M := m_Lw_law) (off := 1183) (tgt := 1223) 33 (i3_id (by decide) (by decide)) (by decide) (by decide) rfl (by decide) lp_d40 z) (lc_33 hb hL hi hN hI k)
  · rw [e]
    exact ly_step (fun _ z => xr_tabIn (M := m_Lw_law) (off := 1196) (tgt := 1236) 34 (i3_id (by decide) (by decide)) (by decide) (by decide) rfl (by decide) lp_d40 z) (lc_34 hb hL hi hN hI k)
  · rw [e]
    exact ly_step (fun _ z => xr_tabIn (M := m_Lw_law) (off := 1349) (tgt := 1389) 36 (i3_id (by decide) (by decide)) (by decide) (by decide) rfl (by decide) lp_d40 z) (lc_36 hb hL hi hN hI k)
  · rw [e]
    exact ly_step (fun _ z => xr_tabIn (M := m_Lw_law) (off := 1398) (tgt := 1438) 37 (i3_id (by decide) (by decide)) (by decide) (by decide) rfl (by decide) lp_d40 z) (lc_37 hb hL hi hN hI k)
  · rw [e]
    exact ly_step (fun _ z => xr_tabIn (M := m_Lw_law) (off := 1451) (tgt := 1491) 38 (i3_id (by decide) (by decide)) (by decide) (by decide) rfl (by decide) lp_d40 z) (lc_38 hb hL hi hN hI k)
theorem lp_next {g : sh_G} {b L d N : Nat} {xs : Nat → Int32} {mem : sh_Mem} {K : ly_T} (h : K 23 (LO (7 * (N + 1))) [] mem) : ly_X g b L xs d 1516 (LO (7 * N)) [] mem K := by
  refine ly_step (fun _ z => xr_iinc (M := m_Lw_law) (i := 4) (n := 7) (x := ((7 * N : Nat) : Int)) (lo' := [(4, sh_i (((7 * (N + 1) : Nat) : Int))), (0, sh_r 2900), (1, sh_r 1), (2, sh_r 96), (3, sh_r 139)]) (List.mem_of_getElem? (i := 4) rfl) (by decide) (by rw [show ((7 * N : Nat) : Int) + 7 = ((7 * (N + 1) : Nat) : Int) by omega]; rfl) (by decide +kernel) z) ?_
  refine ly_step (fun _ z => xr_goto (M := m_Lw_law) (off := -1496) (tgt := 23) (by decide) (by decide +kernel) z) ?_
  refine ly_step (fun _ z => xr_sub (M := m_Lw_law) (lo' := LO (7 * (N + 1))) [1, 2, 3, 4, 0] rfl z) ?_
  exact ly_here h
theorem lp_head {g : sh_G} {b L d N : Nat} {xs : Nat → Int32} {mem : sh_Mem} (hb : g.2.2.2.2.2 900 = b) (hL : L ≤ 3584) (hN : 7 * N ≤ L) : ly_X g b L xs d 23 (LO (7 * N)) [] mem (fun a1 a2 a3 a4 => a2 = LO (7 * N) ∧ a4 = mem ∧ ((a1 = 1522 ∧ a3 = []) ∨ (7 * N + 7 ≤ L ∧ a1 = 40 ∧ a3 = [sh_i (i_and (sc xs (7 * N)) 63)]))) := by
  refine ly_step (fun _ z => xr_iload (M := m_Lw_law) (i := 4) (List.mem_of_getElem? (i := 4) rfl) (by decide +kernel) z) ?_
  refine ly_al (q := 0) (j := 0) rfl (List.mem_of_getElem? (i := 0) rfl) (by decide +kernel) ?_
  refine ly_slen hb (by decide +kernel) ?_
  refine ly_step (fun _ z => xr_bipush (M := m_Lw_law) (n := 7) (v := 7) (by decide) (by decide +kernel) z) ?_
  refine ly_step (fun _ z => xr_isub (M := m_Lw_law) (by decide +kernel) z) ?_
  show ly_X g b L xs d 30 (LO (7 * N)) _ mem _
  by_cases cc : (L : Int) - 7 < ((7 * N : Nat) : Int)
  · refine ly_step (fun _ z => xr_icmp_gt (M := m_Lw_law) (a' := ((7 * N : Nat) : Int)) (b' := (L : Int) - 7) (off := 1492) (tgt := 1522) (i3_id (by omega) (by omega)) (i3_id (by omega) (by omega)) (by decide) (by decide +kernel) ⟨fun _ => z, fun c2 => absurd cc c2⟩) ?_
    exact ly_here ⟨rfl, rfl, Or.inl ⟨rfl, rfl⟩⟩
  · refine ly_step (fun _ z => xr_icmp_gt (M := m_Lw_law) (a' := ((7 * N : Nat) : Int)) (b' := (L : Int) - 7) (off := 1492) (tgt := 1522) (i3_id (by omega) (by omega)) (i3_id (by omega) (by omega)) (by decide) (by decide +kernel) ⟨fun c2 => absurd c2 cc, fun _ => z⟩) ?_
    show ly_X g b L xs d 33 (LO (7 * N)) [] mem _
    refine ly_al (q := 0) (j := 0) rfl (List.mem_of_getElem? (i := 0) rfl) (by decide +kernel) ?_
    refine ly_step (fun _ z => xr_iload (M := m_Lw_law) (i := 4) (List.mem_of_getElem? (i := 4) rfl) (by decide +kernel) z) ?_
    refine ly_sld (j := 7 * N) rfl (by omega) hL hb (by decide +kernel) ?_
    refine ly_step (fun _ z => xr_bipush (M := m_Lw_law) (n := 63) (v := 63) (by decide) (by decide +kernel) z) ?_
    refine ly_step (fun _ z => xr_iand (M := m_Lw_law) (by decide +kernel) z) ?_
    exact ly_here ⟨rfl, rfl, Or.inr ⟨by omega, rfl, rfl⟩⟩
/-- from the head of the loop, N calls behind us: the law ends with true -/
theorem lp_loop {g : sh_G} {b L : Nat} {xs : Nat → Int32} {p : Program} {e : Env} {s : State} {m : MethodId} {below : List Frame} {meth : Method} {c : Code} {A : Nat → Prop} (hl : g.1.stackTraces = false) (hb : g.2.2.2.2.2 900 = b) (hL : L ≤ 3584) (hA : ∀ q, A q → s.heap.size ≤ q)
    (q1 : p.tables.exec = Jvm.exec) (q2 : c.code = code) (q3 : c.maxLocals = 7) (q4 : s.vm.findClass "StolenHolidaysLaw" = some m.cls) (q5 : ∀ x ∈ lw_g, x.before #[Value.ref b] s = true) (q6 : ∀ q, sh_A g q → A q) (hE : rs_E g A s s.heap) (hX : ly_B b L xs s A) (hr : meth.sig.returnType = ret) (hlk : meth.locks = false) :
    ∀ (n N : Nat) (w : Wd) (mem : sh_Mem) (H : Heap) (locs : List Loc) (ls : Array Slot) (cells slots : Nat), L + 7 ≤ 7 * (N + n) → 7 * N ≤ L → cells ≤ 1000 + N → slots ≤ 20000 + 6 * N → LI N w mem → sh_R g m_Lw_law A s mem (LO (7 * N)) H locs ls → W p g.1 e room_1 s m #[Value.ref b] below meth c H locs cells slots (lw_Z below #[Value.ref b] s) (F0 m 23 ls []) := by
  intro n
  induction n with
  | zero =>
    intro N w mem H locs ls cells slots h0 h1
    exact absurd h0 (by omega)
  | succ n ih =>
    intro N w mem H locs ls cells slots hn hN hc hs hI Rl
    have mkC : ∀ k1 k2 : Nat, k1 ≤ 601024 → k2 ≤ 7293034 → sh_C g m_Lw_law (0 + 50) A p room_1 s m #[Value.ref b] c k1 k2 := fun k1 k2 a1 a2 => ⟨q1, q2, q3, q4, q5, ⟨Nat.le_of_ble_eq_true rfl, Nat.le_of_ble_eq_true rfl, a1, a2⟩, q6, hE.1⟩
    refine lp_head (N := N) (d := 0 + 50) hb hL hN p e room_1 s m #[Value.ref b] below meth c A H locs ls cells slots _ (mkC _ _ (by omega) (by omega)) hX Rl (fun a1 a2 a3 a4 H1 locs1 ls1 hK hR => ?_)
    obtain ⟨ea2, ea4, hK⟩ := hK
    rw [ea2, ea4] at hR
    rcases hK with ⟨ea1, ea3⟩ | ⟨hi, ea1, ea3⟩
    · rw [ea1, ea3]
      show W p g.1 e room_1 s m #[Value.ref b] below meth c H1 locs1 cells slots (lw_Z below #[Value.ref b] s) (F0 m 1522 ls1 [])
      refine lv_iconst (v := 1) q1 q2 (show decode code 1522 = .ok (.iconst 1, 1) by decide +kernel) (by decide) ?_
      refine va_forget (fun q hq => hA _ (hR.2.1.2.2 q hq)) ?_
      refine W.widen (k := 601024) (n := 7293034) (by omega) (by omega) ?_
      exact lw_ret q1 q2 hr hlk (show decode code 1523 = .ok (.ireturn, 1) by decide +kernel)
    · rw [ea1, ea3]
      have nxt : ∀ (w' : Wd) (m' : sh_Mem) (H' : Heap) (locs' : List Loc) (ls' : Array Slot) (k1 k2 : Nat), k1 ≤ 1000 + (N + 1) → k2 ≤ 20000 + 6 * (N + 1) → LI (N + 1) w' m' → sh_R g m_Lw_law A s m' (LO (7 * N)) H' locs' ls' → W p g.1 e room_1 s m #[Value.ref b] below meth c H' locs' k1 k2 (lw_Z below #[Value.ref b] s) (F0 m 1516 ls' []) := by
        intro w' m' H' locs' ls' k1 k2 b1 b2 hI' hR'
        refine lp_next (L := L) (xs := xs) (b := b) (N := N) (d := 0 + 50) (K := fun a1 a2 a3 a4 => a1 = 23 ∧ a2 = LO (7 * (N + 1)) ∧ a3 = [] ∧ a4 = m') ⟨rfl, rfl, rfl, rfl⟩ p e room_1 s m #[Value.ref b] below meth c A H' locs' ls' k1 k2 _ (mkC _ _ (by omega) (by omega)) hX hR' (fun a1 a2 a3 a4 H2 locs2 ls2 hK hR2 => ?_)
        obtain ⟨f1, f2, f3, f4⟩ := hK
        rw [f2, f4] at hR2
        rw [f1, f3]
        exact ih (N + 1) w' m' H2 locs2 ls2 k1 k2 (by omega) (by omega) b1 b2 hI' hR2
      have hv := i_and63 (sc xs (7 * N))
      generalize i_and (sc xs (7 * N)) 63 = v at hv ⊢
      have hv0 : 0 ≤ v := by omega
      have hv1 : v ≤ 63 := by omega
      by_cases c38 : v ≤ 38
      · by_cases c35 : v = 35
        · rw [c35]
          have X9 : ly_X g b L xs (0 + 50) 40 (LO (7 * N)) [sh_i 35] mem (fun a1 a2 a3 a4 => a1 = 1297 ∧ a2 = LO (7 * N) ∧ a3 = [] ∧ a4 = mem) := ly_step (fun _ z => xr_tabIn (M := m_Lw_law) (off := 1257) (tgt := 1297) 35 (i3_id (by decide) (by decide)) (by decide) (by decide) rfl (by decide) lp_d40 z) (ly_here ⟨rfl, rfl, rfl, rfl⟩)
          refine X9 p e room_1 s m #[Value.ref b] below meth c A H1 locs1 ls1 cells slots _ (mkC _ _ (by omega) (by omega)) hX hR (fun a1 a2 a3 a4 H2 locs2 ls2 hK hR2 => ?_)
          obtain ⟨f1, f2, f3, f4⟩ := hK
          rw [f2, f4] at hR2
          rw [f1, f3]
          exact lc_35 (d := 0) hl hb hL hi hI (mkC _ _ (by omega) (by omega)) hX hE hR2 (show cells + 1 ≤ 601024 by omega) (show slots + 6 ≤ 7293034 by omega) (fun w' m' H' locs' ls' hI' hR' => nxt w' m' H' locs' ls' _ _ (by omega) (by omega) hI' hR')
        · refine lp_tab (d := 0) (K := fun a1 a2 a3 a4 => a1 = 1516 ∧ a2 = LO (7 * N) ∧ a3 = [] ∧ ∃ w', LI (N + 1) w' a4) hb hL hi (by omega) hI (fun w' m' h9 => ⟨rfl, rfl, rfl, w', h9⟩) v hv0 c38 c35 p e room_1 s m #[Value.ref b] below meth c A H1 locs1 ls1 cells slots _ (mkC _ _ (by omega) (by omega)) hX hR (fun a1 a2 a3 a4 H2 locs2 ls2 hK hR2 => ?_)
          obtain ⟨f1, f2, f3, w', h9⟩ := hK
          rw [f2] at hR2
          rw [f1, f3]
          exact nxt w' a4 H2 locs2 ls2 _ _ (by omega) (by omega) h9 hR2
      · have X9 : ly_X g b L xs (0 + 50) 40 (LO (7 * N)) [sh_i v] mem (fun a1 a2 a3 a4 => a1 = 1516 ∧ a2 = LO (7 * N) ∧ a3 = [] ∧ a4 = mem) := ly_step (fun _ z => xr_tabOut (M := m_Lw_law) (tgt := 1516) (Or.inr (by rw [i3_id (by omega) (by omega)]; omega)) (by decide) lp_d40 z) (ly_here ⟨rfl, rfl, rfl, rfl⟩)
        refine X9 p e room_1 s m #[Value.ref b] below meth c A H1 locs1 ls1 cells slots _ (mkC _ _ (by omega) (by omega)) hX hR (fun a1 a2 a3 a4 H2 locs2 ls2 hK hR2 => ?_)
        obtain ⟨f1, f2, f3, f4⟩ := hK
        rw [f2, f4] at hR2
        rw [f1, f3]
        exact nxt w mem H2 locs2 ls2 _ _ (by omega) (by omega) ⟨WI_id hI.1, hI.2⟩ hR2
