/-! ===== rests: it returns, or throws ===== -/
abbrev rsN : String := "java/util/NoSuchElementException"
abbrev rsNm : List String := ["java/lang/RuntimeException", "java/lang/Exception"]
def rsB : List Cond := [.declares (Bundle.init0 "java/lang/RuntimeException"), .declares (Bundle.init0 "java/lang/Exception"), .declares (Bundle.init0 Bundle.tN), .castable rsN rsN]
theorem rs_good : ∀ w ∈ (vx_at0 "StolenHolidays" 300 rsN rsNm).filter goodWord, w ∈ lw_g := sh_words [121, 1172, 1181, 1183, 1186, 1188, 1173, 1174, 131, 132, 1175, 1180, 1184, 1200, 1162, 1201, 1164, 1202, 1166, 1176, 1178, 1168, 1190, 1191, 1192, 1193, 1193, 1194, 1195, 1196, 1196, 1197, 1198, 1173, 1189, 1151, 1159, 1160, 1161, 1163, 1165, 1167, 1199, 1170, 1169] (by decide +kernel) (by decide +kernel)
theorem rs_rest : ∀ w ∈ (vx_at0 "StolenHolidays" 300 rsN rsNm).filter (fun w => !goodWord w), w ∈ rsB := by decide +kernel
theorem rs_ot : ∀ w ∈ Cond.classLink "StolenHolidays" 298 rsN :: Cond.initialized rsN :: vx_at0 "StolenHolidays" 300 rsN rsNm, vx_ot w = true := by decide +kernel
theorem rs_two : ∀ x ∈ [Cond.classLink "StolenHolidays" 298 rsN, Cond.initialized rsN, Cond.classLink "StolenHolidaysLaw" 13 rsN], x ∈ lw_g := sh_words [1150, 124, 1145] (by decide +kernel) (by decide +kernel)
/-- what stays as it is, with what a throw wants -/
def rs_E (g : sh_G) (A : Nat → Prop) (U : State) (H : Heap) : Prop := sh_E g A U H ∧ vx_Zq Bundle.tN "UNASSIGNED_STACK" Bundle.steD A U H ∧ vx_Zq Bundle.tN "SUPPRESSED_SENTINEL" Bundle.listD A U H ∧ va_Nw (.declares (Bundle.init0 "java/lang/RuntimeException")) U ∧ va_Nw (.declares (Bundle.init0 "java/lang/Exception")) U ∧ va_Nw (.declares (Bundle.init0 Bundle.tN)) U ∧ va_Nw (.castable rsN rsN) U
theorem rs_E_call {g : sh_G} {A : Nat → Prop} {s U : State} {H : Heap} {locs : List Loc} (hE : rs_E g A s s.heap) (hS : va_S A s.heap H locs) (hA : ∀ q, sh_A g q → A q) (hU : U.heap = H) (hW : s.WarmedH U.vm) : rs_E g (sh_A g) U U.heap := by
  obtain ⟨h0, h1, h2, h3, h4, h5, h6⟩ := hE
  refine ⟨sh_E_call h0 hS hA hU hW, ?_, ?_, h3.warmD hW, h4.warmD hW, h5.warmD hW, h6.warmC hW⟩
  · rw [hU]; exact ((h1.kept hS.2.1).narrow hA).moved hW.alike
  · rw [hU]; exact ((h2.kept hS.2.1).narrow hA).moved hW.alike
def rs_Pc (g : sh_G) (av : List sh_V) (mem : sh_Mem) : Array Value → State → Prop := va_Pc (av.map (sh_cv g)) (fun U => va_P g.2.1 sh_cl (sh_w g mem) U.heap ∧ rs_E g (sh_A g) U U.heap)
theorem rs_blind (g : sh_G) (av : List sh_V) (mem : sh_Mem) : FrameBlind (rs_Pc g av mem) := by
  intro a U g' mk h
  obtain ⟨h0, hP, hE, h1, h2, h3, h4, h5, h6⟩ := h
  obtain ⟨e1, e2⟩ := sh_blind g av mem a U g' mk ⟨h0, hP, hE⟩
  exact ⟨e1, e2.1, e2.2, vx_Zq.moved (u := U) (U := U.calling g' mk a) (Vm.Alike.refl U.vm) h1, vx_Zq.moved (u := U) (U := U.calling g' mk a) (Vm.Alike.refl U.vm) h2, va_Nw.same (u := U) (U := U.calling g' mk a) rfl rfl h3, va_Nw.same (u := U) (U := U.calling g' mk a) rfl rfl h4, va_Nw.same (u := U) (U := U.calling g' mk a) rfl rfl h5, va_Nw.same (u := U) (U := U.calling g' mk a) rfl rfl h6⟩
def rs_X (g : sh_G) (mem : sh_Mem) (P : Prop) : String → State → State → Prop := fun E s t => E = rsN ∧ P ∧ va_P g.2.1 sh_cl (sh_w g mem) t.heap ∧ va_F (sh_A g) s t
def rs_rm (d : Nat) : Room := { frames := d, cells := 1, slots := 6, locals := 64 * d }
def rs_K (Q : Option sh_V → sh_Mem → Prop) (X : sh_Mem → Prop) : Nat → List (Nat × sh_V) → List sh_V → sh_Mem → Prop := fun pc lo st mem => sh_K m_Sto_rests Q pc lo st mem ∨ ((pc = 30 ∨ pc = 117) ∧ st = [] ∧ X mem)
section RSW
variable {g : sh_G} {d : Nat} {mem : sh_Mem} {lo te no what : Int} {Q : Option sh_V → sh_Mem → Prop} {X : sh_Mem → Prop}
theorem s_Sto_gain {mine his : Int} (h1 : i3 mine = mine) (h2 : i3 his = his) (h : Q (some (sh_i (gtF lo te no mine his))) mem) : sh_Cal g d m_Sto_gain [sh_i mine, sh_i his, sh_i lo, sh_i te, sh_i no] mem Q := by
  apply v_Sto_gain
  rw [h1, h2]
  unfold gtF at h
  refine ⟨fun q => ⟨fun q2 => ?_, fun q2 => ?_⟩, fun q => ⟨fun q2 => ?_, fun q2 => ?_⟩⟩
  · rw [if_neg q, if_neg q2] at h; exact h
  · rw [if_neg q, if_pos q2] at h; exact h
  · rw [if_pos q, if_neg q2] at h; exact h
  · rw [if_pos q, if_pos q2] at h; exact h
theorem s_isContent {a b : Nat} (ha : a ≤ 1) (hb : b ≤ 1) (hc : cRs lo te no) (h : Q (some (sh_i (if gtF lo te no (1 - (a : Int)) (b : Int) ≤ gtF lo te no (a : Int) (b : Int) then 1 else 0))) mem) : sh_Cal g (d + 1) m_Sto_isContent [sh_i (a : Int), sh_i (b : Int), sh_i lo, sh_i te, sh_i no] mem Q := by
  have r1 := gtF_rng hc (1 - (a : Int)) (b : Int)
  have r2 := gtF_rng hc (a : Int) (b : Int)
  apply v_Sto_isContent
  refine s_Sto_gain (i3n (by omega)) (i3n (by omega)) ⟨_, rfl, ?_⟩
  refine s_Sto_gain (i3s (by omega) (by omega)) (i3n (by omega)) ⟨_, rfl, ?_⟩
  rw [i3s (x := gtF lo te no (a : Int) (b : Int)) (by omega) (by omega), i3s (x := gtF lo te no (1 - (a : Int)) (b : Int)) (by omega) (by omega)]
  refine ⟨fun q => ?_, fun q => ?_⟩
  · rw [if_neg (by omega)] at h; exact h
  · rw [if_pos (by omega)] at h; exact h
theorem sa4 : ∀ x, x < 4 → i_shr ((x : Nat) : Int) 1 = ((x / 2 : Nat) : Int) ∧ i_and ((x : Nat) : Int) 1 = ((x % 2 : Nat) : Int) := by decide +kernel
theorem l_rs44 (hc : cRs lo te no) (hw : i3 what = what) : ∀ (k x n : Nat), x + k = 4 → n ≤ x → (∀ y, rsL (okR lo te no) what k x n = some y → Q (some (sh_i y)) mem) → (rsL (okR lo te no) what k x n = none → X mem) →
    sh_X g (d + 2) m_Sto_rests 44 [(0, sh_r 1), (1, sh_i lo), (2, sh_i te), (3, sh_i no), (4, sh_i what), (5, sh_i (n : Int)), (6, sh_i (x : Int))] [] mem (rs_K Q X)
  | 0, x, n, hx, hn, h, hX => by
    obtain rfl : x = 4 := by omega
    rw [rsL] at h hX
    refine xr_iload (i := 6) (List.mem_of_getElem? (i := 6) rfl) (by decide +kernel) ?_
    refine xr_iconst (n := 4) (by decide +kernel) ?_
    refine xr_icmp_ge (a' := 4) (b' := 4) rfl rfl (off := 64) (tgt := 111) (by decide) (by decide +kernel) ⟨fun _ => ?_, fun c => absurd (by decide) c⟩
    refine xr_iload (i := 4) (List.mem_of_getElem? (i := 4) rfl) (by decide +kernel) ?_
    refine xr_iconst (n := -1) (by decide +kernel) ?_
    refine xr_icmp_eq (a' := what) (b' := -1) hw rfl (off := 11) (tgt := 125) (by decide) (by decide +kernel) ⟨fun c => ?_, fun c => ?_⟩
    · rw [if_pos c] at h
      refine xr_iload (i := 5) (List.mem_of_getElem? (i := 5) rfl) (by decide +kernel) ?_
      exact xr_here (Or.inl (Or.inr ⟨_, ⟨.int, rfl, rfl⟩, rfl, by decide +kernel, h _ rfl⟩))
    · rw [if_neg c] at hX
      exact xr_here (Or.inr ⟨Or.inr rfl, rfl, hX rfl⟩)
  | k + 1, x, n, hx, hn, h, hX => by
    obtain ⟨e1, e2⟩ := sa4 x (by omega)
    rw [rsL] at h hX
    refine xr_iload (i := 6) (List.mem_of_getElem? (i := 6) rfl) (by decide +kernel) ?_
    refine xr_iconst (n := 4) (by decide +kernel) ?_
    refine xr_icmp_ge (a' := (x : Int)) (b' := 4) (i3n (by omega)) rfl (off := 64) (tgt := 111) (by decide) (by decide +kernel) ⟨fun c => by omega, fun _ => ?_⟩
    refine xr_iload (i := 6) (List.mem_of_getElem? (i := 6) rfl) (by decide +kernel) ?_
    refine xr_iconst (n := 1) (by decide +kernel) ?_
    refine xr_ishr (by decide +kernel) ?_
    refine xr_iload (i := 6) (List.mem_of_getElem? (i := 6) rfl) (by decide +kernel) ?_
    refine xr_iconst (n := 1) (by decide +kernel) ?_
    refine xr_iand (by decide +kernel) ?_
    refine xr_iload_n (n := 1) (i := 1) rfl (List.mem_of_getElem? (i := 1) rfl) (by decide +kernel) ?_
    refine xr_iload_n (n := 2) (i := 2) rfl (List.mem_of_getElem? (i := 2) rfl) (by decide +kernel) ?_
    refine xr_iload_n (n := 3) (i := 3) rfl (List.mem_of_getElem? (i := 3) rfl) (by decide +kernel) ?_
    rw [e1, e2]
    refine xr_callS (av := [sh_i ((x / 2 : Nat) : Int), sh_i ((x % 2 : Nat) : Int), sh_i lo, sh_i te, sh_i no]) mo_Sto_isContent ml_Sto_301 sa_Sto_isContent rfl (Nat.le_of_ble_eq_true rfl) (by decide +kernel) (s_isContent (a := x / 2) (b := x % 2) (by omega) (by omega) hc ?_)
    generalize hf : (if gtF lo te no (1 - ((x / 2 : Nat) : Int)) ((x % 2 : Nat) : Int) ≤ gtF lo te no ((x / 2 : Nat) : Int) ((x % 2 : Nat) : Int) then (1 : Int) else 0) = f
    show sh_X g (d + 2) m_Sto_rests _ _ [sh_i f] _ _
    refine xr_istore (i := 7) (lo' := [(7, sh_i f), (0, sh_r 1), (1, sh_i lo), (2, sh_i te), (3, sh_i no), (4, sh_i what), (5, sh_i (n : Int)), (6, sh_i (x : Int))]) (by decide) rfl (by decide +kernel) ?_
    refine xr_iload (i := 6) (List.mem_of_getElem? (i := 7) rfl) (by decide +kernel) ?_
    refine xr_iconst (n := 1) (by decide +kernel) ?_
    refine xr_iand (by decide +kernel) ?_
    refine xr_iload (i := 6) (List.mem_of_getElem? (i := 7) rfl) (by decide +kernel) ?_
    refine xr_iconst (n := 1) (by decide +kernel) ?_
    refine xr_ishr (by decide +kernel) ?_
    refine xr_iload_n (n := 1) (i := 1) rfl (List.mem_of_getElem? (i := 2) rfl) (by decide +kernel) ?_
    refine xr_iload_n (n := 2) (i := 2) rfl (List.mem_of_getElem? (i := 3) rfl) (by decide +kernel) ?_
    refine xr_iload_n (n := 3) (i := 3) rfl (List.mem_of_getElem? (i := 4) rfl) (by decide +kernel) ?_
    rw [e1, e2]
    refine xr_callS (av := [sh_i ((x % 2 : Nat) : Int), sh_i ((x / 2 : Nat) : Int), sh_i lo, sh_i te, sh_i no]) mo_Sto_isContent ml_Sto_301 sa_Sto_isContent rfl (Nat.le_of_ble_eq_true rfl) (by decide +kernel) (s_isContent (a := x % 2) (b := x / 2) (by omega) (by omega) hc ?_)
    generalize ho : (if gtF lo te no (1 - ((x % 2 : Nat) : Int)) ((x / 2 : Nat) : Int) ≤ gtF lo te no ((x % 2 : Nat) : Int) ((x / 2 : Nat) : Int) then (1 : Int) else 0) = o
    show sh_X g (d + 2) m_Sto_rests _ _ [sh_i o] _ _
    have f01 : f = 0 ∨ f = 1 := by rw [← hf]; split <;> omega
    have o01 : o = 0 ∨ o = 1 := by rw [← ho]; split <;> omega
    refine xr_istore (i := 8) (lo' := [(8, sh_i o), (7, sh_i f), (0, sh_r 1), (1, sh_i lo), (2, sh_i te), (3, sh_i no), (4, sh_i what), (5, sh_i (n : Int)), (6, sh_i (x : Int))]) (by decide) rfl (by decide +kernel) ?_
    have next : ∀ n' : Nat, n' ≤ x + 1 → (∀ y, rsL (okR lo te no) what k (x + 1) n' = some y → Q (some (sh_i y)) mem) → (rsL (okR lo te no) what k (x + 1) n' = none → X mem) → sh_X g (d + 2) m_Sto_rests 105 [(5, sh_i (n' : Int)), (8, sh_i o), (7, sh_i f), (0, sh_r 1), (1, sh_i lo), (2, sh_i te), (3, sh_i no), (4, sh_i what), (6, sh_i (x : Int))] [] mem (rs_K Q X) := by
      intro n' hn' h' hX'
      refine xr_iinc (i := 6) (n := 1) (x := (x : Int)) (lo' := [(6, sh_i ((x : Int) + 1)), (5, sh_i (n' : Int)), (8, sh_i o), (7, sh_i f), (0, sh_r 1), (1, sh_i lo), (2, sh_i te), (3, sh_i no), (4, sh_i what)]) (List.mem_of_getElem? (i := 8) rfl) (by decide) rfl (by decide +kernel) ?_
      refine xr_goto (off := -64) (tgt := 44) (by decide) (by decide +kernel) ?_
      refine xr_sub (lo' := [(0, sh_r 1), (1, sh_i lo), (2, sh_i te), (3, sh_i no), (4, sh_i what), (5, sh_i (n' : Int)), (6, sh_i ((x : Int) + 1))]) [4, 5, 6, 7, 8, 1, 0] rfl ?_
      rw [show (x : Int) + 1 = ((x + 1 : Nat) : Int) by omega]
      exact l_rs44 hc hw k (x + 1) n' (by omega) hn' h' hX'
    have no' : ¬ okR lo te no x = true → sh_X g (d + 2) m_Sto_rests 105 [(8, sh_i o), (7, sh_i f), (0, sh_r 1), (1, sh_i lo), (2, sh_i te), (3, sh_i no), (4, sh_i what), (5, sh_i (n : Int)), (6, sh_i (x : Int))] [] mem (rs_K Q X) := by
      intro p1
      simp only [if_neg p1] at h hX
      refine xr_sub (lo' := [(5, sh_i (n : Int)), (8, sh_i o), (7, sh_i f), (0, sh_r 1), (1, sh_i lo), (2, sh_i te), (3, sh_i no), (4, sh_i what), (6, sh_i (x : Int))]) [7, 0, 1, 2, 3, 4, 5, 6, 8] rfl ?_
      exact next n (by omega) h hX
    refine xr_iload (i := 7) (List.mem_of_getElem? (i := 1) rfl) (by decide +kernel) ?_
    refine xr_if_eq (a' := f) (i3s (by omega) (by omega)) (off := 21) (tgt := 105) (by decide) (by decide +kernel) ⟨fun c => no' ?_, fun c => ?_⟩
    · rw [← hf] at c
      have c' := n01 c
      unfold okR; rw [decide_eq_true_eq]
      exact fun z => c' z.1
    refine xr_iload (i := 8) (List.mem_of_getElem? (i := 0) rfl) (by decide +kernel) ?_
    refine xr_if_eq (a' := o) (i3s (by omega) (by omega)) (off := 16) (tgt := 105) (by decide) (by decide +kernel) ⟨fun c2 => no' ?_, fun c2 => ?_⟩
    · rw [← ho] at c2
      have c' := n01 c2
      unfold okR; rw [decide_eq_true_eq]
      exact fun z => c' z.2
    have p1 : okR lo te no x = true := by
      rw [← hf] at c; rw [← ho] at c2
      unfold okR; rw [decide_eq_true_eq]
      exact ⟨p01 c, p01 c2⟩
    simp only [if_pos p1] at h hX
    refine xr_iload (i := 5) (List.mem_of_getElem? (i := 7) rfl) (by decide +kernel) ?_
    refine xr_iload (i := 4) (List.mem_of_getElem? (i := 6) rfl) (by decide +kernel) ?_
    refine xr_icmp_ne (a' := (n : Int)) (b' := what) (i3n (by omega)) hw (off := 6) (tgt := 102) (by decide) (by decide +kernel) ⟨fun c3 => ?_, fun c3 => ?_⟩
    · simp only [if_neg c3] at h hX
      refine xr_iinc (i := 5) (n := 1) (x := (n : Int)) (lo' := [(5, sh_i ((n : Int) + 1)), (8, sh_i o), (7, sh_i f), (0, sh_r 1), (1, sh_i lo), (2, sh_i te), (3, sh_i no), (4, sh_i what), (6, sh_i (x : Int))]) (List.mem_of_getElem? (i := 7) rfl) (by decide) rfl (by decide +kernel) ?_
      rw [show (n : Int) + 1 = ((n + 1 : Nat) : Int) by omega]
      exact next (n + 1) (by omega) h hX
    · simp only [if_pos c3] at h
      refine xr_iload (i := 6) (List.mem_of_getElem? (i := 8) rfl) (by decide +kernel) ?_
      exact xr_here (Or.inl (Or.inr ⟨_, ⟨.int, rfl, rfl⟩, rfl, by decide +kernel, h _ rfl⟩))
theorem x_rests (h1 : i3 lo = lo) (h2 : i3 te = te) (h3 : i3 no = no) (hw : i3 what = what) (h : ∀ y, q_rests lo te no what = some y → Q (some (sh_i y)) mem) (hX : q_rests lo te no what = none → X mem) :
    sh_X g (d + 2) m_Sto_rests 0 [(0, sh_r 1), (1, sh_i lo), (2, sh_i te), (3, sh_i no), (4, sh_i what)] [] mem (rs_K Q X) := by
  unfold q_rests at h hX
  have wi : ∀ (x : Int) (Q' : Option sh_V → sh_Mem → Prop), i3 x = x → (¬ (0 ≤ x ∧ x ≤ 9) → Q' (some (sh_i 0)) mem) → ((0 ≤ x ∧ x ≤ 9) → Q' (some (sh_i 1)) mem) → sh_Cal g (d + 1) m_Sto_isWithin [sh_i x, sh_i 0, sh_i 9] mem Q' := by
    intro x Q' hx q0 q1
    apply v_Sto_isWithin
    rw [hx]
    exact ⟨fun z => q0 (fun y => by have := y.1; have e : i3 0 = 0 := rfl; omega), fun z => ⟨fun z2 => q0 (fun y => by have := y.2; have e : i3 9 = 9 := rfl; omega), fun z2 => q1 (by have e : i3 9 = 9 := rfl; have e0 : i3 0 = 0 := rfl; omega)⟩⟩
  have bad : ¬ cRs lo te no → sh_X g (d + 2) m_Sto_rests 30 [(0, sh_r 1), (1, sh_i lo), (2, sh_i te), (3, sh_i no), (4, sh_i what)] [] mem (rs_K Q X) := by
    intro q
    rw [if_neg q] at hX
    exact xr_here (Or.inr ⟨Or.inl rfl, rfl, hX rfl⟩)
  refine xr_iload_n (n := 1) (i := 1) rfl (List.mem_of_getElem? (i := 1) rfl) (by decide +kernel) ?_
  refine xr_iconst (n := 0) (by decide +kernel) ?_
  refine xr_bipush (n := 9) (v := 9) (by decide) (by decide +kernel) ?_
  refine xr_callS (av := [sh_i lo, sh_i 0, sh_i 9]) mo_Sto_isWithin ml_Sto_213 sa_Sto_isWithin rfl (Nat.le_of_ble_eq_true rfl) (by decide +kernel) (wi lo _ h1 (fun q => ?_) (fun q1 => ?_))
  · show sh_X g (d + 2) m_Sto_rests _ _ [sh_i 0] _ _
    refine xr_if_eq (a' := 0) rfl (off := 23) (tgt := 30) (by decide) (by decide +kernel) ⟨fun _ => bad (fun z => q z.1), fun c => absurd rfl c⟩
  show sh_X g (d + 2) m_Sto_rests _ _ [sh_i 1] _ _
  refine xr_if_eq (a' := 1) rfl (off := 23) (tgt := 30) (by decide) (by decide +kernel) ⟨fun c => absurd c (by decide), fun _ => ?_⟩
  refine xr_iload_n (n := 2) (i := 2) rfl (List.mem_of_getElem? (i := 2) rfl) (by decide +kernel) ?_
  refine xr_iconst (n := 0) (by decide +kernel) ?_
  refine xr_bipush (n := 9) (v := 9) (by decide) (by decide +kernel) ?_
  refine xr_callS (av := [sh_i te, sh_i 0, sh_i 9]) mo_Sto_isWithin ml_Sto_213 sa_Sto_isWithin rfl (Nat.le_of_ble_eq_true rfl) (by decide +kernel) (wi te _ h2 (fun q => ?_) (fun q2 => ?_))
  · show sh_X g (d + 2) m_Sto_rests _ _ [sh_i 0] _ _
    refine xr_if_eq (a' := 0) rfl (off := 13) (tgt := 30) (by decide) (by decide +kernel) ⟨fun _ => bad (fun z => q z.2.1), fun c => absurd rfl c⟩
  show sh_X g (d + 2) m_Sto_rests _ _ [sh_i 1] _ _
  refine xr_if_eq (a' := 1) rfl (off := 13) (tgt := 30) (by decide) (by decide +kernel) ⟨fun c => absurd c (by decide), fun _ => ?_⟩
  refine xr_iload_n (n := 3) (i := 3) rfl (List.mem_of_getElem? (i := 3) rfl) (by decide +kernel) ?_
  refine xr_iconst (n := 0) (by decide +kernel) ?_
  refine xr_bipush (n := 9) (v := 9) (by decide) (by decide +kernel) ?_
  refine xr_callS (av := [sh_i no, sh_i 0, sh_i 9]) mo_Sto_isWithin ml_Sto_213 sa_Sto_isWithin rfl (Nat.le_of_ble_eq_true rfl) (by decide +kernel) (wi no _ h3 (fun q => ?_) (fun q3 => ?_))
  · show sh_X g (d + 2) m_Sto_rests _ _ [sh_i 0] _ _
    refine xr_if_ne (a' := 0) rfl (off := 11) (tgt := 38) (by decide) (by decide +kernel) ⟨fun c => absurd rfl c, fun _ => bad (fun z => q z.2.2)⟩
  show sh_X g (d + 2) m_Sto_rests _ _ [sh_i 1] _ _
  refine xr_if_ne (a' := 1) rfl (off := 11) (tgt := 38) (by decide) (by decide +kernel) ⟨fun _ => ?_, fun c => absurd c (by decide)⟩
  have hc : cRs lo te no := ⟨q1, q2, q3⟩
  rw [if_pos hc] at h hX
  refine xr_iconst (n := 0) (by decide +kernel) ?_
  refine xr_istore (i := 5) (lo' := [(5, sh_i ((0 : Nat) : Int)), (0, sh_r 1), (1, sh_i lo), (2, sh_i te), (3, sh_i no), (4, sh_i what)]) (by decide) rfl (by decide +kernel) ?_
  refine xr_iconst (n := 0) (by decide +kernel) ?_
  refine xr_istore (i := 6) (lo' := [(6, sh_i ((0 : Nat) : Int)), (5, sh_i ((0 : Nat) : Int)), (0, sh_r 1), (1, sh_i lo), (2, sh_i te), (3, sh_i no), (4, sh_i what)]) (by decide) rfl (by decide +kernel) ?_
  refine xr_sub (lo' := [(0, sh_r 1), (1, sh_i lo), (2, sh_i te), (3, sh_i no), (4, sh_i what), (5, sh_i ((0 : Nat) : Int)), (6, sh_i ((0 : Nat) : Int))]) [2, 3, 4, 5, 6, 1, 0] rfl ?_
  exact l_rs44 hc hw 4 0 0 (by omega) (by omega) h hX
end RSW
