/-! ===== THE MAKING OF THE CELLS: a machine over worlds that grow ===== -/
def cw (g : sh_G) (n : Nat) (F : Nat → va_E) : va_W := (List.range n).map fun i => (g.2.2.1 + (i + 1), F (i + 1))
def fu (F : Nat → va_E) (a : Nat) (x : va_E) : Nat → va_E := fun b => if b = a then x else F b
theorem fu_s (F : Nat → va_E) (a : Nat) (x : va_E) : fu F a x a = x := if_pos rfl
theorem fu_n (F : Nat → va_E) {a b : Nat} (x : va_E) (h : b ≠ a) : fu F a x b = F b := if_neg h
theorem cw_get (g : sh_G) {n a : Nat} (F : Nat → va_E) (h : 1 ≤ a) (h2 : a ≤ n) : (cw g n F)[a - 1]? = some (g.2.2.1 + a, F a) := by
  have e : a - 1 + 1 = a := by omega
  unfold cw
  rw [List.getElem?_map, List.getElem?_range (by omega)]
  simp only [Option.map_some, e]
theorem cw_set (g : sh_G) {n a : Nat} (F : Nat → va_E) (x : va_E) (h : 1 ≤ a) : (cw g n F).set (a - 1) (g.2.2.1 + a, x) = cw g n (fu F a x) := by
  apply List.ext_getElem?
  intro i
  unfold cw
  by_cases hi : i < n
  · by_cases e : i = a - 1
    · subst e
      have e2 : a - 1 + 1 = a := by omega
      rw [List.getElem?_set_self (by simpa using hi), List.getElem?_map, List.getElem?_range hi]
      simp only [Option.map_some, e2, fu_s]
    · rw [List.getElem?_set_ne (Ne.symm e), List.getElem?_map, List.getElem?_map, List.getElem?_range hi]
      simp only [Option.map_some, fu_n F x (show i + 1 ≠ a by omega)]
  · rw [List.getElem?_eq_none (by simpa using hi), List.getElem?_eq_none (by simpa using hi)]
theorem cw_push (g : sh_G) (n : Nat) (F : Nat → va_E) (x : va_E) : cw g n F ++ [(g.2.2.1 + (n + 1), x)] = cw g (n + 1) (fu F (n + 1) x) := by
  unfold cw
  rw [List.range_succ, List.map_append]
  congr 1
  · apply List.map_congr_left
    intro i hi
    have h2 := List.mem_range.mp hi
    rw [fu_n F x (by omega)]
  · simp only [List.map_cons, List.map_nil, fu_s]
def ck_A (g : sh_G) (q : Nat) : Prop := g.2.2.1 < q
theorem cw_D (g : sh_G) (n : Nat) (F : Nat → va_E) {A : Nat → Prop} (hA : ∀ q, ck_A g q → A q) : va_D A (cw g n F) := by
  have key : ∀ (k : Nat) (q : Nat × va_E), (cw g n F)[k]? = some q → q.1 = g.2.2.1 + (k + 1) := by
    intro k q hk
    by_cases h : k < n
    · have h1 := cw_get g (n := n) (a := k + 1) F (by omega) (by omega)
      rw [Nat.add_sub_cancel] at h1
      rw [h1] at hk
      cases hk; rfl
    · unfold cw at hk
      rw [List.getElem?_eq_none (by simpa using h)] at hk
      cases hk
  refine ⟨fun i j p q hi hj e => ?_, fun k q hk => hA _ ?_⟩
  · have h1 := key i p hi
    have h2 := key j q hj
    omega
  · have h2 := key k q hk
    show g.2.2.1 < q.1
    omega
theorem cv_r (g : sh_G) {a : Nat} (h : a < 1000) : sh_cv g (sh_r a) = .ref (g.2.2.1 + a) := by
  show Value.ref (sh_ad g a) = _
  unfold sh_ad; rw [if_pos h]
def ck_ty (t : Nat) : FieldType := if t = 0 then .int else if t = 1 then .long else if t = 2 then .object "StolenHolidays$Mark" else if t = 3 then .boolean else .byte
def ck_ns : List (String × Nat × MethodName) := [("StolenHolidays", 9, ⟨"StolenHolidays$Tape", "<init>", "()V"⟩), ("StolenHolidays", 27, ⟨"StolenHolidays$State", "<init>", "()V"⟩), ("StolenHolidays", 37, ⟨"StolenHolidays$Past", "<init>", "()V"⟩), ("StolenHolidays", 44, ⟨"StolenHolidays$Seen", "<init>", "()V"⟩), ("StolenHolidays", 51, ⟨"StolenHolidays$Gang", "<init>", "()V"⟩), ("StolenHolidays", 58, ⟨"StolenHolidays$Spree", "<init>", "()V"⟩), ("StolenHolidays$Almanac", 36, ⟨"StolenHolidays$Law", "<init>", "()V"⟩), ("StolenHolidays", 81, ⟨"StolenHolidays$Year", "<init>", "()V"⟩), ("StolenHolidays", 89, ⟨"StolenHolidays$Mark", "<init>", "()V"⟩), ("StolenHolidays$Mark", 9, ⟨"StolenHolidays$State", "<init>", "()V"⟩), ("StolenHolidays$Mark", 18, ⟨"StolenHolidays$Year", "<init>", "()V"⟩), ("StolenHolidays$Mark", 25, ⟨"StolenHolidays$Seen", "<init>", "()V"⟩), ("StolenHolidays", 71, ⟨"StolenHolidays$Almanac", "<init>", "()V"⟩)]
/-- what stays as it is while the cells are made -/
def ck_E (g : sh_G) (U : State) : Prop := va_K g.2.1 sh_cl (sh_tys g) U ∧ (∀ t, t < 5 → U.vm.findClass ("[" ++ (ck_ty t).toString) = some (g.2.2.2.1 t)) ∧ va_AO "StolenHolidays$Mark" U ∧ ∀ q ∈ ck_ns, va_Nw (.methodLinkNest q.1 q.2.1 q.2.2 "StolenHolidays") U
theorem ck_E_warm {g : sh_G} {s U : State} (h : ck_E g s) (hW : s.WarmedH U.vm) : ck_E g U :=
  ⟨va_K.moved hW.alike h.1, fun t ht => by rw [hW.alike.findClass]; exact h.2.1 t ht, va_AO.moved hW.alike h.2.2.1, fun q hq => (h.2.2.2 q hq).warmM hW⟩
theorem ck_E_same {g : sh_G} {u U : State} (hv : u.vm = U.vm) (h : ck_E g u) : ck_E g U :=
  ⟨va_K.moved (u := u) (U := U) (by rw [hv]; exact Vm.Alike.refl U.vm) h.1, fun t ht => by rw [← hv]; exact h.2.1 t ht, va_AO.moved (u := u) (U := U) (by rw [hv]; exact Vm.Alike.refl U.vm) h.2.2.1, fun q hq => va_Nw.same rfl hv (h.2.2.2 q hq)⟩
def ck_C (g : sh_G) (M : sh_M) (d mc ms : Nat) (A : Nat → Prop) (p : Program) (R : Room) (s : State) (m : MethodId) (args : Array Value) (c : Code) (meth : Method) : Prop :=
  p.tables.exec = Jvm.exec ∧ c.code = M.2.1 ∧ c.maxLocals = M.2.2.1 ∧ s.vm.findClass M.1.cls = some m.cls ∧ (∀ x ∈ lw_g, x.before args s = true) ∧ (d ≤ R.frames ∧ 64 * d ≤ R.locals ∧ mc ≤ R.cells ∧ ms ≤ R.slots) ∧ (∀ q, ck_A g q → A q) ∧ g.2.2.1 < s.heap.size ∧ (M.1.name = "<init>" → meth.name = "<init>") ∧ ck_E g s
def ck_R (g : sh_G) (M : sh_M) (A : Nat → Prop) (s : State) (n : Nat) (F : Nat → va_E) (lo : List (Nat × sh_V)) (H : Heap) (locs : List Loc) (ls : Array Slot) : Prop :=
  (va_P g.2.1 sh_cl (cw g n F) H ∧ H.size = g.2.2.1 + n + 1) ∧ va_S A s.heap H locs ∧ lv_has ls M.2.2.1 (lo.map (sh_cl1 g))
abbrev ck_T : Type := Nat → List (Nat × sh_V) → List sh_V → Nat → (Nat → va_E) → Nat → Nat → Prop
def ck_X (g : sh_G) (d mc ms : Nat) (M : sh_M) (pc : Nat) (lo : List (Nat × sh_V)) (st : List sh_V) (n : Nat) (F : Nat → va_E) (ce sl : Nat) (K : ck_T) : Prop :=
  ∀ (p : Program) (e : Env) (R : Room) (s : State) (m : MethodId) (args : Array Value) (below : List Frame) (meth : Method) (c : Code) (A : Nat → Prop) (H : Heap) (locs : List Loc) (ls : Array Slot) (Qf : State → Prop),
    ck_C g M d mc ms A p R s m args c meth → ck_R g M A s n F lo H locs ls →
    (∀ pc' lo' st' n' F' ce' sl' H' locs' ls', K pc' lo' st' n' F' ce' sl' → ck_R g M A s n' F' lo' H' locs' ls' → W p g.1 e R s m args below meth c H' locs' ce' sl' Qf (F0 m pc' ls' (st'.map (sh_cv g)))) →
    W p g.1 e R s m args below meth c H locs ce sl Qf (F0 m pc ls (st.map (sh_cv g)))
section CK
variable {g : sh_G} {d mc ms : Nat} {M : sh_M} {pc : Nat} {lo : List (Nat × sh_V)} {st : List sh_V} {n : Nat} {F : Nat → va_E} {ce sl : Nat} {K : ck_T}
theorem ck_here (h : K pc lo st n F ce sl) : ck_X g d mc ms M pc lo st n F ce sl K := fun p e R s m args below meth c A H locs ls Qf C Rl hk => hk pc lo st n F ce sl H locs ls h Rl
theorem ck_go {pc' : Nat} {st' : List sh_V} (h : ∀ (p : Program) (e : Env) (R : Room) (s : State) (m : MethodId) (args : Array Value) (below : List Frame) (meth : Method) (c : Code) (A : Nat → Prop) (H : Heap) (locs : List Loc) (ls : Array Slot) (Qf : State → Prop), ck_C g M d mc ms A p R s m args c meth → ck_R g M A s n F lo H locs ls → W p g.1 e R s m args below meth c H locs ce sl Qf (F0 m pc' ls (st'.map (sh_cv g))) → W p g.1 e R s m args below meth c H locs ce sl Qf (F0 m pc ls (st.map (sh_cv g))))
    (k : ck_X g d mc ms M pc' lo st' n F ce sl K) : ck_X g d mc ms M pc lo st n F ce sl K :=
  fun p e R s m args below meth c A H locs ls Qf C Rl hk => h p e R s m args below meth c A H locs ls Qf C Rl (k p e R s m args below meth c A H locs ls Qf C Rl hk)
theorem ck_lo {i : Nat} {v : sh_V} {A : Nat → Prop} {s : State} {H : Heap} {locs : List Loc} {ls : Array Slot} (Rl : ck_R g M A s n F lo H locs ls) (h : (i, v) ∈ lo) : ls[i]? = some (.val (sh_cv g v)) := Rl.2.2.2.2 (sh_cl1 g (i, v)) (List.mem_map_of_mem h)
theorem ck_iconst {x : Int} (hd : decode M.2.1 pc = .ok (.iconst x, 1)) (k : ck_X g d mc ms M (pc + 1) lo (sh_i x :: st) n F ce sl K) : ck_X g d mc ms M pc lo st n F ce sl K :=
  ck_go (fun p e R s m args below meth c A H locs ls Qf C Rl z => lv_iconst C.1 C.2.1 hd rfl z) k
theorem ck_bipush {x v : Int} (hv : (Int8.ofInt x).toInt32 = Int32.ofInt v) (hd : decode M.2.1 pc = .ok (.bipush x, 2)) (k : ck_X g d mc ms M (pc + 2) lo (sh_i v :: st) n F ce sl K) : ck_X g d mc ms M pc lo st n F ce sl K :=
  ck_go (fun p e R s m args below meth c A H locs ls Qf C Rl z => lv_bipush C.1 C.2.1 hd hv z) k
theorem ck_sipush {x v : Int} (hv : (Int16.ofInt x).toInt32 = Int32.ofInt v) (hd : decode M.2.1 pc = .ok (.sipush x, 3)) (k : ck_X g d mc ms M (pc + 3) lo (sh_i v :: st) n F ce sl K) : ck_X g d mc ms M pc lo st n F ce sl K :=
  ck_go (fun p e R s m args below meth c A H locs ls Qf C Rl z => lv_sipush C.1 C.2.1 hd hv z) k
theorem ck_aload_n {q : Fin 4} {i a : Nat} (hi : (q : Nat) = i) (hm : (i, sh_r a) ∈ lo) (hd : decode M.2.1 pc = .ok (.aload_n q, 1)) (k : ck_X g d mc ms M (pc + 1) lo (sh_r a :: st) n F ce sl K) : ck_X g d mc ms M pc lo st n F ce sl K :=
  ck_go (fun p e R s m args below meth c A H locs ls Qf C Rl z => lv_aload_n C.1 C.2.1 hd hi (ck_lo Rl hm) z) k
theorem ck_iload_n {q : Fin 4} {i : Nat} {x : Int} (hi : (q : Nat) = i) (hm : (i, sh_i x) ∈ lo) (hd : decode M.2.1 pc = .ok (.iload_n q, 1)) (k : ck_X g d mc ms M (pc + 1) lo (sh_i x :: st) n F ce sl K) : ck_X g d mc ms M pc lo st n F ce sl K :=
  ck_go (fun p e R s m args below meth c A H locs ls Qf C Rl z => lv_iload_n C.1 C.2.1 hd hi (ck_lo Rl hm) z) k
theorem ck_dupR {a : Nat} (hd : decode M.2.1 pc = .ok (.dup, 1)) (k : ck_X g d mc ms M (pc + 1) lo (sh_r a :: sh_r a :: st) n F ce sl K) : ck_X g d mc ms M pc lo (sh_r a :: st) n F ce sl K :=
  ck_go (fun p e R s m args below meth c A H locs ls Qf C Rl z => lv_dup C.1 C.2.1 hd rfl z) k
theorem ck_iadd {a b : Int} (hd : decode M.2.1 pc = .ok (.iadd, 1)) (k : ck_X g d mc ms M (pc + 1) lo (sh_i (a + b) :: st) n F ce sl K) : ck_X g d mc ms M pc lo (sh_i b :: sh_i a :: st) n F ce sl K :=
  ck_go (fun p e R s m args below meth c A H locs ls Qf C Rl z => lv_iadd C.1 C.2.1 hd (by rw [← Int32.ofInt_add]; exact z)) k
theorem ck_goto {off : Int} {tgt : Nat} (ht : (pc : Int) + off = (tgt : Int)) (hd : decode M.2.1 pc = .ok (.goto off, 3)) (k : ck_X g d mc ms M tgt lo st n F ce sl K) : ck_X g d mc ms M pc lo st n F ce sl K :=
  ck_go (fun p e R s m args below meth c A H locs ls Qf C Rl z => lv_goto C.1 C.2.1 hd ht z) k
theorem ck_icmp_ge {a b a' b' off : Int} {tgt : Nat} (ha : i3 a = a') (hb : i3 b = b') (ht : (pc : Int) + off = (tgt : Int)) (hd : decode M.2.1 pc = .ok (.if_icmp .ge off, 3)) (k : (b' ≤ a' → ck_X g d mc ms M tgt lo st n F ce sl K) ∧ (¬ b' ≤ a' → ck_X g d mc ms M (pc + 3) lo st n F ce sl K)) : ck_X g d mc ms M pc lo (sh_i b :: sh_i a :: st) n F ce sl K := by
  subst ha; subst hb
  exact fun p e R s m args below meth c A H locs ls Qf C Rl hk => lv_icmp_ge C.1 C.2.1 hd ht (fun h => k.1 (by first | exact (i3_le _ _).mp h | exact fun q => h ((i3_le _ _).mpr q)) p e R s m args below meth c A H locs ls Qf C Rl hk) (fun h => k.2 (by first | exact (i3_le _ _).mp h | exact fun q => h ((i3_le _ _).mpr q)) p e R s m args below meth c A H locs ls Qf C Rl hk)
theorem ck_icmp_lt {a b a' b' off : Int} {tgt : Nat} (ha : i3 a = a') (hb : i3 b = b') (ht : (pc : Int) + off = (tgt : Int)) (hd : decode M.2.1 pc = .ok (.if_icmp .lt off, 3)) (k : (a' < b' → ck_X g d mc ms M tgt lo st n F ce sl K) ∧ (¬ a' < b' → ck_X g d mc ms M (pc + 3) lo st n F ce sl K)) : ck_X g d mc ms M pc lo (sh_i b :: sh_i a :: st) n F ce sl K := by
  subst ha; subst hb
  exact fun p e R s m args below meth c A H locs ls Qf C Rl hk => lv_icmp_lt C.1 C.2.1 hd ht (fun h => k.1 (by first | exact (i3_lt _ _).mp h | exact fun q => h ((i3_lt _ _).mpr q)) p e R s m args below meth c A H locs ls Qf C Rl hk) (fun h => k.2 (by first | exact (i3_lt _ _).mp h | exact fun q => h ((i3_lt _ _).mpr q)) p e R s m args below meth c A H locs ls Qf C Rl hk)
theorem ck_istore_n {q : Fin 4} {i : Nat} {x : Int} {lo' : List (Nat × sh_V)} (hi : (q : Nat) = i) (hn : i < M.2.2.1) (he : sh_s1 lo i (sh_i x) = lo') (hd : decode M.2.1 pc = .ok (.istore_n q, 1)) (k : ck_X g d mc ms M (pc + 1) lo' st n F ce sl K) : ck_X g d mc ms M pc lo (sh_i x :: st) n F ce sl K :=
  fun p e R s m args below meth c A H locs ls Qf C Rl hk => lv_istore_n C.1 C.2.1 hd hi Rl.2.2 hn (sh_s1_map i (sh_i x)) (fun ls h => k p e R s m args below meth c A H locs ls Qf C ⟨Rl.1, Rl.2.1, he ▸ h⟩ hk)
theorem ck_istore {i : Nat} {x : Int} {lo' : List (Nat × sh_V)} (hn : i < M.2.2.1) (he : sh_s1 lo i (sh_i x) = lo') (hd : decode M.2.1 pc = .ok (.istore i, 2)) (k : ck_X g d mc ms M (pc + 2) lo' st n F ce sl K) : ck_X g d mc ms M pc lo (sh_i x :: st) n F ce sl K :=
  fun p e R s m args below meth c A H locs ls Qf C Rl hk => lv_istore C.1 C.2.1 hd Rl.2.2 hn (sh_s1_map i (sh_i x)) (fun ls h => k p e R s m args below meth c A H locs ls Qf C ⟨Rl.1, Rl.2.1, he ▸ h⟩ hk)
theorem ck_astore_n {q : Fin 4} {i : Nat} {x : Nat} {lo' : List (Nat × sh_V)} (hi : (q : Nat) = i) (hn : i < M.2.2.1) (he : sh_s1 lo i (sh_r x) = lo') (hd : decode M.2.1 pc = .ok (.astore_n q, 1)) (k : ck_X g d mc ms M (pc + 1) lo' st n F ce sl K) : ck_X g d mc ms M pc lo (sh_r x :: st) n F ce sl K :=
  fun p e R s m args below meth c A H locs ls Qf C Rl hk => lv_astore_n C.1 C.2.1 hd hi Rl.2.2 hn (sh_s1_map i (sh_r x)) (fun ls h => k p e R s m args below meth c A H locs ls Qf C ⟨Rl.1, Rl.2.1, he ▸ h⟩ hk)
theorem ck_iinc {i : Nat} {v x : Int} {lo' : List (Nat × sh_V)} (hm : (i, sh_i x) ∈ lo) (hn : i < M.2.2.1) (he : sh_s1 lo i (sh_i (x + v)) = lo') (hd : decode M.2.1 pc = .ok (.iinc i v, 3)) (k : ck_X g d mc ms M (pc + 3) lo' st n F ce sl K) : ck_X g d mc ms M pc lo st n F ce sl K := by
  intro p e R s m args below meth c A H locs ls Qf C Rl hk
  obtain ⟨q, hq⟩ := List.getElem?_of_mem hm
  exact lv_iinc C.1 C.2.1 hd Rl.2.2 (k := q) (by rw [List.getElem?_map, hq]; rfl) (Int32.ofInt_add x v).symm hn (sh_s1_map i (sh_i (x + v))) (fun ls h => k p e R s m args below meth c A H locs ls Qf C ⟨Rl.1, Rl.2.1, he ▸ h⟩ hk)
/-! cells are made -/
theorem ck_new {ix ci N : Nat} {C0 : String} {T : u_T} {ty0 : Nat → FieldType} (fs : List Value) (hf : sh_CF ci C0 T N ty0) (hl : Cond.classLink M.1.cls ix C0 ∈ lw_g) (hi : Cond.instantiable C0 N ∈ lw_g) (hini : Cond.initialized C0 ∈ lw_g) (hfs : ∀ j, j < N → defaultValue (ty0 j) = vp_V fs j) (hc : ce + 1 ≤ mc) (hs : sl + N ≤ ms) (hn : n + 1 < 1000) (hd : decode M.2.1 pc = .ok (.new ix, 3)) (k : ck_X g d mc ms M (pc + 3) lo (sh_r (n + 1) :: st) (n + 1) (fu F (n + 1) (.inr (ci, fs))) (ce + 1) (sl + N) K) : ck_X g d mc ms M pc lo st n F ce sl K := by
  intro p e R s m args below meth c A H locs ls Qf C Rl hk
  obtain ⟨h1, h2, h3, h4, h5⟩ := hf
  have hts := C.2.2.2.2.1
  have hR := C.2.2.2.2.2.1
  have hS := Rl.2.1
  have hKn := C.2.2.2.2.2.2.2.2.2.1.1 ci _ h1
  have ez : H.size = g.2.2.1 + (n + 1) := by have := Rl.1.2; omega
  refine W.newcK C.1 C.2.1 C.2.2.2.1 (hts _ hl) (hts _ hi) (hts _ hini) rfl hd (by omega) (by omega) hKn.2.1 ez fun H1 kC hkC e1 z1 o1 => ?_
  have hP1 : va_P g.2.1 sh_cl (cw g n F ++ [(g.2.2.1 + (n + 1), .inr (ci, fs))]) H1 := by
    refine (Rl.1.1.kept (fun k x hx => o1 x.1 (by rw [← ez]; exact (Rl.1.1 k x hx).lt))).app (fun k x hx => ?_)
    have hz : k < 1 := (List.getElem?_eq_some_iff.mp hx).1
    rw [show k = 0 by omega] at hx
    cases hx
    exact ⟨_, h1, (u_born ty0 hts h3 hKn hkC e1 h4).to hfs⟩
  rw [cw_push] at hP1
  have hg := k p e R s m args below meth c A H1 locs ls Qf C ⟨⟨hP1, by omega⟩, ⟨Nat.le_trans hS.1 (by omega), fun x q1 q2 => (o1 x (by have := hS.1; omega)).trans (hS.2.1 x q1 q2), hS.2.2⟩, Rl.2.2⟩ hk
  rw [List.map_cons, cv_r g hn] at hg
  exact hg
theorem ck_newa {aty : ArrayType} {t N : Nat} {x : Int} (harr : Cond.arrayClass (newarray.typeOf aty) ∈ lw_g) (ht : ck_ty t = newarray.typeOf aty) (h5 : t < 5) (ha : ∀ cA : ClassId, vp_cell cA (N, sh_ac g t (fun _ => 0)) = arrV cA N (fun _ => defaultValue (newarray.typeOf aty))) (hb : N * componentBytes (newarray.typeOf aty) ≤ 536870912) (hN : N ≤ 2000) (hx : x = (N : Int)) (hc : ce + 1 ≤ mc) (hs : sl + N ≤ ms) (hn : n + 1 < 1000) (hd : decode M.2.1 pc = .ok (.newarray aty, 2)) (k : ck_X g d mc ms M (pc + 2) lo (sh_r (n + 1) :: st) (n + 1) (fu F (n + 1) (.inl (g.2.2.2.1 t, N, sh_ac g t (fun _ => 0)))) (ce + 1) (sl + N) K) : ck_X g d mc ms M pc lo (sh_i x :: st) n F ce sl K := by
  intro p e R s m args below meth c A H locs ls Qf C Rl hk
  have hts := C.2.2.2.2.1
  have hR := C.2.2.2.2.2.1
  have hS := Rl.2.1
  have ez : H.size = g.2.2.1 + (n + 1) := by have := Rl.1.2; omega
  have ex : i3 x = (N : Int) := by rw [hx]; exact i3_id (by omega) (by omega)
  have hcl := C.2.2.2.2.2.2.2.2.2.2.1 t h5
  rw [ht] at hcl
  refine va_newaK C.1 C.2.1 (hts _ harr) rfl hd rfl (fun z => ?_) (N := N) ?_ hb (by omega) (by omega) ez fun H1 cA e1 z1 o1 hAr hNm => ?_
  · have z2 := (i3_lt0 x).mp z
    omega
  · show (Int32.ofInt x).toInt.toNat = N
    have : (Int32.ofInt x).toInt = (N : Int) := ex
    rw [this]; rfl
  have ecA : cA = g.2.2.2.1 t := Option.some.inj (hNm.symm.trans hcl)
  subst ecA
  have hP1 : va_P g.2.1 sh_cl (cw g n F ++ [(g.2.2.1 + (n + 1), .inl (g.2.2.2.1 t, N, sh_ac g t (fun _ => 0)))]) H1 := by
    refine (Rl.1.1.kept (fun k x hx => o1 x.1 (by rw [← ez]; exact (Rl.1.1 k x hx).lt))).app (fun k x hx => ?_)
    have hz : k < 1 := (List.getElem?_eq_some_iff.mp hx).1
    rw [show k = 0 by omega] at hx
    cases hx
    show H1[g.2.2.1 + (n + 1)]? = some (vp_cell _ _)
    rw [ha]
    exact e1
  rw [cw_push] at hP1
  have hg := k p e R s m args below meth c A H1 locs ls Qf C ⟨⟨hP1, by omega⟩, ⟨Nat.le_trans hS.1 (by omega), fun x q1 q2 => (o1 x (by have := hS.1; omega)).trans (hS.2.1 x q1 q2), hS.2.2⟩, Rl.2.2⟩ hk
  rw [List.map_cons, cv_r g hn] at hg
  exact hg
theorem ck_newq {ix N : Nat} {x : Int} (hl : Cond.classLink M.1.cls ix "StolenHolidays$Mark" ∈ lw_g) (hN : N ≤ 2000) (hx : x = (N : Int)) (hc : ce + 1 ≤ mc) (hs : sl + N ≤ ms) (hn : n + 1 < 1000) (hd : decode M.2.1 pc = .ok (.anewarray ix, 3)) (k : ck_X g d mc ms M (pc + 3) lo (sh_r (n + 1) :: st) (n + 1) (fu F (n + 1) (.inl (g.2.2.2.1 2, N, .inr (.inr (.inr (.inr (fun _ => none))))))) (ce + 1) (sl + N) K) : ck_X g d mc ms M pc lo (sh_i x :: st) n F ce sl K := by
  intro p e R s m args below meth c A H locs ls Qf C Rl hk
  have hts := C.2.2.2.2.1
  have hR := C.2.2.2.2.2.1
  have hS := Rl.2.1
  have ez : H.size = g.2.2.1 + (n + 1) := by have := Rl.1.2; omega
  have ex : i3 x = (N : Int) := by rw [hx]; exact i3_id (by omega) (by omega)
  have eN : (Int32.ofInt x).toNatClampNeg = N := by
    show (Int32.ofInt x).toInt.toNat = N
    have : (Int32.ofInt x).toInt = (N : Int) := ex
    rw [this]; rfl
  have hcl := C.2.2.2.2.2.2.2.2.2.2.1 2 (by decide)
  refine W.anew C.1 C.2.1 C.2.2.2.1 (hts _ hl) (va_AO.use C.2.2.2.2.2.2.2.2.2.2.2.1) rfl hd rfl (fun z => ?_) (by rw [eN]; omega) (by omega) (by rw [eN]; omega) fun cA kA comp f1 f2 f3 f4 => ?_
  · have z2 := (i3_lt0 x).mp z
    omega
  have ecA : cA = g.2.2.2.1 2 := Option.some.inj (f1.symm.trans hcl)
  subst ecA
  generalize hH1 : H.push ({ cls := g.2.2.2.1 2, slots := Array.replicate (Int32.ofInt x).toNatClampNeg .null, vm := .none } : Cell) = H1
  have z1 : H1.size = H.size + 1 := by rw [← hH1, Array.size_push]
  have e1 : H1[H.size]? = some (arrV (g.2.2.2.1 2) N (fun _ => .null)) := by rw [← hH1, Array.getElem?_push_size, eN, ← arrV_new]
  have o1 : ∀ q : Nat, q < H.size → H1[q]? = H[q]? := fun q hq => by rw [← hH1, Array.getElem?_push, if_neg (Nat.ne_of_lt hq)]
  have hP1 : va_P g.2.1 sh_cl (cw g n F ++ [(g.2.2.1 + (n + 1), .inl (g.2.2.2.1 2, N, .inr (.inr (.inr (.inr (fun _ => none))))))]) H1 := by
    refine (Rl.1.1.kept (fun k x hx => o1 x.1 ((Rl.1.1 k x hx).lt))).app (fun k x hx => ?_)
    have hz : k < 1 := (List.getElem?_eq_some_iff.mp hx).1
    rw [show k = 0 by omega] at hx
    cases hx
    show H1[g.2.2.1 + (n + 1)]? = some (vp_cell _ _)
    rw [vp_cell_q, ← ez]
    exact e1
  rw [cw_push] at hP1
  have hg := k p e R s m args below meth c A H1 locs ls Qf C ⟨⟨hP1, by omega⟩, ⟨Nat.le_trans hS.1 (by omega), fun x q1 q2 => (o1 x (by have := hS.1; omega)).trans (hS.2.1 x q1 q2), hS.2.2⟩, Rl.2.2⟩ hk
  rw [List.map_cons, cv_r g hn, ← ez] at hg
  rw [eN]
  exact hg
/-! fields -/
theorem ck_get {ix ci k a : Nat} {fs : List Value} {v : sh_V} (hF : F a = .inr (ci, fs)) (h1 : 1 ≤ a) (h2 : a ≤ n) (ha : a < 1000) (hf : sh_FL M.1.cls ix ci k) (hv : fs[k]? = some (sh_cv g v)) (hd : decode M.2.1 pc = .ok (.getfield ix, 3)) (kx : ck_X g d mc ms M (pc + 3) lo (v :: st) n F ce sl K) : ck_X g d mc ms M pc lo (sh_r a :: st) n F ce sl K := by
  obtain ⟨C0, T, N, ty0, ⟨q1, q2, q3, q4, q5⟩, h6, h7⟩ := hf
  refine ck_go (fun p e R s m args below meth c A H locs ls Qf C Rl z => ?_) kx
  have hw := cw_get g F h1 h2
  rw [hF] at hw
  rw [List.map_cons, cv_r g ha]
  exact va_get C.1 C.2.1 C.2.2.2.2.1 q3 C.2.2.2.1 C.2.2.2.2.2.2.2.2.2.1 Rl.1.1 (a - 1) hw q1 k h6 (C.2.2.2.2.1 _ h7) (fun _ h => h) (v := sh_cv g v) hv hd z
def ck_FP (own : String) (ix ci k : Nat) (ty : FieldType) : Prop := ∃ (C : String) (T : u_T) (N : Nat) (ty0 : Nat → FieldType), sh_CF ci C T N ty0 ∧ k < N ∧ Cond.fieldLink own ix (T k).1 (T k).2.1 (T k).2.2.1 ∈ lw_g ∧ (T k).2.2.2 = true ∧ (T k).1 = own ∧ ty0 k = ty
theorem ck_putF {ix ci k a : Nat} {fs : List Value} {ty : FieldType} {v : sh_V} (hF : F a = .inr (ci, fs)) (h1 : 1 ≤ a) (h2 : a ≤ n) (ha : a < 1000) (hM : M.1.name = "<init>") (hf : ck_FP M.1.cls ix ci k ty) (hl : k < fs.length) (hn : narrow ty (sh_cv g v) = sh_cv g v) (hfit : fits ty (sh_cv g v) = true) (hd : decode M.2.1 pc = .ok (.putfield ix, 3)) (kx : ck_X g d mc ms M (pc + 3) lo st n (fu F a (.inr (ci, fs.set k (sh_cv g v)))) ce sl K) : ck_X g d mc ms M pc lo (v :: sh_r a :: st) n F ce sl K := by
  obtain ⟨C0, T, N, ty0, ⟨q1, q2, q3, q4, q5⟩, h6, h7, h8, h8', h9⟩ := hf
  intro p e R s m args below meth c A H locs ls Qf C Rl hk
  have hw := cw_get g F h1 h2
  rw [hF] at hw
  rw [List.map_cons, List.map_cons, cv_r g ha]
  have hts := C.2.2.2.2.1
  have hK := C.2.2.2.2.2.2.2.2.2.1
  have hD := cw_D g n F C.2.2.2.2.2.2.1
  have hap := va_apart (own := M.1.cls) hts q3 ty0 q4 q5 hK q1
  obtain ⟨r, r1, cell, c1, c2, c3, c4⟩ := Rl.1.1 (a - 1) _ hw
  have hr : r = (C0, T, N) := Option.some.inj (r1.symm.trans q1)
  subst hr
  obtain ⟨hS, hfc, kC, hkC, hkind⟩ := hK.1 ci _ q1
  obtain ⟨cf, kf, fi, f, hi, hsl⟩ := hS k h6
  have hlay := hts _ (q3 _ (u_in_lay h6))
  unfold u_lay at hlay
  rw [if_pos h8] at hlay
  have hst := (u_facts hfc hkC (u_lays hts q3 h6) hi).1
  have hcf : m.cls = cf := by
    obtain ⟨_, _, c', _, _, _, -, -, hf', -, -, -, hown2, -⟩ := Cond.laysFinal_spec hlay
    have e1 : c' = cf := by have := hi.symm.trans hf'; simp at this; exact this.1.symm
    rw [h8'] at hown2
    rw [← e1]; exact Option.some.inj (C.2.2.2.1.symm.trans hown2)
  have hty : parseFieldDescriptor (T k).2.2.1 = some ty := by rw [← h9]; exact q4 k h6
  have h6' := u_fits hfc hkC hkind (Or.inr hlay) hi hty hn hfit
  refine W.putFinK C.1 C.2.1 C.2.2.2.1 (hts _ h7) hi hst hcf (C.2.2.2.2.2.2.2.2.1 hM) (by rw [c2]; exact h6') c1 c3 (by rw [hsl]; exact k2_hasslot (c4 k h6)) rfl rfl hd fun H' e1 e2 e3 => ?_
  rw [hsl] at e1 ⊢
  have hP : va_P g.2.1 sh_cl ((cw g n F).set (a - 1) (g.2.2.1 + a, .inr (ci, fs.set k (sh_cv g v)))) H' := Rl.1.1.set hD hw ⟨_, q1, t_OB.to (V := updV (vp_V fs) k (sh_cv g v)) ⟨_, e1, c2, c3, t_set c4 hap h6 (sh_cv g v)⟩ (fun j _ => vp_updV_set hl (sh_cv g v) j)⟩ e3
  rw [cw_set g F _ h1] at hP
  exact kx p e R s m args below meth c A H' _ ls Qf C ⟨⟨hP, by rw [e2]; exact Rl.1.2⟩, Rl.2.1.put e2 e3 (hD.2 (a - 1) _ hw), Rl.2.2⟩ hk
theorem ck_put {ix ci k a : Nat} {fs : List Value} {ty : FieldType} {v : sh_V} (hF : F a = .inr (ci, fs)) (h1 : 1 ≤ a) (h2 : a ≤ n) (ha : a < 1000) (hf : sh_PL M.1.cls ix ci k ty) (hl : k < fs.length) (hn : narrow ty (sh_cv g v) = sh_cv g v) (hfit : fits ty (sh_cv g v) = true) (hd : decode M.2.1 pc = .ok (.putfield ix, 3)) (kx : ck_X g d mc ms M (pc + 3) lo st n (fu F a (.inr (ci, fs.set k (sh_cv g v)))) ce sl K) : ck_X g d mc ms M pc lo (v :: sh_r a :: st) n F ce sl K := by
  obtain ⟨C0, T, N, ty0, ⟨q1, q2, q3, q4, q5⟩, h6, h7, h8, h9⟩ := hf
  intro p e R s m args below meth c A H locs ls Qf C Rl hk
  have hw := cw_get g F h1 h2
  rw [hF] at hw
  rw [List.map_cons, List.map_cons, cv_r g ha]
  have hts := C.2.2.2.2.1
  have hK := C.2.2.2.2.2.2.2.2.2.1
  have hD := cw_D g n F C.2.2.2.2.2.2.1
  have hap := va_apart (own := M.1.cls) hts q3 ty0 q4 q5 hK q1
  obtain ⟨r, r1, cell, c1, c2, c3, c4⟩ := Rl.1.1 (a - 1) _ hw
  have hr : r = (C0, T, N) := Option.some.inj (r1.symm.trans q1)
  subst hr
  obtain ⟨hS, hfc, kC, hkC, hkind⟩ := hK.1 ci _ q1
  obtain ⟨cf, kf, fi, f, hi, hsl⟩ := hS k h6
  have hlay := hts _ (q3 _ (u_in_lay h6))
  unfold u_lay at hlay
  rw [if_neg (by rw [h8]; decide)] at hlay
  have hst := (u_facts hfc hkC (u_lays hts q3 h6) hi).1
  have hty : parseFieldDescriptor (T k).2.2.1 = some ty := by rw [← h9]; exact q4 k h6
  have h6' := u_store hfc hkC hkind hlay hi hty hn hfit
  refine W.putK C.1 C.2.1 (f := f) ⟨C.2.2.2.1, hts _ h7, ⟨_, _, _, hi⟩, hst⟩ (by rw [c2]; exact h6') c1 c3 (by rw [hsl]; exact k2_hasslot (c4 k h6)) rfl rfl hd fun H' e1 e2 e3 => ?_
  rw [hsl] at e1 ⊢
  have hP : va_P g.2.1 sh_cl ((cw g n F).set (a - 1) (g.2.2.1 + a, .inr (ci, fs.set k (sh_cv g v)))) H' := Rl.1.1.set hD hw ⟨_, q1, t_OB.to (V := updV (vp_V fs) k (sh_cv g v)) ⟨_, e1, c2, c3, t_set c4 hap h6 (sh_cv g v)⟩ (fun j _ => vp_updV_set hl (sh_cv g v) j)⟩ e3
  rw [cw_set g F _ h1] at hP
  exact kx p e R s m args below meth c A H' _ ls Qf C ⟨⟨hP, by rw [e2]; exact Rl.1.2⟩, Rl.2.1.put e2 e3 (hD.2 (a - 1) _ hw), Rl.2.2⟩ hk
/-! arrays -/
theorem ck_iald {a N : Nat} {f : Nat → Int} {i : Int} (hF : F a = .inl (g.2.2.2.1 0, N, sh_ac g 0 f)) (h1 : 1 ≤ a) (h2 : a ≤ n) (ha : a < 1000) (hN : N ≤ 2000) (i0 : 0 ≤ i) (i1 : i < (N : Int)) (hd : decode M.2.1 pc = .ok (.iaload, 1)) (k : ck_X g d mc ms M (pc + 1) lo (sh_i (f i.toNat) :: st) n F ce sl K) : ck_X g d mc ms M pc lo (sh_i i :: sh_r a :: st) n F ce sl K := by
  refine ck_go (fun p e R s m args below meth c A H locs ls Qf C Rl z => ?_) k
  have hw := cw_get g F h1 h2
  rw [hF] at hw
  rw [List.map_cons, List.map_cons, cv_r g ha]
  obtain ⟨q1, q2⟩ := sh_ix i0 i1 hN
  refine va_iald C.1 C.2.1 C.2.2.2.2.2.2.2.2.2.1 Rl.1.1 (a - 1) 0 hw rfl q1 hd ?_
  rw [q2]; exact z
theorem ck_iast {a N : Nat} {f : Nat → Int} {i x : Int} (hF : F a = .inl (g.2.2.2.1 0, N, sh_ac g 0 f)) (h1 : 1 ≤ a) (h2 : a ≤ n) (ha : a < 1000) (hN : N ≤ 2000) (i0 : 0 ≤ i) (i1 : i < (N : Int)) (hd : decode M.2.1 pc = .ok (.iastore, 1)) (k : ck_X g d mc ms M (pc + 1) lo st n (fu F a (.inl (g.2.2.2.1 0, N, sh_ac g 0 (ru f i.toNat x)))) ce sl K) : ck_X g d mc ms M pc lo (sh_i x :: sh_i i :: sh_r a :: st) n F ce sl K := by
  intro p e R s m args below meth c A H locs ls Qf C Rl hk
  have hw : (cw g n F)[a - 1]? = some (g.2.2.1 + a, .inl (g.2.2.2.1 0, N, .inl fun j => Int32.ofInt (f j))) := by
    have := cw_get g F h1 h2
    rw [hF] at this
    exact this
  rw [List.map_cons, List.map_cons, List.map_cons, cv_r g ha]
  obtain ⟨q1, q2⟩ := sh_ix i0 i1 hN
  have hK := C.2.2.2.2.2.2.2.2.2.1
  have hD := cw_D g n F C.2.2.2.2.2.2.1
  refine W.iast C.1 C.2.1 (Rl.1.1 (a - 1) _ hw) ((hK.2 0 _ rfl).1 N (fun j => .int (Int32.ofInt (f j)))) (fun q => by cases q) (by show ¬ (_ < 0 ∨ (arrV _ _ _).slots.size ≤ _); rw [arrV_size]; exact q1) rfl rfl hd fun H1 e1 z oq => ?_
  have hP : va_P g.2.1 sh_cl ((cw g n F).set (a - 1) (g.2.2.1 + a, .inl (g.2.2.2.1 0, N, .inl fun j => Int32.ofInt (ru f i.toNat x j)))) H1 := by
    refine Rl.1.1.set hD hw ?_ oq
    show H1[g.2.2.1 + a]? = some (vp_cell _ _)
    rw [e1]
    rw [vp_cell_i, vp_cell_i, arrV_store]
    congr 2
    funext q
    rw [q2]
    by_cases hq : q = i.toNat
    · subst hq
      simp [updV, ru]
    · simp [updV, ru, hq]
  rw [cw_set g F _ h1] at hP
  exact k p e R s m args below meth c A H1 _ ls Qf C ⟨⟨hP, by rw [z]; exact Rl.1.2⟩, Rl.2.1.put z oq (hD.2 (a - 1) _ hw), Rl.2.2⟩ hk
theorem ck_astq {a N v : Nat} {vs : List Value} {f : Nat → Option Nat} {i : Int} (hF : F a = .inl (g.2.2.2.1 2, N, .inr (.inr (.inr (.inr f))))) (hV : F v = .inr (3, vs)) (h1 : 1 ≤ a) (h2 : a ≤ n) (ha : a < 1000) (v1 : 1 ≤ v) (v2 : v ≤ n) (hv : v < 1000) (hN : N ≤ 2000) (i0 : 0 ≤ i) (i1 : i < (N : Int)) (hd : decode M.2.1 pc = .ok (.aastore, 1)) (k : ck_X g d mc ms M (pc + 1) lo st n (fu F a (.inl (g.2.2.2.1 2, N, .inr (.inr (.inr (.inr (va_up f i.toNat (some (g.2.2.1 + v)))))))) ) ce sl K) : ck_X g d mc ms M pc lo (sh_r v :: sh_i i :: sh_r a :: st) n F ce sl K := by
  intro p e R s m args below meth c A H locs ls Qf C Rl hk
  have hw := cw_get g F h1 h2
  rw [hF] at hw
  have hx := cw_get g F v1 v2
  rw [hV] at hx
  rw [List.map_cons, List.map_cons, List.map_cons, cv_r g ha, cv_r g hv]
  obtain ⟨q1, q2⟩ := sh_ix i0 i1 hN
  have hK := C.2.2.2.2.2.2.2.2.2.1
  have hD := cw_D g n F C.2.2.2.2.2.2.1
  have hlt : (Int32.ofInt i).toNatClampNeg < N := Nat.not_le.mp fun q => q1 (Or.inr q)
  have h0 : ¬ Int32.ofInt i < 0 := fun q => q1 (Or.inl q)
  obtain ⟨r', hr', cellV, g1, g2, g3, -⟩ := Rl.1.1 (v - 1) _ hx
  have hcls := (hK.1 3 _ (rfl : sh_cl[3]? = some (RX3, TX3, 4))).2
  obtain ⟨kA, comp, k1, k2, k3, -⟩ := (hK.2 2 _ (rfl : (sh_tys g)[2]? = some (g.2.2.2.1 2, .object "StolenHolidays$Mark"))).2
  have hcomp : comp = g.2.1.1 3 := Option.some.inj (k3.symm.trans hcls.1)
  subst hcomp
  obtain ⟨kC, hkC, -⟩ := hcls.2
  refine W.aast C.1 C.2.1 (Rl.1.1 (a - 1) _ hw) (fun q h => by cases h) (fun h => by cases h) k1 k2 rfl hkC ⟨h0, by show _ < (arrV _ _ _).slots.size; rw [arrV_size]; exact hlt⟩ g1 (fun q h => by rw [g3] at h; cases h) (by rw [g2]; exact hkC) (by rw [g2]; exact va_assign hcls) rfl rfl hd fun H1 e1 z oq => ?_
  have hP : va_P g.2.1 sh_cl ((cw g n F).set (a - 1) (g.2.2.1 + a, .inl (g.2.2.2.1 2, N, .inr (.inr (.inr (.inr (va_up f i.toNat (some (g.2.2.1 + v))))))))) H1 := by
    refine Rl.1.1.set hD hw ?_ oq
    show H1[g.2.2.1 + a]? = some (vp_cell _ _)
    rw [e1]
    rw [vp_cell_q, vp_cell_q, arrV_store]
    congr 2
    funext q
    rw [q2]
    by_cases hq : q = i.toNat
    · subst hq
      simp [updV, va_up, va_rf]
    · simp [updV, va_up, hq]
  rw [cw_set g F _ h1] at hP
  exact k p e R s m args below meth c A H1 _ ls Qf C ⟨⟨hP, by rw [z]; exact Rl.1.2⟩, Rl.2.1.put z oq (hD.2 (a - 1) _ hw), Rl.2.2⟩ hk
end CK
/-! ===== methods of the making ===== -/
def ck_rm (d mc ms : Nat) : Room := { frames := d, cells := mc, slots := ms, locals := 64 * d }
def ck_Pc (g : sh_G) (av : List sh_V) (n : Nat) (F : Nat → va_E) : Array Value → State → Prop := va_Pc (av.map (sh_cv g)) (fun U => (va_P g.2.1 sh_cl (cw g n F) U.heap ∧ U.heap.size = g.2.2.1 + n + 1) ∧ ck_E g U)
def ck_Qc (g : sh_G) (n : Nat) (F : Nat → va_E) : Array Value → State → Outcome → State → Prop := fun _ s0 oc t => (oc = .returned none ∧ va_P g.2.1 sh_cl (cw g n F) t.heap ∧ t.heap.size = g.2.2.1 + n + 1) ∧ va_F (ck_A g) s0 t
/-- the method, called so, makes the world so; it uses mc cells, ms slots -/
def ck_Cal (g : sh_G) (d mc ms : Nat) (M : sh_M) (av : List sh_V) (n : Nat) (F : Nat → va_E) (n' : Nat) (F' : Nat → va_E) : Prop := Met g.1 M.1 (sh_ws M) (ck_rm d mc ms) (ck_Pc g av n F) (ck_Qc g n' F') mc ms (ck_A g)
theorem ck_blind (g : sh_G) (av : List sh_V) (n : Nat) (F : Nat → va_E) : FrameBlind (ck_Pc g av n F) := by
  intro a U g' mk h
  obtain ⟨h0, hP, hE⟩ := h
  exact ⟨h0, hP, ck_E_same (u := U) (U := U.calling g' mk a) rfl hE⟩
theorem ck_callW {g : sh_G} {p : Program} {e : Env} {R : Room} {s : State} {m : MethodId} {args : Array Value} {below : List Frame} {meth : Method} {c : Code} {H : Heap} {locs : List Loc} {ce sl mc2 ms2 : Nat} {Qf : State → Prop} {A : Nat → Prop} {pc : Nat} {ls : Array Slot} {st0 rest : List Value} {a : Array Value} {n1 : Nat} {F1 : Nat → va_E}
    (hr : va_Run p g.1 e R s m args below meth c H locs ce sl mc2 ms2 (F0 m pc ls st0) rest (ck_Qc g n1 F1 a) (ck_A g)) (hS : va_S A s.heap H locs) (hA : ∀ q, ck_A g q → A q)
    (kk : ∀ (H1 : Heap) (locs1 : List Loc), va_P g.2.1 sh_cl (cw g n1 F1) H1 → H1.size = g.2.2.1 + n1 + 1 → va_S A s.heap H1 locs1 → W p g.1 e R s m args below meth c H1 locs1 (ce + mc2) (sl + ms2) Qf (F0 m (pc + 3) ls rest)) : W p g.1 e R s m args below meth c H locs ce sl Qf (F0 m pc ls st0) := by
  intro T hT X
  obtain ⟨v, st₀, t, T', L, h0, X', hL, e1, e2, ⟨⟨hv, hP', hz'⟩, hz, hk⟩, st⟩ := hr T hT X
  cases hv
  rw [h0] at hz hk
  obtain ⟨t2, a1, b1⟩ := kk T'.heap (locs ++ L) (by rw [e1]; exact hP') (by rw [e1]; exact hz')
    ⟨Nat.le_trans hS.1 (by rw [e1]; exact hz), fun q h1 h2 => by rw [e1, hk q (Nat.lt_of_lt_of_le h1 hS.1) (fun z => h2 (hA q z))]; exact hS.2.1 q h1 h2, fun q hq => by
      rcases List.mem_append.mp hq with h | h
      · exact hS.2.2 q h
      · exact hA _ (hL q h)⟩ T' rfl X'
  exact ⟨t2, st t2 a1, b1⟩
section CKC
variable {g : sh_G} {d mc ms mc2 ms2 : Nat} {M M2 : sh_M} {pc : Nat} {lo : List (Nat × sh_V)} {st : List sh_V} {n n1 : Nat} {F F1 : Nat → va_E} {ce sl : Nat} {K : ck_T}
theorem ck_callI {ix a k : Nat} {av : List sh_V} (hm : sh_MO M2 k) (hl : Cond.methodLink M.1.cls ix M2.1 ∈ lw_g) (hin : Cond.instanceMethod M2.1 ∈ lw_g) (hnm : M2.1.name = "<init>") (hr : M2.2.2.2 = none) (hn : av.length = k) (hst : (st.map fun v => (sh_cv g v).category).sum ≤ 8) (hc : ce + mc2 ≤ mc) (hs : sl + ms2 ≤ ms) (hd : decode M.2.1 pc = .ok (.invokespecial ix, 3)) (h : ck_Cal g d mc2 ms2 M2 (sh_r a :: av) n F n1 F1) (kx : ck_X g (d + 1) mc ms M (pc + 3) lo st n1 F1 (ce + mc2) (sl + ms2) K) : ck_X g (d + 1) mc ms M pc lo (av.reverse ++ sh_r a :: st) n F ce sl K := by
  intro p e R s m args below meth c A H locs ls Qf C Rl hk
  have hR := C.2.2.2.2.2.1
  have hts := C.2.2.2.2.1
  have cb : CallB R s args M.1.cls ix M2.1 M2.2.1 M2.2.2.1 none (sh_ws M2) (ck_rm d mc2 ms2) mc2 ms2 k := by
    have := callB_of (R := R) (s := s) (args := args) (own := M.1.cls) (index := ix) (y := M2.1) (bytes := M2.2.1) (maxL := M2.2.2.1) (ret := M2.2.2.2) (rm := ck_rm d mc2 ms2) k hts (sh_good hm) rfl rfl rfl (hts _ hm.2.2.2) (hts _ hl) hm.1 ⟨hR.1, by show 8 + (M2.2.2.1 + 11) + 64 * d ≤ R.locals; have := hm.2.2.1; have := hR.2.1; omega⟩
    rw [hr] at this
    exact this
  refine ck_callW (rest := st.map (sh_cv g)) (va_runI (As := av.map (sh_cv g)) (b := sh_ad g a) ⟨C.1, C.2.1, C.2.2.1, C.2.2.2.1, hts⟩ h ⟨cb, hnm, hts _ hin⟩ ⟨ck_blind g _ _ _, fun U hU hW => ⟨rfl, by rw [hU]; exact Rl.1, ck_E_warm C.2.2.2.2.2.2.2.2.2 hW⟩⟩ rfl (by rw [List.length_map]; exact hn) Rl.2.2.1 (by simp only [List.map_append, List.map_cons, List.map_reverse]; rfl) (lv_room (by rw [List.map_map]; exact hst)) hd ⟨by omega, by omega⟩) Rl.2.1 C.2.2.2.2.2.2.1 (fun H1 locs1 hP hz hS => ?_)
  exact kx p e R s m args below meth c A H1 locs1 ls Qf C ⟨⟨hP, hz⟩, hS, Rl.2.2⟩ hk
theorem ck_callN {ix a k : Nat} {av : List sh_V} (hm : sh_MO M2 k) (hl : (M.1.cls, ix, M2.1) ∈ ck_ns) (hin : Cond.instanceMethod M2.1 ∈ lw_g) (hnm : M2.1.name = "<init>") (hr : M2.2.2.2 = none) (hn : av.length = k) (hst : (st.map fun v => (sh_cv g v).category).sum ≤ 8) (hc : ce + mc2 ≤ mc) (hs : sl + ms2 ≤ ms) (hd : decode M.2.1 pc = .ok (.invokespecial ix, 3)) (h : ck_Cal g d mc2 ms2 M2 (sh_r a :: av) n F n1 F1) (kx : ck_X g (d + 1) mc ms M (pc + 3) lo st n1 F1 (ce + mc2) (sl + ms2) K) : ck_X g (d + 1) mc ms M pc lo (av.reverse ++ sh_r a :: st) n F ce sl K := by
  intro p e R s m args below meth c A H locs ls Qf C Rl hk
  have hR := C.2.2.2.2.2.1
  have hts := C.2.2.2.2.1
  have cb : va_CN R s args M.1.cls ix M2.1 "StolenHolidays" M2.2.1 M2.2.2.1 none (sh_ws M2) (ck_rm d mc2 ms2) mc2 ms2 k := by
    have := va_cnB (R := R) (s := s) (args := args) (own := M.1.cls) (host := "StolenHolidays") (index := ix) (y := M2.1) (bytes := M2.2.1) (maxL := M2.2.2.1) (ret := M2.2.2.2) (rm := ck_rm d mc2 ms2) k hts (sh_good hm) rfl rfl rfl (C.2.2.2.2.2.2.2.2.2.2.2.2 _ hl) (hts _ hm.2.2.2) hm.1 ⟨hR.1, by show 8 + (M2.2.2.1 + 11) + 64 * d ≤ R.locals; have := hm.2.2.1; have := hR.2.1; omega⟩
    rw [hr] at this
    exact this
  refine ck_callW (rest := st.map (sh_cv g)) (va_runIN (As := av.map (sh_cv g)) (b := sh_ad g a) ⟨C.1, C.2.1, C.2.2.1, C.2.2.2.1, hts⟩ h ⟨cb, hnm, hts _ hin⟩ ⟨ck_blind g _ _ _, fun U hU hW => ⟨rfl, by rw [hU]; exact Rl.1, ck_E_warm C.2.2.2.2.2.2.2.2.2 hW⟩⟩ rfl (by rw [List.length_map]; exact hn) Rl.2.2.1 (by simp only [List.map_append, List.map_cons, List.map_reverse]; rfl) (lv_room (by rw [List.map_map]; exact hst)) hd ⟨by omega, by omega⟩) Rl.2.1 C.2.2.2.2.2.2.1 (fun H1 locs1 hP hz hS => ?_)
  exact kx p e R s m args below meth c A H1 locs1 ls Qf C ⟨⟨hP, hz⟩, hS, Rl.2.2⟩ hk
theorem ck_callV {ix ci a k : Nat} {av : List sh_V} {q : vw_C} {fs : List Value} (hF : F a = .inr (ci, fs)) (h1 : 1 ≤ a) (h2 : a ≤ n) (ha : a < 1000) (hcl : sh_cl[ci]? = some q) (hq : M2.1.cls = q.1) (hm : sh_MO M2 k) (hl : Cond.methodLink M.1.cls ix M2.1 ∈ lw_g) (hin : Cond.instanceMethod M2.1 ∈ lw_g) (hsel : Cond.selects M2.1.cls M2.1 M2.1 ∈ lw_g) (hn : av.length = k) (hst : (st.map fun v => (sh_cv g v).category).sum ≤ 8) (hc : ce + mc2 ≤ mc) (hs : sl + ms2 ≤ ms) (hd : decode M.2.1 pc = .ok (.invokevirtual ix, 3)) (h : ck_Cal g d mc2 ms2 M2 (sh_r a :: av) n F n1 F1) (kx : ck_X g (d + 1) mc ms M (pc + 3) lo st n1 F1 (ce + mc2) (sl + ms2) K) : ck_X g (d + 1) mc ms M pc lo (av.reverse ++ sh_r a :: st) n F ce sl K := by
  intro p e R s m args below meth c A H locs ls Qf C Rl hk
  have hw := cw_get g F h1 h2
  rw [hF] at hw
  obtain ⟨cell, c1, c2, c3⟩ := va_recv C.2.2.2.2.2.2.2.2.2.1 Rl.1.1 hcl hw
  have hR := C.2.2.2.2.2.1
  have hts := C.2.2.2.2.1
  have ead : sh_ad g a = g.2.2.1 + a := if_pos ha
  have cb : CallB R s args M.1.cls ix M2.1 M2.2.1 M2.2.2.1 M2.2.2.2 (sh_ws M2) (ck_rm d mc2 ms2) mc2 ms2 k := callB_of k hts (sh_good hm) rfl rfl rfl (hts _ hm.2.2.2) (hts _ hl) hm.1 ⟨hR.1, by show 8 + (M2.2.2.1 + 11) + 64 * d ≤ R.locals; have := hm.2.2.1; have := hR.2.1; omega⟩
  refine ck_callW (rest := st.map (sh_cv g)) (va_runV (As := av.map (sh_cv g)) (C := q.1) (b := sh_ad g a) ⟨C.1, C.2.1, C.2.2.1, C.2.2.2.1, hts⟩ h ⟨cb, hts _ hin, by rw [← hq]; exact hts _ hsel⟩ ⟨ck_blind g _ _ _, by rw [ead]; exact ⟨cell, c1, c2, c3⟩, fun U hU hW => ⟨rfl, by rw [hU]; exact Rl.1, ck_E_warm C.2.2.2.2.2.2.2.2.2 hW⟩⟩ rfl (by rw [List.length_map]; exact hn) Rl.2.2.1 (by simp only [List.map_append, List.map_cons, List.map_reverse]; rfl) (lv_room (by rw [List.map_map]; exact hst)) hd ⟨by omega, by omega⟩) Rl.2.1 C.2.2.2.2.2.2.1 (fun H1 locs1 hP hz hS => ?_)
  exact kx p e R s m args below meth c A H1 locs1 ls Qf C ⟨⟨hP, hz⟩, hS, Rl.2.2⟩ hk
theorem ck_obj {ix a : Nat} (hl : Cond.methodLink M.1.cls ix Lib.objectInit ∈ lw_g) (hin : Cond.instanceMethod Lib.objectInit ∈ lw_g) (hco : Cond.code Lib.objectInit ⟨#[0xb1]⟩ 1 none ∈ lw_g) (hst : (st.map fun v => (sh_cv g v).category).sum ≤ 8) (hd : decode M.2.1 pc = .ok (.invokespecial ix, 3)) (kx : ck_X g (d + 1) mc ms M (pc + 3) lo st n F ce sl K) : ck_X g (d + 1) mc ms M pc lo (sh_r a :: st) n F ce sl K := by
  refine ck_go (fun p e R s m args below meth c A H locs ls Qf C Rl z => ?_) kx
  have hR := C.2.2.2.2.2.1
  have hts := C.2.2.2.2.1
  refine W.objInit C.1 C.2.1 C.2.2.2.1 (hts _ hl) (hts _ hin) (hts _ hco) rfl (by rw [C.2.2.1]; exact Rl.2.2.1) (a := sh_ad g a) (rest := st.map (sh_cv g)) rfl hd (by omega) ?_ z
  have e1 : ((st.map (sh_cv g)).map fun v => v.category).sum ≤ 8 := by rw [List.map_map]; exact hst
  show 0 + ((st.map (sh_cv g)).map fun v => v.category).sum + 12 ≤ R.locals
  omega
end CKC
/-- a constructor's end -/
def ck_K (M : sh_M) (mc ms n' : Nat) (F' : Nat → va_E) : ck_T := fun pc _ st n F ce sl => st = [] ∧ decode M.2.1 pc = .ok (.return_, 1) ∧ n = n' ∧ F = F' ∧ ce = mc ∧ sl = ms
theorem ck_ret {g : sh_G} {d mc ms : Nat} {M : sh_M} {pc : Nat} {lo : List (Nat × sh_V)} {n : Nat} {F : Nat → va_E} (hd : decode M.2.1 pc = .ok (.return_, 1)) : ck_X g d mc ms M pc lo [] n F mc ms (ck_K M mc ms n F) := ck_here ⟨rfl, hd, rfl, rfl, rfl, rfl⟩
theorem ck_met {g : sh_G} {d mc ms : Nat} {M : sh_M} {av : List sh_V} {lo : List (Nat × sh_V)} {n n' : Nat} {F F' : Nat → va_E} (hp : plainName M.1.cls = true) (hsz : sh_sz av ≤ M.2.2.1) (hlo : sh_la 0 av = lo) (hr : M.2.2.2 = none) (h : ck_X g d mc ms M 0 lo [] n F 0 0 (ck_K M mc ms n' F')) : ck_Cal g d mc ms M av n F n' F' := by
  refine Met.ofW (cc := M.2.1) (maxL := M.2.2.1) (ret := M.2.2.2) hp rfl ?_
  intro p e s m args below meth c s₁ B hml hv
  obtain ⟨rfl, hP, hE⟩ := hv
  have hlocks := B.notSynchronized
  have hts := atoms_spec (ws := sh_ws M) B.pre
  have hown : s.vm.findClass M.1.cls = some m.cls := findClass_of_methodNamed B.named
  have hin : meth.name = M.1.name := (name_of_methodNamed B.named B.method).1
  rw [lg_entry_eq]
  refine h p e _ s m _ below meth c (ck_A g) s.heap [] _ _ ⟨B.exec, B.bytes, hml, hown, fun x hx => hts x (List.mem_cons_of_mem _ hx), ⟨Nat.le_refl _, Nat.le_refl _, Nat.le_refl _, Nat.le_refl _⟩, fun _ z => z, by have := hP.2; omega, fun z => hin.trans z, hE⟩ ⟨hP, va_S.rf, ?_⟩ ?_
  · have hl := lv_entry (av.map (sh_cv g)) (n := M.2.2.1) (by rw [sh_sz_map]; exact hsz)
    rw [sh_la_map, hlo] at hl
    exact hl
  · intro pc' lo' st' n1 F1 ce' sl' H' locs' ls' hk hR
    obtain ⟨rfl, h2, rfl, rfl, rfl, rfl⟩ := hk
    exact W.vret B.exec B.bytes (B.returns.trans hr) (fun t ht hW => ⟨⟨rfl, by rw [ht]; exact hR.1.1, by rw [ht]; exact hR.1.2⟩, hR.2.1.F ht⟩) hR.2.1.2.2 h2
