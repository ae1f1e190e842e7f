/-! ===== texts ===== -/
def sh_sr : List (String × Nat × String) := [("StolenHolidays$Tape", 68, "()<=+-*;"), ("StolenHolidays$Tape", 45, "day thief pays worth guard skill sack night steal sell spend swap plain sunday wet feast not and or "), ("StolenHolidays$Tape", 54, "much old sort date ")]
def sh_len : List Nat := [8, 100, 19]
def sh_byt : List (List Int32) := [[40, 41, 60, 61, 43, 45, 42, 59], [100, 97, 121, 32, 116, 104, 105, 101, 102, 32, 112, 97, 121, 115, 32, 119, 111, 114, 116, 104, 32, 103, 117, 97, 114, 100, 32, 115, 107, 105, 108, 108, 32, 115, 97, 99, 107, 32, 110, 105, 103, 104, 116, 32, 115, 116, 101, 97, 108, 32, 115, 101, 108, 108, 32, 115, 112, 101, 110, 100, 32, 115, 119, 97, 112, 32, 112, 108, 97, 105, 110, 32, 115, 117, 110, 100, 97, 121, 32, 119, 101, 116, 32, 102, 101, 97, 115, 116, 32, 110, 111, 116, 32, 97, 110, 100, 32, 111, 114, 32], [109, 117, 99, 104, 32, 111, 108, 100, 32, 115, 111, 114, 116, 32, 100, 97, 116, 101, 32]]
abbrev sh_nS : Nat := 3

def lw_g : List Cond := lw_tbl.filter goodWord
theorem lw_g_in {x : Cond} (h : x ∈ lw_tbl) (h2 : goodWord x = true) : x ∈ lw_g := List.mem_filter.mpr ⟨h, h2⟩
theorem lw_g_good : ∀ x ∈ lw_g, (x.onTables && x.keeps) = true ∨ ∃ ty, x = .arrayClass ty := fun x h => good_of_word (List.mem_filter.mp h).2
/-- what stays as it is while the program runs: tables, texts, one static -/
def sh_E (g : sh_G) (A : Nat → Prop) (U : State) (H : Heap) : Prop :=
  va_K g.2.1 sh_cl (sh_tys g) U ∧ vk_S sh_nS sh_len sh_byt g.2.2.2.2.1 g.2.2.2.2.2 A U H ∧ (∀ i q, sh_sr[i]? = some q → vk_R q.1 q.2.1 q.2.2 (g.2.2.2.2.1 i) U) ∧ va_Z "java/lang/String" "COMPACT_STRINGS" "Z" (.int 1) A U H ∧ va_Nw (.methodLinkNest "StolenHolidays$Reader" 76 ⟨"StolenHolidays", "isWithin", "(III)Z"⟩ "StolenHolidays") U ∧ va_Zq "jdk/internal/util/Preconditions" "SIOOBE_FORMATTER" "Ljava/util/function/BiFunction;" A U H
def sh_C (g : sh_G) (M : sh_M) (d : Nat) (A : Nat → Prop) (p : Program) (R : Room) (s : State) (m : MethodId) (args : Array Value) (c : Code) (cells slots : Nat) : Prop :=
  p.tables.exec = Jvm.exec ∧ c.code = M.2.1 ∧ c.maxLocals = M.2.2.1 ∧ s.vm.findClass M.1.cls = some m.cls ∧ (∀ x ∈ lw_g, x.before args s = true) ∧ (d ≤ R.frames ∧ 64 * d ≤ R.locals ∧ cells ≤ R.cells ∧ slots ≤ R.slots) ∧ (∀ q, sh_A g q → A q) ∧ sh_E g A s s.heap
abbrev sh_cl1 (g : sh_G) (q : Nat × sh_V) : Nat × Value := (q.1, sh_cv g q.2)
def sh_R (g : sh_G) (M : sh_M) (A : Nat → Prop) (s : State) (mem : sh_Mem) (lo : List (Nat × sh_V)) (H : Heap) (locs : List Loc) (ls : Array Slot) : Prop :=
  va_P g.2.1 sh_cl (sh_w g mem) H ∧ va_S A s.heap H locs ∧ lv_has ls M.2.2.1 (lo.map (sh_cl1 g))
/-- from here the machine comes to a place of K -/
def sh_X (g : sh_G) (d : Nat) (M : sh_M) (pc : Nat) (lo : List (Nat × sh_V)) (st : List sh_V) (mem : sh_Mem) (K : Nat → List (Nat × sh_V) → List sh_V → sh_Mem → Prop) : Prop :=
  ∀ (p : Program) (e : Env) (R : Room) (s : State) (m : MethodId) (args : Array Value) (below : List Frame) (meth : Method) (c : Code) (A : Nat → Prop) (H : Heap) (locs : List Loc) (ls : Array Slot) (cells slots : Nat) (Qf : State → Prop),
    sh_C g M d A p R s m args c cells slots → sh_R g M A s mem lo H locs ls →
    (∀ pc' lo' st' mem' H' locs' ls', K pc' lo' st' mem' → sh_R g M A s mem' lo' H' locs' ls' → W p g.1 e R s m args below meth c H' locs' cells slots Qf (F0 m pc' ls' (st'.map (sh_cv g)))) →
    W p g.1 e R s m args below meth c H locs cells slots Qf (F0 m pc ls (st.map (sh_cv g)))
/-- an int as the machine sees it -/
def i3 (x : Int) : Int := (Int32.ofInt x).toInt
def i6 (x : Int) : Int := (Int64.ofInt x).toInt
theorem i3_id {x : Int} (h1 : -2147483648 ≤ x) (h2 : x < 2147483648) : i3 x = x := by
  unfold i3; rw [Int32.toInt_ofInt]
  show Int.bmod x 4294967296 = x
  exact Int.bmod_eq_of_le_mul_two (by omega) (by omega)
theorem i6_id {x : Int} (h1 : -9223372036854775808 ≤ x) (h2 : x < 9223372036854775808) : i6 x = x := by
  unfold i6; rw [Int64.toInt_ofInt]
  show Int.bmod x 18446744073709551616 = x
  exact Int.bmod_eq_of_le_mul_two (by omega) (by omega)
theorem i3_of (x : Int) : Int32.ofInt (i3 x) = Int32.ofInt x := Int32.ofInt_toInt _
theorem i6_of (x : Int) : Int64.ofInt (i6 x) = Int64.ofInt x := Int64.ofInt_toInt _
theorem i3_rng (x : Int) : -2147483648 ≤ i3 x ∧ i3 x < 2147483648 := ⟨Int32.le_toInt _, Int32.toInt_lt _⟩
theorem i3_i3 (x : Int) : i3 (i3 x) = i3 x := i3_id (i3_rng x).1 (i3_rng x).2
theorem i3_eq (a b : Int) : Int32.ofInt a = Int32.ofInt b ↔ i3 a = i3 b := Int32.toInt_inj.symm
theorem i3_lt (a b : Int) : Int32.ofInt a < Int32.ofInt b ↔ i3 a < i3 b := Int32.lt_iff_toInt_lt
theorem i3_le (a b : Int) : Int32.ofInt a ≤ Int32.ofInt b ↔ i3 a ≤ i3 b := Int32.le_iff_toInt_le
theorem i3_0 : i3 0 = 0 := rfl
theorem i3_eq0 (a : Int) : Int32.ofInt a = 0 ↔ i3 a = 0 := i3_eq a 0
theorem i3_lt0 (a : Int) : Int32.ofInt a < 0 ↔ i3 a < 0 := i3_lt a 0
theorem i3_0le (a : Int) : 0 ≤ Int32.ofInt a ↔ 0 ≤ i3 a := i3_le 0 a
theorem i3_0lt (a : Int) : 0 < Int32.ofInt a ↔ 0 < i3 a := i3_lt 0 a
theorem i3_le0 (a : Int) : Int32.ofInt a ≤ 0 ↔ i3 a ≤ 0 := i3_le a 0
def i_and (a b : Int) : Int := (Int32.ofInt a &&& Int32.ofInt b).toInt
def i_or (a b : Int) : Int := (Int32.ofInt a ||| Int32.ofInt b).toInt
def i_xor (a b : Int) : Int := (Int32.ofInt a ^^^ Int32.ofInt b).toInt
def i_shl (a b : Int) : Int := (Int32.ofInt a <<< (Int32.ofInt b &&& 31)).toInt
def i_shr (a b : Int) : Int := (Int32.ofInt a >>> (Int32.ofInt b &&& 31)).toInt
def i_ushr (a b : Int) : Int := ((Int32.ofInt a).toUInt32 >>> ((Int32.ofInt b).toUInt32 &&& Int32.toUInt32 31)).toInt32.toInt
def i_div (a b : Int) : Int := (Int32.ofInt a / Int32.ofInt b).toInt
def i_rem (a b : Int) : Int := (Int32.ofInt a - Int32.ofInt a / Int32.ofInt b * Int32.ofInt b).toInt
def i_2c (a : Int) : Int := ((Int32.ofInt a).toUInt32 % 65536).toInt32.toInt
def i_2b (a : Int) : Int := (Int32.ofInt a).toInt8.toInt32.toInt
def l_and (a b : Int) : Int := (Int64.ofInt a &&& Int64.ofInt b).toInt
def l_or (a b : Int) : Int := (Int64.ofInt a ||| Int64.ofInt b).toInt
def l_shl (a b : Int) : Int := (Int64.ofInt a <<< ((Int32.ofInt b).toInt64 &&& 63)).toInt
def l_ushr (a b : Int) : Int := ((Int64.ofInt a).toUInt64 >>> ((Int32.ofInt b).toInt64.toUInt64 &&& Int64.toUInt64 63)).toInt64.toInt
def l_div (a b : Int) : Int := (Int64.ofInt a / Int64.ofInt b).toInt
def l_rem (a b : Int) : Int := (Int64.ofInt a - Int64.ofInt a / Int64.ofInt b * Int64.ofInt b).toInt
def l_2i (a : Int) : Int := (Int64.ofInt a).toInt32.toInt
def l_cmp (a b : Int) : Int := (lg_cmp (Int64.ofInt a) (Int64.ofInt b)).toInt
def i_2l (a : Int) : Int := (Int32.ofInt a).toInt64.toInt
section XR
variable {g : sh_G} {d : Nat} {M : sh_M} {pc : Nat} {lo : List (Nat × sh_V)} {st : List sh_V} {mem : sh_Mem} {K : Nat → List (Nat × sh_V) → List sh_V → sh_Mem → Prop}
theorem sh_go {pc' : Nat} {st' : List sh_V} (h : ∀ (p : Program) (e : Env) (R : Room) (s : State) (m : MethodId) (args : Array Value) (below : List Frame) (meth : Method) (c : Code) (A : Nat → Prop) (H : Heap) (locs : List Loc) (ls : Array Slot) (cells slots : Nat) (Qf : State → Prop), sh_C g M d A p R s m args c cells slots → sh_R g M A s mem lo H locs ls → W p g.1 e R s m args below meth c H locs cells slots Qf (F0 m pc' ls (st'.map (sh_cv g))) → W p g.1 e R s m args below meth c H locs cells slots Qf (F0 m pc ls (st.map (sh_cv g))))
    (k : sh_X g d M pc' lo st' mem K) : sh_X g d M pc lo st mem K :=
  fun p e R s m args below meth c A H locs ls cells slots Qf C Rl hk => h p e R s m args below meth c A H locs ls cells slots Qf C Rl (k p e R s m args below meth c A H locs ls cells slots Qf C Rl hk)
theorem xr_here (h : K pc lo st mem) : sh_X g d M pc lo st mem K := fun p e R s m args below meth c A H locs ls cells slots Qf C Rl hk => hk pc lo st mem H locs ls h Rl
theorem sh_lo {i : Nat} {v : sh_V} {A : Nat → Prop} {s : State} {H : Heap} {locs : List Loc} {ls : Array Slot} (Rl : sh_R g M A s mem lo H locs ls) (h : (i, v) ∈ lo) : ls[i]? = some (.val (sh_cv g v)) := Rl.2.2.2.2 (sh_cl1 g (i, v)) (List.mem_map_of_mem h)

theorem xr_iconst {n : Int} (hd : decode M.2.1 pc = .ok (.iconst n, 1)) (k : sh_X g d M (pc + 1) lo (sh_i n :: st) mem K) : sh_X g d M pc lo (st) mem K :=
  sh_go (fun p e R s m args below meth c A H locs ls cells slots Qf C Rl z => lv_iconst C.1 C.2.1 hd rfl z) k
theorem xr_bipush {n v : Int} (hv : (Int8.ofInt n).toInt32 = Int32.ofInt v) (hd : decode M.2.1 pc = .ok (.bipush n, 2)) (k : sh_X g d M (pc + 2) lo (sh_i v :: st) mem K) : sh_X g d M pc lo (st) mem K :=
  sh_go (fun p e R s m args below meth c A H locs ls cells slots Qf C Rl z => lv_bipush C.1 C.2.1 hd hv z) k
theorem xr_sipush {n v : Int} (hv : (Int16.ofInt n).toInt32 = Int32.ofInt v) (hd : decode M.2.1 pc = .ok (.sipush n, 3)) (k : sh_X g d M (pc + 3) lo (sh_i v :: st) mem K) : sh_X g d M pc lo (st) mem K :=
  sh_go (fun p e R s m args below meth c A H locs ls cells slots Qf C Rl z => lv_sipush C.1 C.2.1 hd hv z) k
theorem xr_lconst {n : Fin 2} {v : Int} (hv : Int64.ofNat (n : Nat) = Int64.ofInt v) (hd : decode M.2.1 pc = .ok (.lconst n, 1)) (k : sh_X g d M (pc + 1) lo (sh_l v :: st) mem K) : sh_X g d M pc lo (st) mem K :=
  sh_go (fun p e R s m args below meth c A H locs ls cells slots Qf C Rl z => lv_lconst C.1 C.2.1 hd hv z) k
theorem xr_ldcI {ix : Nat} {v : Int} {v3 : Int32} (hv : v3 = Int32.ofInt v) (hl : Cond.constant M.1.cls ix v3 ∈ lw_g) (hd : decode M.2.1 pc = .ok (.ldc ix, 2)) (k : sh_X g d M (pc + 2) lo (sh_i v :: st) mem K) : sh_X g d M pc lo (st) mem K :=
  sh_go (fun p e R s m args below meth c A H locs ls cells slots Qf C Rl z => lv_ldc C.1 C.2.1 C.2.2.2.1 (C.2.2.2.2.1 _ hl) hd (by rw [hv]; exact z)) k
theorem xr_ldcwI {ix : Nat} {v : Int} {v3 : Int32} (hv : v3 = Int32.ofInt v) (hl : Cond.constant M.1.cls ix v3 ∈ lw_g) (hd : decode M.2.1 pc = .ok (.ldc_w ix, 3)) (k : sh_X g d M (pc + 3) lo (sh_i v :: st) mem K) : sh_X g d M pc lo (st) mem K :=
  sh_go (fun p e R s m args below meth c A H locs ls cells slots Qf C Rl z => lv_ldcw C.1 C.2.1 C.2.2.2.1 (C.2.2.2.2.1 _ hl) hd (by rw [hv]; exact z)) k
theorem xr_ldc2 {ix : Nat} {v : Int} {v3 : Int64} (hv : v3 = Int64.ofInt v) (hl : Cond.constantLong M.1.cls ix v3 ∈ lw_g) (hd : decode M.2.1 pc = .ok (.ldc2_w ix, 3)) (k : sh_X g d M (pc + 3) lo (sh_l v :: st) mem K) : sh_X g d M pc lo (st) mem K :=
  sh_go (fun p e R s m args below meth c A H locs ls cells slots Qf C Rl z => lv_ldc2 C.1 C.2.1 C.2.2.2.1 (C.2.2.2.2.1 _ hl) hd (by rw [hv]; exact z)) k
theorem xr_ldcS {ix i : Nat} {tx : String} (hi : i < 1000) (hs : sh_sr[i]? = some (M.1.cls, ix, tx)) (hd : decode M.2.1 pc = .ok (.ldc ix, 2)) (k : sh_X g d M (pc + 2) lo (sh_r (1000 + i) :: st) mem K) : sh_X g d M pc lo (st) mem K :=
  sh_go (fun p e R s m args below meth c A H locs ls cells slots Qf C Rl z => va_ldcS C.1 C.2.1 C.2.2.2.1 (C.2.2.2.2.2.2.2.2.2.1 i _ hs) hd (by have q : sh_cv g (sh_r (1000 + i)) = .ref (g.2.2.2.2.1 i) := (by show Value.ref (sh_ad g (1000 + i)) = _; unfold sh_ad; rw [if_neg (by omega), if_pos (by omega), Nat.add_sub_cancel_left]); rw [← q]; exact z)) k
theorem xr_iload {i : Nat} {x : Int} (hm : (i, sh_i x) ∈ lo) (hd : decode M.2.1 pc = .ok (.iload i, 2)) (k : sh_X g d M (pc + 2) lo (sh_i x :: st) mem K) : sh_X g d M pc lo (st) mem K :=
  sh_go (fun p e R s m args below meth c A H locs ls cells slots Qf C Rl z => lv_iload C.1 C.2.1 hd (sh_lo Rl hm) z) k
theorem xr_iload_n {n : Fin 4} {i : Nat} {x : Int} (hi : (n : Nat) = i) (hm : (i, sh_i x) ∈ lo) (hd : decode M.2.1 pc = .ok (.iload_n n, 1)) (k : sh_X g d M (pc + 1) lo (sh_i x :: st) mem K) : sh_X g d M pc lo (st) mem K :=
  sh_go (fun p e R s m args below meth c A H locs ls cells slots Qf C Rl z => lv_iload_n C.1 C.2.1 hd hi (sh_lo Rl hm) z) k
theorem xr_lload {i : Nat} {x : Int} (hm : (i, sh_l x) ∈ lo) (hd : decode M.2.1 pc = .ok (.lload i, 2)) (k : sh_X g d M (pc + 2) lo (sh_l x :: st) mem K) : sh_X g d M pc lo (st) mem K :=
  sh_go (fun p e R s m args below meth c A H locs ls cells slots Qf C Rl z => lv_lload C.1 C.2.1 hd (sh_lo Rl hm) z) k
theorem xr_lload_n {n : Fin 4} {i : Nat} {x : Int} (hi : (n : Nat) = i) (hm : (i, sh_l x) ∈ lo) (hd : decode M.2.1 pc = .ok (.lload_n n, 1)) (k : sh_X g d M (pc + 1) lo (sh_l x :: st) mem K) : sh_X g d M pc lo (st) mem K :=
  sh_go (fun p e R s m args below meth c A H locs ls cells slots Qf C Rl z => lv_lload_n C.1 C.2.1 hd hi (sh_lo Rl hm) z) k
theorem xr_aload {i a : Nat} (hm : (i, sh_r a) ∈ lo) (hd : decode M.2.1 pc = .ok (.aload i, 2)) (k : sh_X g d M (pc + 2) lo (sh_r a :: st) mem K) : sh_X g d M pc lo (st) mem K :=
  sh_go (fun p e R s m args below meth c A H locs ls cells slots Qf C Rl z => lv_aload C.1 C.2.1 hd (sh_lo Rl hm) z) k
theorem xr_aload_n {n : Fin 4} {i a : Nat} (hi : (n : Nat) = i) (hm : (i, sh_r a) ∈ lo) (hd : decode M.2.1 pc = .ok (.aload_n n, 1)) (k : sh_X g d M (pc + 1) lo (sh_r a :: st) mem K) : sh_X g d M pc lo (st) mem K :=
  sh_go (fun p e R s m args below meth c A H locs ls cells slots Qf C Rl z => lv_aload_n C.1 C.2.1 hd hi (sh_lo Rl hm) z) k
theorem xr_iadd {a b : Int} (hd : decode M.2.1 pc = .ok (.iadd, 1)) (k : sh_X g d M (pc + 1) lo (sh_i (a + b) :: st) mem K) : sh_X g d M pc lo (sh_i b :: sh_i a :: st) mem K :=
  sh_go (fun p e R s m args below meth c A H locs ls cells slots Qf C Rl z => lv_iadd C.1 C.2.1 hd (by rw [← Int32.ofInt_add]; exact z)) k
theorem xr_isub {a b : Int} (hd : decode M.2.1 pc = .ok (.isub, 1)) (k : sh_X g d M (pc + 1) lo (sh_i (a - b) :: st) mem K) : sh_X g d M pc lo (sh_i b :: sh_i a :: st) mem K :=
  sh_go (fun p e R s m args below meth c A H locs ls cells slots Qf C Rl z => lv_isub C.1 C.2.1 hd (by rw [← Int32.ofInt_sub]; exact z)) k
theorem xr_imul {a b : Int} (hd : decode M.2.1 pc = .ok (.imul, 1)) (k : sh_X g d M (pc + 1) lo (sh_i (a * b) :: st) mem K) : sh_X g d M pc lo (sh_i b :: sh_i a :: st) mem K :=
  sh_go (fun p e R s m args below meth c A H locs ls cells slots Qf C Rl z => lv_imul C.1 C.2.1 hd (by rw [← Int32.ofInt_mul]; exact z)) k
theorem xr_ladd {a b : Int} (hd : decode M.2.1 pc = .ok (.ladd, 1)) (k : sh_X g d M (pc + 1) lo (sh_l (a + b) :: st) mem K) : sh_X g d M pc lo (sh_l b :: sh_l a :: st) mem K :=
  sh_go (fun p e R s m args below meth c A H locs ls cells slots Qf C Rl z => lv_ladd C.1 C.2.1 hd (by rw [← Int64.ofInt_add]; exact z)) k
theorem xr_lsub {a b : Int} (hd : decode M.2.1 pc = .ok (.lsub, 1)) (k : sh_X g d M (pc + 1) lo (sh_l (a - b) :: st) mem K) : sh_X g d M pc lo (sh_l b :: sh_l a :: st) mem K :=
  sh_go (fun p e R s m args below meth c A H locs ls cells slots Qf C Rl z => lv_lsub C.1 C.2.1 hd (by rw [← Int64.ofInt_sub]; exact z)) k
theorem xr_lmul {a b : Int} (hd : decode M.2.1 pc = .ok (.lmul, 1)) (k : sh_X g d M (pc + 1) lo (sh_l (a * b) :: st) mem K) : sh_X g d M pc lo (sh_l b :: sh_l a :: st) mem K :=
  sh_go (fun p e R s m args below meth c A H locs ls cells slots Qf C Rl z => lv_lmul C.1 C.2.1 hd (by rw [← Int64.ofInt_mul]; exact z)) k
theorem xr_iand {a b : Int} (hd : decode M.2.1 pc = .ok (.iand, 1)) (k : sh_X g d M (pc + 1) lo (sh_i (i_and a b) :: st) mem K) : sh_X g d M pc lo (sh_i b :: sh_i a :: st) mem K :=
  sh_go (fun p e R s m args below meth c A H locs ls cells slots Qf C Rl z => lv_iand C.1 C.2.1 hd (by have q := z; simp only [List.map_cons, sh_cv, i_and, Int32.ofInt_toInt] at q; exact q)) k
theorem xr_ior {a b : Int} (hd : decode M.2.1 pc = .ok (.ior, 1)) (k : sh_X g d M (pc + 1) lo (sh_i (i_or a b) :: st) mem K) : sh_X g d M pc lo (sh_i b :: sh_i a :: st) mem K :=
  sh_go (fun p e R s m args below meth c A H locs ls cells slots Qf C Rl z => lv_ior C.1 C.2.1 hd (by have q := z; simp only [List.map_cons, sh_cv, i_or, Int32.ofInt_toInt] at q; exact q)) k
theorem xr_ixor {a b : Int} (hd : decode M.2.1 pc = .ok (.ixor, 1)) (k : sh_X g d M (pc + 1) lo (sh_i (i_xor a b) :: st) mem K) : sh_X g d M pc lo (sh_i b :: sh_i a :: st) mem K :=
  sh_go (fun p e R s m args below meth c A H locs ls cells slots Qf C Rl z => lv_ixor C.1 C.2.1 hd (by have q := z; simp only [List.map_cons, sh_cv, i_xor, Int32.ofInt_toInt] at q; exact q)) k
theorem xr_ishl {a b : Int} (hd : decode M.2.1 pc = .ok (.ishl, 1)) (k : sh_X g d M (pc + 1) lo (sh_i (i_shl a b) :: st) mem K) : sh_X g d M pc lo (sh_i b :: sh_i a :: st) mem K :=
  sh_go (fun p e R s m args below meth c A H locs ls cells slots Qf C Rl z => lv_ishl C.1 C.2.1 hd (by have q := z; simp only [List.map_cons, sh_cv, i_shl, Int32.ofInt_toInt] at q; exact q)) k
theorem xr_ishr {a b : Int} (hd : decode M.2.1 pc = .ok (.ishr, 1)) (k : sh_X g d M (pc + 1) lo (sh_i (i_shr a b) :: st) mem K) : sh_X g d M pc lo (sh_i b :: sh_i a :: st) mem K :=
  sh_go (fun p e R s m args below meth c A H locs ls cells slots Qf C Rl z => lv_ishr C.1 C.2.1 hd (by have q := z; simp only [List.map_cons, sh_cv, i_shr, Int32.ofInt_toInt] at q; exact q)) k
theorem xr_land {a b : Int} (hd : decode M.2.1 pc = .ok (.land, 1)) (k : sh_X g d M (pc + 1) lo (sh_l (l_and a b) :: st) mem K) : sh_X g d M pc lo (sh_l b :: sh_l a :: st) mem K :=
  sh_go (fun p e R s m args below meth c A H locs ls cells slots Qf C Rl z => lv_land C.1 C.2.1 hd (by have q := z; simp only [List.map_cons, sh_cv, l_and, Int64.ofInt_toInt] at q; exact q)) k
theorem xr_lor {a b : Int} (hd : decode M.2.1 pc = .ok (.lor, 1)) (k : sh_X g d M (pc + 1) lo (sh_l (l_or a b) :: st) mem K) : sh_X g d M pc lo (sh_l b :: sh_l a :: st) mem K :=
  sh_go (fun p e R s m args below meth c A H locs ls cells slots Qf C Rl z => lv_lor C.1 C.2.1 hd (by have q := z; simp only [List.map_cons, sh_cv, l_or, Int64.ofInt_toInt] at q; exact q)) k
theorem xr_idiv {a b : Int} (hz : ¬ Int32.ofInt b = 0) (hd : decode M.2.1 pc = .ok (.idiv, 1)) (k : sh_X g d M (pc + 1) lo (sh_i (i_div a b) :: st) mem K) : sh_X g d M pc lo (sh_i b :: sh_i a :: st) mem K :=
  sh_go (fun p e R s m args below meth c A H locs ls cells slots Qf C Rl z => lv_idiv C.1 C.2.1 hd hz (by have q := z; simp only [List.map_cons, sh_cv, i_div, Int32.ofInt_toInt] at q; exact q)) k
theorem xr_irem {a b : Int} (hz : ¬ Int32.ofInt b = 0) (hd : decode M.2.1 pc = .ok (.irem, 1)) (k : sh_X g d M (pc + 1) lo (sh_i (i_rem a b) :: st) mem K) : sh_X g d M pc lo (sh_i b :: sh_i a :: st) mem K :=
  sh_go (fun p e R s m args below meth c A H locs ls cells slots Qf C Rl z => lv_irem C.1 C.2.1 hd hz (by have q := z; simp only [List.map_cons, sh_cv, i_rem, Int32.ofInt_toInt] at q; exact q)) k
theorem xr_ldiv {a b : Int} (hz : ¬ Int64.ofInt b = 0) (hd : decode M.2.1 pc = .ok (.ldiv, 1)) (k : sh_X g d M (pc + 1) lo (sh_l (l_div a b) :: st) mem K) : sh_X g d M pc lo (sh_l b :: sh_l a :: st) mem K :=
  sh_go (fun p e R s m args below meth c A H locs ls cells slots Qf C Rl z => lv_ldiv C.1 C.2.1 hd hz (by have q := z; simp only [List.map_cons, sh_cv, l_div, Int64.ofInt_toInt] at q; exact q)) k
theorem xr_lrem {a b : Int} (hz : ¬ Int64.ofInt b = 0) (hd : decode M.2.1 pc = .ok (.lrem, 1)) (k : sh_X g d M (pc + 1) lo (sh_l (l_rem a b) :: st) mem K) : sh_X g d M pc lo (sh_l b :: sh_l a :: st) mem K :=
  sh_go (fun p e R s m args below meth c A H locs ls cells slots Qf C Rl z => lv_lrem C.1 C.2.1 hd hz (by have q := z; simp only [List.map_cons, sh_cv, l_rem, Int64.ofInt_toInt] at q; exact q)) k
theorem xr_ineg {a : Int} (hd : decode M.2.1 pc = .ok (.ineg, 1)) (k : sh_X g d M (pc + 1) lo (sh_i (-a) :: st) mem K) : sh_X g d M pc lo (sh_i a :: st) mem K :=
  sh_go (fun p e R s m args below meth c A H locs ls cells slots Qf C Rl z => lv_ineg C.1 C.2.1 hd (by rw [← Int32.ofInt_neg]; exact z)) k
theorem xr_iushr {a b : Int} (hd : decode M.2.1 pc = .ok (.iushr, 1)) (k : sh_X g d M (pc + 1) lo (sh_i (i_ushr a b) :: st) mem K) : sh_X g d M pc lo (sh_i b :: sh_i a :: st) mem K :=
  sh_go (fun p e R s m args below meth c A H locs ls cells slots Qf C Rl z => lv_iushr C.1 C.2.1 hd (Int32.ofInt_toInt _).symm z) k
theorem xr_lshl {a b : Int} (hd : decode M.2.1 pc = .ok (.lshl, 1)) (k : sh_X g d M (pc + 1) lo (sh_l (l_shl a b) :: st) mem K) : sh_X g d M pc lo (sh_i b :: sh_l a :: st) mem K :=
  sh_go (fun p e R s m args below meth c A H locs ls cells slots Qf C Rl z => lv_lshl C.1 C.2.1 hd (Int64.ofInt_toInt _).symm z) k
theorem xr_lushr {a b : Int} (hd : decode M.2.1 pc = .ok (.lushr, 1)) (k : sh_X g d M (pc + 1) lo (sh_l (l_ushr a b) :: st) mem K) : sh_X g d M pc lo (sh_i b :: sh_l a :: st) mem K :=
  sh_go (fun p e R s m args below meth c A H locs ls cells slots Qf C Rl z => lv_lushr C.1 C.2.1 hd (Int64.ofInt_toInt _).symm z) k
theorem xr_i2l {a : Int} (hd : decode M.2.1 pc = .ok (.i2l, 1)) (k : sh_X g d M (pc + 1) lo (sh_l (i_2l a) :: st) mem K) : sh_X g d M pc lo (sh_i a :: st) mem K :=
  sh_go (fun p e R s m args below meth c A H locs ls cells slots Qf C Rl z => lv_i2l C.1 C.2.1 hd (Int64.ofInt_toInt _).symm z) k
theorem xr_l2i {a : Int} (hd : decode M.2.1 pc = .ok (.l2i, 1)) (k : sh_X g d M (pc + 1) lo (sh_i (l_2i a) :: st) mem K) : sh_X g d M pc lo (sh_l a :: st) mem K :=
  sh_go (fun p e R s m args below meth c A H locs ls cells slots Qf C Rl z => lv_l2i C.1 C.2.1 hd (Int32.ofInt_toInt _).symm z) k
theorem xr_i2b {a : Int} (hd : decode M.2.1 pc = .ok (.i2b, 1)) (k : sh_X g d M (pc + 1) lo (sh_i (i_2b a) :: st) mem K) : sh_X g d M pc lo (sh_i a :: st) mem K :=
  sh_go (fun p e R s m args below meth c A H locs ls cells slots Qf C Rl z => lv_i2b C.1 C.2.1 hd (Int32.ofInt_toInt _).symm z) k
theorem xr_i2c {a : Int} (hd : decode M.2.1 pc = .ok (.i2c, 1)) (k : sh_X g d M (pc + 1) lo (sh_i (i_2c a) :: st) mem K) : sh_X g d M pc lo (sh_i a :: st) mem K :=
  sh_go (fun p e R s m args below meth c A H locs ls cells slots Qf C Rl z => lv_i2c C.1 C.2.1 hd (Int32.ofInt_toInt _).symm z) k
theorem xr_lcmp {a b : Int} (hd : decode M.2.1 pc = .ok (.lcmp, 1)) (k : sh_X g d M (pc + 1) lo (sh_i (l_cmp a b) :: st) mem K) : sh_X g d M pc lo (sh_l b :: sh_l a :: st) mem K :=
  sh_go (fun p e R s m args below meth c A H locs ls cells slots Qf C Rl z => W.lcmp C.1 C.2.1 hd (by have q := z; simp only [List.map_cons, sh_cv, l_cmp, Int32.ofInt_toInt] at q; exact q)) k
theorem xr_dupI {a : Int} (hd : decode M.2.1 pc = .ok (.dup, 1)) (k : sh_X g d M (pc + 1) lo (sh_i a :: sh_i a :: st) mem K) : sh_X g d M pc lo (sh_i a :: st) mem K :=
  sh_go (fun p e R s m args below meth c A H locs ls cells slots Qf C Rl z => lv_dup C.1 C.2.1 hd rfl z) k
theorem xr_dupR {a : Nat} (hd : decode M.2.1 pc = .ok (.dup, 1)) (k : sh_X g d M (pc + 1) lo (sh_r a :: sh_r a :: st) mem K) : sh_X g d M pc lo (sh_r a :: st) mem K :=
  sh_go (fun p e R s m args below meth c A H locs ls cells slots Qf C Rl z => lv_dup C.1 C.2.1 hd rfl z) k
theorem xr_popI {a : Int} (hd : decode M.2.1 pc = .ok (.pop, 1)) (k : sh_X g d M (pc + 1) lo (st) mem K) : sh_X g d M pc lo (sh_i a :: st) mem K :=
  sh_go (fun p e R s m args below meth c A H locs ls cells slots Qf C Rl z => lv_pop C.1 C.2.1 hd rfl z) k
theorem xr_dup2 {a : Int} {b : Nat} (hd : decode M.2.1 pc = .ok (.dup2, 1)) (k : sh_X g d M (pc + 1) lo (sh_i a :: sh_r b :: sh_i a :: sh_r b :: st) mem K) : sh_X g d M pc lo (sh_i a :: sh_r b :: st) mem K :=
  sh_go (fun p e R s m args below meth c A H locs ls cells slots Qf C Rl z => lv_dup2_11 C.1 C.2.1 hd rfl rfl z) k
theorem xr_goto {off : Int} {tgt : Nat} (ht : (pc : Int) + off = (tgt : Int)) (hd : decode M.2.1 pc = .ok (.goto off, 3)) (k : sh_X g d M tgt lo st mem K) : sh_X g d M pc lo st mem K :=
  sh_go (fun p e R s m args below meth c A H locs ls cells slots Qf C Rl z => lv_goto C.1 C.2.1 hd ht z) k
theorem xr_icmp_eq {a b a' b' off : Int} {tgt : Nat} (ha : i3 a = a') (hb : i3 b = b') (ht : (pc : Int) + off = (tgt : Int)) (hd : decode M.2.1 pc = .ok (.if_icmp .eq off, 3)) (k : (a' = b' → sh_X g d M tgt lo st mem K) ∧ (¬ a' = b' → sh_X g d M (pc + 3) lo st mem K)) : sh_X g d M pc lo (sh_i b :: sh_i a :: st) mem K := by
  subst ha; subst hb
  exact fun p e R s m args below meth c A H locs ls cells slots Qf C Rl hk => lv_icmp_eq C.1 C.2.1 hd ht (fun h => k.1 (by first | exact (i3_eq _ _).mp h | exact fun q => h ((i3_eq _ _).mpr q)) p e R s m args below meth c A H locs ls cells slots Qf C Rl hk) (fun h => k.2 (by first | exact (i3_eq _ _).mp h | exact fun q => h ((i3_eq _ _).mpr q)) p e R s m args below meth c A H locs ls cells slots Qf C Rl hk)
theorem xr_if_eq {a a' off : Int} {tgt : Nat} (ha : i3 a = a') (ht : (pc : Int) + off = (tgt : Int)) (hd : decode M.2.1 pc = .ok (.ifCond .eq off, 3)) (k : (a' = 0 → sh_X g d M tgt lo st mem K) ∧ (¬ a' = 0 → sh_X g d M (pc + 3) lo st mem K)) : sh_X g d M pc lo (sh_i a :: st) mem K := by
  subst ha
  exact fun p e R s m args below meth c A H locs ls cells slots Qf C Rl hk => lv_if_eq C.1 C.2.1 hd ht (fun h => k.1 (by first | exact (i3_eq0 _).mp h | exact fun q => h ((i3_eq0 _).mpr q)) p e R s m args below meth c A H locs ls cells slots Qf C Rl hk) (fun h => k.2 (by first | exact (i3_eq0 _).mp h | exact fun q => h ((i3_eq0 _).mpr q)) p e R s m args below meth c A H locs ls cells slots Qf C Rl hk)
theorem xr_icmp_ne {a b a' b' off : Int} {tgt : Nat} (ha : i3 a = a') (hb : i3 b = b') (ht : (pc : Int) + off = (tgt : Int)) (hd : decode M.2.1 pc = .ok (.if_icmp .ne off, 3)) (k : (¬ a' = b' → sh_X g d M tgt lo st mem K) ∧ (a' = b' → sh_X g d M (pc + 3) lo st mem K)) : sh_X g d M pc lo (sh_i b :: sh_i a :: st) mem K := by
  subst ha; subst hb
  exact fun p e R s m args below meth c A H locs ls cells slots Qf C Rl hk => lv_icmp_ne C.1 C.2.1 hd ht (fun h => k.1 (by first | exact (i3_eq _ _).mp h | exact fun q => h ((i3_eq _ _).mpr q)) p e R s m args below meth c A H locs ls cells slots Qf C Rl hk) (fun h => k.2 (by first | exact (i3_eq _ _).mp h | exact fun q => h ((i3_eq _ _).mpr q)) p e R s m args below meth c A H locs ls cells slots Qf C Rl hk)
theorem xr_if_ne {a a' off : Int} {tgt : Nat} (ha : i3 a = a') (ht : (pc : Int) + off = (tgt : Int)) (hd : decode M.2.1 pc = .ok (.ifCond .ne off, 3)) (k : (¬ a' = 0 → sh_X g d M tgt lo st mem K) ∧ (a' = 0 → sh_X g d M (pc + 3) lo st mem K)) : sh_X g d M pc lo (sh_i a :: st) mem K := by
  subst ha
  exact fun p e R s m args below meth c A H locs ls cells slots Qf C Rl hk => lv_if_ne C.1 C.2.1 hd ht (fun h => k.1 (by first | exact (i3_eq0 _).mp h | exact fun q => h ((i3_eq0 _).mpr q)) p e R s m args below meth c A H locs ls cells slots Qf C Rl hk) (fun h => k.2 (by first | exact (i3_eq0 _).mp h | exact fun q => h ((i3_eq0 _).mpr q)) p e R s m args below meth c A H locs ls cells slots Qf C Rl hk)
theorem xr_icmp_lt {a b a' b' off : Int} {tgt : Nat} (ha : i3 a = a') (hb : i3 b = b') (ht : (pc : Int) + off = (tgt : Int)) (hd : decode M.2.1 pc = .ok (.if_icmp .lt off, 3)) (k : (a' < b' → sh_X g d M tgt lo st mem K) ∧ (¬ a' < b' → sh_X g d M (pc + 3) lo st mem K)) : sh_X g d M pc lo (sh_i b :: sh_i a :: st) mem K := by
  subst ha; subst hb
  exact fun p e R s m args below meth c A H locs ls cells slots Qf C Rl hk => lv_icmp_lt C.1 C.2.1 hd ht (fun h => k.1 (by first | exact (i3_lt _ _).mp h | exact fun q => h ((i3_lt _ _).mpr q)) p e R s m args below meth c A H locs ls cells slots Qf C Rl hk) (fun h => k.2 (by first | exact (i3_lt _ _).mp h | exact fun q => h ((i3_lt _ _).mpr q)) p e R s m args below meth c A H locs ls cells slots Qf C Rl hk)
theorem xr_if_lt {a a' off : Int} {tgt : Nat} (ha : i3 a = a') (ht : (pc : Int) + off = (tgt : Int)) (hd : decode M.2.1 pc = .ok (.ifCond .lt off, 3)) (k : (a' < 0 → sh_X g d M tgt lo st mem K) ∧ (¬ a' < 0 → sh_X g d M (pc + 3) lo st mem K)) : sh_X g d M pc lo (sh_i a :: st) mem K := by
  subst ha
  exact fun p e R s m args below meth c A H locs ls cells slots Qf C Rl hk => lv_if_lt C.1 C.2.1 hd ht (fun h => k.1 (by first | exact (i3_lt0 _).mp h | exact fun q => h ((i3_lt0 _).mpr q)) p e R s m args below meth c A H locs ls cells slots Qf C Rl hk) (fun h => k.2 (by first | exact (i3_lt0 _).mp h | exact fun q => h ((i3_lt0 _).mpr q)) p e R s m args below meth c A H locs ls cells slots Qf C Rl hk)
theorem xr_icmp_ge {a b a' b' off : Int} {tgt : Nat} (ha : i3 a = a') (hb : i3 b = b') (ht : (pc : Int) + off = (tgt : Int)) (hd : decode M.2.1 pc = .ok (.if_icmp .ge off, 3)) (k : (b' ≤ a' → sh_X g d M tgt lo st mem K) ∧ (¬ b' ≤ a' → sh_X g d M (pc + 3) lo st mem K)) : sh_X g d M pc lo (sh_i b :: sh_i a :: st) mem K := by
  subst ha; subst hb
  exact fun p e R s m args below meth c A H locs ls cells slots Qf C Rl hk => lv_icmp_ge C.1 C.2.1 hd ht (fun h => k.1 (by first | exact (i3_le _ _).mp h | exact fun q => h ((i3_le _ _).mpr q)) p e R s m args below meth c A H locs ls cells slots Qf C Rl hk) (fun h => k.2 (by first | exact (i3_le _ _).mp h | exact fun q => h ((i3_le _ _).mpr q)) p e R s m args below meth c A H locs ls cells slots Qf C Rl hk)
theorem xr_if_ge {a a' off : Int} {tgt : Nat} (ha : i3 a = a') (ht : (pc : Int) + off = (tgt : Int)) (hd : decode M.2.1 pc = .ok (.ifCond .ge off, 3)) (k : (0 ≤ a' → sh_X g d M tgt lo st mem K) ∧ (¬ 0 ≤ a' → sh_X g d M (pc + 3) lo st mem K)) : sh_X g d M pc lo (sh_i a :: st) mem K := by
  subst ha
  exact fun p e R s m args below meth c A H locs ls cells slots Qf C Rl hk => lv_if_ge C.1 C.2.1 hd ht (fun h => k.1 (by first | exact (i3_0le _).mp h | exact fun q => h ((i3_0le _).mpr q)) p e R s m args below meth c A H locs ls cells slots Qf C Rl hk) (fun h => k.2 (by first | exact (i3_0le _).mp h | exact fun q => h ((i3_0le _).mpr q)) p e R s m args below meth c A H locs ls cells slots Qf C Rl hk)
theorem xr_icmp_gt {a b a' b' off : Int} {tgt : Nat} (ha : i3 a = a') (hb : i3 b = b') (ht : (pc : Int) + off = (tgt : Int)) (hd : decode M.2.1 pc = .ok (.if_icmp .gt off, 3)) (k : (b' < a' → sh_X g d M tgt lo st mem K) ∧ (¬ b' < a' → sh_X g d M (pc + 3) lo st mem K)) : sh_X g d M pc lo (sh_i b :: sh_i a :: st) mem K := by
  subst ha; subst hb
  exact fun p e R s m args below meth c A H locs ls cells slots Qf C Rl hk => lv_icmp_gt C.1 C.2.1 hd ht (fun h => k.1 (by first | exact (i3_lt _ _).mp h | exact fun q => h ((i3_lt _ _).mpr q)) p e R s m args below meth c A H locs ls cells slots Qf C Rl hk) (fun h => k.2 (by first | exact (i3_lt _ _).mp h | exact fun q => h ((i3_lt _ _).mpr q)) p e R s m args below meth c A H locs ls cells slots Qf C Rl hk)
theorem xr_if_gt {a a' off : Int} {tgt : Nat} (ha : i3 a = a') (ht : (pc : Int) + off = (tgt : Int)) (hd : decode M.2.1 pc = .ok (.ifCond .gt off, 3)) (k : (0 < a' → sh_X g d M tgt lo st mem K) ∧ (¬ 0 < a' → sh_X g d M (pc + 3) lo st mem K)) : sh_X g d M pc lo (sh_i a :: st) mem K := by
  subst ha
  exact fun p e R s m args below meth c A H locs ls cells slots Qf C Rl hk => lv_if_gt C.1 C.2.1 hd ht (fun h => k.1 (by first | exact (i3_0lt _).mp h | exact fun q => h ((i3_0lt _).mpr q)) p e R s m args below meth c A H locs ls cells slots Qf C Rl hk) (fun h => k.2 (by first | exact (i3_0lt _).mp h | exact fun q => h ((i3_0lt _).mpr q)) p e R s m args below meth c A H locs ls cells slots Qf C Rl hk)
theorem xr_icmp_le {a b a' b' off : Int} {tgt : Nat} (ha : i3 a = a') (hb : i3 b = b') (ht : (pc : Int) + off = (tgt : Int)) (hd : decode M.2.1 pc = .ok (.if_icmp .le off, 3)) (k : (a' ≤ b' → sh_X g d M tgt lo st mem K) ∧ (¬ a' ≤ b' → sh_X g d M (pc + 3) lo st mem K)) : sh_X g d M pc lo (sh_i b :: sh_i a :: st) mem K := by
  subst ha; subst hb
  exact fun p e R s m args below meth c A H locs ls cells slots Qf C Rl hk => lv_icmp_le C.1 C.2.1 hd ht (fun h => k.1 (by first | exact (i3_le _ _).mp h | exact fun q => h ((i3_le _ _).mpr q)) p e R s m args below meth c A H locs ls cells slots Qf C Rl hk) (fun h => k.2 (by first | exact (i3_le _ _).mp h | exact fun q => h ((i3_le _ _).mpr q)) p e R s m args below meth c A H locs ls cells slots Qf C Rl hk)
theorem xr_if_le {a a' off : Int} {tgt : Nat} (ha : i3 a = a') (ht : (pc : Int) + off = (tgt : Int)) (hd : decode M.2.1 pc = .ok (.ifCond .le off, 3)) (k : (a' ≤ 0 → sh_X g d M tgt lo st mem K) ∧ (¬ a' ≤ 0 → sh_X g d M (pc + 3) lo st mem K)) : sh_X g d M pc lo (sh_i a :: st) mem K := by
  subst ha
  exact fun p e R s m args below meth c A H locs ls cells slots Qf C Rl hk => lv_if_le C.1 C.2.1 hd ht (fun h => k.1 (by first | exact (i3_le0 _).mp h | exact fun q => h ((i3_le0 _).mpr q)) p e R s m args below meth c A H locs ls cells slots Qf C Rl hk) (fun h => k.2 (by first | exact (i3_le0 _).mp h | exact fun q => h ((i3_le0 _).mpr q)) p e R s m args below meth c A H locs ls cells slots Qf C Rl hk)
theorem xr_tabIn {a dflt low high off : Int} {offs : Array Int} {len tgt : Nat} (v : Int) (hv : i3 a = v) (h1 : low ≤ v) (h2 : v ≤ high) (ho : offs[(v - low).toNat]? = some off) (ht : (pc : Int) + off = (tgt : Int)) (hd : decode M.2.1 pc = .ok (.tableswitch dflt low high offs, len)) (k : sh_X g d M tgt lo st mem K) : sh_X g d M pc lo (sh_i a :: st) mem K := by
  subst hv
  exact sh_go (fun p e R s m args below meth c A H locs ls cells slots Qf C Rl z => lv_tableIn C.1 C.2.1 hd (by show ¬ i3 a < low; omega) (by show ¬ high < i3 a; omega) ho ht z) k
theorem xr_tabOut {a dflt low high : Int} {offs : Array Int} {len tgt : Nat} (h : i3 a < low ∨ high < i3 a) (ht : (pc : Int) + dflt = (tgt : Int)) (hd : decode M.2.1 pc = .ok (.tableswitch dflt low high offs, len)) (k : sh_X g d M tgt lo st mem K) : sh_X g d M pc lo (sh_i a :: st) mem K :=
  sh_go (fun p e R s m args below meth c A H locs ls cells slots Qf C Rl z => lv_tableOut C.1 C.2.1 hd h ht z) k

/-- the locals behind a store of one slot, of two -/
def sh_isl (v : sh_V) : Bool := match v with | .inr (.inl _) => true | _ => false
def sh_s1 (lo : List (Nat × sh_V)) (i : Nat) (v : sh_V) : List (Nat × sh_V) := (i, v) :: lo.filter (fun q => !(q.1 == i) && !(q.1 + 1 == i && sh_isl q.2))
def sh_s2 (lo : List (Nat × sh_V)) (i : Nat) (v : sh_V) : List (Nat × sh_V) := (i, v) :: lo.filter (fun q => !(q.1 == i) && (!(q.1 == i + 1) && !(q.1 + 1 == i && sh_isl q.2)))
theorem sh_isl_cv (v : sh_V) : ((sh_cv g v).category == 2) = sh_isl v := by
  rcases v with x | x | x <;> rfl
theorem sh_s1_map (i : Nat) (v : sh_V) : (i, sh_cv g v) :: (lo.map (sh_cl1 g)).filter (fun q => !(q.1 == i) && !(q.1 + 1 == i && q.2.category == 2)) = (sh_s1 lo i v).map (sh_cl1 g) := by
  unfold sh_s1
  rw [List.map_cons, List.filter_map]
  congr 2
  refine List.filter_congr fun q _ => ?_
  simp only [Function.comp, sh_isl_cv]
theorem sh_s2_map (i : Nat) (v : sh_V) : (i, sh_cv g v) :: (lo.map (sh_cl1 g)).filter (fun q => !(q.1 == i) && (!(q.1 == i + 1) && !(q.1 + 1 == i && q.2.category == 2))) = (sh_s2 lo i v).map (sh_cl1 g) := by
  unfold sh_s2
  rw [List.map_cons, List.filter_map]
  congr 2
  refine List.filter_congr fun q _ => ?_
  simp only [Function.comp, sh_isl_cv]
theorem xr_istore {i : Nat} {x : Int} {lo' : List (Nat × sh_V)} (hn : i < M.2.2.1) (he : sh_s1 lo i (sh_i x) = lo') (hd : decode M.2.1 pc = .ok (.istore i, 2)) (k : sh_X g d M (pc + 2) lo' st mem K) : sh_X g d M pc lo (sh_i x :: st) mem K :=
  fun p e R s m args below meth c A H locs ls cells slots Qf C Rl hk => lv_istore C.1 C.2.1 hd Rl.2.2 hn (sh_s1_map i (sh_i x)) (fun ls h => k p e R s m args below meth c A H locs ls cells slots Qf C ⟨Rl.1, Rl.2.1, he ▸ h⟩ hk)
theorem xr_istore_n {n : Fin 4} {i : Nat} {x : Int} {lo' : List (Nat × sh_V)} (hi : (n : Nat) = i) (hn : i < M.2.2.1) (he : sh_s1 lo i (sh_i x) = lo') (hd : decode M.2.1 pc = .ok (.istore_n n, 1)) (k : sh_X g d M (pc + 1) lo' st mem K) : sh_X g d M pc lo (sh_i x :: st) mem K :=
  fun p e R s m args below meth c A H locs ls cells slots Qf C Rl hk => lv_istore_n C.1 C.2.1 hd hi Rl.2.2 hn (sh_s1_map i (sh_i x)) (fun ls h => k p e R s m args below meth c A H locs ls cells slots Qf C ⟨Rl.1, Rl.2.1, he ▸ h⟩ hk)
theorem xr_astore {i : Nat} {x : Nat} {lo' : List (Nat × sh_V)} (hn : i < M.2.2.1) (he : sh_s1 lo i (sh_r x) = lo') (hd : decode M.2.1 pc = .ok (.astore i, 2)) (k : sh_X g d M (pc + 2) lo' st mem K) : sh_X g d M pc lo (sh_r x :: st) mem K :=
  fun p e R s m args below meth c A H locs ls cells slots Qf C Rl hk => lv_astore C.1 C.2.1 hd Rl.2.2 hn (sh_s1_map i (sh_r x)) (fun ls h => k p e R s m args below meth c A H locs ls cells slots Qf C ⟨Rl.1, Rl.2.1, he ▸ h⟩ hk)
theorem xr_astore_n {n : Fin 4} {i : Nat} {x : Nat} {lo' : List (Nat × sh_V)} (hi : (n : Nat) = i) (hn : i < M.2.2.1) (he : sh_s1 lo i (sh_r x) = lo') (hd : decode M.2.1 pc = .ok (.astore_n n, 1)) (k : sh_X g d M (pc + 1) lo' st mem K) : sh_X g d M pc lo (sh_r x :: st) mem K :=
  fun p e R s m args below meth c A H locs ls cells slots Qf C Rl hk => lv_astore_n C.1 C.2.1 hd hi Rl.2.2 hn (sh_s1_map i (sh_r x)) (fun ls h => k p e R s m args below meth c A H locs ls cells slots Qf C ⟨Rl.1, Rl.2.1, he ▸ h⟩ hk)
theorem xr_lstore {i : Nat} {x : Int} {lo' : List (Nat × sh_V)} (hn : i + 1 < M.2.2.1) (he : sh_s2 lo i (sh_l x) = lo') (hd : decode M.2.1 pc = .ok (.lstore i, 2)) (k : sh_X g d M (pc + 2) lo' st mem K) : sh_X g d M pc lo (sh_l x :: st) mem K :=
  fun p e R s m args below meth c A H locs ls cells slots Qf C Rl hk => lv_lstore C.1 C.2.1 hd Rl.2.2 hn (sh_s2_map i (sh_l x)) (fun ls h => k p e R s m args below meth c A H locs ls cells slots Qf C ⟨Rl.1, Rl.2.1, he ▸ h⟩ hk)
theorem xr_lstore_n {n : Fin 4} {i : Nat} {x : Int} {lo' : List (Nat × sh_V)} (hi : (n : Nat) = i) (hn : i + 1 < M.2.2.1) (he : sh_s2 lo i (sh_l x) = lo') (hd : decode M.2.1 pc = .ok (.lstore_n n, 1)) (k : sh_X g d M (pc + 1) lo' st mem K) : sh_X g d M pc lo (sh_l x :: st) mem K :=
  fun p e R s m args below meth c A H locs ls cells slots Qf C Rl hk => lv_lstore_n C.1 C.2.1 hd hi Rl.2.2 hn (sh_s2_map i (sh_l x)) (fun ls h => k p e R s m args below meth c A H locs ls cells slots Qf C ⟨Rl.1, Rl.2.1, he ▸ h⟩ hk)
theorem xr_iinc {i : Nat} {n x : Int} {lo' : List (Nat × sh_V)} (hm : (i, sh_i x) ∈ lo) (hn : i < M.2.2.1) (he : sh_s1 lo i (sh_i (x + n)) = lo') (hd : decode M.2.1 pc = .ok (.iinc i n, 3)) (k : sh_X g d M (pc + 3) lo' st mem K) : sh_X g d M pc lo st mem K := by
  intro p e R s m args below meth c A H locs ls cells slots Qf C Rl hk
  obtain ⟨q, hq⟩ := List.getElem?_of_mem hm
  exact lv_iinc C.1 C.2.1 hd Rl.2.2 (k := q) (by rw [List.getElem?_map, hq]; rfl) (Int32.ofInt_add x n).symm hn (sh_s1_map i (sh_i (x + n))) (fun ls h => k p e R s m args below meth c A H locs ls cells slots Qf C ⟨Rl.1, Rl.2.1, he ▸ h⟩ hk)
end XR
