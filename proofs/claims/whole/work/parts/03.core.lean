/-! ===== THE ABSTRACT MACHINE: values, memory, the world of the cells ===== -/
/-- an int, a long, a reference (the number of a cell; 1000 + i: the i-th text, 2000 + i: its bytes). Numbers are whole numbers that stand for what is left of them. -/
abbrev sh_V : Type := Int ⊕ (Int ⊕ Nat)
abbrev sh_i (x : Int) : sh_V := .inl x
abbrev sh_l (x : Int) : sh_V := .inr (.inl x)
abbrev sh_r (a : Nat) : sh_V := .inr (.inr a)
abbrev sh_Mem : Type := Nat → Nat → Int
/-- launch, classes' numbers, the base, array classes, texts, their bytes -/
abbrev sh_G : Type := Launch × va_G × Nat × (Nat → ClassId) × (Nat → Nat) × (Nat → Nat)
abbrev sh_M : Type := MethodName × ByteArray × Nat × Option FieldType
def sh_ad (g : sh_G) (a : Nat) : Nat := if a < 1000 then g.2.2.1 + a else if a < 2000 then g.2.2.2.2.1 (a - 1000) else g.2.2.2.2.2 (a - 2000)
def sh_cv (g : sh_G) : sh_V → Value
  | .inl x => .int (Int32.ofInt x)
  | .inr (.inl x) => .long (Int64.ofInt x)
  | .inr (.inr a) => .ref (sh_ad g a)
def sh_shp (a : Nat) : Option (Nat ⊕ (Nat × Nat)) := if a = 0 then none else sh_shl[a - 1]?
def sh_nf (ci : Nat) : Nat := (sh_ftl.getD ci []).length
def sh_ft (ci k : Nat) : Nat := (sh_ftl.getD ci []).getD k 0
def sh_fv (g : sh_G) (a t : Nat) (x : Int) : Value :=
  if t = 1 then .long (Int64.ofInt x) else if t = 2 then .ref (sh_ad g x.toNat) else if t = 6 then .ref (sh_ad g 2) else if 10 ≤ t then .ref (sh_ad g (a + (t - 10))) else .int (Int32.ofInt x)
def sh_ac (g : sh_G) (t : Nat) (f : Nat → Int) : (Nat → Int32) ⊕ (Nat → Int64) ⊕ (Nat → UInt32) ⊕ (Nat → UInt64) ⊕ (Nat → Option Nat) :=
  if t = 1 then .inr (.inl fun j => Int64.ofInt (f j)) else if t = 2 then .inr (.inr (.inr (.inr fun j => if j < 4 then some (sh_ad g (52 + 11 * j)) else none))) else .inl fun j => Int32.ofInt (f j)
def sh_fs (g : sh_G) (ci a : Nat) (r : Nat → Int) : List Value := (List.range (sh_nf ci)).map fun k => sh_fv g a (sh_ft ci k) (r k)
def sh_cel (g : sh_G) (mem : sh_Mem) (a : Nat) : va_E := match sh_shp a with
  | some (.inl ci) => .inr (ci, sh_fs g ci a (mem a))
  | some (.inr q) => .inl (g.2.2.2.1 q.1, q.2, sh_ac g q.1 (mem a))
  | none => .inr (0, [])
def sh_tys (g : sh_G) : List (ClassId × FieldType) := [(g.2.2.2.1 0, .int), (g.2.2.2.1 1, .long), (g.2.2.2.1 2, .object "StolenHolidays$Mark"), (g.2.2.2.1 3, .boolean), (g.2.2.2.1 4, .byte)]
def sh_w (g : sh_G) (mem : sh_Mem) : va_W := (List.range sh_nc).map fun i => (sh_ad g (i + 1), sh_cel g mem (i + 1))
/-- the cells of the world -/
def sh_A (g : sh_G) (q : Nat) : Prop := g.2.2.1 < q ∧ q ≤ g.2.2.1 + sh_nc
/-- one cell's row is another -/
def ms (mem : sh_Mem) (a : Nat) (r : Nat → Int) : sh_Mem := fun b => if b = a then r else mem b
def ru (r : Nat → Int) (i : Nat) (x : Int) : Nat → Int := fun j => if j = i then x else r j
theorem ms_s (mem : sh_Mem) (a : Nat) (r : Nat → Int) : ms mem a r a = r := if_pos rfl
theorem ms_n (mem : sh_Mem) {a b : Nat} (r : Nat → Int) (h : b ≠ a) : ms mem a r b = mem b := if_neg h
theorem ms_ms (mem : sh_Mem) (a : Nat) (r r2 : Nat → Int) : ms (ms mem a r) a r2 = ms mem a r2 := by
  funext b; unfold ms; split <;> rfl
theorem ms_id (mem : sh_Mem) (a : Nat) : ms mem a (mem a) = mem := by
  funext b; unfold ms; split
  · rename_i h; rw [h]
  · rfl
theorem ms_sw (mem : sh_Mem) {a b : Nat} (r r2 : Nat → Int) (h : a ≠ b) : ms (ms mem a r) b r2 = ms (ms mem b r2) a r := by
  funext c; unfold ms
  by_cases h1 : c = b
  · subst h1; rw [if_pos rfl, if_neg (Ne.symm h), if_pos rfl]
  · rw [if_neg h1]; by_cases h2 : c = a
    · rw [if_pos h2, if_pos h2]
    · rw [if_neg h2, if_neg h2, if_neg h1]
theorem ru_s (r : Nat → Int) (i : Nat) (x : Int) : ru r i x i = x := if_pos rfl
theorem ru_n (r : Nat → Int) {i j : Nat} (x : Int) (h : j ≠ i) : ru r i x j = r j := if_neg h
theorem sh_shp_lt {a : Nat} {q} (h : sh_shp a = some q) : 1 ≤ a ∧ a ≤ sh_nc := by
  unfold sh_shp at h
  by_cases h0 : a = 0
  · rw [if_pos h0] at h; cases h
  · rw [if_neg h0] at h
    have h1 := (List.getElem?_eq_some_iff.mp h).1
    have h2 : sh_shl.length = 139 := by decide +kernel
    rw [h2] at h1
    exact ⟨by omega, by show a ≤ 139; omega⟩
theorem sh_w_get (g : sh_G) (mem : sh_Mem) {a : Nat} (h : 1 ≤ a) (h2 : a ≤ sh_nc) : (sh_w g mem)[a - 1]? = some (sh_ad g a, sh_cel g mem a) := by
  have e : a - 1 + 1 = a := by omega
  unfold sh_w
  rw [List.getElem?_map, List.getElem?_range (by omega)]
  simp only [Option.map_some, e]
theorem sh_w_set (g : sh_G) {mem mem' : sh_Mem} {a : Nat} {x : va_E} (h : 1 ≤ a) (hm : ∀ b, b ≠ a → mem' b = mem b) (hx : x = sh_cel g mem' a) : (sh_w g mem).set (a - 1) (sh_ad g a, x) = sh_w g mem' := by
  apply List.ext_getElem?
  intro i
  unfold sh_w
  by_cases hi : i < sh_nc
  · by_cases e : i = a - 1
    · subst e
      have e2 : a - 1 + 1 = a := by omega
      rw [List.getElem?_set_self (by simpa using hi), List.getElem?_map, List.getElem?_range hi, hx]
      simp only [Option.map_some, e2]
    · rw [List.getElem?_set_ne (Ne.symm e), List.getElem?_map, List.getElem?_map, List.getElem?_range hi]
      have e3 : mem' (i + 1) = mem (i + 1) := hm _ (by omega)
      simp only [Option.map_some, sh_cel, e3]
  · rw [List.getElem?_eq_none (by simpa using hi), List.getElem?_eq_none (by simpa using hi)]
theorem sh_ad_lo (g : sh_G) {a : Nat} (h : a ≤ sh_nc) : sh_ad g a = g.2.2.1 + a := if_pos (Nat.lt_of_le_of_lt h (by decide))
theorem sh_w_D (g : sh_G) (mem : sh_Mem) {A : Nat → Prop} (hA : ∀ q, sh_A g q → A q) : va_D A (sh_w g mem) := by
  have key : ∀ (k : Nat) (q : Nat × va_E), (sh_w g mem)[k]? = some q → k < sh_nc ∧ q.1 = g.2.2.1 + (k + 1) := by
    intro k q hk
    by_cases h : k < sh_nc
    · have h1 := sh_w_get g mem (a := k + 1) (by omega) (by omega)
      rw [Nat.add_sub_cancel] at h1
      rw [h1] at hk
      cases hk
      exact ⟨h, sh_ad_lo g (by omega)⟩
    · unfold sh_w at hk
      rw [List.getElem?_eq_none (by simpa using h)] at hk
      cases hk
  refine ⟨fun i j p q hi hj e => ?_, fun k q hk => hA _ ?_⟩
  · have h1 := (key i p hi).2
    have h2 := (key j q hj).2
    omega
  · obtain ⟨h1, h2⟩ := key k q hk
    rw [h2]
    exact ⟨by omega, by omega⟩
theorem sh_cel_o (g : sh_G) (mem : sh_Mem) {a ci : Nat} (h : sh_shp a = some (.inl ci)) : sh_cel g mem a = .inr (ci, sh_fs g ci a (mem a)) := by
  unfold sh_cel; rw [h]
theorem sh_cel_a (g : sh_G) (mem : sh_Mem) {a t n : Nat} (h : sh_shp a = some (.inr (t, n))) : sh_cel g mem a = .inl (g.2.2.2.1 t, n, sh_ac g t (mem a)) := by
  unfold sh_cel; rw [h]
theorem sh_fs_get (g : sh_G) {ci a k : Nat} (r : Nat → Int) (h : k < sh_nf ci) : (sh_fs g ci a r)[k]? = some (sh_fv g a (sh_ft ci k) (r k)) := by
  unfold sh_fs
  rw [List.getElem?_map, List.getElem?_range h]
  rfl
theorem sh_fs_set (g : sh_G) {ci a k : Nat} (r : Nat → Int) (x : Int) : (sh_fs g ci a r).set k (sh_fv g a (sh_ft ci k) x) = sh_fs g ci a (ru r k x) := by
  apply List.ext_getElem?
  intro i
  unfold sh_fs
  by_cases hi : i < sh_nf ci
  · by_cases e : i = k
    · subst e
      rw [List.getElem?_set_self (by simpa using hi), List.getElem?_map, List.getElem?_range hi, Option.map_some, ru_s]
    · rw [List.getElem?_set_ne (Ne.symm e), List.getElem?_map, List.getElem?_map, List.getElem?_range hi, Option.map_some, Option.map_some, ru_n _ _ e]
  · rw [List.getElem?_eq_none (by simpa using hi), List.getElem?_eq_none (by simpa using hi)]
