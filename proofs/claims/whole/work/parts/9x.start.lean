/-! ===== THE START: what is given, the classes' numbers, the texts ===== -/
theorem sy_pick {α : Type} {ws L : List α} (ps : List Nat) (hp : ws = ps.filterMap (fun i => L[i]?)) : ∀ x ∈ ws, x ∈ L := by
  intro x hx
  rw [hp] at hx
  obtain ⟨i, -, hi⟩ := List.mem_filterMap.mp hx
  exact List.mem_of_getElem? hi
abbrev sy_FL : List Cond := flatC (Jvm.Cond.and given_1 narrow_1)
def sy_tm (i : Nat) : Term := .string (sh_sr.getD i ("", 0, "")).1 (sh_sr.getD i ("", 0, "")).2.1
def sy_v (i : Nat) : Term := .field (sy_tm i) "java/lang/String" "value" "[B"
def sy_el (i j : Nat) : Cond := .eq (.elem (sy_v i) (.int (Int32.ofNat j))) (.int ((sh_byt.getD i []).getD j 0))
def sy_ne (i j : Nat) : Cond := .not (.eq (sy_tm j) (sy_tm i))
def sy_4 (i : Nat) : List Cond := [.exactly (sy_tm i) "java/lang/String", .eq (.field (sy_tm i) "java/lang/String" "coder" "B") (.int 0), .arrayOf (sy_v i) .byte, .eq (.length (sy_v i)) (.int (Int32.ofNat (sh_len.getD i 0)))]
def sy_1 (i : Nat) : List Cond := sy_4 i ++ ((List.range (sh_len.getD i 0)).map (sy_el i) ++ (List.range i).map (sy_ne i))
theorem sy_all : sy_FL.drop 24 = (List.range 3).flatMap sy_1 := by decide +kernel
theorem sy_mem {x : Cond} {i : Nat} (hi : i < 3) (h : x ∈ sy_1 i) : x ∈ sy_FL := by
  have h2 : x ∈ (List.range 3).flatMap sy_1 := List.mem_flatMap.mpr ⟨i, List.mem_range.mpr hi, h⟩
  rw [← sy_all] at h2
  exact List.mem_of_mem_drop h2
theorem sy_mem4 {x : Cond} {i : Nat} (hi : i < 3) (h : x ∈ sy_4 i) : x ∈ sy_FL := sy_mem hi (List.mem_append_left _ h)
theorem sy_S {args : Array Value} {s : State} {A : Nat → Prop} (hg : (Jvm.Cond.and given_1 narrow_1).before args s = true) (hA : ∀ a : Nat, a < s.heap.size → ¬ A a) : ∃ adK adV : Nat → Nat, vk_S sh_nS sh_len sh_byt adK adV A s s.heap ∧ ∀ i : Nat, i < 3 → (sy_tm i).eval args s none [] s = some (.ref (adK i)) := by
  have hs := flat_of_before _ hg
  refine vk_Sof (N := 3) (tm := sy_tm) (len := sh_len) (byt := sh_byt) (by decide) (fun i hi => hs _ (sy_mem4 hi (List.mem_of_getElem? (i := 0) rfl))) (fun i hi => hs _ (sy_mem4 hi (List.mem_of_getElem? (i := 1) rfl))) (fun i hi => hs _ (sy_mem4 hi (List.mem_of_getElem? (i := 2) rfl))) (fun i hi => hs _ (sy_mem4 hi (List.mem_of_getElem? (i := 3) rfl))) (fun i hi j hj => hs (sy_el i j) (sy_mem hi (List.mem_append_right _ (List.mem_append_left _ (List.mem_map_of_mem (List.mem_range.mpr hj)))))) (fun i j hi hj hne => ?_) hA
  rcases Nat.lt_or_ge i j with h | h
  · exact Or.inl (hs (sy_ne j i) (sy_mem hj (List.mem_append_right _ (List.mem_append_right _ (List.mem_map_of_mem (List.mem_range.mpr h))))))
  · exact Or.inr (hs (sy_ne i j) (sy_mem hi (List.mem_append_right _ (List.mem_append_right _ (List.mem_map_of_mem (List.mem_range.mpr (by omega)))))))
theorem sy_sr_in : ∀ x ∈ sh_sr.map (fun q => Cond.stringRef q.1 q.2.1 q.2.2), x ∈ lw_tbl := sy_pick [523, 610, 636] (by decide +kernel)
theorem sy_R {args : Array Value} {s : State} {adK : Nat → Nat} (hts : ∀ x ∈ lw_tbl, x.before args s = true) (h : ∀ i : Nat, i < 3 → (sy_tm i).eval args s none [] s = some (.ref (adK i))) : ∀ i q, sh_sr[i]? = some q → vk_R q.1 q.2.1 q.2.2 (adK i) s := by
  intro i q hq
  have hi : i < 3 := (List.getElem?_eq_some_iff.mp hq).1
  have e : sh_sr.getD i ("", 0, "") = q := by rw [List.getD_eq_getElem?_getD, hq]; rfl
  have h2 := h i hi
  unfold sy_tm at h2
  rw [e] at h2
  exact vk_R.of (hts _ (sy_sr_in _ (List.mem_map_of_mem (f := fun q => Cond.stringRef q.1 q.2.1 q.2.2) (List.mem_of_getElem? hq)))) h2
theorem sy_one {args : Array Value} {s : State} {ci N : Nat} {C0 : String} {T : u_T} {ty0 : Nat → FieldType} (hts : ∀ x ∈ lw_g, x.before args s = true) (hf : sh_CF ci C0 T N ty0) (hi : Cond.instantiable C0 N ∈ lw_g) : ∃ q2 : ClassId × (Nat → Nat), ∀ q : vw_C, sh_cl[ci]? = some q → u_Kn s q.1 q.2.1 q.2.2 q2.1 q2.2 := by
  obtain ⟨cC, iS, h⟩ := u_known hts hf.2.2.1 (hts _ hi)
  refine ⟨(cC, iS), fun q hq => ?_⟩
  rw [hf.1] at hq
  cases hq
  exact h
theorem sy_D {args : Array Value} {s : State} (hts : ∀ x ∈ lw_g, x.before args s = true) : ∃ D : va_G, ∀ (c : Nat) (q : vw_C), sh_cl[c]? = some q → u_Kn s q.1 q.2.1 q.2.2 (D.1 c) (D.2 c) := by
  have h0 : ∀ c : Nat, ∃ q2 : ClassId × (Nat → Nat), ∀ q : vw_C, sh_cl[c]? = some q → u_Kn s q.1 q.2.1 q.2.2 q2.1 q2.2 := by
    intro c
    match c with
    | 0 => exact sy_one hts cf_X0 it_Alm
    | 1 => exact sy_one hts cf_X1 it_Gang
    | 2 => exact sy_one hts cf_X2 it_Law
    | 3 => exact sy_one hts cf_X3 it_Mark
    | 4 => exact sy_one hts cf_X4 it_Past
    | 5 => exact sy_one hts cf_X5 it_Read
    | 6 => exact sy_one hts cf_X6 it_Seen
    | 7 => exact sy_one hts cf_X7 it_Spr
    | 8 => exact sy_one hts cf_X8 it_State
    | 9 => exact sy_one hts cf_X9 it_Tape
    | 10 => exact sy_one hts cf_X10 it_Year
    | 11 => exact sy_one hts cf_X11 it_Sto
    | 12 => exact sy_one hts cf_X12 it_Mod
    | c + 13 =>
      refine ⟨(0, fun _ => 0), fun q hq => ?_⟩
      rw [List.getElem?_eq_none (show sh_cl.length ≤ c + 13 from Nat.le_add_left 13 c)] at hq
      cases hq
  obtain ⟨f, hf⟩ := Classical.axiomOfChoice h0
  exact ⟨(fun c => (f c).1, fun c => (f c).2), fun c q hq => hf c q hq⟩
theorem sy_arr {s : State} {ty : FieldType} {c : ClassId} {k : Class} {comp : ClassId} (h2 : s.vm.classes[c]? = some k) (h3 : k.kind = .array comp ty) : ArrOfT s c ty := fun n z => ⟨(fun k h => by cases h), k, h2, comp, h3⟩
def sy_ws : List Cond := [.arrayOver (.object "StolenHolidays$Mark"), .methodLinkNest "StolenHolidays$Reader" 76 ⟨"StolenHolidays", "isWithin", "(III)Z"⟩ "StolenHolidays", .laysStatic "java/lang/String" "COMPACT_STRINGS" "Z", .initialized "java/lang/String", .laysStatic "jdk/internal/util/Preconditions" "SIOOBE_FORMATTER" "Ljava/util/function/BiFunction;", .initialized "jdk/internal/util/Preconditions", .laysStatic Bundle.tN "UNASSIGNED_STACK" Bundle.steD, .laysStatic Bundle.tN "SUPPRESSED_SENTINEL" Bundle.listD, .initialized Bundle.tN, .declares (Bundle.init0 "java/lang/RuntimeException"), .declares (Bundle.init0 "java/lang/Exception"), .declares (Bundle.init0 Bundle.tN), .castable rsN rsN]
theorem sy_ws_in : ∀ x ∈ sy_ws, x ∈ lw_tbl := sy_pick [292, 662, 537, 113, 580, 117, 1177, 1179, 121, 1153, 1155, 1157, 1152] (by decide +kernel)
theorem sy_ns_in : ∀ x ∈ ck_ns.map (fun q => Cond.methodLinkNest q.1 q.2.1 q.2.2 "StolenHolidays"), x ∈ lw_tbl := sy_pick [135, 193, 207, 224, 245, 263, 301, 385, 406, 411, 413, 415, 295] (by decide +kernel)
def sy_gs : List Cond := [.eq (.static "java/lang/String" "COMPACT_STRINGS" "Z") (.int 1), .isRef (.static "jdk/internal/util/Preconditions" "SIOOBE_FORMATTER" "Ljava/util/function/BiFunction;"), .isRef (.static Bundle.tN "UNASSIGNED_STACK" Bundle.steD), .isRef (.static Bundle.tN "SUPPRESSED_SENTINEL" Bundle.listD)]
theorem sy_gs_in : ∀ x ∈ sy_gs, x ∈ sy_FL := sy_pick [4, 5, 9, 10] (by decide +kernel)
theorem sy_G {args : Array Value} {s : State} (l : Launch) (b : Nat) (hts : ∀ x ∈ lw_tbl, x.before args s = true) (hg : (Jvm.Cond.and given_1 narrow_1).before args s = true) : ∃ g : sh_G, g.1 = l ∧ g.2.2.1 = s.heap.size - 1 ∧ g.2.2.2.2.2 900 = b ∧ ck_E g s ∧ rs_E g (fun q => s.heap.size ≤ q) s s.heap := by
  have htg : ∀ x ∈ lw_g, x.before args s = true := fun x hx => hts x (List.mem_filter.mp hx).1
  have hA : ∀ a : Nat, a < s.heap.size → ¬ (fun q : Nat => s.heap.size ≤ q) a := fun a h => Nat.not_le.mpr h
  have hs := flat_of_before _ hg
  obtain ⟨adK, adV, hS, hE⟩ := sy_S (A := fun q => s.heap.size ≤ q) hg hA
  obtain ⟨D, hD⟩ := sy_D htg
  obtain ⟨c0, k0, p0, n0, v0, t0⟩ := Cond.arrayClass_spec (type := .int) (htg _ ac_int)
  obtain ⟨c1, k1, p1, n1, v1, t1⟩ := Cond.arrayClass_spec (type := .long) (htg _ ac_long)
  obtain ⟨c3, k3, p3, n3, v3, t3⟩ := Cond.arrayClass_spec (type := .boolean) (htg _ ac_boolean)
  obtain ⟨c4, k4, p4, n4, v4, t4⟩ := Cond.arrayClass_spec (type := .byte) (htg _ ac_byte)
  have hao := hts _ (sy_ws_in _ (List.mem_of_getElem? (i := 0) rfl))
  obtain ⟨p2, c2, k2, f2, -, v2, t2, n2⟩ := Cond.arrayOver_spec (n := "StolenHolidays$Mark") hao
  have hK : va_K D sh_cl [(c0, .int), (c1, .long), (c2, .object "StolenHolidays$Mark"), (c3, .boolean), (c4, .byte)] s := by
    refine ⟨hD, fun k q hq => ?_⟩
    match k, hq with
    | 0, hq => cases hq; exact ⟨sy_arr v0 t0, n0⟩
    | 1, hq => cases hq; exact ⟨sy_arr v1 t1, n1⟩
    | 2, hq => cases hq; exact ⟨sy_arr v2 t2, k2, p2, v2, t2, f2, n2⟩
    | 3, hq => cases hq; exact ⟨sy_arr v3 t3, n3⟩
    | 4, hq => cases hq; exact ⟨sy_arr v4 t4, n4⟩
  have hS2 : vk_S sh_nS sh_len sh_byt adK (fun i => if i = 900 then b else adV i) (fun q => s.heap.size ≤ q) s s.heap := by
    refine ⟨fun i hi => ?_, hS.2⟩
    have e : (fun i => if i = 900 then b else adV i) i = adV i := if_neg (by have : i < 3 := hi; omega)
    rw [e]
    exact hS.1 i hi
  refine ⟨(l, D, s.heap.size - 1, (fun t => if t = 0 then c0 else if t = 1 then c1 else if t = 2 then c2 else if t = 3 then c3 else c4), adK, (fun i => if i = 900 then b else adV i)), rfl, rfl, rfl, ⟨hK, fun t ht => ?_, va_AO.of hao, fun q hq => va_Nw.of rfl (hts _ (sy_ns_in _ (List.mem_map_of_mem (f := fun q => Cond.methodLinkNest q.1 q.2.1 q.2.2 "StolenHolidays") hq)))⟩, ⟨⟨hK, hS2, sy_R hts hE, va_Zof (hts _ (sy_ws_in _ (List.mem_of_getElem? (i := 2) rfl))) (hts _ (sy_ws_in _ (List.mem_of_getElem? (i := 3) rfl))) (va_eqi (hs _ (sy_gs_in _ (List.mem_of_getElem? (i := 0) rfl)))) hA, va_Nw.of rfl (hts _ (sy_ws_in _ (List.mem_of_getElem? (i := 1) rfl))), va_Zqof (hts _ (sy_ws_in _ (List.mem_of_getElem? (i := 4) rfl))) (hts _ (sy_ws_in _ (List.mem_of_getElem? (i := 5) rfl))) (hs _ (sy_gs_in _ (List.mem_of_getElem? (i := 1) rfl))) hA⟩, vx_Zqof (hts _ (sy_ws_in _ (List.mem_of_getElem? (i := 6) rfl))) (hts _ (sy_ws_in _ (List.mem_of_getElem? (i := 8) rfl))) (hs _ (sy_gs_in _ (List.mem_of_getElem? (i := 2) rfl))) hA, vx_Zqof (hts _ (sy_ws_in _ (List.mem_of_getElem? (i := 7) rfl))) (hts _ (sy_ws_in _ (List.mem_of_getElem? (i := 8) rfl))) (hs _ (sy_gs_in _ (List.mem_of_getElem? (i := 3) rfl))) hA, va_Nw.of rfl (hts _ (sy_ws_in _ (List.mem_of_getElem? (i := 9) rfl))), va_Nw.of rfl (hts _ (sy_ws_in _ (List.mem_of_getElem? (i := 10) rfl))), va_Nw.of rfl (hts _ (sy_ws_in _ (List.mem_of_getElem? (i := 11) rfl))), va_Nw.of rfl (hts _ (sy_ws_in _ (List.mem_of_getElem? (i := 12) rfl)))⟩⟩
  rcases (show t = 0 ∨ t = 1 ∨ t = 2 ∨ t = 3 ∨ t = 4 by omega) with rfl | rfl | rfl | rfl | rfl
  · exact n0
  · exact n1
  · exact n2
  · exact n3
  · exact n4
