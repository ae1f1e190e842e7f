/-! ===== the class's answers ===== -/
theorem s_Past_back {g : sh_G} {d : Nat} {mem : sh_Mem} {L : List (Nat → Int)} {Q : Option sh_V → sh_Mem → Prop} (hP : CP (mem 10) (mem 9) L) (hZ6 : Z (mem 6)) (hZ : ∀ p ∈ L, Z p) (h0 : L = [] → Q (some (sh_i 0)) mem) (h1 : ∀ c L', L = c :: L' → ∀ f, CP (mem 10) f L' → Q (some (sh_i 1)) (ms (ms mem 9 f) 6 c)) : sh_Cal g (d + 1) m_Past_bringBack [sh_r 9, sh_r 5] mem Q := by
  obtain ⟨n, p1, p2, p3, p4, p5⟩ := hP
  apply v_Past_bringBack o5
  rw [p2, p3, i3n (by omega), show ((n : Int) + 16 - 1) = ((n + 15 : Nat) : Int) by omega, rem16 (n + 15) (by omega)]
  refine ⟨fun q => ?_, fun q => h0 (List.eq_nil_of_length_eq_zero (by omega))⟩
  rintro _ rfl
  rintro _ rfl
  have e1 : ((((n + 15) % 16 : Nat) : Int) * 45).toNat = 45 * ((n + 15) % 16) := by omega
  simp only [ms_s, ms_ms, ms_n _ _ (show (10 : Nat) ≠ 9 by decide), ms_n _ _ (show (6 : Nat) ≠ 9 by decide), ru_n _ _ (show (1 : Nat) ≠ 2 by decide), ru_s, ru_n _ _ (show (2 : Nat) ≠ 1 by decide), p3, e1]
  refine ⟨by omega, ?_⟩
  rintro _ rfl
  cases L with
  | nil => exact absurd rfl q
  | cons c L =>
    have hc := hZ c (List.mem_cons_self)
    have e2 : cpy (mem 10) (mem 6) (45 * ((n + 15) % 16)) 0 45 = c := by
      funext k; unfold cpy
      by_cases z : k < 45
      · rw [if_pos (by omega)]
        have := p5 0 (by simp) k z
        simp only [Nat.sub_zero, List.getD_cons_zero] at this
        rw [← this, Nat.sub_zero]
      · rw [if_neg (by omega), hZ6 k (by omega), hc k (by omega)]
    show Q _ (ms _ 6 (cpy (mem 10) (mem 6) (45 * ((n + 15) % 16)) 0 45))
    rw [e2]
    refine h1 c L rfl _ ⟨(n + 15) % 16, by omega, ?_, ?_, by simp only [List.length_cons] at p4; omega, fun i hi k hk => ?_⟩
    · rw [ru_n _ _ (by decide), ru_s]
    · rw [ru_s]; simp only [List.length_cons]; omega
    · have := p5 (i + 1) (by simp only [List.length_cons]; omega) k hk
      rw [List.getD_cons_succ] at this
      have e3 : ((n + 15) % 16 + 15 - i) % 16 = (n + 15 - (i + 1)) % 16 := by simp only [List.length_cons] at p4; omega
      rw [e3]; exact this
theorem CR_row {B Y : Nat} {w : Wd} {m : sh_Mem} {c' : Nat → Int} (hB : obB B) (hY : obY Y) (h : CR B Y w m) (hZ : Z c') : CR B Y (w_b w, w_nm w, c', w.2.2.2) (ms m 6 c') := by
  have h5 := h.2.2.2.2.1
  exact CR_kp (L := w_p w) hB hY h (fun a _ e1 _ _ _ => ms_n _ _ e1) (ms_s _ _ _) hZ (by rw [ms_n _ _ (by decide)]; exact h5.2.2.1) (by rw [ms_n _ _ (by decide), ms_n _ _ (by decide)]; exact h.2.2.2.2.2.1) h5.2.2.2.1
theorem CR_keep {B Y : Nat} {w : Wd} {m : sh_Mem} {u f : Nat → Int} (hB : obB B) (hY : obY Y) (h : CR B Y w m) (hP : CP u f ((m 6 :: w_p w).take 16)) : CR B Y (kp w (w_c w)) (ms (ms m 10 u) 9 f) := by
  have h5 := h.2.2.2.2.1
  rw [h5.1] at hP
  refine CR_kp (c' := w_c w) (L := (w_c w :: w_p w).take 16) hB hY h (fun a _ e1 e2 e3 _ => by rw [ms_n _ _ e2, ms_n _ _ e3]) (by rw [ms_n _ _ (by decide), ms_n _ _ (by decide)]; exact h5.1) h5.2.1 (by rw [ms_n _ _ (by decide), ms_n _ _ (by decide)]; exact h5.2.2.1) (by rw [ms_s, ms_n _ _ (by decide), ms_s]; exact hP) (fun p hp => ?_)
  rcases List.mem_cons.mp (List.mem_of_mem_take hp) with z | z
  · rw [z]; exact h5.2.1
  · exact h5.2.2.2.1 p z
theorem Hi_keep {m : sh_Mem} {u f : Nat → Int} : Hi m (ms (ms m 10 u) 9 f) := Hi_ms (Hi_ms (Hi_rf m) (by omega) _) (by omega) _
theorem c_day {g : sh_G} {d : Nat} {w : Wd} {mem : sh_Mem} {x k : Int} {Q : Option sh_V → sh_Mem → Prop} (h : CRel w mem) (hx : i3 x = x) (hk : i3 k = k) (hQ : ∀ m', CPost w mem m' → Q (some (sh_i (q_day w x k))) m') : sh_Cal g (d + 1) m_Sto_day [sh_r 1, sh_i x, sh_i k] mem Q := by
  obtain ⟨B, Y, hB, hY, hc⟩ := h
  have p := hQ _ (CPost_rf hB hY hc)
  unfold q_day at p
  apply v_Sto_day (obB_0 hB)
  refine cD_then' hB hc hx (fun q => ?_) (fun n e hn => ?_)
  · rw [if_neg (fun z => q z.1)] at p; exact p
  · subst e
    have k1 := hc.2.1.1.1
    have a := hc.2.1.2.2.2.1 n hn
    have h6 := hc.2.2.2.2.1.1
    have t8 : ((8 : Int) + (n : Int)).toNat = 8 + n := by omega
    have hD : isD w (n : Int) := by omega
    rw [Int.toNat_natCast] at p
    rw [t8, Int.toNat_natCast, h6, a.1, a.2.1, a.2.2, hk]
    refine ⟨fun z => ⟨hc.1.1, by omega, ?_⟩, fun z => ⟨hc.1.1, by omega, ?_⟩, fun z => ⟨by omega, ?_⟩, fun z => ⟨by omega, ?_⟩, fun z => ⟨hc.1.1, by omega, ?_⟩, fun z => ?_⟩
    · rw [if_pos ⟨hD, by omega, by omega⟩, if_pos z] at p; exact p
    · rw [if_pos ⟨hD, by omega, by omega⟩, if_neg (by omega), if_pos z] at p; exact p
    · rw [if_pos ⟨hD, by omega, by omega⟩, if_neg (by omega), if_neg (by omega), if_pos z] at p; exact p
    · rw [if_pos ⟨hD, by omega, by omega⟩, if_neg (by omega), if_neg (by omega), if_neg (by omega), if_pos z] at p; exact p
    · rw [if_pos ⟨hD, by omega, by omega⟩, if_neg (by omega), if_neg (by omega), if_neg (by omega), if_neg (by omega)] at p; exact p
    · rw [if_neg (by omega)] at p; exact p
theorem c_steal {g : sh_G} {d : Nat} {w : Wd} {mem : sh_Mem} {t x : Int} {Q : Option sh_V → sh_Mem → Prop} (hW : WOk w) (h : CRel w mem) (ht : i3 t = t) (hx : i3 x = x) (hQ : ∀ m', CPost (a_steal w t x) mem m' → Q (some (sh_i (q_steal w t x))) m') : sh_Cal g (d + 5) m_Sto_steal [sh_r 1, sh_i t, sh_i x] mem Q := by
  obtain ⟨B, Y, hB, hY, hc⟩ := h
  have k1 := hW.1.1
  have k2 := hW.1.2.1
  have h6 := hc.2.2.2.2.1.1
  have hI : Inv (w_b w) (mem (5 + 1)) := by rw [show mem (5 + 1) = w_c w from h6]; exact hW.2.1
  have bad : ¬ cTk w t x → Q (some (sh_i (-1))) mem := by
    intro q; unfold a_steal q_steal at hQ; rw [if_neg q, if_neg q] at hQ; exact hQ _ (CPost_rf hB hY hc)
  apply v_Sto_steal (obB_0 hB)
  refine cT_then hB hc ht (fun q => bad (fun z => q z.1)) (fun tn et htn => ?_)
  refine cD_then hB hc hx (fun q => bad (fun z => q z.2.1)) (fun xn ex hxn => ?_)
  subst et ex
  refine s_State_canTake (d := d + 2) o5 hI htn hxn hW.1 ⟨_, rfl, ?_⟩
  rw [i3_01]
  refine ⟨fun q => ?_, fun q => bad (fun z => ?_)⟩
  · have q2 : cTk w (tn : Int) (xn : Int) := by
      refine ⟨by omega, by omega, ?_⟩
      rw [Int.toNat_natCast, Int.toNat_natCast, ← h6]
      by_cases y : mem (5 + 1) (28 + tn) = 0 ∧ mem (5 + 1) (16 + tn) = 0 ∧ 0 < mem (5 + 1) xn
      · exact ⟨⟨y.1, y.2.1⟩, y.2.2⟩
      · rw [if_neg y] at q; exact absurd rfl q
    refine s_Past_keep hc.2.2.2.2.2.1 (fun u f hP => ⟨rfl, ?_⟩)
    have hk := CR_keep hB hY hc hP
    refine ⟨hk.1.1, s_State_take (d := d) (S := 5) o5 (obB_0 hB) (b := w_b w) (by rw [show (ms (ms mem 10 u) 9 f) (5 + 1) = w_c w from hk.2.2.2.2.1.1]; exact hW.2.1) hk.2.1 htn hxn ⟨_, rfl, ?_⟩⟩
    rw [show (ms (ms mem 10 u) 9 f) (5 + 1) = w_c w from hk.2.2.2.2.1.1]
    unfold a_steal q_steal at hQ
    rw [if_pos q2, if_pos q2, Int.toNat_natCast, Int.toNat_natCast] at hQ
    exact hQ _ ⟨⟨B, Y, hB, hY, CR_row hB hY hk (Z_take hc.2.2.2.2.1.2.1 (by omega) (by omega))⟩, Hi_ms Hi_keep (by omega) _⟩
  · have y := z.2.2
    rw [Int.toNat_natCast, Int.toNat_natCast, ← h6] at y
    rw [if_pos (show mem (5 + 1) (28 + tn) = 0 ∧ mem (5 + 1) (16 + tn) = 0 ∧ 0 < mem (5 + 1) xn from ⟨y.1.1, y.1.2, y.2⟩)] at q
    exact absurd q (by decide)
theorem c_haul {g : sh_G} {d : Nat} {w : Wd} {mem : sh_Mem} {t x : Int} {Q : Option sh_V → sh_Mem → Prop} (hW : WOk w) (h : CRel w mem) (ht : i3 t = t) (hx : i3 x = x) (hQ : ∀ m', CPost w mem m' → Q (some (sh_i (q_haul w t x))) m') : sh_Cal g (d + 4) m_Sto_haul [sh_r 1, sh_i t, sh_i x] mem Q := by
  obtain ⟨B, Y, hB, hY, hc⟩ := h
  have k1 := hW.1.1
  have k2 := hW.1.2.1
  have h6 := hc.2.2.2.2.1.1
  have hI : Inv (w_b w) (mem (5 + 1)) := by rw [show mem (5 + 1) = w_c w from h6]; exact hW.2.1
  have p := hQ _ (CPost_rf hB hY hc)
  unfold q_haul at p
  have bad : ¬ cTk w t x → Q (some (sh_i (-1))) mem := by
    intro q; rw [if_neg q] at p; exact p
  apply v_Sto_haul (obB_0 hB)
  refine cT_then hB hc ht (fun q => bad (fun z => q z.1)) (fun tn et htn => ?_)
  refine cD_then hB hc hx (fun q => bad (fun z => q z.2.1)) (fun xn ex hxn => ?_)
  subst et ex
  refine s_State_canTake (d := d + 1) o5 hI htn hxn hW.1 ⟨_, rfl, ?_⟩
  rw [i3_01]
  refine ⟨fun q => ?_, fun q => bad (fun z => ?_)⟩
  · have q2 : cTk w (tn : Int) (xn : Int) := by
      refine ⟨by omega, by omega, ?_⟩
      rw [Int.toNat_natCast, Int.toNat_natCast, ← h6]
      by_cases y : mem (5 + 1) (28 + tn) = 0 ∧ mem (5 + 1) (16 + tn) = 0 ∧ 0 < mem (5 + 1) xn
      · exact ⟨⟨y.1, y.2.1⟩, y.2.2⟩
      · rw [if_neg y] at q; exact absurd rfl q
    refine ⟨hc.1.1, s_State_bagged (d := d) (S := 5) o5 (obB_0 hB) (b := w_b w) hI hc.2.1 htn hxn ⟨_, rfl, ?_⟩⟩
    rw [show mem (5 + 1) = w_c w from h6]
    rw [if_pos q2] at p
    have y := q2.2.2
    rw [Int.toNat_natCast, Int.toNat_natCast] at y p
    have eb : hauM (w_b w) (w_c w) tn xn = bag (w_b w) (w_c w) tn xn := by unfold hauM bag; grind
    rw [← eb]; exact p
  · have y := z.2.2
    rw [Int.toNat_natCast, Int.toNat_natCast, ← h6] at y
    rw [if_pos (show mem (5 + 1) (28 + tn) = 0 ∧ mem (5 + 1) (16 + tn) = 0 ∧ 0 < mem (5 + 1) xn from ⟨y.1.1, y.1.2, y.2⟩)] at q
    exact absurd q (by decide)
abbrev cPa (w : Wd) (t : Int) : Prop := isT w t ∧ w_c w (28 + t.toNat) = 0 ∧ 0 < w_c w (16 + t.toNat)
theorem c_sell {g : sh_G} {d : Nat} {w : Wd} {mem : sh_Mem} {t : Int} {Q : Option sh_V → sh_Mem → Prop} (hW : WOk w) (h : CRel w mem) (ht : i3 t = t) (hQ : ∀ m', CPost (a_sell w t) mem m' → Q (some (sh_i (q_sell w t))) m') : sh_Cal g (d + 5) m_Sto_sell [sh_r 1, sh_i t] mem Q := by
  obtain ⟨B, Y, hB, hY, hc⟩ := h
  have k1 := hW.1.1
  have k2 := hW.1.2.1
  have h6 := hc.2.2.2.2.1.1
  have hI : Inv (w_b w) (mem (5 + 1)) := by rw [show mem (5 + 1) = w_c w from h6]; exact hW.2.1
  have bad : ¬ cPa w t → Q (some (sh_i (-1))) mem := by
    intro q; unfold a_sell q_sell at hQ; rw [if_neg q, if_neg q] at hQ; exact hQ _ (CPost_rf hB hY hc)
  apply v_Sto_sell (obB_0 hB)
  refine cT_then hB hc ht (fun q => bad (fun z => q z.1)) (fun tn et htn => ?_)
  subst et
  refine s_State_canPart (d := d + 3) o5 hI htn hW.1 ⟨_, rfl, ?_⟩
  rw [i3_01]
  refine ⟨fun q => ?_, fun q => bad (fun z => ?_)⟩
  · have q2 : cPa w (tn : Int) := by
      refine ⟨by omega, ?_⟩
      rw [Int.toNat_natCast, ← h6]
      by_cases y : mem (5 + 1) (28 + tn) = 0 ∧ 0 < mem (5 + 1) (16 + tn)
      · exact y
      · rw [if_neg y] at q; exact absurd rfl q
    have y := q2.2
    rw [Int.toNat_natCast] at y
    refine s_Past_keep hc.2.2.2.2.2.1 (fun u f hP => ⟨rfl, ?_⟩)
    have hk := CR_keep hB hY hc hP
    have h6k : (ms (ms mem 10 u) 9 f) (5 + 1) = w_c w := hk.2.2.2.2.1.1
    refine ⟨hk.1.1, s_State_cashIn (d := d) (S := 5) o5 (obB_0 hB) (b := w_b w) (by rw [h6k]; exact hW.2.1.2.2.1 tn htn) hW.1 hk.2.2.1 htn (by rw [h6k]; exact y.2) (fun r => ⟨_, rfl, ?_⟩)⟩
    rw [h6k]
    have eP : b_pr (w_b w) (w_c w (16 + tn)) (w_c w (24 + tn)) (w_c w (20 + tn)) (w_c w 44) = prV (w_b w) (w_c w) tn := by unfold prV; rw [if_pos y.2]
    rw [eP]
    unfold a_sell q_sell at hQ
    rw [if_pos q2, if_pos q2, Int.toNat_natCast] at hQ
    have hk2 := CR_Cs hB hY hk (Cs_ms (Cs_rf hk) (csc_10 hB).1 (csc_10 hB).2 r)
    exact hQ _ ⟨⟨B, Y, hB, hY, CR_row hB hY hk2 (Z_cash hc.2.2.2.2.1.2.1 (by omega) _)⟩, Hi_ms (Hi_ms Hi_keep (by omega) _) (by omega) _⟩
  · have y := z.2
    rw [Int.toNat_natCast, ← h6] at y
    rw [if_pos y] at q
    exact absurd q (by decide)
theorem c_spend {g : sh_G} {d : Nat} {w : Wd} {mem : sh_Mem} {t : Int} {Q : Option sh_V → sh_Mem → Prop} (hW : WOk w) (h : CRel w mem) (ht : i3 t = t) (hQ : ∀ m', CPost (a_spend w t) mem m' → Q (some (sh_i (q_spend w t))) m') : sh_Cal g (d + 2) m_Sto_spend [sh_r 1, sh_i t] mem Q := by
  obtain ⟨B, Y, hB, hY, hc⟩ := h
  have k1 := hW.1.1
  have k2 := hW.1.2.1
  have h6 := hc.2.2.2.2.1.1
  have hI : Inv (w_b w) (mem (5 + 1)) := by rw [show mem (5 + 1) = w_c w from h6]; exact hW.2.1
  have bad : ¬ cPa w t → Q (some (sh_i (-1))) mem := by
    intro q; unfold a_spend q_spend at hQ; rw [if_neg q, if_neg q] at hQ; exact hQ _ (CPost_rf hB hY hc)
  apply v_Sto_spend
  refine cT_then hB hc ht (fun q => bad (fun z => q z.1)) (fun tn et htn => ?_)
  subst et
  refine s_State_canPart (d := d) o5 hI htn hW.1 ⟨_, rfl, ?_⟩
  rw [i3_01]
  refine ⟨fun q => ?_, fun q => bad (fun z => ?_)⟩
  · have q2 : cPa w (tn : Int) := by
      refine ⟨by omega, ?_⟩
      rw [Int.toNat_natCast, ← h6]
      by_cases y : mem (5 + 1) (28 + tn) = 0 ∧ 0 < mem (5 + 1) (16 + tn)
      · exact y
      · rw [if_neg y] at q; exact absurd rfl q
    refine s_Past_keep (d := d) hc.2.2.2.2.2.1 (fun u f hP => ⟨rfl, ?_⟩)
    have hk := CR_keep hB hY hc hP
    have h6k : (ms (ms mem 10 u) 9 f) (5 + 1) = w_c w := hk.2.2.2.2.1.1
    refine s_State_enjoy (d := d) (S := 5) o5 (b := w_b w) (by rw [h6k]; exact hW.2.1) htn hW.1 ⟨_, rfl, ?_⟩
    rw [h6k]
    unfold a_spend q_spend at hQ
    rw [if_pos q2, if_pos q2, Int.toNat_natCast] at hQ
    exact hQ _ ⟨⟨B, Y, hB, hY, CR_row hB hY hk (Z_enjoy hc.2.2.2.2.1.2.1 (by omega))⟩, Hi_ms Hi_keep (by omega) _⟩
  · have y := z.2
    rw [Int.toNat_natCast, ← h6] at y
    rw [if_pos y] at q
    exact absurd q (by decide)
theorem c_swap {g : sh_G} {d : Nat} {w : Wd} {mem : sh_Mem} {t u : Int} {Q : Option sh_V → sh_Mem → Prop} (hW : WOk w) (h : CRel w mem) (ht : i3 t = t) (hu : i3 u = u) (hQ : ∀ m', CPost (a_swap w t u) mem m' → Q (some (sh_i (q_swap w t u))) m') : sh_Cal g (d + 3) m_Sto_swap [sh_r 1, sh_i t, sh_i u] mem Q := by
  obtain ⟨B, Y, hB, hY, hc⟩ := h
  have k1 := hW.1.1
  have k2 := hW.1.2.1
  have h6 := hc.2.2.2.2.1.1
  have hI : Inv (w_b w) (mem (5 + 1)) := by rw [show mem (5 + 1) = w_c w from h6]; exact hW.2.1
  have bad : ¬ cSw w t u → Q (some (sh_i 0)) mem := by
    intro q; unfold a_swap q_swap at hQ; rw [if_neg q, if_neg q] at hQ; exact hQ _ (CPost_rf hB hY hc)
  apply v_Sto_swap
  refine cT_then hB hc ht (fun q => bad (fun z => q z.1)) (fun tn et htn => ?_)
  refine cT_then hB hc hu (fun q => bad (fun z => q z.2.1)) (fun un eu hun => ?_)
  subst et eu
  refine s_State_canTrade (d := d) o5 hI htn hun hW.1 ⟨_, rfl, ?_⟩
  rw [i3_01]
  refine ⟨fun q => ?_, fun q => bad (fun z => ?_)⟩
  · have q2 : cSw w (tn : Int) (un : Int) := by
      refine ⟨by omega, by omega, ?_⟩
      rw [Int.toNat_natCast, Int.toNat_natCast, ← h6]
      by_cases y : tn ≠ un ∧ (mem (5 + 1) (28 + tn) = 0 ∧ 0 < mem (5 + 1) (16 + tn)) ∧ mem (5 + 1) (28 + un) = 0 ∧ 0 < mem (5 + 1) (16 + un)
      · exact ⟨by omega, y.2⟩
      · rw [if_neg y] at q; exact absurd rfl q
    refine s_Past_keep (d := d + 1) hc.2.2.2.2.2.1 (fun u f hP => ⟨rfl, ?_⟩)
    have hk := CR_keep hB hY hc hP
    have h6k : (ms (ms mem 10 u) 9 f) (5 + 1) = w_c w := hk.2.2.2.2.1.1
    refine s_State_trade (d := d + 1) (S := 5) o5 (by omega) (by omega) ⟨rfl, ?_⟩
    rw [h6k]
    unfold a_swap q_swap at hQ
    rw [if_pos q2, if_pos q2, Int.toNat_natCast, Int.toNat_natCast] at hQ
    exact hQ _ ⟨⟨B, Y, hB, hY, CR_row hB hY hk (Z_trade hc.2.2.2.2.1.2.1 (by omega) (by omega))⟩, Hi_ms Hi_keep (by omega) _⟩
  · have y := z.2.2
    rw [Int.toNat_natCast, Int.toNat_natCast, ← h6] at y
    rw [if_pos (show tn ≠ un ∧ (mem (5 + 1) (28 + tn) = 0 ∧ 0 < mem (5 + 1) (16 + tn)) ∧ mem (5 + 1) (28 + un) = 0 ∧ 0 < mem (5 + 1) (16 + un) from ⟨by omega, y.2⟩)] at q
    exact absurd q (by decide)
theorem c_night {g : sh_G} {d : Nat} {w : Wd} {mem : sh_Mem} {Q : Option sh_V → sh_Mem → Prop} (hW : WOk w) (h : CRel w mem) (hQ : ∀ m', CPost (kp w (sleepR (w_b w) (w_c w))) mem m' → Q (some (sh_i (bitsF (fun t => decide (0 < sleepR (w_b w) (w_c w) (16 + t))) 4))) m') : sh_Cal g (d + 3) m_Sto_night [sh_r 1] mem Q := by
  obtain ⟨B, Y, hB, hY, hc⟩ := h
  apply v_Sto_night (obB_0 hB)
  refine s_Past_keep (d := d + 1) hc.2.2.2.2.2.1 (fun u f hP => ⟨rfl, ?_⟩)
  have hk := CR_keep hB hY hc hP
  have h6k : (ms (ms mem 10 u) 9 f) (5 + 1) = w_c w := hk.2.2.2.2.1.1
  refine ⟨hk.1.1, s_State_sleep (d := d) (S := 5) o5 (obB_0 hB) (b := w_b w) (by rw [h6k]; exact hW.2.1) hk.2.1 ⟨rfl, ?_⟩⟩
  rw [h6k]
  refine s_State_holders (d := d + 1) (S := 5) o5 (b := w_b w) (by rw [ms_s]; exact Inv_sleep hW.1 hW.2.1) ⟨_, rfl, ?_⟩
  rw [ms_s]
  exact hQ _ ⟨⟨B, Y, hB, hY, CR_row hB hY hk (Z_sleep hc.2.2.2.2.1.2.1)⟩, Hi_ms Hi_keep (by omega) _⟩
theorem c_undo {g : sh_G} {d : Nat} {w : Wd} {mem : sh_Mem} {Q : Option sh_V → sh_Mem → Prop} (h : CRel w mem) (hQ : ∀ m', CPost (a_undo w) mem m' → Q (some (sh_i (q_undo w))) m') : sh_Cal g (d + 2) m_Sto_undo [sh_r 1] mem Q := by
  obtain ⟨B, Y, hB, hY, hc⟩ := h
  have h5 := hc.2.2.2.2.1
  unfold a_undo q_undo at hQ
  apply v_Sto_undo
  refine s_Past_back (d := d) hc.2.2.2.2.2.1 (by rw [h5.1]; exact h5.2.1) h5.2.2.2.1 (fun e => ⟨_, rfl, Or.inl rfl, ?_⟩) (fun c L' e f hP => ⟨_, rfl, Or.inr rfl, ?_⟩)
  · rw [e] at hQ; exact hQ _ (CPost_rf hB hY hc)
  · rw [e] at hQ
    refine hQ _ ⟨⟨B, Y, hB, hY, CR_kp hB hY hc (fun a _ e1 e2 _ _ => by rw [ms_n _ _ e1, ms_n _ _ e2]) (ms_s _ _ _) (h5.2.2.2.1 c (by rw [e]; exact List.mem_cons_self)) (by rw [ms_n _ _ (by decide), ms_n _ _ (by decide)]; exact h5.2.2.1) ?_ (fun p hp => h5.2.2.2.1 p (by rw [e]; exact List.mem_cons_of_mem _ hp))⟩, Hi_ms (Hi_ms (Hi_rf mem) (by omega) _) (by omega) _⟩
    rw [ms_n _ _ (by decide), ms_n _ _ (by decide), ms_n _ _ (by decide), ms_s]; exact hP
