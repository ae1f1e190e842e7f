/-! ===== the reference acts: more ===== -/
abbrev cTk (w : Wd) (t x : Int) : Prop := isT w t ∧ isD w x ∧ (w_c w (28 + t.toNat) = 0 ∧ w_c w (16 + t.toNat) = 0) ∧ 0 < w_c w x.toNat
def a_steal (w : Wd) (t x : Int) : Wd := if cTk w t x then kp w (takeR (w_b w) (w_c w) t.toNat x.toNat) else w
def q_steal (w : Wd) (t x : Int) : Int := if cTk w t x then bag (w_b w) (w_c w) t.toNat x.toNat else -1
def q_haul (w : Wd) (t x : Int) : Int := if cTk w t x then hauM (w_b w) (w_c w) t.toNat x.toNat else -1
theorem r_steal {g : sh_G} {d : Nat} {w : Wd} {mem : sh_Mem} {t x : Int} {Q : Option sh_V → sh_Mem → Prop} (hW : WOk w) (h : RRel w mem) (ht : i3 t = t) (hx : i3 x = x) (hQ : ∀ m', RPost (a_steal w t x) mem m' → Q (some (sh_i (q_steal w t x))) m') : sh_Cal g (d + 4) m_Mod_steal [sh_r 96, sh_i t, sh_i x] mem Q := by
  have p0 := RPost_0 h
  have hE := p0.1.2.2.2.2.1
  have hP := p0.1.2.2.2.2.2.1
  have hI := hW.2.1
  have k1 := hW.1.1
  have k2 := hW.1.2.1
  apply v_Mod_steal
  rintro _ rfl
  unfold a_steal q_steal at hQ
  refine isT_then p0.1 ht (fun q => ?_) (fun n e hn => isD_then p0.1 hx (fun q => ?_) (fun j e2 hj => ?_))
  · rw [if_neg (fun z => q z.1), if_neg (fun z => q z.1)] at hQ; exact hQ _ p0
  · rw [if_neg (fun z => q z.2.1), if_neg (fun z => q z.2.1)] at hQ; exact hQ _ p0
  · subst e e2
    have hn2 : isT w ((n : Nat) : Int) := ⟨by omega, by omega⟩
    have hj2 : isD w ((j : Nat) : Int) := ⟨by omega, by omega⟩
    have hD := hI.1 j hj
    have k3 := hW.1.2.2.1 j hj
    have ej : ((1 : Int) + (j : Int)).toNat = 1 + j := by omega
    refine s_Mod_couldSteal hE (hI.2.2.1 n hn) (by omega) ⟨_, rfl, ?_⟩
    rw [i3_01, ej, (hE.2.1 j (by omega)).1, i3s (x := w_c w j) (by omega) (by omega)]
    refine ⟨fun q => ?_, fun q => ⟨by omega, fun q2 => ?_, fun q2 => ?_⟩⟩
    · rw [if_neg (fun z => by have := z.2.2.1; simp only [Int.toNat_natCast] at this; grind), if_neg (fun z => by have := z.2.2.1; simp only [Int.toNat_natCast] at this; grind)] at hQ; exact hQ _ p0
    · have q3 : w_c w (28 + n) = 0 ∧ w_c w (16 + n) = 0 := by grind
      have q4 : cTk w ((n : Nat) : Int) ((j : Nat) : Int) := ⟨hn2, hj2, by simp only [Int.toNat_natCast]; exact q3, by simp only [Int.toNat_natCast]; omega⟩
      rw [if_pos q4, if_pos q4, Int.toNat_natCast, Int.toNat_natCast] at hQ
      refine s_Mod_keepsIt hE hP (fun r n' hr => ⟨rfl, ?_⟩)
      have p1 := RPost_keep p0 hr
      refine s_Mod_steals p1.1.2.2.2.2.1 hI p1.1.1 hn hj q3.1 q3.2 (fun r2 hr2 => ⟨_, rfl, ?_⟩)
      exact hQ _ (RPost_row p1 hr2)
    · rw [if_neg (fun z => by have := z.2.2.2; simp only [Int.toNat_natCast] at this; omega), if_neg (fun z => by have := z.2.2.2; simp only [Int.toNat_natCast] at this; omega)] at hQ; exact hQ _ p0
theorem r_haul {g : sh_G} {d : Nat} {w : Wd} {mem : sh_Mem} {t x : Int} {Q : Option sh_V → sh_Mem → Prop} (hW : WOk w) (h : RRel w mem) (ht : i3 t = t) (hx : i3 x = x) (hQ : ∀ m', RPost (w) mem m' → Q (some (sh_i (q_haul w t x))) m') : sh_Cal g (d + 3) m_Mod_haul [sh_r 96, sh_i t, sh_i x] mem Q := by
  have p0 := RPost_0 h
  have hE := p0.1.2.2.2.2.1
  have hP := p0.1.2.2.2.2.2.1
  have hI := hW.2.1
  have k1 := hW.1.1
  have k2 := hW.1.2.1
  apply v_Mod_haul
  rintro _ rfl
  unfold q_haul at hQ
  refine isT_then p0.1 ht (fun q => ?_) (fun n e hn => isD_then p0.1 hx (fun q => ?_) (fun j e2 hj => ?_))
  · rw [if_neg (fun z => q z.1)] at hQ; exact hQ _ p0
  · rw [if_neg (fun z => q z.2.1)] at hQ; exact hQ _ p0
  · subst e e2
    have hn2 : isT w ((n : Nat) : Int) := ⟨by omega, by omega⟩
    have hj2 : isD w ((j : Nat) : Int) := ⟨by omega, by omega⟩
    have hD := hI.1 j hj
    have k3 := hW.1.2.2.1 j hj
    have ej : ((1 : Int) + (j : Int)).toNat = 1 + j := by omega
    refine s_Mod_couldSteal hE (hI.2.2.1 n hn) (by omega) ⟨_, rfl, ?_⟩
    rw [i3_01, ej, (hE.2.1 j (by omega)).1, i3s (x := w_c w j) (by omega) (by omega)]
    refine ⟨fun q => ?_, fun q => ⟨by omega, fun q2 => ?_, fun q2 => ?_⟩⟩
    · rw [if_neg (fun z => by have := z.2.2.1; simp only [Int.toNat_natCast] at this; grind)] at hQ; exact hQ _ p0
    · rw [if_neg (fun z => by have := z.2.2.2; simp only [Int.toNat_natCast] at this; omega)] at hQ; exact hQ _ p0
    · have q3 : w_c w (28 + n) = 0 ∧ w_c w (16 + n) = 0 := by grind
      have q4 : cTk w ((n : Nat) : Int) ((j : Nat) : Int) := ⟨hn2, hj2, by simp only [Int.toNat_natCast]; exact q3, by simp only [Int.toNat_natCast]; omega⟩
      rw [if_pos q4, Int.toNat_natCast, Int.toNat_natCast] at hQ
      exact s_Mod_haulOf hE hD p0.1.1 hn hj ⟨_, rfl, hQ _ p0⟩
abbrev cSw (w : Wd) (t u : Int) : Prop := isT w t ∧ isT w u ∧ t ≠ u ∧ (w_c w (28 + t.toNat) = 0 ∧ 0 < w_c w (16 + t.toNat)) ∧ (w_c w (28 + u.toNat) = 0 ∧ 0 < w_c w (16 + u.toNat))
def a_swap (w : Wd) (t u : Int) : Wd := if cSw w t u then kp w (tradeR (w_c w) t.toNat u.toNat) else w
def q_swap (w : Wd) (t u : Int) : Int := if cSw w t u then 1 else 0
theorem r_swap {g : sh_G} {d : Nat} {w : Wd} {mem : sh_Mem} {t u : Int} {Q : Option sh_V → sh_Mem → Prop} (hW : WOk w) (h : RRel w mem) (ht : i3 t = t) (hu : i3 u = u) (hQ : ∀ m', RPost (a_swap w t u) mem m' → Q (some (sh_i (q_swap w t u))) m') : sh_Cal g (d + 3) m_Mod_swap [sh_r 96, sh_i t, sh_i u] mem Q := by
  have p0 := RPost_0 h
  have hE := p0.1.2.2.2.2.1
  have hP := p0.1.2.2.2.2.2.1
  have hI := hW.2.1
  have k1 := hW.1.1
  have k2 := hW.1.2.1
  apply v_Mod_swap
  rintro _ rfl
  unfold a_swap q_swap at hQ
  refine isT_then p0.1 ht (fun q => ?_) (fun n e hn => isT_then p0.1 hu (fun q => ?_) (fun j e2 hj => ?_))
  · rw [if_neg (fun z => q z.1), if_neg (fun z => q z.1)] at hQ; exact hQ _ p0
  · rw [if_neg (fun z => q z.2.1), if_neg (fun z => q z.2.1)] at hQ; exact hQ _ p0
  · rw [ht, hu]
    refine ⟨fun q => ?_, fun q => ?_⟩
    · rw [if_neg (fun z => z.2.2.1 q), if_neg (fun z => z.2.2.1 q)] at hQ; exact hQ _ p0
    · subst e e2
      have hn2 : isT w ((n : Nat) : Int) := ⟨by omega, by omega⟩
      have hj2 : isT w ((j : Nat) : Int) := ⟨by omega, by omega⟩
      refine s_Mod_canDeal hE (hI.2.2.1 n hn) (by omega) ⟨_, rfl, ?_⟩
      rw [i3_01]
      refine ⟨fun q2 => ?_, fun q2 => s_Mod_canDeal hE (hI.2.2.1 j hj) (by omega) ⟨_, rfl, ?_⟩⟩
      · have no : ¬ cSw w ((n : Nat) : Int) ((j : Nat) : Int) := fun z => by have := z.2.2.2.1; simp only [Int.toNat_natCast] at this; grind
        rw [if_neg no, if_neg no] at hQ; exact hQ _ p0
      · rw [i3_01]
        refine ⟨fun q3 => ?_, fun q3 => ?_⟩
        · have q4 : w_c w (28 + n) = 0 ∧ 0 < w_c w (16 + n) := by grind
          have q5 : w_c w (28 + j) = 0 ∧ 0 < w_c w (16 + j) := by grind
          have yes : cSw w ((n : Nat) : Int) ((j : Nat) : Int) := ⟨hn2, hj2, q, by simp only [Int.toNat_natCast]; exact q4, by simp only [Int.toNat_natCast]; exact q5⟩
          rw [if_pos yes, if_pos yes, Int.toNat_natCast, Int.toNat_natCast] at hQ
          refine s_Mod_keepsIt hE hP (fun r n' hr => ⟨rfl, ?_⟩)
          have p1 := RPost_keep p0 hr
          exact l_Mod_swapsIt p1.1.2.2.2.2.1 (by omega) (by omega) q4.2 q5.2 (fun r2 hr2 => ⟨rfl, hQ _ (RPost_row p1 hr2)⟩)
        · have no : ¬ cSw w ((n : Nat) : Int) ((j : Nat) : Int) := fun z => by have := z.2.2.2.2; simp only [Int.toNat_natCast] at this; grind
          rw [if_neg no, if_neg no] at hQ; exact hQ _ p0
def a_undo (w : Wd) : Wd := match w_p w with | [] => w | c :: L => (w_b w, w_nm w, c, L, w.2.2.2.2)
def q_undo (w : Wd) : Int := match w_p w with | [] => 0 | _ :: _ => 1
theorem r_undo {g : sh_G} {d : Nat} {w : Wd} {mem : sh_Mem} {Q : Option sh_V → sh_Mem → Prop} (hW : WOk w) (h : RRel w mem) (hQ : ∀ m', RPost (a_undo w) mem m' → Q (some (sh_i (q_undo w))) m') : sh_Cal g (d + 1) m_Mod_undo [sh_r 96] mem Q := by
  have p0 := RPost_0 h
  have hE := p0.1.2.2.2.2.1
  have hP := p0.1.2.2.2.2.2.1
  have hI := hW.2.1
  have k1 := hW.1.1
  have k2 := hW.1.2.1
  apply v_Mod_undo
  rintro _ rfl
  obtain ⟨e1, e2, e3⟩ := hP
  rw [e1, i3n (by have := hW.2.2.1; omega)]
  unfold a_undo q_undo at hQ
  rcases hL : w_p w with _ | ⟨c, L⟩
  · rw [hL] at hQ
    exact ⟨fun q => absurd rfl q, fun _ => hQ _ p0⟩
  · rw [hL] at hQ e1 e2 e3
    refine ⟨fun _ => ?_, fun q => absurd q (by simp; omega)⟩
    rintro _ rfl
    have eL : ((((c :: L).length : Nat) : Int) - 1) = (L.length : Int) := by simp
    rw [eL, ms_s, ru_s, show (45 : Int) * (L.length : Int) = ((45 * L.length : Nat) : Int) by omega, show (0 : Int) = ((0 : Nat) : Int) from rfl]
    simp only [List.length_cons] at e2
    refine s_Mod_copies (A := 134) (B := 129) (n := 720) (n2 := 45) rfl rfl (by decide) (by omega) (by omega) ⟨rfl, ?_⟩
    refine hQ _ ?_
    have hnew : RP ((ms mem 96 (ru (mem 96) 0 0)) 134) (ru ((ms mem 96 (ru (mem 96) 0 0)) 96) 51 (L.length : Int)) L := by
      refine ⟨ru_s _ _ _, by omega, fun i hi => ?_⟩
      have := e3 (i + 1) (by simp; omega)
      rw [List.getD_cons_succ] at this
      have e4 : (c :: L).length - 1 - (i + 1) = L.length - 1 - i := by simp only [List.length_cons]; omega
      rw [e4] at this
      exact this
    have pk := RRel_keep p0.1 hnew
    rw [ms_id] at pk
    have h0 := e3 0 (by simp)
    have e5 : (c :: L).length - 1 - 0 = L.length := by simp
    rw [e5] at h0
    refine RPost_Sr (w := (w_b w, w_nm w, w_c w, L, w.2.2.2.2)) ⟨pk, by rw [ms_s, ru_n _ _ (by decide)]; exact p0.2.1, Lo_ms p0.2.2 (by omega) _⟩ (Sr_ms (Sr_rf _) (by decide) (by decide) _) ?_
    rw [ms_s]
    refine EQ_cong (fun k hk => ?_) (fun _ _ => rfl) h0
    unfold cpy; rw [if_pos (by omega), ms_n _ _ (by decide)]
    show _ = (ms mem 96 (ru (mem 96) 0 0)) 134 (45 * L.length + k)
    congr 1
