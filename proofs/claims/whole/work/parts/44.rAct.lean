/-! ===== the reference acts ===== -/
theorem RRel_keep {w : Wd} {m : sh_Mem} {r : Nat → Int} {n : Int} {L' : List (Nat → Int)} (h : RRel w m) (hP : RP r (ru (m 96) 51 n) L') : RRel (w_b w, w_nm w, w_c w, L', w.2.2.2.2) (ms (ms m 134 r) 96 (ru (m 96) 51 n)) := by
  obtain ⟨h1, h2, h3, h4, h5, h6, h7, h8, h9, h10, h11, h12⟩ := h
  have e : ∀ a, a ≠ 96 → a ≠ 134 → ms (ms m 134 r) 96 (ru (m 96) 51 n) a = m a := fun a q1 q2 => by rw [ms_n _ _ q1, ms_n _ _ q2]
  refine ⟨MB_cong h1 (e _ (by decide) (by decide)) (e _ (by decide) (by decide)) (e _ (by decide) (by decide)) (e _ (by decide) (by decide)) (e _ (by decide) (by decide)) (e _ (by decide) (by decide)), ML_cong h2 (e _ (by decide) (by decide)) (e _ (by decide) (by decide)) (e _ (by decide) (by decide)), ?_, ?_, ?_, ?_, ?_, ?_, ?_, ?_, ?_, ?_⟩
  · rw [e 99 (by decide) (by decide)]; exact h3
  · rw [e 100 (by decide) (by decide)]; exact h4
  · rw [e 129 (by decide) (by decide)]; exact h5
  · rw [ms_s, ms_n _ _ (by decide), ms_s]; exact hP
  · rw [e 121 (by decide) (by decide), e 122 (by decide) (by decide), e 123 (by decide) (by decide), e 124 (by decide) (by decide)]; exact h7
  · rw [e 125 (by decide) (by decide), e 126 (by decide) (by decide), e 127 (by decide) (by decide), e 128 (by decide) (by decide)]; exact h8
  · rw [e 128 (by decide) (by decide), e 123 (by decide) (by decide), e 124 (by decide) (by decide)]; exact h9
  · rw [e 135 (by decide) (by decide), e 133 (by decide) (by decide), e 121 (by decide) (by decide), e 122 (by decide) (by decide), e 123 (by decide) (by decide), e 124 (by decide) (by decide), e 125 (by decide) (by decide), e 126 (by decide) (by decide), e 127 (by decide) (by decide), e 128 (by decide) (by decide)]; exact h10
  · rw [ms_s, ru_n _ _ (by decide)]; exact h11
  · rw [e 97 (by decide) (by decide)]; exact h12
/-- a new row, the old one kept -/
def kp (w : Wd) (c' : Nat → Int) : Wd := (w_b w, w_nm w, c', (w_c w :: w_p w).take 16, w.2.2.2.2)
theorem WOk_kp {w : Wd} {c' : Nat → Int} (h : WOk w) (hc : Inv (w_b w) c') : WOk (kp w c') := by
  obtain ⟨h1, h2, h3, h4, h5⟩ := h
  refine ⟨h1, hc, ?_, ?_, h5⟩
  · show ((w_c w :: w_p w).take 16).length ≤ 16
    rw [List.length_take]; omega
  · intro p hp
    rcases List.mem_cons.mp (List.mem_of_mem_take hp) with e | e
    · rw [e]; exact h2
    · exact h4 p e
theorem RPost_keep {w : Wd} {m m1 : sh_Mem} {r : Nat → Int} {n : Int} (h : RPost w m m1) (hP : RP r (ru (m1 96) 51 n) ((w_c w :: w_p w).take 16)) : RPost (kp w (w_c w)) m (ms (ms m1 134 r) 96 (ru (m1 96) 51 n)) :=
  ⟨RRel_keep h.1 hP, by rw [ms_s, ru_n _ _ (by decide)]; exact h.2.1, Lo_ms (Lo_ms h.2.2 (by omega) _) (by omega) _⟩
theorem RPost_row {w : Wd} {c' : Nat → Int} {m m1 : sh_Mem} {r : Nat → Int} (h : RPost (kp w (w_c w)) m m1) (hr : EQ r c') : RPost (kp w c') m (ms m1 129 r) :=
  RPost_Sr h (Sr_ms (Sr_rf m1) (by decide) (by decide) _) (by rw [ms_s]; exact hr)
theorem RPost_row2 {w : Wd} {c' : Nat → Int} {m m1 m2 : sh_Mem} {r : Nat → Int} (h : RPost (kp w (w_c w)) m m1) (he : Ew m1 m2) (hr : EQ r c') : RPost (kp w c') m (ms m2 129 r) :=
  RPost_Sr h (Sr_ms (Sr_Ew (Sr_rf m1) he) (by decide) (by decide) _) (by rw [ms_s]; exact hr)
theorem r_night {g : sh_G} {d : Nat} {w : Wd} {mem : sh_Mem} {Q : Option sh_V → sh_Mem → Prop} (hW : WOk w) (h : RRel w mem) (hQ : ∀ m', RPost (kp w (sleepR (w_b w) (w_c w))) mem m' → Q (some (sh_i (bitsF (fun t => decide (0 < sleepR (w_b w) (w_c w) (16 + t))) 4))) m') : sh_Cal g (d + 3) m_Mod_night [sh_r 96] mem Q := by
  have p0 := RPost_0 h
  have hE := p0.1.2.2.2.2.1
  have hP := p0.1.2.2.2.2.2.1
  have hI := hW.2.1
  have k1 := hW.1.1
  have k2 := hW.1.2.1
  apply v_Mod_night
  rintro _ rfl
  refine s_Mod_keepsIt hE hP (fun r n hr => ⟨rfl, ?_⟩)
  have p1 := RPost_keep p0 hr
  refine s_Mod_passes p1.1.2.2.2.2.1 hI p1.1.1 (fun r2 hr2 => ⟨rfl, ?_⟩)
  have p2 := RPost_row p1 hr2
  exact s_Mod_having p2.1.2.2.2.2.1 (Inv_sleep hW.1 hI) p2.1.1 ⟨_, rfl, hQ _ p2⟩
def a_sell (w : Wd) (t : Int) : Wd := if isT w t ∧ w_c w (28 + t.toNat) = 0 ∧ 0 < w_c w (16 + t.toNat) then kp w (cashR (w_c w) t.toNat (prV (w_b w) (w_c w) t.toNat)) else w
def q_sell (w : Wd) (t : Int) : Int := if isT w t ∧ w_c w (28 + t.toNat) = 0 ∧ 0 < w_c w (16 + t.toNat) then prV (w_b w) (w_c w) t.toNat else -1
def a_spend (w : Wd) (t : Int) : Wd := if isT w t ∧ w_c w (28 + t.toNat) = 0 ∧ 0 < w_c w (16 + t.toNat) then kp w (enjoyR (w_c w) t.toNat) else w
def q_spend (w : Wd) (t : Int) : Int := if isT w t ∧ w_c w (28 + t.toNat) = 0 ∧ 0 < w_c w (16 + t.toNat) then joyV (w_c w) t.toNat else -1
theorem r_sell {g : sh_G} {d : Nat} {w : Wd} {mem : sh_Mem} {t : Int} {Q : Option sh_V → sh_Mem → Prop} (hW : WOk w) (h : RRel w mem) (ht : i3 t = t) (hQ : ∀ m', RPost (a_sell w t) mem m' → Q (some (sh_i (q_sell w t))) m') : sh_Cal g (d + 5) m_Mod_sell [sh_r 96, sh_i t] mem Q := by
  have p0 := RPost_0 h
  have hE := p0.1.2.2.2.2.1
  have hP := p0.1.2.2.2.2.2.1
  have hI := hW.2.1
  have k1 := hW.1.1
  have k2 := hW.1.2.1
  apply v_Mod_sell
  rintro _ rfl
  unfold a_sell q_sell at hQ
  refine isT_then p0.1 ht (fun q => ?_) (fun n e hn => ?_)
  · rw [if_neg (fun z => q z.1), if_neg (fun z => q z.1)] at hQ; exact hQ _ p0
  · subst e
    rw [Int.toNat_natCast] at hQ
    have hn2 : isT w ((n : Nat) : Int) := ⟨by omega, by omega⟩
    refine s_Mod_canDeal hE (hI.2.2.1 n hn) (by omega) ⟨_, rfl, ?_⟩
    rw [i3_01]
    refine ⟨fun q => ?_, fun q => ?_⟩
    · have q3 : w_c w (28 + n) = 0 ∧ 0 < w_c w (16 + n) := by grind
      rw [if_pos ⟨hn2, q3⟩, if_pos ⟨hn2, q3⟩] at hQ
      refine s_Mod_keepsIt hE hP (fun r n' hr => ⟨rfl, ?_⟩)
      have p1 := RPost_keep p0 hr
      refine s_Mod_sellsIt p1.1.2.2.2.2.1 (hI.2.2.1 n hn) p1.1.2.1 (by omega) q3.2 (fun m2 r2 he hr2 => ⟨_, rfl, ?_⟩)
      exact hQ _ (RPost_row2 p1 he hr2)
    · rw [if_neg (by grind), if_neg (by grind)] at hQ; exact hQ _ p0
theorem r_spend {g : sh_G} {d : Nat} {w : Wd} {mem : sh_Mem} {t : Int} {Q : Option sh_V → sh_Mem → Prop} (hW : WOk w) (h : RRel w mem) (ht : i3 t = t) (hQ : ∀ m', RPost (a_spend w t) mem m' → Q (some (sh_i (q_spend w t))) m') : sh_Cal g (d + 5) m_Mod_spend [sh_r 96, sh_i t] mem Q := by
  have p0 := RPost_0 h
  have hE := p0.1.2.2.2.2.1
  have hP := p0.1.2.2.2.2.2.1
  have hI := hW.2.1
  have k1 := hW.1.1
  have k2 := hW.1.2.1
  apply v_Mod_spend
  rintro _ rfl
  unfold a_spend q_spend at hQ
  refine isT_then p0.1 ht (fun q => ?_) (fun n e hn => ?_)
  · rw [if_neg (fun z => q z.1), if_neg (fun z => q z.1)] at hQ; exact hQ _ p0
  · subst e
    rw [Int.toNat_natCast] at hQ
    have hn2 : isT w ((n : Nat) : Int) := ⟨by omega, by omega⟩
    refine s_Mod_canDeal hE (hI.2.2.1 n hn) (by omega) ⟨_, rfl, ?_⟩
    rw [i3_01]
    refine ⟨fun q => ?_, fun q => ?_⟩
    · have q3 : w_c w (28 + n) = 0 ∧ 0 < w_c w (16 + n) := by grind
      rw [if_pos ⟨hn2, q3⟩, if_pos ⟨hn2, q3⟩] at hQ
      refine s_Mod_keepsIt hE hP (fun r n' hr => ⟨rfl, ?_⟩)
      have p1 := RPost_keep p0 hr
      refine s_Mod_spendsIt p1.1.2.2.2.2.1 (hI.2.2.1 n hn) (by omega) (fun r2 hr2 => ⟨_, rfl, ?_⟩)
      exact hQ _ (RPost_row p1 hr2)
    · rw [if_neg (by grind), if_neg (by grind)] at hQ; exact hQ _ p0
