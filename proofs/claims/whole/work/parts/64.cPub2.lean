/-! ===== the class's answers: more ===== -/
theorem c_thief {g : sh_G} {d : Nat} {w : Wd} {mem : sh_Mem} {t k : Int} {Q : Option sh_V → sh_Mem → Prop} (hW : WOk w) (h : CRel w mem) (ht : i3 t = t) (hk : i3 k = k) (hQ : ∀ m', CPost w mem m' → Q (some (sh_i (q_thief w t k))) m') : sh_Cal g (d + 1) m_Sto_thief [sh_r 1, sh_i t, sh_i k] mem Q := by
  obtain ⟨B, Y, hB, hY, hc⟩ := h
  have k1 := hW.1.1
  have k2 := hW.1.2.1
  have h6 : mem (5 + 1) = w_c w := hc.2.2.2.2.1.1
  have hI := hW.2.1
  have hI5 : Inv (w_b w) (mem (5 + 1)) := by rw [h6]; exact hI
  have p := hQ _ (CPost_rf hB hY hc)
  unfold q_thief at p
  apply v_Sto_thief (obB_0 hB)
  refine cT_then' hB hc ht (fun q => ?_) (fun n e hn => ?_)
  · rw [if_neg (fun z => q z.1)] at p; exact p
  · subst e
    have a := hc.2.1.2.2.2.2 n hn
    have hT : isT w (n : Int) := by omega
    have hM := hI.2.2.1 n hn
    have h6' : mem 6 = w_c w := h6
    rw [Int.toNat_natCast] at p
    have ix : ∀ i : Nat, ((i : Int) + (n : Int)).toNat = i + n := fun i => by omega
    rw [show ((16 : Int) + (n : Int)).toNat = 16 + n from ix 16, show ((28 : Int) + (n : Int)).toNat = 28 + n from ix 28, show ((32 : Int) + (n : Int)).toNat = 32 + n from ix 32, show ((36 : Int) + (n : Int)).toNat = 36 + n from ix 36, show ((40 : Int) + (n : Int)).toNat = 40 + n from ix 40, Int.toNat_natCast, h6', a.1, a.2, hk]
    refine ⟨fun z => ⟨hc.1.1, by omega, ?_⟩, fun z => ⟨hc.1.1, by omega, ?_⟩, fun z => ⟨by omega, ?_⟩, fun z => ?_, fun z => ?_, fun z => ⟨by omega, ?_⟩, fun z => ⟨by omega, ?_⟩, fun z => ⟨by omega, ?_⟩, fun z => ⟨by omega, ?_⟩, fun z => ?_⟩
    · rw [if_pos ⟨hT, by omega, by omega⟩, if_pos z] at p; exact p
    · rw [if_pos ⟨hT, by omega, by omega⟩, if_neg (by omega), if_pos z] at p; exact p
    · rw [if_pos ⟨hT, by omega, by omega⟩, if_neg (by omega), if_neg (by omega), if_neg (by omega), show 16 + 4 * (k - 2).toNat + n = 16 + n by omega] at p; exact p
    · rw [if_pos ⟨hT, by omega, by omega⟩, if_neg (by omega), if_neg (by omega), show 16 + 4 * (k - 2).toNat + n = 20 + n by omega] at p
      refine s_State_hasPiece o5 (by omega) (by rw [h6]; exact ⟨hM.1, hM.2.1⟩) ⟨_, rfl, ?_⟩
      rw [i3_01, h6, show ((20 : Int) + (n : Int)).toNat = 20 + n from ix 20]
      refine ⟨fun q => ?_, fun q => ⟨by omega, ?_⟩⟩
      · rw [if_pos ⟨Or.inl z, by grind⟩] at p; exact p
      · rw [if_neg (by grind)] at p; exact p
    · rw [if_pos ⟨hT, by omega, by omega⟩, if_neg (by omega), if_neg (by omega), show 16 + 4 * (k - 2).toNat + n = 24 + n by omega] at p
      refine s_State_hasPiece o5 (by omega) (by rw [h6]; exact ⟨hM.1, hM.2.1⟩) ⟨_, rfl, ?_⟩
      rw [i3_01, h6, show ((24 : Int) + (n : Int)).toNat = 24 + n from ix 24]
      refine ⟨fun q => ?_, fun q => ⟨by omega, ?_⟩⟩
      · rw [if_pos ⟨Or.inr z, by grind⟩] at p; exact p
      · rw [if_neg (by grind)] at p; exact p
    · rw [if_pos ⟨hT, by omega, by omega⟩, if_neg (by omega), if_neg (by omega), if_neg (by omega), show 16 + 4 * (k - 2).toNat + n = 28 + n by omega] at p; exact p
    · rw [if_pos ⟨hT, by omega, by omega⟩, if_neg (by omega), if_neg (by omega), if_neg (by omega), show 16 + 4 * (k - 2).toNat + n = 32 + n by omega] at p; exact p
    · rw [if_pos ⟨hT, by omega, by omega⟩, if_neg (by omega), if_neg (by omega), if_neg (by omega), show 16 + 4 * (k - 2).toNat + n = 36 + n by omega] at p; exact p
    · rw [if_pos ⟨hT, by omega, by omega⟩, if_neg (by omega), if_neg (by omega), if_neg (by omega), show 16 + 4 * (k - 2).toNat + n = 40 + n by omega] at p; exact p
    · rw [if_neg (by omega)] at p; exact p
theorem l_Sto_can {g : sh_G} {d B Y t : Nat} {w : Wd} {mem : sh_Mem} {Q : Option sh_V → sh_Mem → Prop} (hB : obB B) (hc : CR B Y w mem) (hI5 : Inv (w_b w) (mem (5 + 1))) (ht : t < b_nt (w_b w)) (h : Q (some (sh_i (bitsF (fun e => decide (0 < bag (w_b w) (mem (5 + 1)) t e)) (b_nd (w_b w))))) mem) : ∀ (k x : Nat), x + k = b_nd (w_b w) →
    sh_X g (d + 4) m_Sto_can 14 [(0, sh_r 1), (1, sh_i (t : Int)), (2, sh_i (bitsF (fun e => decide (0 < bag (w_b w) (mem (5 + 1)) t e)) x)), (3, sh_i (x : Int))] [] mem (sh_K m_Sto_can Q) := by
  have k1 := hc.2.1.1.1
  intro k
  induction k with
  | zero =>
    intro x hx
    obtain rfl : x = b_nd (w_b w) := by omega
    apply v_Sto_can_14 (obB_0 hB)
    rw [hc.2.1.2.1]
    exact ⟨hc.1.1, fun _ => h, fun q => absurd (by omega) q⟩
  | succ k ih =>
    intro x hx
    have ih' := ih (x + 1) (by omega)
    have hbg := bag_rng hc.2.1.1 (c := mem (5 + 1)) (e := x) ht
    rw [bitsF] at ih'
    apply v_Sto_can_14 (obB_0 hB)
    rw [hc.2.1.2.1, i3n (by omega), i3n (by omega)]
    refine ⟨hc.1.1, fun q => absurd q (by omega), fun _ => ⟨hc.1.1, s_State_bagged (d := d) (S := 5) o5 (obB_0 hB) (b := w_b w) hI5 hc.2.1 ht (by omega) ⟨_, rfl, ?_⟩⟩⟩
    rw [i3s (x := bag (w_b w) (mem (5 + 1)) t x) (by omega) (by omega)]
    refine ⟨fun q => ?_, fun q => ?_⟩
    · rw [if_neg (by rw [decide_eq_true_eq]; omega)] at ih'; exact ih'
    · rw [if_pos (by rw [decide_eq_true_eq]; omega)] at ih'; exact ih'
theorem c_can {g : sh_G} {d : Nat} {w : Wd} {mem : sh_Mem} {t : Int} {Q : Option sh_V → sh_Mem → Prop} (hW : WOk w) (h : CRel w mem) (ht : i3 t = t) (hQ : ∀ m', CPost w mem m' → Q (some (sh_i (q_can w t))) m') : sh_Cal g (d + 4) m_Sto_can [sh_r 1, sh_i t] mem Q := by
  obtain ⟨B, Y, hB, hY, hc⟩ := h
  have k1 := hW.1.1
  have k2 := hW.1.2.1
  have h6 : mem (5 + 1) = w_c w := hc.2.2.2.2.1.1
  have hI := hW.2.1
  have hI5 : Inv (w_b w) (mem (5 + 1)) := by rw [h6]; exact hI
  have p := hQ _ (CPost_rf hB hY hc)
  unfold q_can at p
  apply v_Sto_can (obB_0 hB)
  refine cT_then' hB hc ht (fun q => ?_) (fun n e hn => ?_)
  · rw [if_neg q] at p; exact p
  · subst e
    rw [if_pos (show isT w (n : Int) by omega), Int.toNat_natCast] at p
    refine l_Sto_can hB hc hI5 hn ?_ (b_nd (w_b w)) 0 (by omega)
    rw [h6, bitsF_cong (P' := fun e => decide (w_c w (28 + n) = 0 ∧ w_c w (16 + n) = 0) && opnM (w_b w) (w_c w) n e) (b_nd (w_b w)) (fun i hi => ?_)]
    · exact p
    · have := bag_F hW.1 (c := w_c w) (t := n) (e := i) hn
      by_cases z : 0 < bag (w_b w) (w_c w) n i
      · rw [decide_eq_true z, this.mpr z]
      · rw [decide_eq_false z]
        by_cases y : (decide (w_c w (28 + n) = 0 ∧ w_c w (16 + n) = 0) && opnM (w_b w) (w_c w) n i) = true
        · exact absurd (this.mp y) z
        · simpa using y
theorem c_price {g : sh_G} {d : Nat} {w : Wd} {mem : sh_Mem} {t : Int} {Q : Option sh_V → sh_Mem → Prop} (hW : WOk w) (h : CRel w mem) (ht : i3 t = t) (hQ : ∀ m', CPost w mem m' → Q (some (sh_i (q_price2 w t))) m') : sh_Cal g (d + 4) m_Sto_price [sh_r 1, sh_i t] mem Q := by
  obtain ⟨B, Y, hB, hY, hc⟩ := h
  have k1 := hW.1.1
  have k2 := hW.1.2.1
  have h6 : mem (5 + 1) = w_c w := hc.2.2.2.2.1.1
  have hI := hW.2.1
  have hI5 : Inv (w_b w) (mem (5 + 1)) := by rw [h6]; exact hI
  have p := hQ _ (CPost_rf hB hY hc)
  unfold q_price2 at hQ p
  apply v_Sto_price (obB_0 hB)
  refine cT_then hB hc ht (fun q => ?_) (fun n e hn => ?_)
  · rw [if_neg (fun z => q z.1)] at p; exact p
  · subst e
    have hM := hI.2.2.1 n hn
    rw [Int.toNat_natCast] at hQ p
    refine s_State_hasPiece o5 (by omega) (by rw [h6]; exact ⟨hM.1, hM.2.1⟩) ⟨_, rfl, ?_⟩
    rw [i3_01, h6]
    refine ⟨fun q => ⟨hc.1.1, ?_⟩, fun q => ?_⟩
    · have q2 : 0 < w_c w (16 + n) := by grind
      refine s_State_paidFor (d := d) (S := 5) o5 (obB_0 hB) (b := w_b w) (by rw [h6]; exact hM) hW.1 hc.2.2.1 hn (by rw [h6]; exact q2) (fun r => ⟨_, rfl, ?_⟩)
      have := hQ _ (CPost_ms hB hY hc (csc_10 hB).1 (csc_10 hB).2 r)
      rw [if_pos ⟨by omega, q2⟩] at this
      unfold prV at this
      rw [if_pos q2] at this
      rw [h6]; exact this
    · rw [if_neg (fun z => by have := z.2; rw [if_pos this] at q; exact absurd q (by decide))] at p; exact p
theorem c_all {g : sh_G} {d : Nat} {w : Wd} {mem : sh_Mem} {Q : Option sh_V → sh_Mem → Prop} (hW : WOk w) (h : CRel w mem) (hQ : ∀ m', CPost w mem m' → Q (some (sh_i (sumF (w_c w) 16 4))) m') : sh_Cal g (d + 1) m_Sto_all [sh_r 1] mem Q := by
  obtain ⟨B, Y, hB, hY, hc⟩ := h
  have k1 := hW.1.1
  have k2 := hW.1.2.1
  have h6 : mem (5 + 1) = w_c w := hc.2.2.2.2.1.1
  have hI := hW.2.1
  have hI5 : Inv (w_b w) (mem (5 + 1)) := by rw [h6]; exact hI
  have p := hQ _ (CPost_rf hB hY hc)
  apply v_Sto_all
  refine s_State_sumOfThieves (a := 16) (S := 5) o5 (by omega) ⟨_, rfl, ?_⟩
  rw [h6]; exact p
/-- coins, so far -/
def Cn (N : Nat) (c : Nat → Int) : Prop := ∀ t, t < 4 → 0 ≤ c (36 + t) ∧ c (36 + t) ≤ 99 * N
def mo3 (c : Nat → Int) (a n : Nat) : Int := if moF c a n < 0 then -1 else c (a + (moF c a n).toNat)
theorem l_firstWithMost {g : sh_G} {d B Y a : Nat} {w : Wd} {mem : sh_Mem} {Q : Option sh_V → sh_Mem → Prop} (hB : obB B) (hc : CR B Y w mem) (ha : a ≤ 41) (hp : ∀ t, t < b_nt (w_b w) → 0 ≤ i3 (mem 6 (a + t))) (h : Q (some (sh_i (moF (mem 6) a (b_nt (w_b w))))) mem) : ∀ (k x : Nat), x + k = b_nt (w_b w) →
    sh_X g d m_Sto_firstWithMost 7 [(0, sh_r 1), (1, sh_i (a : Int)), (2, sh_i (moF (mem 6) a x)), (3, sh_i (mo3 (mem 6) a x)), (4, sh_i (x : Int))] [] mem (sh_K m_Sto_firstWithMost Q) := by
  have k2 := hc.2.1.1.2.1
  intro k
  induction k with
  | zero =>
    intro x hx
    obtain rfl : x = b_nt (w_b w) := by omega
    apply v_Sto_firstWithMost_7 (obB_0 hB)
    rw [hc.2.1.2.2.1]
    exact ⟨hc.1.1, fun _ => h, fun q => absurd (by omega) q⟩
  | succ k ih =>
    intro x hx
    have ih' := ih (x + 1) (by omega)
    have hm := moF_rng (mem 6) a x
    have hx0 := hp x (by omega)
    have e1 : ((a : Int) + (x : Int)).toNat = a + x := by omega
    apply v_Sto_firstWithMost_7 (obB_0 hB)
    rw [hc.2.1.2.2.1, i3n (by omega), i3n (by omega), e1]
    have new : (moF (mem 6) a (x + 1) = (x : Int)) → sh_X g d m_Sto_firstWithMost 7 [(0, sh_r 1), (1, sh_i (a : Int)), (2, sh_i (x : Int)), (3, sh_i (mem 6 (a + x))), (4, sh_i ((x + 1 : Nat) : Int))] [] mem (sh_K m_Sto_firstWithMost Q) := by
      intro q
      unfold mo3 at ih'
      rw [q, if_neg (by omega), Int.toNat_natCast] at ih'; exact ih'
    have old : (moF (mem 6) a (x + 1) = moF (mem 6) a x) → sh_X g d m_Sto_firstWithMost 7 [(0, sh_r 1), (1, sh_i (a : Int)), (2, sh_i (moF (mem 6) a x)), (3, sh_i (mo3 (mem 6) a x)), (4, sh_i ((x + 1 : Nat) : Int))] [] mem (sh_K m_Sto_firstWithMost Q) := by
      intro q
      have q2 : mo3 (mem 6) a (x + 1) = mo3 (mem 6) a x := by unfold mo3; rw [q]
      rw [q, q2] at ih'; exact ih'
    refine ⟨hc.1.1, fun q => absurd q (by omega), fun _ => ⟨by omega, fun q => old ?_, fun q => ⟨by omega, new ?_⟩⟩⟩
    · unfold mo3 at q
      rw [moF]
      split at q
      · have e0 : i3 (-1) = -1 := rfl
        omega
      · rename_i z; rw [if_neg z, if_pos q]
    · unfold mo3 at q
      rw [moF]
      split at q
      · rename_i z; rw [if_pos z]
      · rename_i z; rw [if_neg z, if_neg q]
theorem s_firstWithMost {g : sh_G} {d B Y a : Nat} {w : Wd} {mem : sh_Mem} {Q : Option sh_V → sh_Mem → Prop} (hB : obB B) (hc : CR B Y w mem) (ha : a ≤ 41) (hp : ∀ t, t < b_nt (w_b w) → 0 ≤ i3 (mem 6 (a + t))) (h : Q (some (sh_i (moF (mem 6) a (b_nt (w_b w))))) mem) : sh_Cal g d m_Sto_firstWithMost [sh_r 1, sh_i (a : Int)] mem Q := by
  apply v_Sto_firstWithMost (obB_0 hB)
  exact l_firstWithMost hB hc ha hp h (b_nt (w_b w)) 0 (by omega)
theorem c_rich {g : sh_G} {d : Nat} {w : Wd} {mem : sh_Mem} {Q : Option sh_V → sh_Mem → Prop} (hW : WOk w) (h : CRel w mem) {N : Nat} (hN : Cn N (w_c w)) (hN2 : N ≤ 10000) (hQ : ∀ m', CPost w mem m' → Q (some (sh_i (moF (w_c w) 36 (b_nt (w_b w))))) m') : sh_Cal g (d + 1) m_Sto_rich [sh_r 1] mem Q := by
  obtain ⟨B, Y, hB, hY, hc⟩ := h
  have k1 := hW.1.1
  have k2 := hW.1.2.1
  have h6 : mem (5 + 1) = w_c w := hc.2.2.2.2.1.1
  have hI := hW.2.1
  have hI5 : Inv (w_b w) (mem (5 + 1)) := by rw [h6]; exact hI
  have p := hQ _ (CPost_rf hB hY hc)
  have h6' : mem 6 = w_c w := h6
  apply v_Sto_rich
  refine s_firstWithMost (a := 36) hB hc (by omega) (fun t ht => ?_) ⟨_, rfl, ?_⟩
  · have := hN t (by omega)
    rw [h6', i3_id (by omega) (by omega)]; exact this.1
  · rw [h6']; exact p
theorem c_guilty {g : sh_G} {d : Nat} {w : Wd} {mem : sh_Mem} {Q : Option sh_V → sh_Mem → Prop} (hW : WOk w) (h : CRel w mem) (hQ : ∀ m', CPost w mem m' → Q (some (sh_i (moF (w_c w) 32 (b_nt (w_b w))))) m') : sh_Cal g (d + 1) m_Sto_guilty [sh_r 1] mem Q := by
  obtain ⟨B, Y, hB, hY, hc⟩ := h
  have k1 := hW.1.1
  have k2 := hW.1.2.1
  have h6 : mem (5 + 1) = w_c w := hc.2.2.2.2.1.1
  have hI := hW.2.1
  have hI5 : Inv (w_b w) (mem (5 + 1)) := by rw [h6]; exact hI
  have p := hQ _ (CPost_rf hB hY hc)
  have h6' : mem 6 = w_c w := h6
  apply v_Sto_guilty
  refine s_firstWithMost (a := 32) hB hc (by omega) (fun t ht => ?_) ⟨_, rfl, ?_⟩
  · have := hI.2.2.1 t ht
    rw [h6', i3s (by omega) (by omega)]; exact this.2.2.2.2.1
  · rw [h6']; exact p
theorem c_later {g : sh_G} {d : Nat} {w : Wd} {mem : sh_Mem} {x k : Int} {Q : Option sh_V → sh_Mem → Prop} (hW : WOk w) (h : CRel w mem) (hx : i3 x = x) (hk : i3 k = k) (hQ : ∀ m', CPost w mem m' → Q (some (sh_i (q_later w x k))) m') : sh_Cal g (d + 2) m_Sto_later [sh_r 1, sh_i x, sh_i k] mem Q := by
  obtain ⟨B, Y, hB, hY, hc⟩ := h
  have k1 := hW.1.1
  have k2 := hW.1.2.1
  have h6 : mem (5 + 1) = w_c w := hc.2.2.2.2.1.1
  have hI := hW.2.1
  have hI5 : Inv (w_b w) (mem (5 + 1)) := by rw [h6]; exact hI
  have p := hQ _ (CPost_rf hB hY hc)
  unfold q_later at p
  apply v_Sto_later (obB_0 hB)
  refine cD_then hB hc hx (fun q => ?_) (fun n e hn => ?_)
  · rw [if_neg (fun z => q z.1)] at p; exact p
  refine cW_then' hk rfl rfl (fun q => ?_) (fun q => ⟨hc.1.1, ?_⟩)
  · rw [if_neg (fun z => q z.2)] at p; exact p
  subst e
  obtain ⟨m, rfl⟩ : ∃ m : Nat, k = (m : Int) := ⟨k.toNat, by omega⟩
  rw [if_pos ⟨by omega, q⟩, Int.toNat_natCast, Int.toNat_natCast, nR_d hW.1 hn m _ hI] at p
  refine s_State_leftBehind (d := d) (S := 5) o5 (obB_0 hB) (b := w_b w) (by rw [h6]; exact hI.1 n hn) hc.2.1 hn (by omega) ⟨_, rfl, ?_⟩
  rw [h6]; exact p
theorem c_guards {g : sh_G} {d : Nat} {w : Wd} {mem : sh_Mem} {x k : Int} {Q : Option sh_V → sh_Mem → Prop} (hW : WOk w) (h : CRel w mem) (hx : i3 x = x) (hk : i3 k = k) (hQ : ∀ m', CPost w mem m' → Q (some (sh_i (q_guards w x k))) m') : sh_Cal g (d + 2) m_Sto_guards [sh_r 1, sh_i x, sh_i k] mem Q := by
  obtain ⟨B, Y, hB, hY, hc⟩ := h
  have k1 := hW.1.1
  have k2 := hW.1.2.1
  have h6 : mem (5 + 1) = w_c w := hc.2.2.2.2.1.1
  have hI := hW.2.1
  have hI5 : Inv (w_b w) (mem (5 + 1)) := by rw [h6]; exact hI
  have p := hQ _ (CPost_rf hB hY hc)
  unfold q_guards at p
  apply v_Sto_guards (obB_0 hB)
  refine cD_then hB hc hx (fun q => ?_) (fun n e hn => ?_)
  · rw [if_neg (fun z => q z.1)] at p; exact p
  refine cW_then' hk rfl rfl (fun q => ?_) (fun q => ⟨hc.1.1, ?_⟩)
  · rw [if_neg (fun z => q z.2)] at p; exact p
  subst e
  obtain ⟨m, rfl⟩ : ∃ m : Nat, k = (m : Int) := ⟨k.toNat, by omega⟩
  rw [if_pos ⟨by omega, q⟩, Int.toNat_natCast, Int.toNat_natCast, nR_g hW.1 hn m _ hI] at p
  refine s_State_guardBehind (d := d) (S := 5) o5 (obB_0 hB) (b := w_b w) (by rw [h6]; exact hI.1 n hn) hc.2.1 hn (by omega) ⟨_, rfl, ?_⟩
  rw [h6]; exact p
theorem c_keeps {g : sh_G} {d : Nat} {w : Wd} {mem : sh_Mem} {x k : Int} {Q : Option sh_V → sh_Mem → Prop} (hW : WOk w) (h : CRel w mem) (hx : i3 x = x) (hk : i3 k = k) (hQ : ∀ m', CPost w mem m' → Q (some (sh_i (q_keeps w x k))) m') : sh_Cal g (d + 2) m_Sto_keeps [sh_r 1, sh_i x, sh_i k] mem Q := by
  obtain ⟨B, Y, hB, hY, hc⟩ := h
  have k1 := hW.1.1
  have k2 := hW.1.2.1
  have h6 : mem (5 + 1) = w_c w := hc.2.2.2.2.1.1
  have hI := hW.2.1
  have hI5 : Inv (w_b w) (mem (5 + 1)) := by rw [h6]; exact hI
  have p := hQ _ (CPost_rf hB hY hc)
  unfold q_keeps at p
  apply v_Sto_keeps
  refine cT_then hB hc hx (fun q => ?_) (fun n e hn => ?_)
  · rw [if_neg (fun z => q z.1)] at p; exact p
  refine cW_then' hk rfl rfl (fun q => ?_) (fun q => ?_)
  · rw [if_neg (fun z => q z.2)] at p; exact p
  subst e
  obtain ⟨m, rfl⟩ : ∃ m : Nat, k = (m : Int) := ⟨k.toNat, by omega⟩
  rw [if_pos ⟨by omega, q⟩, Int.toNat_natCast, Int.toNat_natCast, nR_m hW.1 hn m _ hI] at p
  refine s_State_muchBehind (d := d) (S := 5) o5 (b := w_b w) (by rw [h6]; exact hI.2.2.1 n hn) hn hW.1 (by omega) ⟨_, rfl, ?_⟩
  rw [h6]; exact p
theorem c_freed {g : sh_G} {d : Nat} {w : Wd} {mem : sh_Mem} {t : Int} {Q : Option sh_V → sh_Mem → Prop} (hW : WOk w) (h : CRel w mem) (ht : i3 t = t) (hQ : ∀ m', CPost w mem m' → Q (some (sh_i (q_freed w t))) m') : sh_Cal g (d + 1) m_Sto_freed [sh_r 1, sh_i t] mem Q := by
  obtain ⟨B, Y, hB, hY, hc⟩ := h
  have k1 := hW.1.1
  have k2 := hW.1.2.1
  have h6 : mem (5 + 1) = w_c w := hc.2.2.2.2.1.1
  have hI := hW.2.1
  have hI5 : Inv (w_b w) (mem (5 + 1)) := by rw [h6]; exact hI
  have p := hQ _ (CPost_rf hB hY hc)
  unfold q_freed at p
  apply v_Sto_freed
  refine cT_then hB hc ht (fun q => ?_) (fun n e hn => ⟨by omega, ?_⟩)
  · rw [if_neg q] at p; exact p
  subst e
  rw [if_pos (show isT w (n : Int) by omega), Int.toNat_natCast] at p
  rw [show ((28 : Int) + (n : Int)).toNat = 28 + n by omega, show mem 6 = w_c w from h6]; exact p
