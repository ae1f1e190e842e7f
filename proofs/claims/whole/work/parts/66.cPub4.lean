/-! ===== the class's answers: slack, cover, watch, counts ===== -/
def lg3 (c : Nat → Int) (n : Nat) : Int := if lgF c n < 0 then 10 else c (8 + (lgF c n).toNat)
theorem l_Sto_slack {g : sh_G} {d B Y n : Nat} {w : Wd} {mem : sh_Mem} {Q : Option sh_V → sh_Mem → Prop} (hW : WOk w) (hB : obB B) (hc : CR B Y w mem) (hn : n ≤ 60) (h : Q (some (sh_i (lgF (nightsR (w_b w) (w_c w) n) (b_nd (w_b w))))) mem) : ∀ (k x : Nat), x + k = b_nd (w_b w) →
    sh_X g (d + 2) m_Sto_slack 20 [(0, sh_r 1), (1, sh_i (n : Int)), (2, sh_i (lgF (nightsR (w_b w) (w_c w) n) x)), (3, sh_i (lg3 (nightsR (w_b w) (w_c w) n) x)), (4, sh_i (x : Int))] [] mem (sh_K m_Sto_slack Q) := by
  have k1 := hW.1.1
  have h6 : mem (5 + 1) = w_c w := hc.2.2.2.2.1.1
  have hIn := Inv_nights hW.1 n _ hW.2.1
  intro k
  induction k with
  | zero =>
    intro x hx
    obtain rfl : x = b_nd (w_b w) := by omega
    apply v_Sto_slack_20 (obB_0 hB)
    rw [hc.2.1.2.1]
    exact ⟨hc.1.1, fun _ => h, fun q => absurd (by omega) q⟩
  | succ k ih =>
    intro x hx
    have ih' := ih (x + 1) (by omega)
    have hm := lgF_rng (nightsR (w_b w) (w_c w) n) x
    have hx0 := hIn.1 x (by omega)
    have hx1 := hW.1.2.2.1 x (by omega)
    have e1 := nR_g hW.1 (show x < b_nd (w_b w) by omega) n _ hW.2.1
    generalize nightsR (w_b w) (w_c w) n = c' at *
    have r3 : 0 ≤ lg3 c' x ∧ lg3 c' x ≤ 10 := by
      unfold lg3; split
      · omega
      · have := hIn.1 (lgF c' x).toNat (by omega); have := hW.1.2.2.1 (lgF c' x).toNat (by omega); omega
    have new : (lgF c' (x + 1) = (x : Int)) → sh_X g (d + 2) m_Sto_slack 20 [(0, sh_r 1), (1, sh_i (n : Int)), (2, sh_i (x : Int)), (3, sh_i (c' (8 + x))), (4, sh_i ((x + 1 : Nat) : Int))] [] mem (sh_K m_Sto_slack Q) := by
      intro q
      unfold lg3 at ih'
      rw [q, if_neg (by omega), Int.toNat_natCast] at ih'; exact ih'
    have old : (lgF c' (x + 1) = lgF c' x) → sh_X g (d + 2) m_Sto_slack 20 [(0, sh_r 1), (1, sh_i (n : Int)), (2, sh_i (lgF c' x)), (3, sh_i (lg3 c' x)), (4, sh_i ((x + 1 : Nat) : Int))] [] mem (sh_K m_Sto_slack Q) := by
      intro q
      have q2 : lg3 c' (x + 1) = lg3 c' x := by unfold lg3; rw [q]
      rw [q, q2] at ih'; exact ih'
    apply v_Sto_slack_20 (obB_0 hB)
    rw [hc.2.1.2.1, i3n (by omega), i3n (by omega)]
    refine ⟨hc.1.1, fun q => absurd q (by omega), fun _ => ⟨hc.1.1, ?_⟩⟩
    refine s_State_guardBehind (d := d) (S := 5) o5 (obB_0 hB) (b := w_b w) (by rw [h6]; exact hW.2.1.1 x (by omega)) hc.2.1 (by omega) (by omega) ⟨_, rfl, ?_⟩
    rw [h6, ← e1, i3s (x := lg3 c' x) (by omega) (by omega), i3s (x := c' (8 + x)) (by omega) (by omega)]
    refine ⟨fun q => old ?_, fun q => new ?_⟩
    · unfold lg3 at q
      rw [lgF]
      split at q
      · omega
      · rename_i z; rw [if_neg z, if_pos q]
    · unfold lg3 at q
      rw [lgF]
      split at q
      · rename_i z; rw [if_pos z]
      · rename_i z; rw [if_neg z, if_neg q]
theorem c_slack {g : sh_G} {d : Nat} {w : Wd} {mem : sh_Mem} {k : Int} {Q : Option sh_V → sh_Mem → Prop} (hW : WOk w) (h : CRel w mem) (hk : i3 k = k) (hQ : ∀ m', CPost w mem m' → Q (some (sh_i (q_slack w k))) m') : sh_Cal g (d + 2) m_Sto_slack [sh_r 1, sh_i k] mem Q := by
  obtain ⟨B, Y, hB, hY, hc⟩ := h
  have k1 := hW.1.1
  have k2 := hW.1.2.1
  have h6 : mem (5 + 1) = w_c w := hc.2.2.2.2.1.1
  have hI := hW.2.1
  have hI5 : Inv (w_b w) (mem (5 + 1)) := by rw [h6]; exact hI
  have p := hQ _ (CPost_rf hB hY hc)
  unfold q_slack at p
  apply v_Sto_slack (obB_0 hB)
  refine cW_then' hk rfl rfl (fun q => ?_) (fun q => ?_)
  · rw [if_neg q] at p; exact p
  obtain ⟨m, rfl⟩ : ∃ m : Nat, k = (m : Int) := ⟨k.toNat, by omega⟩
  rw [if_pos q, Int.toNat_natCast] at p
  exact l_Sto_slack hW hB hc (by omega) p (b_nd (w_b w)) 0 (by omega)
theorem l_Sto_cover {g : sh_G} {d B Y : Nat} {best : Int} {w : Wd} {mem : sh_Mem} {Q : Option sh_V → sh_Mem → Prop} (hW : WOk w) (hB : obB B) (hc : CR B Y w mem) (hbe : -1 ≤ best ∧ best ≤ 9) : ∀ (k x : Nat) (acc : Int), x + k = b_nd (w_b w) → Q (some (sh_i (cvF (w_c w) best k x acc))) mem →
    sh_X g (d + 1) m_Sto_cover 16 [(0, sh_r 1), (1, sh_i best), (2, sh_i acc), (3, sh_i (x : Int))] [] mem (sh_K m_Sto_cover Q) := by
  have k1 := hW.1.1
  have h6 : mem 6 = w_c w := hc.2.2.2.2.1.1
  intro k
  induction k with
  | zero =>
    intro x acc hx h
    obtain rfl : x = b_nd (w_b w) := by omega
    apply v_Sto_cover_16 (obB_0 hB)
    rw [hc.2.1.2.1]
    exact ⟨hc.1.1, fun _ => h, fun q => absurd (by omega) q⟩
  | succ k ih =>
    intro x acc hx h
    have r1 := hW.2.1.1 x (by omega)
    have r2 := hW.1.2.2.1 x (by omega)
    rw [cvF] at h
    apply v_Sto_cover_16 (obB_0 hB)
    rw [hc.2.1.2.1, i3n (by omega), i3n (by omega), h6, i3s (x := w_c w x) (by omega) (by omega), i3s (x := w_c w (8 + x)) (by omega) (by omega), i3s (x := best) (by omega) (by omega)]
    refine ⟨hc.1.1, fun q => absurd q (by omega), fun _ => ⟨by omega, fun q => ?_, fun q => ⟨by omega, fun q2 => ?_, fun q2 => ⟨fun q3 => ⟨by omega, ?_⟩, fun q3 => ?_⟩⟩⟩⟩
    · rw [if_pos (by omega)] at h; exact ih (x + 1) acc (by omega) h
    · rw [if_neg (by omega), if_neg (by omega)] at h; exact ih (x + 1) acc (by omega) h
    · rw [if_neg (by omega), if_pos (by omega), if_neg (by omega)] at h; exact ih (x + 1) _ (by omega) h
    · rw [if_neg (by omega), if_pos (by omega), if_pos (by omega)] at h; exact h
theorem c_cover {g : sh_G} {d : Nat} {w : Wd} {mem : sh_Mem} {Q : Option sh_V → sh_Mem → Prop} (hW : WOk w) (h : CRel w mem) (hQ : ∀ m', CPost w mem m' → Q (some (sh_i (cvF (w_c w) (brsF (w_b w) (w_c w) (b_nt (w_b w))) (b_nd (w_b w)) 0 0))) m') : sh_Cal g (d + 3) m_Sto_cover [sh_r 1] mem Q := by
  obtain ⟨B, Y, hB, hY, hc⟩ := h
  have k1 := hW.1.1
  have k2 := hW.1.2.1
  have h6 : mem (5 + 1) = w_c w := hc.2.2.2.2.1.1
  have hI := hW.2.1
  have hI5 : Inv (w_b w) (mem (5 + 1)) := by rw [h6]; exact hI
  have p := hQ _ (CPost_rf hB hY hc)
  apply v_Sto_cover (obB_0 hB)
  refine ⟨hc.1.1, s_State_bestReadySkill (d := d) (S := 5) o5 (obB_0 hB) (b := w_b w) hI5 hc.2.1 ⟨_, rfl, ?_⟩⟩
  rw [h6]
  exact l_Sto_cover hW hB hc (brsF_rng hW.1 _ _ (Nat.le_refl _)) (b_nd (w_b w)) 0 0 (by omega) p
theorem mb1_s {b : Bk} (hb : BkOk b) {c : Nat → Int} {t x : Nat} (ht : t < b_nt b) {acc : Int} (ha : 0 ≤ acc) : (if (decide (c (28 + t) = 0 ∧ c (16 + t) = 0) && opnM b c t x) = true then max acc (hauM b c t x) else acc) = max acc (bag b c t x) := by
  have hF := bag_F hb (c := c) (t := t) (e := x) ht
  have hr := bag_rng hb (c := c) (e := x) ht
  by_cases z : (decide (c (28 + t) = 0 ∧ c (16 + t) = 0) && opnM b c t x) = true
  · rw [if_pos z]
    have z2 := z
    rw [Bool.and_eq_true, decide_eq_true_eq] at z2
    unfold opnM at z2
    rw [decide_eq_true_eq] at z2
    have eh : hauM b c t x = bag b c t x := by unfold hauM bag; rw [if_pos z2.2, if_pos ⟨z2.1.1, z2.1.2, z2.2⟩]
    rw [eh]
  · rw [if_neg z]
    have : ¬ 0 < bag b c t x := fun y => z (hF.mpr y)
    omega
theorem l_mostWithout_18 {g : sh_G} {d B Y t : Nat} {but : Int} {w : Wd} {mem : sh_Mem} {Q : Option sh_V → sh_Mem → Prop} (hbut : i3 but = but) (hW : WOk w) (hB : obB B) (hc : CR B Y w mem) (ht : t < b_nt (w_b w)) : ∀ (k x : Nat) (acc : Int), x + k = b_nd (w_b w) → 0 ≤ acc ∧ acc ≤ 12 → sh_X g (d + 4) m_Sto_mostWithout 4 [(0, sh_r 1), (1, sh_i but), (2, sh_i (mb1 (w_b w) (w_c w) but t k x acc)), (3, sh_i ((t + 1 : Nat) : Int))] [] mem (sh_K m_Sto_mostWithout Q) →
    sh_X g (d + 4) m_Sto_mostWithout 18 [(0, sh_r 1), (1, sh_i but), (2, sh_i acc), (3, sh_i (t : Int)), (4, sh_i (x : Int))] [] mem (sh_K m_Sto_mostWithout Q) := by
  have k1 := hW.1.1
  have h6 : mem (5 + 1) = w_c w := hc.2.2.2.2.1.1
  intro k
  induction k with
  | zero =>
    intro x acc hx ha h
    obtain rfl : x = b_nd (w_b w) := by omega
    apply v_Sto_mostWithout_18 (obB_0 hB)
    rw [hc.2.1.2.1]
    exact ⟨hc.1.1, fun _ => h, fun q => absurd (by omega) q⟩
  | succ k ih =>
    intro x acc hx ha h
    have hr := bag_rng hW.1 (c := w_c w) (e := x) ht
    rw [mb1] at h
    apply v_Sto_mostWithout_18 (obB_0 hB)
    rw [hc.2.1.2.1, i3n (by omega), i3n (by omega), hbut]
    refine ⟨hc.1.1, fun q => absurd q (by omega), fun _ => ⟨fun q => ?_, fun q => ⟨hc.1.1, s_State_bagged (d := d) (S := 5) o5 (obB_0 hB) (b := w_b w) (by rw [h6]; exact hW.2.1) hc.2.1 ht (by omega) ⟨_, rfl, ?_⟩⟩⟩⟩
    · rw [if_pos q] at h; exact ih (x + 1) acc (by omega) ha h
    · rw [if_neg q] at h
      rw [h6, i3s (x := acc) (by omega) (by omega), i3s (x := bag (w_b w) (w_c w) t x) (by omega) (by omega)]
      have e : (if acc < bag (w_b w) (w_c w) t x then bag (w_b w) (w_c w) t x else acc) = max acc (bag (w_b w) (w_c w) t x) := by split <;> omega
      have e2 := mb1_s hW.1 (c := w_c w) (t := t) (x := x) ht ha.1
      rw [e, ← e2]
      refine ih (x + 1) _ (by omega) (by rw [e2]; omega) ?_
      by_cases z : (decide (w_c w (28 + t) = 0 ∧ w_c w (16 + t) = 0) && opnM (w_b w) (w_c w) t x) = true
      · rw [if_pos z] at h ⊢; exact h
      · rw [if_neg z] at h ⊢; exact h
theorem l_mostWithout_4 {g : sh_G} {d B Y : Nat} {but : Int} {w : Wd} {mem : sh_Mem} {Q : Option sh_V → sh_Mem → Prop} (hbut : i3 but = but) (hW : WOk w) (hB : obB B) (hc : CR B Y w mem) : ∀ (k x : Nat) (acc : Int), x + k = b_nt (w_b w) → 0 ≤ acc ∧ acc ≤ 12 → Q (some (sh_i (mb2 (w_b w) (w_c w) but k x acc))) mem →
    sh_X g (d + 4) m_Sto_mostWithout 4 [(0, sh_r 1), (1, sh_i but), (2, sh_i acc), (3, sh_i (x : Int))] [] mem (sh_K m_Sto_mostWithout Q) := by
  have k2 := hW.1.2.1
  intro k
  induction k with
  | zero =>
    intro x acc hx ha h
    obtain rfl : x = b_nt (w_b w) := by omega
    apply v_Sto_mostWithout_4 (obB_0 hB)
    rw [hc.2.1.2.2.1]
    exact ⟨hc.1.1, fun _ => h, fun q => absurd (by omega) q⟩
  | succ k ih =>
    intro x acc hx ha h
    rw [mb2] at h
    apply v_Sto_mostWithout_4 (obB_0 hB)
    rw [hc.2.1.2.2.1, i3n (by omega), i3n (by omega)]
    refine ⟨hc.1.1, fun q => absurd q (by omega), fun _ => ?_⟩
    exact l_mostWithout_18 hbut hW hB hc (by omega) (b_nd (w_b w)) 0 acc (by omega) ha (ih (x + 1) _ (by omega) (mb1_rng hW.1 hW.2.1 but (by omega) _ _ _ (by omega) ha) h)
theorem s_mostWithout {g : sh_G} {d B Y : Nat} {but : Int} {w : Wd} {mem : sh_Mem} {Q : Option sh_V → sh_Mem → Prop} (hbut : i3 but = but) (hW : WOk w) (hB : obB B) (hc : CR B Y w mem) (h : Q (some (sh_i (mb2 (w_b w) (w_c w) but (b_nt (w_b w)) 0 0))) mem) : sh_Cal g (d + 4) m_Sto_mostWithout [sh_r 1, sh_i but] mem Q := by
  apply v_Sto_mostWithout (obB_0 hB)
  exact l_mostWithout_4 hbut hW hB hc (b_nt (w_b w)) 0 0 (by omega) (by omega) h
theorem l_Sto_watch {g : sh_G} {d B Y : Nat} {w : Wd} {mem : sh_Mem} {Q : Option sh_V → sh_Mem → Prop} (hW : WOk w) (hB : obB B) (hc : CR B Y w mem) (h : Q (some (sh_i (waF (w_b w) (w_c w) (b_nd (w_b w))).2)) mem) : ∀ (k x : Nat), x + k = b_nd (w_b w) →
    sh_X g (d + 5) m_Sto_watch 10 [(0, sh_r 1), (1, sh_i (waF (w_b w) (w_c w) x).1), (2, sh_i (waF (w_b w) (w_c w) x).2), (3, sh_i (x : Int))] [] mem (sh_K m_Sto_watch Q) := by
  have k1 := hW.1.1
  intro k
  induction k with
  | zero =>
    intro x hx
    obtain rfl : x = b_nd (w_b w) := by omega
    apply v_Sto_watch_10 (obB_0 hB)
    rw [hc.2.1.2.1]
    exact ⟨hc.1.1, fun _ => h, fun q => absurd (by omega) q⟩
  | succ k ih =>
    intro x hx
    have ih' := ih (x + 1) (by omega)
    have r1 := waF_rng hW.1 hW.2.1 x
    have r2 := mb2_rng hW.1 hW.2.1 (x : Int) (b_nt (w_b w)) 0 0 (by omega) (by omega)
    apply v_Sto_watch_10 (obB_0 hB)
    rw [hc.2.1.2.1, i3n (by omega), i3n (by omega)]
    refine ⟨hc.1.1, fun q => absurd q (by omega), fun _ => s_mostWithout (d := d) (i3n (by omega)) hW hB hc ⟨_, rfl, ?_⟩⟩
    rw [i3s (x := (waF (w_b w) (w_c w) x).1) (by omega) (by omega), i3s (x := mb2 (w_b w) (w_c w) (x : Int) (b_nt (w_b w)) 0 0) (by omega) (by omega)]
    refine ⟨fun q => ?_, fun q => ?_⟩
    · have e : waF (w_b w) (w_c w) (x + 1) = waF (w_b w) (w_c w) x := by rw [waF, if_neg (by omega)]
      rw [e] at ih'; exact ih'
    · have e : waF (w_b w) (w_c w) (x + 1) = (mb2 (w_b w) (w_c w) (x : Int) (b_nt (w_b w)) 0 0, (x : Int)) := by rw [waF, if_pos (by omega)]
      rw [e] at ih'; exact ih'
theorem c_watch {g : sh_G} {d : Nat} {w : Wd} {mem : sh_Mem} {Q : Option sh_V → sh_Mem → Prop} (hW : WOk w) (h : CRel w mem) (hQ : ∀ m', CPost w mem m' → Q (some (sh_i ((waF (w_b w) (w_c w) (b_nd (w_b w))).2))) m') : sh_Cal g (d + 5) m_Sto_watch [sh_r 1] mem Q := by
  obtain ⟨B, Y, hB, hY, hc⟩ := h
  have k1 := hW.1.1
  have k2 := hW.1.2.1
  have h6 : mem (5 + 1) = w_c w := hc.2.2.2.2.1.1
  have hI := hW.2.1
  have hI5 : Inv (w_b w) (mem (5 + 1)) := by rw [h6]; exact hI
  have p := hQ _ (CPost_rf hB hY hc)
  apply v_Sto_watch (obB_0 hB)
  refine s_mostWithout (d := d) (but := -1) rfl hW hB hc ⟨_, rfl, ?_⟩
  exact l_Sto_watch hW hB hc p (b_nd (w_b w)) 0 (by omega)
theorem l_leftOfAll {g : sh_G} {d B Y : Nat} {w : Wd} {mem : sh_Mem} {Q : Option sh_V → sh_Mem → Prop} (hB : obB B) (hc : CR B Y w mem) (h : Q (some (sh_i (sumF (mem 6) 0 (b_nd (w_b w))))) mem) : ∀ (k x : Nat), x + k = b_nd (w_b w) →
    sh_X g d m_Sto_leftOfAll 4 [(0, sh_r 1), (1, sh_i (sumF (mem 6) 0 x)), (2, sh_i (x : Int))] [] mem (sh_K m_Sto_leftOfAll Q) := by
  have k1 := hc.2.1.1.1
  intro k
  induction k with
  | zero =>
    intro x hx
    obtain rfl : x = b_nd (w_b w) := by omega
    apply v_Sto_leftOfAll_4 (obB_0 hB)
    rw [hc.2.1.2.1]
    exact ⟨hc.1.1, fun _ => h, fun q => absurd (by omega) q⟩
  | succ k ih =>
    intro x hx
    have ih' := ih (x + 1) (by omega)
    rw [sumF, Nat.zero_add] at ih'
    apply v_Sto_leftOfAll_4 (obB_0 hB)
    rw [hc.2.1.2.1, i3n (by omega), i3n (by omega)]
    exact ⟨hc.1.1, fun q => absurd q (by omega), fun _ => ⟨by omega, ih'⟩⟩
theorem sumF_cut {c : Nat → Int} {n : Nat} : ∀ m, n ≤ m → (∀ t, n ≤ t → t < m → c t = 0) → sumF c 0 m = sumF c 0 n
  | 0, h, _ => by obtain rfl : n = 0 := by omega
                  rfl
  | m + 1, h, hp => by
    rcases Nat.lt_or_ge m n with q | q
    · obtain rfl : n = m + 1 := by omega
      rfl
    · rw [sumF, Nat.zero_add, hp m q (by omega), Int.add_zero]
      exact sumF_cut m q (fun t h1 h2 => hp t h1 (by omega))
theorem c_count {g : sh_G} {d : Nat} {w : Wd} {mem : sh_Mem} {k : Int} {Q : Option sh_V → sh_Mem → Prop} (hW : WOk w) (h : CRel w mem) (hk : i3 k = k) (hQ : ∀ m', CPost w mem m' → Q (some (sh_i (q_count w k))) m') : sh_Cal g (d + 2) m_Sto_count [sh_r 1, sh_i k] mem Q := by
  obtain ⟨B, Y, hB, hY, hc⟩ := h
  have k1 := hW.1.1
  have k2 := hW.1.2.1
  have h6 : mem (5 + 1) = w_c w := hc.2.2.2.2.1.1
  have hI := hW.2.1
  have hI5 : Inv (w_b w) (mem (5 + 1)) := by rw [h6]; exact hI
  have p := hQ _ (CPost_rf hB hY hc)
  have h6' : mem 6 = w_c w := h6
  unfold q_count at p
  apply v_Sto_count (obB_0 hB) (obY_10 hY)
  rw [hk]
  refine ⟨fun z => ⟨hc.1.1, ?_⟩, fun z => ⟨hc.1.1, ?_⟩, fun z => ?_, fun z => ?_, fun z => ?_, fun z => ?_, fun z => ?_, fun z => ?_, fun z => ⟨hc.1.2.2.1, ?_⟩, fun z => ?_, fun z => ?_, fun z => ?_, fun z => ?_⟩
  · rw [if_pos z] at p
    rw [hc.2.1.2.1]; exact p
  · rw [if_neg (by omega), if_pos z] at p
    rw [hc.2.1.2.2.1]; exact p
  · rw [if_neg (by omega), if_neg (by omega), if_pos z] at p
    rw [h6']; exact p
  · rw [if_neg (by omega), if_neg (by omega), if_neg (by omega), if_pos z] at p
    apply v_Sto_leftOfAll (obB_0 hB)
    refine l_leftOfAll hB hc ⟨_, rfl, ?_⟩ (b_nd (w_b w)) 0 (by omega)
    rw [h6', ← sumF_cut 8 k1 (fun t h1 h2 => (hI.2.1 t h1 h2).1)]; exact p
  · rw [if_neg (by omega), if_neg (by omega), if_neg (by omega), if_neg (by omega), if_pos z] at p
    refine s_State_prisoners (d := d) (S := 5) o5 (b := w_b w) hI5 ⟨_, rfl, ?_⟩
    rw [h6]; exact p
  · rw [if_neg (by omega), if_neg (by omega), if_neg (by omega), if_neg (by omega), if_neg (by omega), if_pos z] at p
    refine s_State_holders (d := d) (S := 5) o5 (b := w_b w) hI5 ⟨_, rfl, ?_⟩
    rw [h6]; exact p
  · rw [if_neg (by omega), if_neg (by omega), if_neg (by omega), if_neg (by omega), if_neg (by omega), if_neg (by omega), if_pos z] at p
    refine s_State_sumOfThieves (a := 36) (S := 5) o5 (by omega) ⟨_, rfl, ?_⟩
    rw [h6]; exact p
  · rw [if_neg (by omega), if_neg (by omega), if_neg (by omega), if_neg (by omega), if_neg (by omega), if_neg (by omega), if_neg (by omega), if_pos z] at p
    refine s_State_sumOfThieves (a := 40) (S := 5) o5 (by omega) ⟨_, rfl, ?_⟩
    rw [h6]; exact p
  · rw [if_neg (by omega), if_neg (by omega), if_neg (by omega), if_neg (by omega), if_neg (by omega), if_neg (by omega), if_neg (by omega), if_neg (by omega), if_pos z] at p
    rw [hc.2.2.2.2.2.2.1.1]; exact p
  · rw [if_neg (by omega), if_neg (by omega), if_neg (by omega), if_neg (by omega), if_neg (by omega), if_neg (by omega), if_neg (by omega), if_neg (by omega), if_neg (by omega), if_pos z] at p
    rw [hc.2.2.2.2.2.2.2.1.1]; exact p
  · rw [if_neg (by omega), if_neg (by omega), if_neg (by omega), if_neg (by omega), if_neg (by omega), if_neg (by omega), if_neg (by omega), if_neg (by omega), if_neg (by omega), if_neg (by omega), if_pos z] at p
    obtain ⟨n, p1, p2, p3, -⟩ := hc.2.2.2.2.2.1
    rw [p3]; exact p
  · rw [if_neg (by omega), if_neg (by omega), if_neg (by omega), if_neg (by omega), if_neg (by omega), if_neg (by omega), if_neg (by omega), if_neg (by omega), if_neg (by omega), if_neg (by omega), if_neg (by omega), if_pos z] at p
    rw [hc.2.2.2.2.2.2.2.2.2.1]; exact p
  · rw [if_neg (by omega), if_neg (by omega), if_neg (by omega), if_neg (by omega), if_neg (by omega), if_neg (by omega), if_neg (by omega), if_neg (by omega), if_neg (by omega), if_neg (by omega), if_neg (by omega), if_neg (by omega)] at p; exact p
