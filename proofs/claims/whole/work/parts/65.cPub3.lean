/-! ===== the class's answers: nights to come ===== -/
theorem opF_B {b : Bk} (hb : BkOk b) {c : Nat → Int} (hI : Inv b c) {t e : Nat} (ht : t < b_nt b) (he : e < b_nd b) (n : Nat) : opF b c t n e = true ↔ opnB b c t e n := by
  have := hI.2.2.1 t ht
  unfold opF opnM opnB
  rw [Bool.and_eq_true, decide_eq_true_eq, decide_eq_true_eq, nR_c hb ht n c hI, nR_d hb he n c hI, nR_g hb he n c hI]
  omega
theorem l_Sto_opens {g : sh_G} {d B Y t e : Nat} {w : Wd} {mem : sh_Mem} {Q : Option sh_V → sh_Mem → Prop} (hW : WOk w) (hB : obB B) (hc : CR B Y w mem) (ht : t < b_nt (w_b w)) (he : e < b_nd (w_b w)) : ∀ (k x : Nat), x + k = 61 → Q (some (sh_i (fst (fun n => opF (w_b w) (w_c w) t n e) k x))) mem →
    sh_X g (d + 3) m_Sto_opens 20 [(0, sh_r 1), (1, sh_i (t : Int)), (2, sh_i (e : Int)), (3, sh_i (x : Int))] [] mem (sh_K m_Sto_opens Q) := by
  have h6 : mem (5 + 1) = w_c w := hc.2.2.2.2.1.1
  intro k
  induction k with
  | zero =>
    intro x hx h
    obtain rfl : x = 61 := by omega
    apply v_Sto_opens_20 (obB_0 hB)
    exact ⟨fun _ => h, fun q => absurd (by decide) q⟩
  | succ k ih =>
    intro x hx h
    rw [fst] at h
    have eq := opF_B hW.1 hW.2.1 ht he x
    apply v_Sto_opens_20 (obB_0 hB)
    rw [i3n (by omega)]
    refine ⟨fun q => absurd q (by omega), fun _ => ⟨hc.1.1, ?_⟩⟩
    refine s_State_isOpenBehind (d := d) (S := 5) o5 (obB_0 hB) (b := w_b w) (by rw [h6]; exact hW.2.1) hc.2.1 ht he (by omega) ⟨fun q => ⟨_, rfl, fun z => absurd z (by decide), fun _ => ?_⟩, fun q => ⟨_, rfl, fun _ => ?_, fun z => absurd rfl z⟩⟩
    · rw [h6] at q; rw [if_pos (eq.mpr q)] at h; exact h
    · rw [h6] at q; rw [if_neg (fun z => q (eq.mp z))] at h; exact ih (x + 1) (by omega) h
theorem c_opens {g : sh_G} {d : Nat} {w : Wd} {mem : sh_Mem} {t x : Int} {Q : Option sh_V → sh_Mem → Prop} (hW : WOk w) (h : CRel w mem) (ht : i3 t = t) (hx : i3 x = x) (hQ : ∀ m', CPost w mem m' → Q (some (sh_i (q_opens w t x))) m') : sh_Cal g (d + 3) m_Sto_opens [sh_r 1, sh_i t, sh_i x] mem Q := by
  obtain ⟨B, Y, hB, hY, hc⟩ := h
  have k1 := hW.1.1
  have k2 := hW.1.2.1
  have h6 : mem (5 + 1) = w_c w := hc.2.2.2.2.1.1
  have hI := hW.2.1
  have hI5 : Inv (w_b w) (mem (5 + 1)) := by rw [h6]; exact hI
  have p := hQ _ (CPost_rf hB hY hc)
  unfold q_opens at p
  apply v_Sto_opens (obB_0 hB)
  refine cT_then hB hc ht (fun q => ?_) (fun tn et htn => ?_)
  · rw [if_neg (fun z => q z.1)] at p; exact p
  refine cD_then' hB hc hx (fun q => ?_) (fun xn ex hxn => ?_)
  · rw [if_neg (fun z => q z.2)] at p; exact p
  subst et ex
  rw [if_pos ⟨by omega, by omega⟩, Int.toNat_natCast, Int.toNat_natCast] at p
  exact l_Sto_opens hW hB hc htn hxn 61 0 (by omega) p
/-- the most that any day lacks -/
def mxF (b : Bk) (c : Nat → Int) : Nat → Int
  | 0 => 0
  | n + 1 => max (mxF b c n) (b_wo b n - c n)
theorem mxF_le (b : Bk) (c : Nat → Int) {v : Int} (hv : 0 ≤ v) : ∀ n, mxF b c n ≤ v ↔ ∀ e, e < n → b_wo b e - c e ≤ v
  | 0 => ⟨fun _ e he => absurd he (by omega), fun _ => by unfold mxF; exact hv⟩
  | n + 1 => by
    have ih := mxF_le b c hv n
    rw [mxF]
    refine ⟨fun h e he => ?_, fun h => ?_⟩
    · by_cases z : e = n
      · subst z; omega
      · exact ih.mp (by omega) e (by omega)
    · have := ih.mpr (fun e he => h e (by omega)); have := h n (by omega); omega
theorem mxF_rng {b : Bk} (hb : BkOk b) {c : Nat → Int} (hI : Inv b c) : ∀ n, n ≤ b_nd b → 0 ≤ mxF b c n ∧ mxF b c n ≤ 24
  | 0, _ => by unfold mxF; omega
  | n + 1, h => by have := mxF_rng hb hI n (by omega); have := hI.1 n (by omega); have := hb.2.2.1 n (by omega); rw [mxF]; omega
theorem whF_iff (b : Bk) (c : Nat → Int) : ∀ (k x : Nat), whF b c k x = true ↔ ∀ e, x ≤ e → e < x + k → b_wo b e ≤ c e
  | 0, x => ⟨fun _ e h1 h2 => absurd h2 (by omega), fun _ => by rw [whF]⟩
  | k + 1, x => by
    have ih := whF_iff b c k (x + 1)
    rw [whF]
    by_cases z : b_wo b x ≤ c x
    · rw [if_pos z, ih]
      refine ⟨fun h e h1 h2 => ?_, fun h e h1 h2 => h e (by omega) (by omega)⟩
      by_cases y : e = x
      · subst y; exact z
      · exact h e (by omega) (by omega)
    · rw [if_neg z]
      exact ⟨fun h => absurd h (by decide), fun h => absurd (h x (by omega) (by omega)) z⟩
theorem fst_at {P : Nat → Bool} {v : Nat} (hP : ∀ y, P y = true ↔ v ≤ y) : ∀ (k x : Nat), x ≤ v → v < x + k → fst P k x = (v : Int)
  | 0, x, h1, h2 => absurd h2 (by omega)
  | k + 1, x, h1, h2 => by
    rw [fst]
    by_cases z : v ≤ x
    · rw [if_pos ((hP x).mpr z)]; omega
    · rw [if_neg (fun y => z ((hP x).mp y))]; exact fst_at hP k (x + 1) (by omega) (by omega)
theorem wh_mx {b : Bk} (hb : BkOk b) {c : Nat → Int} (hI : Inv b c) : fst (fun n => whF b (nightsR b c n) (b_nd b) 0) 61 0 = mxF b c (b_nd b) := by
  have r := mxF_rng hb hI (b_nd b) (Nat.le_refl _)
  have e : fst (fun n => whF b (nightsR b c n) (b_nd b) 0) 61 0 = (((mxF b c (b_nd b)).toNat : Nat) : Int) := by
    refine fst_at (fun y => ?_) 61 0 (by omega) (by omega)
    rw [whF_iff]
    have m := mxF_le b c (v := (y : Int)) (by omega) (b_nd b)
    refine ⟨fun h => ?_, fun h x h1 h2 => ?_⟩
    · have := m.mpr (fun x hx => by have := h x (by omega) (by omega); rw [nR_d hb hx y c hI] at this; have := hI.1 x hx; omega)
      omega
    · have := m.mp (by omega) x (by omega)
      rw [nR_d hb (by omega) y c hI]; omega
  rw [e]; omega
theorem l_Sto_whole {g : sh_G} {d B Y : Nat} {w : Wd} {mem : sh_Mem} {Q : Option sh_V → sh_Mem → Prop} (hW : WOk w) (hB : obB B) (hc : CR B Y w mem) (h : Q (some (sh_i (mxF (w_b w) (w_c w) (b_nd (w_b w))))) mem) : ∀ (k x : Nat), x + k = b_nd (w_b w) →
    sh_X g (d + 1) m_Sto_whole 4 [(0, sh_r 1), (1, sh_i (mxF (w_b w) (w_c w) x)), (2, sh_i (x : Int))] [] mem (sh_K m_Sto_whole Q) := by
  have h6 : mem 6 = w_c w := hc.2.2.2.2.1.1
  have k1 := hW.1.1
  intro k
  induction k with
  | zero =>
    intro x hx
    obtain rfl : x = b_nd (w_b w) := by omega
    have r := mxF_rng hW.1 hW.2.1 (b_nd (w_b w)) (Nat.le_refl _)
    apply v_Sto_whole_4 (obB_0 hB)
    rw [hc.2.1.2.1, i3s (x := mxF (w_b w) (w_c w) (b_nd (w_b w))) (by omega) (by omega)]
    exact ⟨hc.1.1, fun _ => ⟨fun z => absurd z (by omega), fun _ => h⟩, fun q => absurd (by omega) q⟩
  | succ k ih =>
    intro x hx
    have ih' := ih (x + 1) (by omega)
    have r := mxF_rng hW.1 hW.2.1 x (by omega)
    have r2 := hW.2.1.1 x (by omega)
    have r3 := hW.1.2.2.1 x (by omega)
    rw [mxF] at ih'
    apply v_Sto_whole_4 (obB_0 hB)
    rw [hc.2.1.2.1, i3n (by omega), i3n (by omega), h6, (hc.2.1.2.2.2.1 x (by omega)).2.1, i3s (x := mxF (w_b w) (w_c w) x) (by omega) (by omega), i3s (x := b_wo (w_b w) x - w_c w x) (by omega) (by omega)]
    have e : (if mxF (w_b w) (w_c w) x < b_wo (w_b w) x - w_c w x then b_wo (w_b w) x - w_c w x else mxF (w_b w) (w_c w) x) = max (mxF (w_b w) (w_c w) x) (b_wo (w_b w) x - w_c w x) := by split <;> omega
    rw [e]
    exact ⟨hc.1.1, fun q => absurd q (by omega), fun _ => ⟨hc.1.1, by omega, by omega, ih'⟩⟩
theorem c_whole {g : sh_G} {d : Nat} {w : Wd} {mem : sh_Mem} {Q : Option sh_V → sh_Mem → Prop} (hW : WOk w) (h : CRel w mem) (hQ : ∀ m', CPost w mem m' → Q (some (sh_i (fst (fun n => whF (w_b w) (nightsR (w_b w) (w_c w) n) (b_nd (w_b w)) 0) 61 0))) m') : sh_Cal g (d + 1) m_Sto_whole [sh_r 1] mem Q := by
  obtain ⟨B, Y, hB, hY, hc⟩ := h
  have k1 := hW.1.1
  have k2 := hW.1.2.1
  have h6 : mem (5 + 1) = w_c w := hc.2.2.2.2.1.1
  have hI := hW.2.1
  have hI5 : Inv (w_b w) (mem (5 + 1)) := by rw [h6]; exact hI
  have p := hQ _ (CPost_rf hB hY hc)
  rw [wh_mx hW.1 hI] at p
  apply v_Sto_whole (obB_0 hB)
  exact l_Sto_whole hW hB hc p (b_nd (w_b w)) 0 (by omega)
theorem wfF_pay {b : Bk} (hb : BkOk b) {c : Nat → Int} (hI : Inv b c) {t : Nat} (ht : t < b_nt b) (n : Nat) : wfF b c t 0 n = if 0 < mbF (c (20 + t)) (c (16 + t)) (c (24 + t)) n then b_pr b (mbF (c (20 + t)) (c (16 + t)) (c (24 + t)) n) (c (24 + t) + n) (c (20 + t)) (c 44 + n) else 0 := by
  have k2 := hb.2.1
  unfold wfF
  rw [if_pos (show i3 0 = 0 from rfl)]
  unfold prV
  rw [nR_m hb ht n c hI, nR_s (by omega), nR_44]
  split
  · rename_i z
    rw [nR_o hb ht n c hI (by rw [nR_m hb ht n c hI]; exact z)]
  · rfl
theorem wfF_joy {b : Bk} (hb : BkOk b) {c : Nat → Int} (hI : Inv b c) {t : Nat} (ht : t < b_nt b) (hp : 0 < c (16 + t)) (n : Nat) : wfF b c t 1 n = max 0 (mbF (c (20 + t)) (c (16 + t)) (c (24 + t)) n - gbF c t n) := by
  unfold wfF
  rw [if_neg (by decide)]
  unfold joyV
  rw [nR_m hb ht n c hI, nR_q hb ht n c hI hp]
theorem l_Sto_waits {g : sh_G} {d B Y t : Nat} {what : Int} {w : Wd} {mem : sh_Mem} {Q : Option sh_V → sh_Mem → Prop} (hwh : i3 what = what) (hW : WOk w) (hB : obB B) (hY : obY Y) (hc : CR B Y w mem) (ht : t < b_nt (w_b w)) (h : ∀ m', Cs mem m' → Q (some (sh_i (if what = 0 then (wtF (wfF (w_b w) (w_c w) t 0) 31).2 else (wtF (wfF (w_b w) (w_c w) t 0) 31).1))) m') : ∀ (k x : Nat) (m : sh_Mem), x + k = 31 → Cs mem m →
    sh_X g (d + 3) m_Sto_waits 38 [(0, sh_r 1), (1, sh_i (t : Int)), (2, sh_i what), (3, sh_i (wtF (wfF (w_b w) (w_c w) t 0) x).1), (4, sh_i (wtF (wfF (w_b w) (w_c w) t 0) x).2), (5, sh_i (x : Int))] [] m (sh_K m_Sto_waits Q) := by
  have k2 := hW.1.2.1
  have hw := wtF_rng (wfF_rng hW.1 hW.2.1 ht 0)
  intro k
  induction k with
  | zero =>
    intro x m hx hs
    obtain rfl : x = 31 := by omega
    have h := h m hs
    apply v_Sto_waits_38 (obB_0 hB)
    rw [hwh]
    refine ⟨fun _ => ⟨fun z => ?_, fun z => ?_⟩, fun q => absurd (by decide) q⟩
    · rw [if_neg z] at h; exact h
    · rw [if_pos z] at h; exact h
  | succ k ih =>
    intro x m hx hs
    have hcm := CR_Cs hB hY hc hs
    have h6 : m (5 + 1) = w_c w := hcm.2.2.2.2.1.1
    have hwx := hw x
    have hvx := wfF_rng hW.1 hW.2.1 ht 0 x
    have hT := hW.2.1.2.2.1 t ht
    apply v_Sto_waits_38 (obB_0 hB)
    rw [i3n (by omega)]
    refine ⟨fun q => absurd q (by omega), fun _ => ⟨hcm.1.1, ?_⟩⟩
    refine s_State_paidBehind (d := d) (S := 5) (n := x) o5 (obB_0 hB) (b := w_b w) (by rw [h6]; exact hT) hW.1 hcm.2.2.1 ht (by omega) (fun r => ⟨_, rfl, ?_⟩)
    rw [h6, ← wfF_pay hW.1 hW.2.1 ht x, i3s (x := wfF (w_b w) (w_c w) t 0 x) (by omega) (by omega), i3s (x := (wtF (wfF (w_b w) (w_c w) t 0) x).1) (by omega) (by omega)]
    have ih' := ih (x + 1) (ms m (B + 10) r) (by omega) (Cs_ms hs (csc_10 hB).1 (csc_10 hB).2 r)
    refine ⟨fun q => ?_, fun q => ?_⟩
    · have e : wtF (wfF (w_b w) (w_c w) t 0) (x + 1) = wtF (wfF (w_b w) (w_c w) t 0) x := by rw [wtF, if_pos q]
      rw [e] at ih'; exact ih'
    · have e : wtF (wfF (w_b w) (w_c w) t 0) (x + 1) = (wfF (w_b w) (w_c w) t 0 x, (x : Int)) := by rw [wtF, if_neg q]
      rw [e] at ih'; exact ih'
theorem l_Sto_glads {g : sh_G} {d B Y t : Nat} {what : Int} {w : Wd} {mem : sh_Mem} {Q : Option sh_V → sh_Mem → Prop} (hwh : i3 what = what) (hW : WOk w) (hc : CR B Y w mem) (ht : t < b_nt (w_b w)) (hp : 0 < w_c w (16 + t)) (h : Q (some (sh_i (if what = 0 then (wtF (wfF (w_b w) (w_c w) t 1) 31).2 else (wtF (wfF (w_b w) (w_c w) t 1) 31).1))) mem) : ∀ (k x : Nat), x + k = 31 →
    sh_X g (d + 3) m_Sto_glads 38 [(0, sh_r 1), (1, sh_i (t : Int)), (2, sh_i what), (3, sh_i (wtF (wfF (w_b w) (w_c w) t 1) x).1), (4, sh_i (wtF (wfF (w_b w) (w_c w) t 1) x).2), (5, sh_i (x : Int))] [] mem (sh_K m_Sto_glads Q) := by
  have k2 := hW.1.2.1
  have hw := wtF_rng (wfF_rng hW.1 hW.2.1 ht 1)
  have h6 : mem (5 + 1) = w_c w := hc.2.2.2.2.1.1
  intro k
  induction k with
  | zero =>
    intro x hx
    obtain rfl : x = 31 := by omega
    apply v_Sto_glads_38
    rw [hwh]
    refine ⟨fun _ => ⟨fun z => ?_, fun z => ?_⟩, fun q => absurd (by decide) q⟩
    · rw [if_neg z] at h; exact h
    · rw [if_pos z] at h; exact h
  | succ k ih =>
    intro x hx
    have hwx := hw x
    have hvx := wfF_rng hW.1 hW.2.1 ht 1 x
    have hT := hW.2.1.2.2.1 t ht
    apply v_Sto_glads_38
    rw [i3n (by omega)]
    refine ⟨fun q => absurd q (by omega), fun _ => ?_⟩
    refine s_State_joyBehind (d := d) (S := 5) (n := x) o5 (b := w_b w) (by rw [h6]; exact hT) ht hW.1 (by omega) (by rw [h6]; exact hp) ⟨_, rfl, ?_⟩
    rw [h6, ← wfF_joy hW.1 hW.2.1 ht hp x, i3s (x := wfF (w_b w) (w_c w) t 1 x) (by omega) (by omega), i3s (x := (wtF (wfF (w_b w) (w_c w) t 1) x).1) (by omega) (by omega)]
    have ih' := ih (x + 1) (by omega)
    refine ⟨fun q => ?_, fun q => ?_⟩
    · have e : wtF (wfF (w_b w) (w_c w) t 1) (x + 1) = wtF (wfF (w_b w) (w_c w) t 1) x := by rw [wtF, if_pos q]
      rw [e] at ih'; exact ih'
    · have e : wtF (wfF (w_b w) (w_c w) t 1) (x + 1) = (wfF (w_b w) (w_c w) t 1 x, (x : Int)) := by rw [wtF, if_neg q]
      rw [e] at ih'; exact ih'
theorem c_waits {g : sh_G} {d : Nat} {w : Wd} {mem : sh_Mem} {t k : Int} {Q : Option sh_V → sh_Mem → Prop} (hW : WOk w) (h : CRel w mem) (ht : i3 t = t) (hk : i3 k = k) (hQ : ∀ m', CPost w mem m' → Q (some (sh_i (q_waits w t k))) m') : sh_Cal g (d + 3) m_Sto_waits [sh_r 1, sh_i t, sh_i k] mem Q := by
  obtain ⟨B, Y, hB, hY, hc⟩ := h
  have k1 := hW.1.1
  have k2 := hW.1.2.1
  have h6 : mem (5 + 1) = w_c w := hc.2.2.2.2.1.1
  have hI := hW.2.1
  have hI5 : Inv (w_b w) (mem (5 + 1)) := by rw [h6]; exact hI
  unfold q_waits at hQ
  have p := hQ _ (CPost_rf hB hY hc)
  apply v_Sto_waits (obB_0 hB)
  refine cT_then hB hc ht (fun q => ?_) (fun n e hn => ?_)
  · rw [if_neg (fun z => q z.1)] at p; exact p
  refine cW_then hk rfl rfl (fun q => ?_) (fun q2 => ?_)
  · rw [if_neg (fun z => q z.2.1)] at p; exact p
  subst e
  have hM := hI.2.2.1 n hn
  rw [Int.toNat_natCast] at hQ p
  refine s_State_hasPiece o5 (by omega) (by rw [h6]; exact ⟨hM.1, hM.2.1⟩) ⟨_, rfl, ?_⟩
  rw [i3_01, h6]
  refine ⟨fun q => ?_, fun q => ?_⟩
  · have hq3 : 0 < w_c w (16 + n) := by grind
    exact l_Sto_waits hk hW hB hY hc hn (fun m' hs => by have := hQ _ (CPost_Cs hB hY hc hs); rw [if_pos ⟨by omega, q2, hq3⟩] at this; exact this) 31 0 mem (by omega) (Cs_rf hc)
  · rw [if_neg (fun z => by have := z.2.2; rw [if_pos this] at q; exact absurd q (by decide))] at p; exact p
theorem c_glads {g : sh_G} {d : Nat} {w : Wd} {mem : sh_Mem} {t k : Int} {Q : Option sh_V → sh_Mem → Prop} (hW : WOk w) (h : CRel w mem) (ht : i3 t = t) (hk : i3 k = k) (hQ : ∀ m', CPost w mem m' → Q (some (sh_i (q_glads w t k))) m') : sh_Cal g (d + 3) m_Sto_glads [sh_r 1, sh_i t, sh_i k] mem Q := by
  obtain ⟨B, Y, hB, hY, hc⟩ := h
  have k1 := hW.1.1
  have k2 := hW.1.2.1
  have h6 : mem (5 + 1) = w_c w := hc.2.2.2.2.1.1
  have hI := hW.2.1
  have hI5 : Inv (w_b w) (mem (5 + 1)) := by rw [h6]; exact hI
  unfold q_glads at hQ
  have p := hQ _ (CPost_rf hB hY hc)
  apply v_Sto_glads
  refine cT_then hB hc ht (fun q => ?_) (fun n e hn => ?_)
  · rw [if_neg (fun z => q z.1)] at p; exact p
  refine cW_then hk rfl rfl (fun q => ?_) (fun q2 => ?_)
  · rw [if_neg (fun z => q z.2.1)] at p; exact p
  subst e
  have hM := hI.2.2.1 n hn
  rw [Int.toNat_natCast] at hQ p
  refine s_State_hasPiece o5 (by omega) (by rw [h6]; exact ⟨hM.1, hM.2.1⟩) ⟨_, rfl, ?_⟩
  rw [i3_01, h6]
  refine ⟨fun q => ?_, fun q => ?_⟩
  · have hq3 : 0 < w_c w (16 + n) := by grind
    exact l_Sto_glads hk hW hc hn hq3 (by have := hQ _ (CPost_rf hB hY hc); rw [if_pos ⟨by omega, q2, hq3⟩] at this; exact this) 31 0 (by omega)
  · rw [if_neg (fun z => by have := z.2.2; rw [if_pos this] at q; exact absurd q (by decide))] at p; exact p
