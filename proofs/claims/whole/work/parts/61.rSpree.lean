/-! ===== the reference: the best spree ===== -/
def foL {α : Type} (F : Nat → α → α) : Nat → Nat → α → α
  | 0, _, st => st
  | n + 1, e, st => foL F n (e + 1) (F e st)
def spS (st : Int × Int) (v f : Int) : Int × Int := if st.1 < v then (v, f) else st
def sp (b : Bk) (t : Nat) : Nat → (Nat → Int) → Int × Int
  | 0, _ => (0, -1)
  | n + 1, c => spS (foL (fun e st => if opnM b c t e = true then spS st (joyV (takeR b c t e) t + (sp b t n (sleepR b (enjoyR (takeR b c t e) t))).1) (e : Int) else st) (b_nd b) 0 (-1, -1)) (0 + (sp b t n (sleepR b c)).1) (-1)
abbrev spF (b : Bk) (t n : Nat) (c : Nat → Int) : Nat → Int × Int → Int × Int := fun e st => if opnM b c t e = true then spS st (joyV (takeR b c t e) t + (sp b t n (sleepR b (enjoyR (takeR b c t e) t))).1) (e : Int) else st
abbrev rdy (c : Nat → Int) (t : Nat) : Prop := c (28 + t) = 0 ∧ c (16 + t) = 0
theorem rdy_sleep {b : Bk} {c : Nat → Int} {t : Nat} (hb : BkOk b) (ht : t < b_nt b) (h : rdy c t) : rdy (sleepR b c) t := by
  refine ⟨?_, ?_⟩
  · rw [sR_c c ht hb.2.1, h.1]; rfl
  · rw [sR_m c ht hb.2.1, h.2, if_neg (by omega)]
theorem bag_open {b : Bk} {c : Nat → Int} {t e : Nat} (hb : BkOk b) (ht : t < b_nt b) (h : rdy c t) (ho : opnM b c t e = true) : 0 < bag b c t e ∧ 0 < c e := by
  have := hb.2.2.2.1 t ht
  unfold opnM at ho
  rw [decide_eq_true_eq] at ho
  refine ⟨?_, ho.1⟩
  unfold bag; rw [if_pos ⟨h.1, h.2, ho⟩]; omega
theorem take_t {b : Bk} {c : Nat → Int} {t e : Nat} (ht : t < 4) (he : e < 8) (hp : 0 < bag b c t e) : takeR b c t e (16 + t) = bag b c t e ∧ takeR b c t e (28 + t) = c (28 + t) ∧ takeR b c t e (32 + t) = c (32 + t) := by
  unfold takeR; rw [if_pos hp]
  simp (disch := omega) only [ru_s, ru_n]
  exact ⟨trivial, trivial, trivial⟩
theorem rdy_en {b : Bk} {c : Nat → Int} {t e : Nat} (hb : BkOk b) (ht : t < b_nt b) (he : e < b_nd b) (h : rdy c t) (ho : opnM b c t e = true) : rdy (enjoyR (takeR b c t e) t) t := by
  have k1 := hb.1
  have k2 := hb.2.1
  have q := take_t (b := b) (c := c) (t := t) (e := e) (by omega) (by omega) (bag_open hb ht h ho).1
  unfold enjoyR
  refine ⟨?_, ?_⟩
  · rw [ru_n _ _ (by omega), ru_n _ _ (by omega), ru_n _ _ (by omega), q.2.1]; exact h.1
  · rw [ru_s]
theorem Inv_en {b : Bk} {c : Nat → Int} {t e : Nat} (hb : BkOk b) (hI : Inv b c) (ht : t < b_nt b) (he : e < b_nd b) (h : rdy c t) (ho : opnM b c t e = true) : Inv b (takeR b c t e) ∧ Inv b (enjoyR (takeR b c t e) t) := by
  have q := Inv_take hb hI ht he h.1 h.2 (bag_open hb ht h ho).2
  exact ⟨q, Inv_enjoy hb q ht⟩
theorem sp_rng {b : Bk} (hb : BkOk b) {t : Nat} (ht : t < b_nt b) : ∀ (n : Nat) (c : Nat → Int), Inv b c → rdy c t → 0 ≤ (sp b t n c).1 ∧ (sp b t n c).1 ≤ 12 * n
  | 0, c, _, _ => by unfold sp; simp only; omega
  | n + 1, c, hI, hr => by
    have i0 := sp_rng hb ht n _ (Inv_sleep hb hI) (rdy_sleep hb ht hr)
    have hF : ∀ (k x : Nat) (st : Int × Int), x + k = b_nd b → -1 ≤ st.1 ∧ st.1 ≤ 12 * ((n : Int) + 1) → -1 ≤ (foL (spF b t n c) k x st).1 ∧ (foL (spF b t n c) k x st).1 ≤ 12 * ((n : Int) + 1) := by
      intro k
      induction k with
      | zero => intro x st _ h; exact h
      | succ k ih =>
        intro x st hx h
        rw [foL]
        refine ih (x + 1) _ (by omega) ?_
        unfold spF
        split
        · rename_i ho
          obtain ⟨j1, j2⟩ := Inv_en hb hI ht (show x < b_nd b by omega) hr ho
          have i1 := sp_rng hb ht n _ (Inv_sleep hb j2) (rdy_sleep hb ht (rdy_en hb ht (show x < b_nd b by omega) hr ho))
          have i2 := joyV_rng j1 ht
          unfold spS; split
          · simp only; omega
          · exact h
        · exact h
    have f0 := hF (b_nd b) 0 (-1, -1) (by omega) (by simp only; omega)
    have e0 : sp b t (n + 1) c = spS (foL (spF b t n c) (b_nd b) 0 (-1, -1)) (0 + (sp b t n (sleepR b c)).1) (-1) := by rw [sp]
    rw [e0]
    unfold spS; split
    · simp only; omega
    · omega
theorem s_spreeOf {g : sh_G} {b : Bk} (hb : BkOk b) {t : Nat} (ht : t < b_nt b) : ∀ (n D : Nat) (c : Nat → Int) (m : sh_Mem) (Q : Option sh_V → sh_Mem → Prop), n + 3 ≤ D → n ≤ 5 → Inv b c → rdy c t → MB m b → EQ (m 129) c →
    (∀ m', Sr m m' → EQ (m' 129) c → (∀ j, 45 * (n + 1) ≤ j → m' 132 j = m 132 j) → (0 < n → m' 96 56 = (sp b t n c).2) → Q (some (sh_i (sp b t n c).1)) m') → sh_Cal g D m_Mod_spreeOf [sh_r 96, sh_i (t : Int), sh_i (n : Int)] m Q := by
  have k1 := hb.1
  have k2 := hb.2.1
  intro n
  induction n with
  | zero =>
    intro D c m Q hD hn hI hr hm hR h
    obtain ⟨D, rfl⟩ : ∃ D', D = D' + 1 := ⟨D - 1, by omega⟩
    apply v_Mod_spreeOf
    exact ⟨fun q => absurd rfl q, fun _ => h m (Sr_rf m) hR (fun _ _ => rfl) (fun z => absurd z (by omega))⟩
  | succ n ih =>
    intro D c m Q hD hn hI hr hm hR h
    obtain ⟨D, rfl⟩ : ∃ D', D = D' + 1 := ⟨D - 1, by omega⟩
    obtain ⟨D, rfl⟩ : ∃ D', D = D' + 3 := ⟨D - 3, by omega⟩
    have p86 : ∀ (x : Nat) (x7 : Int) (cc : Nat → Int) (st : Int × Int) (m2 : sh_Mem), x ≤ b_nd b → Inv b cc → rdy cc t → 0 ≤ x7 ∧ x7 ≤ 12 → -1 ≤ st.1 ∧ st.1 ≤ 72 → Sr m m2 → EQ (m2 129) cc → EQ (fun j => m2 132 (45 * (n + 1) + j)) c → (∀ j, 45 * (n + 1 + 1) ≤ j → m2 132 j = m 132 j) →
        (∀ m3, Sr m m3 → EQ (m3 129) c → EQ (fun j => m3 132 (45 * (n + 1) + j)) c → (∀ j, 45 * (n + 1 + 1) ≤ j → m3 132 j = m 132 j) → sh_X g (D + 3 + 1) m_Mod_spreeOf 33 [(0, sh_r 96), (1, sh_i (t : Int)), (2, sh_i ((n + 1 : Nat) : Int)), (3, sh_i ((45 * (n + 1) : Nat) : Int)), (4, sh_i (spS st (x7 + (sp b t n (sleepR b cc)).1) (if x = b_nd b then -1 else (x : Int))).1), (5, sh_i (spS st (x7 + (sp b t n (sleepR b cc)).1) (if x = b_nd b then -1 else (x : Int))).2), (6, sh_i ((x + 1 : Nat) : Int))] [] m3 (sh_K m_Mod_spreeOf Q)) →
        sh_X g (D + 3 + 1) m_Mod_spreeOf 86 [(0, sh_r 96), (1, sh_i (t : Int)), (2, sh_i ((n + 1 : Nat) : Int)), (3, sh_i ((45 * (n + 1) : Nat) : Int)), (4, sh_i st.1), (5, sh_i st.2), (6, sh_i (x : Int)), (7, sh_i x7)] [] m2 (sh_K m_Mod_spreeOf Q) := by
      intro x x7 cc st m2 hx hI2 hr2 hx7 hst hs hR2 hsv hhi hk
      have rg := sp_rng hb ht n _ (Inv_sleep hb hI2) (rdy_sleep hb ht hr2)
      apply v_Mod_spreeOf_86
      refine s_Mod_passes (d := D + 1) hR2 hI2 (MB_Sr hs hm) (fun r hr3 => ⟨rfl, ?_⟩)
      rw [show (((n + 1 : Nat) : Int) - 1) = (n : Int) by omega]
      have hs2 := Sr_ms hs (a := 129) (by decide) (by decide) r
      refine ih (D + 3) (sleepR b cc) _ _ (by omega) (by omega) (Inv_sleep hb hI2) (rdy_sleep hb ht hr2) (MB_Sr hs2 hm) (by rw [ms_s]; exact hr3) (fun m3 y1 y2 y3 y4 => ⟨_, rfl, ?_⟩)
      have hs3 := Sr_tr hs2 y1
      have y3' : ∀ j, 45 * (n + 1) ≤ j → m3 132 j = m2 132 j := fun j hj => by rw [y3 j hj, ms_n _ _ (by decide)]
      refine s_Mod_copies (a := 45 * (n + 1)) (b := 0) (A := 132) (B := 129) (n := 270) (n2 := 45) rfl rfl (by decide) (by omega) (by omega) ⟨rfl, ?_⟩
      have hs4 := Sr_ms hs3 (a := 129) (by decide) (by decide) (cpy (m3 132) (m3 129) (45 * (n + 1)) 0 45)
      have hb4 := MB_Sr hs4 hm
      have sv4 : EQ (fun j => m3 132 (45 * (n + 1) + j)) c := EQ_cong (fun k hk => y3' _ (by omega)) (fun _ _ => rfl) hsv
      have hk' := hk _ hs4 (by rw [ms_s]; exact EQ_cong (fun k hk => by unfold cpy; rw [if_pos (by omega)]; congr 1) (fun _ _ => rfl) sv4) (by rw [ms_n _ _ (by decide)]; exact sv4) (fun j hj => by rw [ms_n _ _ (by decide), y3' j (by omega)]; exact hhi j hj)
      rw [hb4.2.1, i3n (by omega), i3n (by omega), i3s (x := st.1) (by omega) (by omega), i3s (x := x7 + (sp b t n (sleepR b cc)).1) (by omega) (by omega)]
      refine ⟨fun z => ⟨fun z2 => ?_, fun z2 => ?_⟩, fun z => ?_⟩
      · have e : spS st (x7 + (sp b t n (sleepR b cc)).1) (if x = b_nd b then -1 else (x : Int)) = (x7 + (sp b t n (sleepR b cc)).1, (x : Int)) := by unfold spS; rw [if_pos z, if_neg (by omega)]
        rw [e] at hk'; exact hk'
      · have e : spS st (x7 + (sp b t n (sleepR b cc)).1) (if x = b_nd b then -1 else (x : Int)) = (x7 + (sp b t n (sleepR b cc)).1, -1) := by unfold spS; rw [if_pos z, if_pos (by omega)]
        rw [e] at hk'; exact hk'
      · have e : spS st (x7 + (sp b t n (sleepR b cc)).1) (if x = b_nd b then -1 else (x : Int)) = st := by unfold spS; rw [if_neg z]
        rw [e] at hk'; exact hk'
    have spS_rng : ∀ (st : Int × Int) (v f : Int), -1 ≤ st.1 ∧ st.1 ≤ 72 → 0 ≤ v ∧ v ≤ 72 → -1 ≤ (spS st v f).1 ∧ (spS st v f).1 ≤ 72 := by
      intro st v f q1 q2; unfold spS; split
      · simp only; omega
      · exact q1
    have lp : ∀ (k x : Nat) (st : Int × Int) (m2 : sh_Mem), x + k = b_nd b → -1 ≤ st.1 ∧ st.1 ≤ 72 → Sr m m2 → EQ (m2 129) c → EQ (fun j => m2 132 (45 * (n + 1) + j)) c → (∀ j, 45 * (n + 1 + 1) ≤ j → m2 132 j = m 132 j) →
        (∀ m', Sr m m' → EQ (m' 129) c → (∀ j, 45 * (n + 1 + 1) ≤ j → m' 132 j = m 132 j) → m' 96 56 = (spS (foL (spF b t n c) k x st) (0 + (sp b t n (sleepR b c)).1) (-1)).2 → Q (some (sh_i (spS (foL (spF b t n c) k x st) (0 + (sp b t n (sleepR b c)).1) (-1)).1)) m') →
        sh_X g (D + 3 + 1) m_Mod_spreeOf 33 [(0, sh_r 96), (1, sh_i (t : Int)), (2, sh_i ((n + 1 : Nat) : Int)), (3, sh_i ((45 * (n + 1) : Nat) : Int)), (4, sh_i st.1), (5, sh_i st.2), (6, sh_i (x : Int))] [] m2 (sh_K m_Mod_spreeOf Q) := by
      intro k
      induction k with
      | zero =>
        intro x st m2 hx hst hs hR2 hsv hhi h
        obtain rfl : x = b_nd b := by omega
        rw [foL] at h
        have hm2 := MB_Sr hs hm
        apply v_Mod_spreeOf_33
        rw [hm2.2.1, i3n (by omega)]
        refine ⟨fun q => absurd q (by omega), fun _ => ⟨fun _ => ?_, fun q => absurd (by omega) q⟩⟩
        refine p86 (b_nd b) 0 c st m2 (by omega) hI hr (by omega) hst hs hR2 hsv hhi (fun m3 y1 y2 y3 y4 => ?_)
        rw [if_pos rfl]
        have hm3 := MB_Sr y1 hm
        apply v_Mod_spreeOf_33
        rw [hm3.2.1, i3n (by omega), i3n (by omega)]
        refine ⟨fun _ => ?_, fun q => absurd (by omega) q⟩
        rintro _ rfl
        exact h _ (Sr_96 y1 (by decide) (by decide) (by decide) _) (by rw [ms_n _ _ (by decide)]; exact y2) (fun j hj => by rw [ms_n _ _ (by decide)]; exact y4 j hj) (by rw [ms_s, ru_s])
      | succ k ihk =>
        intro x st m2 hx hst hs hR2 hsv hhi h
        have hxd : x < b_nd b := by omega
        rw [foL] at h
        have hm2 := MB_Sr hs hm
        have hD := hI.1 x hxd
        apply v_Mod_spreeOf_33
        rw [hm2.2.1, i3n (by omega), i3n (by omega)]
        refine ⟨fun q => absurd q (by omega), fun _ => ⟨fun q => absurd q (by omega), fun _ => ?_⟩⟩
        refine s_Mod_isOpen (d := D + 3) hR2 hD hm2 ht hxd ⟨_, rfl, ?_⟩
        rw [i3_01]
        refine ⟨fun q => ?_, fun q => ?_⟩
        · have ho : opnM b c t x = true := by unfold opnM; rw [decide_eq_true_eq]; grind
          obtain ⟨j1, j2⟩ := Inv_en hb hI ht hxd hr ho
          have i2 := joyV_rng j1 ht
          refine s_Mod_steals (d := D + 1) hR2 hI hm2 ht hxd hr.1 hr.2 (fun r hr3 => ⟨_, rfl, ?_⟩)
          refine s_Mod_spendsIt (d := D + 1) (c := takeR b c t x) (by rw [ms_s]; exact hr3) (j1.2.2.1 t ht) (by omega) (fun r2 hr4 => ⟨_, rfl, ?_⟩)
          have eF : spF b t n c x st = spS st (joyV (takeR b c t x) t + (sp b t n (sleepR b (enjoyR (takeR b c t x) t))).1) (x : Int) := by unfold spF; rw [if_pos ho]
          rw [eF] at h
          have rg := sp_rng hb ht n _ (Inv_sleep hb j2) (rdy_sleep hb ht (rdy_en hb ht hxd hr ho))
          refine p86 x _ (enjoyR (takeR b c t x) t) st _ (by omega) j2 (rdy_en hb ht hxd hr ho) i2 hst (Sr_ms (Sr_ms hs (by decide) (by decide) _) (by decide) (by decide) _) (by rw [ms_s]; exact hr4) (by rw [ms_n _ _ (by decide), ms_n _ _ (by decide)]; exact hsv) (fun j hj => by rw [ms_n _ _ (by decide), ms_n _ _ (by decide)]; exact hhi j hj) (fun m3 y1 y2 y3 y4 => ?_)
          rw [if_neg (show ¬ x = b_nd b by omega)]
          exact ihk (x + 1) _ m3 (by omega) (spS_rng st _ _ hst (by omega)) y1 y2 y3 y4 h
        · have ho : ¬ opnM b c t x = true := by unfold opnM; rw [decide_eq_true_eq]; grind
          have eF : spF b t n c x st = st := by unfold spF; rw [if_neg ho]
          rw [eF] at h
          exact ihk (x + 1) st m2 (by omega) hst hs hR2 hsv hhi h
    apply v_Mod_spreeOf
    rw [i3n (by omega), show (45 : Int) * ((n + 1 : Nat) : Int) = ((45 * (n + 1) : Nat) : Int) by omega]
    refine ⟨fun _ => ?_, fun q => absurd q (by omega)⟩
    refine s_Mod_copies (a := 0) (b := 45 * (n + 1)) (A := 129) (B := 132) (n := 45) (n2 := 270) rfl rfl (by decide) (by omega) (by omega) ⟨rfl, ?_⟩
    have e0 : sp b t (n + 1) c = spS (foL (spF b t n c) (b_nd b) 0 (-1, -1)) (0 + (sp b t n (sleepR b c)).1) (-1) := by rw [sp]
    rw [e0] at h
    refine lp (b_nd b) 0 (-1, -1) _ (by omega) (by simp only; omega) (Sr_ms (Sr_rf m) (by decide) (by decide) _) (by rw [ms_n _ _ (by decide)]; exact hR) ?_ (fun j hj => ?_) (fun m' y1 y2 y3 y4 => h m' y1 y2 y3 (fun _ => y4))
    · rw [ms_s]
      exact EQ_cong (fun k hk => by unfold cpy; rw [if_pos (by omega)]; congr 1; omega) (fun _ _ => rfl) hR
    · rw [ms_s]; unfold cpy; rw [if_neg (by omega)]
abbrev cSp (w : Wd) (t k what : Int) : Prop := isT w t ∧ (1 ≤ k ∧ k ≤ 5) ∧ (0 ≤ what ∧ what ≤ 1) ∧ rdy (w_c w) t.toNat
def q_spree (w : Wd) (t k what : Int) : Int := if cSp w t k what then (if what = 0 then (sp (w_b w) t.toNat k.toNat (w_c w)).1 else (sp (w_b w) t.toNat k.toNat (w_c w)).2) else -2
theorem r_spree {g : sh_G} {d : Nat} {w : Wd} {mem : sh_Mem} {t k what : Int} {Q : Option sh_V → sh_Mem → Prop} (hW : WOk w) (h : RRel w mem) (h1 : i3 t = t) (h2 : i3 k = k) (h3 : i3 what = what) (hQ : ∀ m', RPost w mem m' → Q (some (sh_i (q_spree w t k what))) m') : sh_Cal g (d + 9) m_Mod_spree [sh_r 96, sh_i t, sh_i k, sh_i what] mem Q := by
  have p0 := RPost_0 h
  have k2 := hW.1.2.1
  have hE := p0.1.2.2.2.2.1
  unfold q_spree at hQ
  apply v_Mod_spree
  rintro _ rfl
  refine isT_then p0.1 h1 (fun q => ?_) (fun tn et ht => ?_)
  · rw [if_neg (fun z => q z.1)] at hQ; exact hQ _ p0
  refine wi_then h2 rfl rfl (fun q => ?_) (fun q2 => ?_)
  · rw [if_neg (fun z => q z.2.1)] at hQ; exact hQ _ p0
  refine wi_then h3 rfl rfl (fun q => ?_) (fun q3 => ?_)
  · rw [if_neg (fun z => q z.2.2.1)] at hQ; exact hQ _ p0
  obtain ⟨n, rfl⟩ : ∃ n : Nat, k = (n : Int) := ⟨k.toNat, by omega⟩
  subst et
  simp only [Int.toNat_natCast] at hQ
  refine s_Mod_couldSteal (d := d + 7) hE (hW.2.1.2.2.1 tn ht) (by omega) ⟨_, rfl, ?_⟩
  rw [i3_01, h3]
  refine ⟨fun q => ?_, fun q => ?_⟩
  · have hr : rdy (w_c w) tn := by grind
    rw [if_pos ⟨by omega, q2, q3, hr⟩] at hQ
    refine s_spreeOf hW.1 ht n (d + 8) (w_c w) _ _ (by omega) (by omega) hW.2.1 hr p0.1.1 hE (fun m' y1 y2 y3 y4 => ⟨_, rfl, ?_⟩)
    have q1 := hQ m' (RPost_sr p0 y1 y2)
    refine ⟨fun z => ?_, fun z => ?_⟩
    · rw [if_neg z, ← y4 (by omega)] at q1; exact q1
    · rw [if_pos z] at q1; exact q1
  · have hr : ¬ rdy (w_c w) tn := by grind
    rw [if_neg (fun z => hr z.2.2.2)] at hQ; exact hQ _ p0
