/-! ===== the reference's answers: whole, slack, counts ===== -/
/-- all of n days from x on are whole -/
def whF (b : Bk) (c : Nat → Int) : Nat → Nat → Bool
  | 0, _ => true
  | n + 1, x => if b_wo b x ≤ c x then whF b c n (x + 1) else false
theorem l_areWhole {g : sh_G} {d : Nat} {b : Bk} {c : Nat → Int} {m : sh_Mem} {Q : Option sh_V → sh_Mem → Prop} (hR : EQ (m 129) c) (hI : Inv b c) (hb : MB m b) : ∀ (k x : Nat), x + k = b_nd b → Q (some (sh_i (if whF b c k x = true then 1 else 0))) m →
    sh_X g d m_Mod_areWhole 2 [(0, sh_r 96), (1, sh_i (x : Int))] [] m (sh_K m_Mod_areWhole Q) := by
  have k1 := hb.1.1
  intro k
  induction k with
  | zero =>
    intro x hx h
    obtain rfl : x = b_nd b := by omega
    apply v_Mod_areWhole_2
    rw [hb.2.1]
    exact ⟨fun _ => h, fun q => absurd (by omega) q⟩
  | succ k ih =>
    intro x hx h
    have hD := hI.1 x (by omega)
    have k3 := hb.1.2.2.1 x (by omega)
    rw [whF] at h
    apply v_Mod_areWhole_2
    rw [hb.2.1, i3n (by omega), i3n (by omega), (hR.2.1 x (by omega)).1, (hb.2.2.2.1 x (by omega)).2.1, i3s (x := b_wo b x) (by omega) (by omega), i3s (x := c x) (by omega) (by omega)]
    refine ⟨fun q => absurd q (by omega), fun _ => ⟨by omega, by omega, fun q => ih (x + 1) (by omega) ?_, fun q => ?_⟩⟩
    · rw [if_pos q] at h; exact h
    · rw [if_neg q] at h; simpa using h
theorem l_whole {g : sh_G} {d : Nat} {b : Bk} {c : Nat → Int} {mem : sh_Mem} {Q : Option sh_V → sh_Mem → Prop} (hI : Inv b c) (hb : MB mem b) : ∀ (k x : Nat) (m : sh_Mem), x + k = 61 → Sr mem m → EQ (m 129) (nightsR b c x) → EQ (m 131) c → (∀ m', Sr mem m' → EQ (m' 129) c → Q (some (sh_i (fst (fun n => whF b (nightsR b c n) (b_nd b) 0) k x))) m') →
    sh_X g (d + 3) m_Mod_whole 20 [(0, sh_r 96), (1, sh_i (x : Int))] [] m (sh_K m_Mod_whole Q) := by
  intro k
  induction k with
  | zero =>
    intro x m hx hs h1 h2 h
    obtain rfl : x = 61 := by omega
    apply v_Mod_whole_20
    refine ⟨fun _ => ?_, fun q => absurd (by decide) q⟩
    rw [show (0 : Int) = ((0 : Nat) : Int) from rfl]
    refine s_Mod_copies (A := 131) (B := 129) (n := 45) (n2 := 45) rfl rfl (by decide) (by omega) (by omega) ⟨rfl, fun q => absurd q (by decide), fun _ => ?_⟩
    exact h _ (Sr_ms hs (by decide) (by decide) _) (by rw [ms_s]; exact EQ_cp h2)
  | succ k ih =>
    intro x m hx hs h1 h2 h
    have hIx := Inv_nights hb.1 x c hI
    have hbm := MB_Sr hs hb
    apply v_Mod_whole_20
    rw [i3n (by omega)]
    refine ⟨fun q => absurd q (by omega), fun _ => ?_⟩
    apply v_Mod_areWhole
    refine l_areWhole h1 hIx hbm (b_nd b) 0 (by omega) ⟨_, rfl, ?_⟩
    rw [i3_01]
    rw [fst] at h
    refine ⟨fun q => ?_, fun q => s_Mod_passes h1 hIx hbm (fun r hr => ⟨rfl, ?_⟩)⟩
    · rw [if_pos (by grind)] at h
      rw [show (0 : Int) = ((0 : Nat) : Int) from rfl]
      refine s_Mod_copies (A := 131) (B := 129) (n := 45) (n2 := 45) rfl rfl (by decide) (by omega) (by omega) ⟨rfl, fun _ => ?_, fun q => absurd (by omega) q⟩
      exact h _ (Sr_ms hs (by decide) (by decide) _) (by rw [ms_s]; exact EQ_cp h2)
    · rw [if_neg (by grind)] at h
      exact ih (x + 1) _ (by omega) (Sr_ms hs (by decide) (by decide) _) (by rw [ms_s, nightsR_s]; exact hr) (by rw [ms_n _ _ (by decide)]; exact h2) h
theorem r_whole {g : sh_G} {d : Nat} {w : Wd} {mem : sh_Mem} {Q : Option sh_V → sh_Mem → Prop} (hW : WOk w) (h : RRel w mem) (hQ : ∀ m', RPost (w) mem m' → Q (some (sh_i (fst (fun n => whF (w_b w) (nightsR (w_b w) (w_c w) n) (b_nd (w_b w)) 0) 61 0))) m') : sh_Cal g (d + 4) m_Mod_whole [sh_r 96] mem Q := by
  have p0 := RPost_0 h
  have hE := p0.1.2.2.2.2.1
  have hI := hW.2.1
  have k1 := hW.1.1
  have k2 := hW.1.2.1
  apply v_Mod_whole
  rintro _ rfl
  rw [show (0 : Int) = ((0 : Nat) : Int) from rfl]
  refine s_Mod_copies (A := 129) (B := 131) (n := 45) (n2 := 45) rfl rfl (by decide) (by omega) (by omega) ⟨rfl, ?_⟩
  exact l_whole hI p0.1.1 61 0 _ (by omega) (Sr_ms (Sr_rf _) (by decide) (by decide) _) (by rw [ms_n _ _ (by decide)]; exact hE) (by rw [ms_s]; exact EQ_cp hE) (fun m' hs he => hQ _ (RPost_sr p0 hs he))
def q_thief (w : Wd) (t k : Int) : Int := if isT w t ∧ 0 ≤ k ∧ k ≤ 8 then (if k = 0 then b_sk (w_b w) t.toNat else if k = 1 then b_sa (w_b w) t.toNat else if (k = 3 ∨ k = 4) ∧ ¬ 0 < w_c w (16 + t.toNat) then -1 else w_c w (16 + 4 * (k - 2).toNat + t.toNat)) else -2
theorem r_thief {g : sh_G} {d : Nat} {w : Wd} {mem : sh_Mem} {t k : Int} {Q : Option sh_V → sh_Mem → Prop} (hW : WOk w) (h : RRel w mem) (ht : i3 t = t) (hk : i3 k = k) (hQ : ∀ m', RPost (w) mem m' → Q (some (sh_i (q_thief w t k))) m') : sh_Cal g (d + 1) m_Mod_thief [sh_r 96, sh_i t, sh_i k] mem Q := by
  have p0 := RPost_0 h
  have hE := p0.1.2.2.2.2.1
  have hI := hW.2.1
  have k1 := hW.1.1
  have k2 := hW.1.2.1
  apply v_Mod_thief
  rintro _ rfl
  have p := hQ _ p0
  unfold q_thief at p
  refine isT_then p0.1 ht (fun q => ?_) (fun n e hn => wi_then' hk rfl rfl (fun q => ?_) (fun q => ?_))
  · rw [if_neg (fun z => q z.1)] at p; exact p
  · rw [if_neg (fun z => q z.2)] at p; exact p
  · subst e
    rw [if_pos ⟨⟨by omega, by omega⟩, q⟩, Int.toNat_natCast] at p
    have b5 := p0.1.1.2.2.2.2 n hn
    have hT := hE.2.2 n (by omega)
    rw [hk, Int.toNat_natCast, b5.1, b5.2]
    refine ⟨fun q1 => ⟨fun q2 => ⟨by omega, ?_⟩, fun q2 => ⟨by omega, ?_⟩⟩, fun q1 => ⟨by omega, ?_⟩⟩
    · rw [if_neg q1, if_neg q2] at p
      rcases (by omega : k = 2 ∨ k = 3 ∨ k = 4 ∨ k = 5 ∨ k = 6 ∨ k = 7 ∨ k = 8) with rfl | rfl | rfl | rfl | rfl | rfl | rfl
      · rw [show ((17 : Int) + 4 * (2 - 2) + (n : Int)).toNat = 17 + n by omega, hT.1]
        rw [if_neg (by omega)] at p; simpa using p
      · rw [show ((17 : Int) + 4 * (3 - 2) + (n : Int)).toNat = 21 + n by omega, hT.2.1]
        by_cases z : 0 < w_c w (16 + n)
        · rw [if_neg (by omega)] at p; rw [if_pos z]; exact p
        · rw [if_pos (by omega)] at p; rw [if_neg z]; exact p
      · rw [show ((17 : Int) + 4 * (4 - 2) + (n : Int)).toNat = 25 + n by omega, hT.2.2.1]
        by_cases z : 0 < w_c w (16 + n)
        · rw [if_neg (by omega)] at p; rw [if_pos z]; exact p
        · rw [if_pos (by omega)] at p; rw [if_neg z]; exact p
      · rw [show ((17 : Int) + 4 * (5 - 2) + (n : Int)).toNat = 29 + n by omega, hT.2.2.2.1]
        rw [if_neg (by omega)] at p; exact p
      · rw [show ((17 : Int) + 4 * (6 - 2) + (n : Int)).toNat = 33 + n by omega, hT.2.2.2.2.1]
        rw [if_neg (by omega)] at p; exact p
      · rw [show ((17 : Int) + 4 * (7 - 2) + (n : Int)).toNat = 37 + n by omega, hT.2.2.2.2.2.1]
        rw [if_neg (by omega)] at p; exact p
      · rw [show ((17 : Int) + 4 * (8 - 2) + (n : Int)).toNat = 41 + n by omega, hT.2.2.2.2.2.2]
        rw [if_neg (by omega)] at p; exact p
    · rw [if_neg q1, if_pos q2] at p; exact p
    · rw [if_pos q1] at p; exact p
