/-! ===== the reference's answers: slack ===== -/
/-- the first of the least guarded among n days -/
def lgF (c : Nat → Int) : Nat → Int
  | 0 => -1
  | n + 1 => if lgF c n < 0 then (n : Int) else if c (8 + (lgF c n).toNat) ≤ c (8 + n) then lgF c n else (n : Int)
theorem lgF_rng (c : Nat → Int) : ∀ n, -1 ≤ lgF c n ∧ lgF c n < n
  | 0 => by unfold lgF; omega
  | n + 1 => by have := lgF_rng c n; unfold lgF; grind
theorem l_slack_51 {g : sh_G} {d : Nat} {b : Bk} {c0 c : Nat → Int} {nights : Int} {m : sh_Mem} {Q : Option sh_V → sh_Mem → Prop} (hR : EQ (m 129) c) (hI : Inv b c) (hb : MB m b) (h2 : EQ (m 131) c0) (h : ∀ r, EQ r c0 → Q (some (sh_i (lgF c (b_nd b)))) (ms m 129 r)) : ∀ (k x : Nat), x + k = b_nd b →
    sh_X g (d + 1) m_Mod_slack 51 [(0, sh_r 96), (1, sh_i nights), (2, sh_i (lgF c x)), (3, sh_i (x : Int))] [] m (sh_K m_Mod_slack Q) := by
  have k1 := hb.1.1
  intro k
  induction k with
  | zero =>
    intro x hx
    obtain rfl : x = b_nd b := by omega
    apply v_Mod_slack_51
    rw [hb.2.1]
    refine ⟨fun _ => ?_, fun q => absurd (by omega) q⟩
    rw [show (0 : Int) = ((0 : Nat) : Int) from rfl]
    exact s_Mod_copies (A := 131) (B := 129) (n := 45) (n2 := 45) rfl rfl (by decide) (by omega) (by omega) ⟨rfl, h _ (EQ_cp h2)⟩
  | succ k ih =>
    intro x hx
    have ih' := ih (x + 1) (by omega)
    have hr := lgF_rng c x
    rw [lgF] at ih'
    apply v_Mod_slack_51
    rw [hb.2.1, i3n (by omega), i3n (by omega), i3s (x := lgF c x) (by omega) (by omega)]
    refine ⟨fun q => absurd q (by omega), fun _ => ⟨fun q => ?_, fun q => ?_⟩⟩
    · rw [if_pos q] at ih'; exact ih'
    · have e : ((9 : Int) + lgF c x).toNat = 9 + (lgF c x).toNat := by omega
      have d1 := hI.1 x (by omega)
      have d2 := hI.1 (lgF c x).toNat (by omega)
      have k3 := hb.1.2.2.1 x (by omega)
      have k4 := hb.1.2.2.1 (lgF c x).toNat (by omega)
      rw [e, (hR.2.1 x (by omega)).2, (hR.2.1 (lgF c x).toNat (by omega)).2, i3s (x := c (8 + x)) (by omega) (by omega), i3s (x := c (8 + (lgF c x).toNat)) (by omega) (by omega)]
      rw [if_neg q] at ih'
      refine ⟨by omega, by omega, fun q2 => ?_, fun q2 => ?_⟩
      · rw [if_pos q2] at ih'; exact ih'
      · rw [if_neg q2] at ih'; exact ih'
theorem l_slack_32 {g : sh_G} {d n : Nat} {b : Bk} {c : Nat → Int} {mem : sh_Mem} {Q : Option sh_V → sh_Mem → Prop} (hn : n ≤ 60) (hI : Inv b c) (hb : MB mem b) (h : ∀ m', Sr mem m' → EQ (m' 129) c → Q (some (sh_i (lgF (nightsR b c n) (b_nd b)))) m') : ∀ (k x : Nat) (m : sh_Mem), x + k = n → Sr mem m → EQ (m 129) (nightsR b c x) → EQ (m 131) c →
    sh_X g (d + 3) m_Mod_slack 32 [(0, sh_r 96), (1, sh_i (n : Int)), (2, sh_i (x : Int))] [] m (sh_K m_Mod_slack Q) := by
  intro k
  induction k with
  | zero =>
    intro x m hx hs h1 h2
    obtain rfl : x = n := by omega
    apply v_Mod_slack_32
    refine ⟨fun _ => ?_, fun q => absurd (by omega) q⟩
    exact l_slack_51 h1 (Inv_nights hb.1 x c hI) (MB_Sr hs hb) h2 (fun r hr => h _ (Sr_ms hs (by decide) (by decide) _) (by rw [ms_s]; exact hr)) (b_nd b) 0 (by omega)
  | succ k ih =>
    intro x m hx hs h1 h2
    apply v_Mod_slack_32
    rw [i3n (by omega), i3n (by omega)]
    refine ⟨fun q => absurd q (by omega), fun _ => s_Mod_passes h1 (Inv_nights hb.1 x c hI) (MB_Sr hs hb) (fun r hr => ⟨rfl, ?_⟩)⟩
    exact ih (x + 1) (ms m 129 r) (by omega) (Sr_ms hs (by decide) (by decide) _) (by rw [ms_s, nightsR_s]; exact hr) (by rw [ms_n _ _ (by decide)]; exact h2)
def q_slack (w : Wd) (k : Int) : Int := if 0 ≤ k ∧ k ≤ 60 then lgF (nightsR (w_b w) (w_c w) k.toNat) (b_nd (w_b w)) else -1
theorem r_slack {g : sh_G} {d : Nat} {w : Wd} {mem : sh_Mem} {k : Int} {Q : Option sh_V → sh_Mem → Prop} (hW : WOk w) (h : RRel w mem) (hk : i3 k = k) (hQ : ∀ m', RPost (w) mem m' → Q (some (sh_i (q_slack w k))) m') : sh_Cal g (d + 3) m_Mod_slack [sh_r 96, sh_i k] mem Q := by
  have p0 := RPost_0 h
  have hE := p0.1.2.2.2.2.1
  have hI := hW.2.1
  have k1 := hW.1.1
  have k2 := hW.1.2.1
  apply v_Mod_slack
  rintro _ rfl
  unfold q_slack at hQ
  refine wi_then' hk rfl rfl (fun q => ?_) (fun q => ?_)
  · rw [if_neg q] at hQ; exact hQ _ p0
  · rw [if_pos q] at hQ
    obtain ⟨n, rfl⟩ : ∃ n : Nat, k = (n : Int) := ⟨k.toNat, by omega⟩
    rw [Int.toNat_natCast] at hQ
    rw [show (0 : Int) = ((0 : Nat) : Int) from rfl]
    refine s_Mod_copies (A := 129) (B := 131) (n := 45) (n2 := 45) rfl rfl (by decide) (by omega) (by omega) ⟨rfl, ?_⟩
    exact l_slack_32 (by omega) hI p0.1.1 (fun m' hs he => hQ _ (RPost_sr p0 hs he)) n 0 _ (by omega) (Sr_ms (Sr_rf _) (by decide) (by decide) _) (by rw [ms_n _ _ (by decide)]; exact hE) (by rw [ms_s]; exact EQ_cp hE)
