/-! ===== the reference's answers ===== -/
abbrev isD (w : Wd) (x : Int) : Prop := 0 ≤ x ∧ x < (b_nd (w_b w) : Int)
abbrev isT (w : Wd) (x : Int) : Prop := 0 ≤ x ∧ x < (b_nt (w_b w) : Int)
theorem l_Mod_isDay {g : sh_G} {d : Nat} {w : Wd} {mem : sh_Mem} {x : Int} {Q : Option sh_V → sh_Mem → Prop} (h : RRel w mem) (hx : i3 x = x) (hQ : Q (some (sh_i (if isD w x then 1 else 0))) mem) : sh_Cal g d m_Mod_isDay [sh_r 96, sh_i x] mem Q := by
  have k1 := h.1.1.1
  apply vi_Mod_isDay
  rw [h.1.2.1, hx, i3n (by omega)]
  refine ⟨fun q => ?_, fun q => ⟨fun q2 => ?_, fun q2 => ?_⟩⟩
  · rw [if_neg (by omega)] at hQ; exact hQ
  · rw [if_neg (by omega)] at hQ; exact hQ
  · rw [if_pos (by omega)] at hQ; exact hQ
theorem l_Mod_isThief {g : sh_G} {d : Nat} {w : Wd} {mem : sh_Mem} {x : Int} {Q : Option sh_V → sh_Mem → Prop} (h : RRel w mem) (hx : i3 x = x) (hQ : Q (some (sh_i (if isT w x then 1 else 0))) mem) : sh_Cal g d m_Mod_isThief [sh_r 96, sh_i x] mem Q := by
  have k1 := h.1.1.2.1
  apply vi_Mod_isThief
  rw [h.1.2.2.1, hx, i3n (by omega)]
  refine ⟨fun q => ?_, fun q => ⟨fun q2 => ?_, fun q2 => ?_⟩⟩
  · rw [if_neg (by omega)] at hQ; exact hQ
  · rw [if_neg (by omega)] at hQ; exact hQ
  · rw [if_pos (by omega)] at hQ; exact hQ
theorem i3_01 (p : Prop) [Decidable p] : i3 (if p then 1 else 0) = if p then 1 else 0 := i3s (by split <;> omega) (by split <;> omega)
def q_day (w : Wd) (x k : Int) : Int := if isD w x ∧ 0 ≤ k ∧ k ≤ 4 then (if k = 0 then b_ki (w_b w) x.toNat else if k = 1 then b_wo (w_b w) x.toNat else if k = 2 then w_c w x.toNat else if k = 3 then w_c w (8 + x.toNat) else b_gu (w_b w) x.toNat) else -1
theorem r_day {g : sh_G} {d : Nat} {w : Wd} {mem : sh_Mem} {x k : Int} {Q : Option sh_V → sh_Mem → Prop} (h : RRel w mem) (hx : i3 x = x) (hk : i3 k = k) (hQ : ∀ m', RPost w mem m' → Q (some (sh_i (q_day w x k))) m') : sh_Cal g (d + 1) m_Mod_day [sh_r 96, sh_i x, sh_i k] mem Q := by
  have k1 := h.1.1.1
  have p0 := RPost_0 h
  have p := hQ _ p0
  unfold q_day at p
  apply v_Mod_day
  rintro _ rfl
  refine l_Mod_isDay p0.1 hx ⟨_, rfl, ?_⟩
  rw [i3_01]
  refine ⟨fun q => ?_, fun q => s_Mod_within ⟨_, rfl, ?_⟩⟩
  · rw [if_neg (by grind)] at p; exact p
  · have hd : isD w x := by grind
    have hd2 : x.toNat < b_nd (w_b w) := by omega
    have e0 : i3 0 = 0 := rfl
    have e4 : i3 4 = 4 := rfl
    have a1 := p0.1.1.2.2.2.1 x.toNat hd2
    have a2 := p0.1.2.2.2.2.1.2.1 x.toNat (by omega)
    have t1 : (1 + x).toNat = 1 + x.toNat := by omega
    have t9 : (9 + x).toNat = 9 + x.toNat := by omega
    have b1 : 0 ≤ x ∧ x < 8 := by omega
    rw [i3_01, hk, e0, e4, t1, t9, a1.1, a1.2.1, a1.2.2, a2.1, a2.2]
    refine ⟨fun q1 => ?_, fun q1 => ?_⟩
    · have hk2 : 0 ≤ k ∧ k ≤ 4 := by grind
      rw [if_pos ⟨hd, hk2⟩] at p
      refine ⟨fun c1 => ⟨fun c2 => ⟨fun c3 => ⟨by omega, ?_⟩, fun c3 => ⟨by omega, ?_⟩⟩, fun c2 => ⟨by omega, ?_⟩⟩, fun c1 => ⟨fun c2 => ⟨by omega, ?_⟩, fun c2 => ⟨by omega, ?_⟩⟩⟩
      · rw [if_neg (by omega), if_neg (by omega), if_neg (by omega), if_neg (by omega)] at p; exact p
      · rw [if_neg (by omega), if_neg (by omega), if_neg (by omega), if_pos (by omega)] at p; exact p
      · rw [if_neg (by omega), if_neg (by omega), if_pos (by omega)] at p; exact p
      · rw [if_neg (by omega), if_pos (by omega)] at p; exact p
      · rw [if_pos (by omega)] at p; exact p
    · rw [if_neg (by grind)] at p; exact p
def q_can (w : Wd) (t : Int) : Int := if isT w t then bitsF (fun e => decide (w_c w (28 + t.toNat) = 0 ∧ w_c w (16 + t.toNat) = 0) && opnM (w_b w) (w_c w) t.toNat e) (b_nd (w_b w)) else -1
theorem r_can {g : sh_G} {d : Nat} {w : Wd} {mem : sh_Mem} {t : Int} {Q : Option sh_V → sh_Mem → Prop} (hW : WOk w) (h : RRel w mem) (ht : i3 t = t) (hQ : ∀ m', RPost w mem m' → Q (some (sh_i (q_can w t))) m') : sh_Cal g (d + 3) m_Mod_can [sh_r 96, sh_i t] mem Q := by
  have p0 := RPost_0 h
  have p := hQ _ p0
  unfold q_can at p
  apply v_Mod_can
  rintro _ rfl
  refine l_Mod_isThief p0.1 ht ⟨_, rfl, ?_⟩
  rw [i3_01]
  refine ⟨fun q => ?_, fun q => ?_⟩
  · rw [if_neg (by grind)] at p; exact p
  · have hd : isT w t := by grind
    obtain ⟨n, rfl⟩ : ∃ n : Nat, t = (n : Int) := ⟨t.toNat, by omega⟩
    rw [if_pos hd, Int.toNat_natCast] at p
    exact s_Mod_canOf p0.1.2.2.2.2.1 hW.2.1 p0.1.1 (by omega) ⟨_, rfl, p⟩
def q_price (w : Wd) (t : Int) : Int := if isT w t then prV (w_b w) (w_c w) t.toNat else -1
