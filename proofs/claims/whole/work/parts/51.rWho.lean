/-! ===== who it is ===== -/
/-- as what was seen says, from line x on -/
def asF (b : Bk) (c : Nat → Int) (s : Se) (t : Nat) : Nat → Nat → Bool
  | 0, _ => true
  | n + 1, x => if (if opF b c t (s.2.2.1 x).toNat (s.2.1 x).toNat = true then (1 : Int) else 0) = s.2.2.2 x then asF b c s t n (x + 1) else false
theorem l_isAsSeen {g : sh_G} {d t : Nat} {w : Wd} {m : sh_Mem} {Q : Option sh_V → sh_Mem → Prop} (hW : WOk w) (hR : RRel w m) (ht : t < b_nt (w_b w)) (ho : opR (w_b w) (w_c w) (m 138) 31) : ∀ (k x : Nat), x + k = (w_s w).1 → Q (some (sh_i (if asF (w_b w) (w_c w) (w_s w) t k x = true then 1 else 0))) m →
    sh_X g d m_Mod_isAsSeen 2 [(0, sh_r 96), (1, sh_i (t : Int)), (2, sh_i (x : Int))] [] m (sh_K m_Mod_isAsSeen Q) := by
  have k1 := hW.1.1
  have k2 := hW.1.2.1
  have hs := hW.2.2.2.2.2.1
  have hc := hR.2.2.2.2.2.2.2.1
  have hs8 := hs.1
  intro k
  induction k with
  | zero =>
    intro x hx h
    obtain rfl : x = (w_s w).1 := by omega
    apply v_Mod_isAsSeen_2
    rw [hc.1]
    exact ⟨fun _ => h, fun q => absurd (by omega) q⟩
  | succ k ih =>
    intro x hx h
    have hx2 := hs.2 x (by omega)
    have hx3 := hc.2 x (by omega)
    rw [Nat.zero_add] at hx3
    rw [asF] at h
    obtain ⟨n, en⟩ : ∃ n : Nat, (w_s w).2.2.1 x = (n : Int) := ⟨((w_s w).2.2.1 x).toNat, by omega⟩
    obtain ⟨e, ee⟩ : ∃ e : Nat, (w_s w).2.1 x = (e : Int) := ⟨((w_s w).2.1 x).toNat, by omega⟩
    rw [en, ee, Int.toNat_natCast, Int.toNat_natCast] at h
    have tn : ((4 : Int) * (n : Int) + (t : Int)).toNat = 4 * n + t := by omega
    apply v_Mod_isAsSeen_2
    rw [hc.1, i3n (by omega), i3n (by omega), hx3.1, hx3.2.1, hx3.2.2, en, ee, tn, ho n t ht (by omega), bitsF_bit _ k1 (by omega), i3s (x := (w_s w).2.2.2 x) (by omega) (by omega)]
    refine ⟨fun q => absurd q (by omega), fun _ => ⟨by omega, by omega, by omega, fun q => ⟨by omega, fun q2 => ih (x + 1) (by omega) ?_, fun q2 => ?_⟩, fun q => ⟨by omega, fun q2 => ih (x + 1) (by omega) ?_, fun q2 => ?_⟩⟩⟩
    · rw [if_neg (show ¬ opF (w_b w) (w_c w) t n e = true from fun z => q (if_pos z)), if_pos q2] at h; exact h
    · rw [if_neg (show ¬ opF (w_b w) (w_c w) t n e = true from fun z => q (if_pos z)), if_neg q2, if_neg (by decide)] at h; exact h
    · have z : opF (w_b w) (w_c w) t n e = true := by
        by_cases z : opF (w_b w) (w_c w) t n e = true
        · exact z
        · rw [if_neg z] at q; omega
      rw [if_pos z, if_pos q2] at h; exact h
    · have z : opF (w_b w) (w_c w) t n e = true := by
        by_cases z : opF (w_b w) (w_c w) t n e = true
        · exact z
        · rw [if_neg z] at q; omega
      rw [if_pos z, if_neg q2, if_neg (by decide)] at h; exact h
def whoF (w : Wd) : Nat → Int := fun n => bitsF (fun t => asF (w_b w) (w_c w) (w_s w) t (w_s w).1 0) n
theorem l_who {g : sh_G} {d : Nat} {w : Wd} {m : sh_Mem} {Q : Option sh_V → sh_Mem → Prop} (hW : WOk w) (hR : RRel w m) (ho : opR (w_b w) (w_c w) (m 138) 31) (h : Q (some (sh_i (whoF w (b_nt (w_b w))))) m) : ∀ (k x : Nat), x + k = b_nt (w_b w) →
    sh_X g (d + 1) m_Mod_who 13 [(0, sh_r 96), (1, sh_i (whoF w x)), (2, sh_i (x : Int))] [] m (sh_K m_Mod_who Q) := by
  have k2 := hW.1.2.1
  intro k
  induction k with
  | zero =>
    intro x hx
    obtain rfl : x = b_nt (w_b w) := by omega
    apply v_Mod_who_13
    rw [hR.1.2.2.1]
    exact ⟨fun _ => h, fun q => absurd (by omega) q⟩
  | succ k ih =>
    intro x hx
    have ih' := ih (x + 1) (by omega)
    unfold whoF at ih' ⊢
    rw [bitsF] at ih'
    apply v_Mod_who_13
    rw [hR.1.2.2.1, i3n (by omega), i3n (by omega)]
    refine ⟨fun q => absurd q (by omega), fun _ => ?_⟩
    apply v_Mod_isAsSeen
    refine l_isAsSeen hW hR (by omega) ho (w_s w).1 0 (by omega) ⟨_, rfl, ?_⟩
    rw [i3_01, bitsF_or0]
    refine ⟨fun q => ?_, fun q => ?_⟩
    · rw [if_neg (by grind)] at ih'; exact ih'
    · rw [if_pos (by grind)] at ih'; exact ih'
theorem r_who {g : sh_G} {d : Nat} {w : Wd} {mem : sh_Mem} {Q : Option sh_V → sh_Mem → Prop} (hW : WOk w) (h : RRel w mem) (hQ : ∀ m', RPost w mem m' → opR (w_b w) (w_c w) (m' 138) 31 → Q (some (sh_i (whoF w (b_nt (w_b w))))) m') : sh_Cal g (d + 4) m_Mod_who [sh_r 96] mem Q := by
  have p0 := RPost_0 h
  apply v_Mod_who
  rintro _ rfl
  refine s_Mod_laysOpen p0.1.2.2.2.2.1 hW.2.1 p0.1.1 (fun m' hs he ho => ⟨rfl, ?_⟩)
  have p1 := RPost_sr p0 hs he
  exact l_who hW p1.1 ho (hQ _ p1 ho) (b_nt (w_b w)) 0 (by omega)
