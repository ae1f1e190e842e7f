/-! ===== cover ===== -/
def cvF (c : Nat → Int) (best : Int) : Nat → Nat → Int → Int
  | 0, _, acc => acc
  | n + 1, x, acc => if c x = 0 then cvF c best n (x + 1) acc else if c (8 + x) ≤ best then (if best = 9 then -1 else cvF c best n (x + 1) (acc + ((best + 1) - c (8 + x)))) else cvF c best n (x + 1) acc
theorem l_cover_48 {g : sh_G} {d : Nat} {b : Bk} {c : Nat → Int} {best : Int} {m : sh_Mem} {Q : Option sh_V → sh_Mem → Prop} (hR : EQ (m 129) c) (hI : Inv b c) (hb : MB m b) (hbe : -1 ≤ best ∧ best ≤ 9) : ∀ (k x : Nat) (acc : Int), x + k = b_nd b → Q (some (sh_i (cvF c best k x acc))) m →
    sh_X g (d + 1) m_Mod_cover 48 [(0, sh_r 96), (1, sh_i best), (2, sh_i acc), (3, sh_i (x : Int))] [] m (sh_K m_Mod_cover Q) := by
  have k1 := hb.1.1
  intro k
  induction k with
  | zero =>
    intro x acc hx h
    obtain rfl : x = b_nd b := by omega
    apply v_Mod_cover_48
    rw [hb.2.1]
    exact ⟨fun _ => h, fun q => absurd (by omega) q⟩
  | succ k ih =>
    intro x acc hx h
    have hD := hI.1 x (by omega)
    have k3 := hb.1.2.2.1 x (by omega)
    have he := hR.2.1 x (by omega)
    rw [cvF] at h
    apply v_Mod_cover_48
    rw [hb.2.1, i3n (by omega), i3n (by omega), he.1, he.2, i3s (x := c x) (by omega) (by omega), i3s (x := c (8 + x)) (by omega) (by omega), i3s (x := best) (by omega) (by omega)]
    refine ⟨fun q => absurd q (by omega), fun _ => ⟨by omega, fun q => ?_, fun q => ⟨by omega, fun q2 => ⟨fun q3 => ⟨by omega, ?_⟩, fun q3 => ?_⟩, fun q2 => ?_⟩⟩⟩
    · rw [if_pos q] at h; exact ih (x + 1) _ (by omega) h
    · rw [if_neg q, if_pos q2, if_neg q3] at h; exact ih (x + 1) _ (by omega) h
    · rw [if_neg q, if_pos q2, if_pos q3] at h; exact h
    · rw [if_neg q, if_neg q2] at h; exact ih (x + 1) _ (by omega) h
theorem l_cover_9 {g : sh_G} {d : Nat} {b : Bk} {c : Nat → Int} {m : sh_Mem} {Q : Option sh_V → sh_Mem → Prop} (hR : EQ (m 129) c) (hI : Inv b c) (hb : MB m b) (h : Q (some (sh_i (cvF c (brsF b c (b_nt b)) (b_nd b) 0 0))) m) : ∀ (k x : Nat), x + k = b_nt b →
    sh_X g (d + 2) m_Mod_cover 9 [(0, sh_r 96), (1, sh_i (brsF b c x)), (2, sh_i (x : Int))] [] m (sh_K m_Mod_cover Q) := by
  have k2 := hb.1.2.1
  intro k
  induction k with
  | zero =>
    intro x hx
    obtain rfl : x = b_nt b := by omega
    apply v_Mod_cover_9
    rw [hb.2.2.1]
    refine ⟨fun _ => ?_, fun q => absurd (by omega) q⟩
    exact l_cover_48 hR hI hb (brsF_rng hb.1 c _ (Nat.le_refl _)) (b_nd b) 0 0 (by omega) h
  | succ k ih =>
    intro x hx
    have ih' := ih (x + 1) (by omega)
    have hr := brsF_rng hb.1 c x (by omega)
    have k4 := hb.1.2.2.2.1 x (by omega)
    have b5 := hb.2.2.2.2 x (by omega)
    rw [brsF] at ih'
    apply v_Mod_cover_9
    rw [hb.2.2.1, i3n (by omega), i3n (by omega), Int.toNat_natCast, i3s (x := brsF b c x) (by omega) (by omega)]
    refine ⟨fun q => absurd q (by omega), fun _ => s_Mod_couldSteal hR (hI.2.2.1 x (by omega)) (by omega) ⟨_, rfl, ?_⟩⟩
    rw [i3_01]
    refine ⟨fun q => ?_, fun q => ⟨by omega, ?_⟩⟩
    · rw [if_neg (by grind)] at ih'; exact ih'
    · rw [if_pos (by grind)] at ih'
      have e : (if brsF b c x < b_sk b x then b_sk b x else brsF b c x) = max (brsF b c x) (b_sk b x) := by omega
      rw [b5.1, i3s (x := b_sk b x) (by omega) (by omega), e]; exact ih'
theorem r_cover {g : sh_G} {d : Nat} {w : Wd} {mem : sh_Mem} {Q : Option sh_V → sh_Mem → Prop} (hW : WOk w) (h : RRel w mem) (hQ : ∀ m', RPost w mem m' → Q (some (sh_i (cvF (w_c w) (brsF (w_b w) (w_c w) (b_nt (w_b w))) (b_nd (w_b w)) 0 0))) m') : sh_Cal g (d + 2) m_Mod_cover [sh_r 96] mem Q := by
  have p0 := RPost_0 h
  apply v_Mod_cover
  rintro _ rfl
  exact l_cover_9 p0.1.2.2.2.2.1 hW.2.1 p0.1.1 (hQ _ p0) (b_nt (w_b w)) 0 (by omega)
