theorem l_State_sleep_D {g : sh_G} {d S B : Nat} {b : Bk} {c : Nat → Int} {mem0 : sh_Mem} {Q : Option sh_V → sh_Mem → Prop} (hS : ob8 S) (hB : ob0 B) (hI : Inv b c) (hb : CB mem0 B b) (h : Q none (ms mem0 (S + 1) (sleepR b c))) : ∀ (k x2 : Nat), x2 + k = b_nd b →
    sh_X g (d + 1 + 1) m_State_sleep 93 [(0, sh_r S), (1, sh_r B), (2, sh_i (x2 : Int))] [] (ms mem0 (S + 1) (sleepD b c x2)) (sh_K m_State_sleep Q) := by
  have k1 := hb.1.1
  intro k
  induction k with
  | zero =>
    intro x2 hx
    have hcb := CB_ms (r := sleepD b c x2) hb hS hB
    apply v_State_sleep_93 hS hB
    rw [hcb.2.1, i3n (by omega), i3n (by omega)]
    refine ⟨fun _ => ?_, fun q => absurd (by omega) q⟩
    rintro _ rfl
    have q1 : sleepD b c x2 44 = c 44 := by unfold sleepD; simp
    have e : x2 = b_nd b := by omega
    subst e
    simp only [ms_ms, ms_s, q1, sleepD_n b c k1]
    exact h
  | succ k ih =>
    intro x2 hx
    have hx' : x2 < b_nd b := by omega
    have hcb := CB_ms (r := sleepD b c x2) hb hS hB
    have q1 : sleepD b c x2 x2 = c x2 := by unfold sleepD; grind
    have q2 : sleepD b c x2 (8 + x2) = c (8 + x2) := by unfold sleepD; grind
    have hI1 := hI.1 x2 hx'
    have hD : InvD b (ms mem0 (S + 1) (sleepD b c x2) (S + 1)) x2 := by
      rw [ms_s]; exact ⟨by rw [q1]; omega, by rw [q1]; omega, by rw [q2]; omega, by rw [q2]; omega⟩
    apply v_State_sleep_93 hS hB
    rw [hcb.2.1, i3n (by omega), i3n (by omega)]
    refine ⟨fun q => absurd q (by omega), fun _ => s_State_leftBehind hS hB hD hcb hx' (by omega) ⟨_, rfl, by omega, ?_⟩⟩
    rintro _ rfl
    simp only [ms_ms, ms_s, q1]
    have hcb2 := CB_ms (r := ru (sleepD b c x2) x2 (min (b_wo b x2) (c x2 + 1))) hb hS hB
    have w0 : ru (sleepD b c x2) x2 (min (b_wo b x2) (c x2 + 1)) (8 + x2) = c (8 + x2) := by rw [ru_n _ _ (by omega), q2]
    have hD2 : InvD b (ms mem0 (S + 1) (ru (sleepD b c x2) x2 (min (b_wo b x2) (c x2 + 1))) (S + 1)) x2 := by
      have k3 := hb.1.2.2.1 x2 hx'
      rw [ms_s]; exact ⟨by rw [ru_s]; omega, by rw [ru_s]; omega, by rw [w0]; omega, by rw [w0]; omega⟩
    refine s_State_guardBehind hS hB hD2 hcb2 hx' (by omega) ⟨_, rfl, by omega, ?_⟩
    rintro _ rfl
    simp only [ms_ms, ms_s, w0]
    rw [sleepD_s b c hx' k1]
    exact ih (x2 + 1) (by omega)
theorem l_State_sleep_T {g : sh_G} {d S B : Nat} {b : Bk} {c : Nat → Int} {mem0 : sh_Mem} {Q : Option sh_V → sh_Mem → Prop} (hS : ob8 S) (hB : ob0 B) (hI : Inv b c) (hb : CB mem0 B b) (h : Q none (ms mem0 (S + 1) (sleepR b c))) : ∀ (k x2 : Nat), x2 + k = b_nt b →
    sh_X g (d + 1 + 1) m_State_sleep 2 [(0, sh_r S), (1, sh_r B), (2, sh_i (x2 : Int))] [] (ms mem0 (S + 1) (sleepT b c x2)) (sh_K m_State_sleep Q) := by
  have k2 := hb.1.2.1
  intro k
  induction k with
  | zero =>
    intro x2 hx
    have hcb := CB_ms (r := sleepT b c x2) hb hS hB
    apply v_State_sleep_2 hS hB
    rw [hcb.2.2.1, i3n (by omega), i3n (by omega)]
    refine ⟨fun _ => ?_, fun q => absurd (by omega) q⟩
    have e : x2 = b_nt b := by omega
    rw [e, sleepD_0 b c k2]
    exact l_State_sleep_D hS hB hI hb h (b_nd b) 0 (by omega)
  | succ k ih =>
    intro x2 hx
    have hx' : x2 < b_nt b := by omega
    have hcb := CB_ms (r := sleepT b c x2) hb hS hB
    have q16 : sleepT b c x2 (16 + x2) = c (16 + x2) := by unfold sleepT; grind
    have q20 : sleepT b c x2 (20 + x2) = c (20 + x2) := by unfold sleepT; grind
    have q24 : sleepT b c x2 (24 + x2) = c (24 + x2) := by unfold sleepT; grind
    have q28 : sleepT b c x2 (28 + x2) = c (28 + x2) := by unfold sleepT; grind
    have q32 : sleepT b c x2 (32 + x2) = c (32 + x2) := by unfold sleepT; grind
    have hI3 := hI.2.2.1 x2 hx'
    have hT : InvT (sleepT b c x2) x2 := by
      refine ⟨?_, ?_, ?_, ?_, ?_, ?_, ?_⟩ <;> simp only [q16, q20, q28, q32] <;> first | omega | exact hI3.2.2.2.2.2.2
    apply v_State_sleep_2 hS hB
    rw [hcb.2.2.1, i3n (by omega), i3n (by omega)]
    refine ⟨fun q => absurd q (by omega), fun _ => s_State_hasPiece hS (by omega) (by rw [ms_s, q16]; omega) ⟨_, rfl, ?_⟩⟩
    simp only [ms_s, q16]
    rw [i3s (by split <;> omega) (by split <;> omega)]
    have fin : ∀ r : Nat → Int, r (28 + x2) = c (28 + x2) → ru r (28 + x2) (max 0 (c (28 + x2) - 1)) = sleepT b c (x2 + 1) → sh_X g (d + 1 + 1) m_State_sleep 61 [(0, sh_r S), (1, sh_r B), (2, sh_i (x2 : Int))] [] (ms mem0 (S + 1) r) (sh_K m_State_sleep Q) := by
      intro r r1 r2
      apply v_State_sleep_61 hS hB
      refine ⟨by omega, by omega, ?_⟩
      rintro _ rfl
      simp only [ms_ms, ms_s, r1]
      rw [show i3 0 = 0 from rfl, i3s (by omega) (by omega)]
      have e9 : (if 0 < c (28 + x2) - 1 then c (28 + x2) - 1 else (0 : Int)) = max 0 (c (28 + x2) - 1) := by split <;> omega
      rw [e9, r2]
      exact ih (x2 + 1) (by omega)
    refine ⟨fun q => fin _ q28 (sleepT_no b c hx' k2 (by grind)), fun q => ?_⟩
    have hp : 0 < c (16 + x2) := by grind
    refine s_State_guiltBehind hS (by rw [ms_s]; exact hT) hx' hb.1 (by omega) (by rw [ms_s, q16]; exact hp) ⟨_, rfl, by omega, ?_⟩
    rintro _ rfl
    have eg : gbF (sleepT b c x2) x2 1 = gbF c x2 1 := by unfold gbF; rw [q20, q32]
    simp only [ms_ms, ms_s, eg]
    have g9 : 0 ≤ gbF c x2 1 ∧ gbF c x2 1 ≤ 9 := by unfold gbF; split <;> omega
    have hT2 : InvT (ru (sleepT b c x2) (32 + x2) (gbF c x2 1)) x2 := by
      refine ⟨?_, ?_, ?_, ?_, ?_, ?_, ?_⟩ <;> simp only [ru_s, ru_n (sleepT b c x2) (gbF c x2 1) (show 16 + x2 ≠ 32 + x2 by omega), ru_n (sleepT b c x2) (gbF c x2 1) (show 20 + x2 ≠ 32 + x2 by omega), ru_n (sleepT b c x2) (gbF c x2 1) (show 28 + x2 ≠ 32 + x2 by omega), q16, q20, q28] <;> first | omega | exact hI3.2.2.2.2.2.2
    refine s_State_muchBehind (n := 1) hS (by rw [ms_s]; exact hT2) hx' hb.1 (by omega) ⟨_, rfl, by omega, ?_⟩
    rintro _ rfl
    refine ⟨by omega, by omega, ?_⟩
    rintro _ rfl
    simp only [ms_ms, ms_s]
    have em : mbF (ru (sleepT b c x2) (32 + x2) (gbF c x2 1) (20 + x2)) (ru (sleepT b c x2) (32 + x2) (gbF c x2 1) (16 + x2)) (ru (sleepT b c x2) (32 + x2) (gbF c x2 1) (24 + x2)) 1 = spo (c (20 + x2)) (c (16 + x2)) (c (24 + x2) + 1) := by
      rw [ru_n _ _ (by omega), ru_n _ _ (by omega), ru_n _ _ (by omega), q16, q20, q24, mbF, if_pos hp, mbF]
    rw [em, ru_n (j := 24 + x2) _ _ (by omega), ru_n (j := 24 + x2) _ _ (by omega), q24]
    refine fin _ ?_ (sleepT_yes b c hx' k2 hp)
    rw [ru_n _ _ (by omega), ru_n _ _ (by omega), ru_n _ _ (by omega), q28]
theorem s_State_sleep {g : sh_G} {d : Nat} {mem : sh_Mem} {Q : Option sh_V → sh_Mem → Prop} {S B : Nat} {b : Bk} (hS : ob8 S) (hB : ob0 B) (hI : Inv b (mem (S + 1))) (hb : CB mem B b) (h : Q (none) (ms mem (S + 1) (sleepR b (mem (S + 1))))) : sh_Cal g (d + 2) m_State_sleep [sh_r S, sh_r B] mem Q := by
  apply v_State_sleep hS hB
  have q := l_State_sleep_T (g := g) (d := d) hS hB hI hb h (b_nt b) 0 (by omega)
  rw [sleepT_0, ms_id] at q
  exact q
theorem s_State_copy {g : sh_G} {d : Nat} {mem : sh_Mem} {Q : Option sh_V → sh_Mem → Prop} {S S2 : Nat} (hS : ob8 S) (hS2 : ob8 S2) (h : Q (none) (ms mem (S + 1) (cpy (mem (S2 + 1)) (mem (S + 1)) 0 0 45))) : sh_Cal g (d + 1) m_State_copy [sh_r S, sh_r S2] mem Q := by
  apply v_State_copy hS hS2
  rintro _ rfl
  exact h
