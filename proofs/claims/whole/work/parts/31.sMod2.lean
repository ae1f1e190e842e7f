theorem s_Mod_ages {g : sh_G} {d : Nat} {mem : sh_Mem} {Q : Option sh_V → sh_Mem → Prop} {t : Nat} {c : Nat → Int} (hR : EQ (mem 129) c) (hT : InvT c t) (ht : t < 4) (hp : 0 < c (16 + t)) (h : ∀ r, EQ r (ru (ru (ru c (32 + t) (gbF c t 1)) (16 + t) (spo (c (20 + t)) (c (16 + t)) (c (24 + t) + 1))) (24 + t) (c (24 + t) + 1)) → Q none (ms mem 129 r)) : sh_Cal g (d + 1) m_Mod_ages [sh_r 96, sh_i t] mem Q := by
  obtain ⟨i1, i2, i3', i4, i5, i6, i7⟩ := id hT
  have hs := i7 hp
  have hr := hR.2.2 t ht
  have e17 := hr.1
  have e21 : mem 129 (21 + t) = c (20 + t) := by rw [hr.2.1, if_pos hp]
  have e25 : mem 129 (25 + t) = c (24 + t) := by rw [hr.2.2.1, if_pos hp]
  have e33 := hr.2.2.2.2.1
  have hm := spo_rng (s := c (20 + t)) (o := c (24 + t) + 1) (m := c (16 + t)) (by omega)
  have fin : ∀ (x2 : Int) (r1 : Nat → Int), (∀ k, k ≠ 17 + t → k ≠ 25 + t → k ≠ 33 + t → r1 k = mem 129 k) → r1 (17 + t) = spo (c (20 + t)) (c (16 + t)) (c (24 + t) + 1) → r1 (25 + t) = c (24 + t) + 1 → r1 (33 + t) = gbF c t 1 → sh_X g (d + 1) m_Mod_ages 129 [(0, sh_r 96), (1, sh_i (t : Int)), (2, sh_i x2)] [] (ms mem 129 r1) (sh_K m_Mod_ages Q) := by
    intro x2 r1 g0 g1 g2 g3
    have key : ∀ r2 : Nat → Int, (∀ k, k ≠ 17 + t → k ≠ 21 + t → k ≠ 25 + t → k ≠ 33 + t → r2 k = mem 129 k) → r2 (17 + t) = spo (c (20 + t)) (c (16 + t)) (c (24 + t) + 1) → r2 (21 + t) = (if 0 < spo (c (20 + t)) (c (16 + t)) (c (24 + t) + 1) then c (20 + t) else -1) → r2 (25 + t) = (if 0 < spo (c (20 + t)) (c (16 + t)) (c (24 + t) + 1) then c (24 + t) + 1 else -1) → r2 (33 + t) = gbF c t 1 → Q none (ms mem 129 r2) := by
      intro r2 f0 f1 f2 f3 f4
      refine h r2 ⟨?_, fun i hi => ?_, fun v hv => ?_⟩
      · rw [f0 0 (by omega) (by omega) (by omega) (by omega)]; simp (disch := omega) only [ru_s, ru_n]; exact hR.1
      · rw [f0 (1 + i) (by omega) (by omega) (by omega) (by omega), f0 (9 + i) (by omega) (by omega) (by omega) (by omega)]; simp (disch := omega) only [ru_s, ru_n]; exact hR.2.1 i hi
      · by_cases e : v = t
        · subst e
          rw [f1, f2, f3, f4, f0 (29 + v) (by omega) (by omega) (by omega) (by omega), f0 (37 + v) (by omega) (by omega) (by omega) (by omega), f0 (41 + v) (by omega) (by omega) (by omega) (by omega)]
          simp (disch := omega) only [ru_s, ru_n]
          exact ⟨trivial, trivial, trivial, hr.2.2.2.1, trivial, hr.2.2.2.2.2.1, hr.2.2.2.2.2.2⟩
        · rw [f0 (17 + v) (by omega) (by omega) (by omega) (by omega), f0 (21 + v) (by omega) (by omega) (by omega) (by omega), f0 (25 + v) (by omega) (by omega) (by omega) (by omega), f0 (29 + v) (by omega) (by omega) (by omega) (by omega), f0 (33 + v) (by omega) (by omega) (by omega) (by omega), f0 (37 + v) (by omega) (by omega) (by omega) (by omega), f0 (41 + v) (by omega) (by omega) (by omega) (by omega)]
          simp (disch := omega) only [ru_s, ru_n]
          exact hR.2.2 v hv
    apply v_Mod_ages_129
    rw [ms_s, g1, i3s (by omega) (by omega)]
    refine ⟨by omega, fun q => ?_, fun q => s_Mod_takesAway ht ⟨rfl, ?_⟩⟩
    · refine key r1 (fun k a b c' d' => g0 k a c' d') g1 ?_ ?_ g3
      · rw [g0 _ (by omega) (by omega) (by omega), e21, if_pos (by omega)]
      · rw [g2, if_pos (by omega)]
    · rw [ms_ms, ms_s]
      refine key _ (fun k a b c' d' => ?_) ?_ ?_ ?_ ?_
      · rw [ru_n _ _ c', ru_n _ _ b, ru_n _ _ a]; exact g0 k a c' d'
      · rw [ru_n _ _ (by omega), ru_n _ _ (by omega), ru_s, q]
      · rw [ru_n _ _ (by omega), ru_s, if_neg (by omega)]
      · rw [ru_s, if_neg (by omega)]
      · rw [ru_n _ _ (by omega), ru_n _ _ (by omega), ru_n _ _ (by omega)]; exact g3
  have j0 : i3 0 = 0 := rfl
  have j1 : i3 1 = 1 := rfl
  have j2 : i3 2 = 2 := rfl
  have j3 : i3 3 = 3 := rfl
  apply v_Mod_ages
  refine ⟨by omega, by omega, ?_⟩
  rintro _ rfl
  have x21 : ru (mem 129) (25 + t) (mem 129 (25 + t) + 1) (21 + t) = c (20 + t) := by rw [ru_n _ _ (by omega), e21]
  have x25 : ru (mem 129) (25 + t) (mem 129 (25 + t) + 1) (25 + t) = c (24 + t) + 1 := by rw [ru_s, e25]
  have x17 : ru (mem 129) (25 + t) (mem 129 (25 + t) + 1) (17 + t) = c (16 + t) := by rw [ru_n _ _ (by omega), e17]
  have x33 : ru (mem 129) (25 + t) (mem 129 (25 + t) + 1) (33 + t) = c (32 + t) := by rw [ru_n _ _ (by omega), e33]
  have x0 : ∀ k, k ≠ 17 + t → k ≠ 25 + t → k ≠ 33 + t → ru (mem 129) (25 + t) (mem 129 (25 + t) + 1) k = mem 129 k := fun k _ q _ => ru_n _ _ q
  simp only [ms_s, x21, x25, x17]
  generalize ru (mem 129) (25 + t) (mem 129 (25 + t) + 1) = r0 at *
  rcases (show c (20 + t) = 0 ∨ c (20 + t) = 1 ∨ c (20 + t) = 2 ∨ c (20 + t) = 3 by omega) with s | s | s | s
  · rw [s, j0]
    have gg : gbF c t 1 = c (32 + t) := by unfold gbF; rw [if_neg (by omega)]
    have sk : ∀ m, sh_X g (d + 1) m_Mod_ages 129 [(0, sh_r 96), (1, sh_i (t : Int)), (2, sh_i 0)] [] m (sh_K m_Mod_ages Q) → sh_X g (d + 1) m_Mod_ages 53 [(0, sh_r 96), (1, sh_i (t : Int)), (2, sh_i 0)] [] m (sh_K m_Mod_ages Q) := by
      intro m hm9
      apply v_Mod_ages_53; rw [j0]; refine ⟨fun _ => ?_, fun q => absurd q (by decide)⟩
      apply v_Mod_ages_83; rw [j0]; refine ⟨fun _ => ?_, fun q => absurd q (by decide)⟩
      apply v_Mod_ages_101; rw [j0]; exact ⟨fun _ => hm9, fun q => absurd q (by decide)⟩
    refine ⟨by omega, fun q => absurd rfl q, fun _ => ⟨by omega, fun q => sk _ (fin 0 r0 x0 ?_ x25 (by rw [gg]; exact x33)), fun q => ⟨by omega, by omega, ?_⟩⟩⟩
    · rw [x17, s]; unfold spo; rw [if_pos rfl, if_pos q]
    · rintro _ rfl
      rw [ms_ms]
      refine sk _ (fin 0 _ (fun k a b e => ?_) ?_ ?_ ?_)
      · rw [ru_n _ _ a]; exact x0 k a b e
      · rw [ru_s, s]; unfold spo; rw [if_pos rfl, if_neg q]
      · rw [ru_n _ _ (by omega)]; exact x25
      · rw [ru_n _ _ (by omega), gg]; exact x33
  · rw [s, j1]
    have gg : gbF c t 1 = min 9 (c (32 + t) + 1) := by unfold gbF; rw [if_pos s]
    refine ⟨by omega, fun _ => ?_, fun q => absurd q (by decide)⟩
    apply v_Mod_ages_53; rw [j1]; refine ⟨fun q => absurd rfl q, fun _ => ⟨by omega, by omega, ?_⟩⟩
    rintro _ rfl
    rw [ms_ms, ms_s, x33, i3s (by omega) (by omega), show i3 9 = 9 from rfl]
    have e9 : (if c (32 + t) + 1 < 9 then c (32 + t) + 1 else (9 : Int)) = min 9 (c (32 + t) + 1) := by split <;> omega
    rw [e9]
    apply v_Mod_ages_83; rw [j1]; refine ⟨fun _ => ?_, fun q => absurd q (by decide)⟩
    apply v_Mod_ages_101; rw [j1]; refine ⟨fun _ => ?_, fun q => absurd q (by decide)⟩
    refine fin 1 _ (fun k a b e => ?_) ?_ ?_ ?_
    · rw [ru_n _ _ e]; exact x0 k a b e
    · rw [ru_n _ _ (by omega), x17, s]; unfold spo; rw [if_neg (by decide), if_neg (by decide), if_neg (by decide)]
    · rw [ru_n _ _ (by omega)]; exact x25
    · rw [ru_s, gg]
  · rw [s, j2]
    have gg : gbF c t 1 = c (32 + t) := by unfold gbF; rw [if_neg (by omega)]
    refine ⟨by omega, fun _ => ?_, fun q => absurd q (by decide)⟩
    apply v_Mod_ages_53; rw [j2]; refine ⟨fun _ => ?_, fun q => absurd q (by decide)⟩
    apply v_Mod_ages_83; rw [j2]; refine ⟨fun q => absurd rfl q, fun _ => ⟨by omega, by omega, ?_⟩⟩
    rintro _ rfl
    rw [ms_ms, ms_s, x17, i_div2 (by omega) (by omega)]
    apply v_Mod_ages_101; rw [j2]; refine ⟨fun _ => ?_, fun q => absurd q (by decide)⟩
    refine fin 2 _ (fun k a b e => ?_) ?_ ?_ ?_
    · rw [ru_n _ _ a]; exact x0 k a b e
    · rw [ru_s, s]; unfold spo; rw [if_neg (by decide), if_pos rfl]
    · rw [ru_n _ _ (by omega)]; exact x25
    · rw [ru_n _ _ (by omega), gg]; exact x33
  · rw [s, j3]
    have gg : gbF c t 1 = c (32 + t) := by unfold gbF; rw [if_neg (by omega)]
    refine ⟨by omega, fun _ => ?_, fun q => absurd q (by decide)⟩
    apply v_Mod_ages_53; rw [j3]; refine ⟨fun _ => ?_, fun q => absurd q (by decide)⟩
    apply v_Mod_ages_83; rw [j3]; refine ⟨fun _ => ?_, fun q => absurd q (by decide)⟩
    apply v_Mod_ages_101; rw [j3, ms_s, x25]
    refine ⟨fun q => absurd rfl q, fun _ => ⟨by omega, fun q => ?_, fun q => ⟨by omega, ?_⟩⟩⟩
    · refine fin 3 r0 x0 ?_ x25 (by rw [gg]; exact x33)
      rw [x17, s]; unfold spo; rw [if_neg (by decide), if_neg (by decide), if_pos rfl, if_pos (by omega)]
    · rintro _ rfl
      rw [ms_ms]
      refine fin 3 _ (fun k a b e => ?_) ?_ ?_ ?_
      · rw [ru_n _ _ a]; exact x0 k a b e
      · rw [ru_s, s]; unfold spo; rw [if_neg (by decide), if_neg (by decide), if_pos rfl, if_neg (by omega)]
      · rw [ru_n _ _ (by omega)]; exact x25
      · rw [ru_n _ _ (by omega), gg]; exact x33
/-! a night -/
theorem l_Mod_passes_57 {g : sh_G} {d : Nat} {b : Bk} {c : Nat → Int} {mem0 : sh_Mem} {Q : Option sh_V → sh_Mem → Prop} (hI : Inv b c) (hb : MB mem0 b) (h : ∀ r, EQ r (sleepR b c) → Q none (ms mem0 129 r)) : ∀ (k x1 : Nat) (r : Nat → Int), x1 + k = b_nd b → EQ r (sleepD b c x1) →
    sh_X g (d + 1) m_Mod_passes 57 [(0, sh_r 96), (1, sh_i (x1 : Int))] [] (ms mem0 129 r) (sh_K m_Mod_passes Q) := by
  have k1 := hb.1.1
  intro k
  induction k with
  | zero =>
    intro x1 r hx hr
    have hmb := MB_129 (r := r) hb
    have q0 := hr.1
    have q1 : sleepD b c x1 44 = c 44 := by unfold sleepD; simp
    have e : x1 = b_nd b := by omega
    apply v_Mod_passes_57
    rw [hmb.2.1, i3n (by omega), i3n (by omega)]
    refine ⟨fun _ => ?_, fun q => absurd (by omega) q⟩
    rintro _ rfl
    rw [ms_ms, ms_s]
    refine h _ ?_
    have p := EQ_n hr (c 44 + 1)
    rw [e, sleepD_n b c k1] at p
    rw [q0, q1]; exact p
  | succ k ih =>
    intro x1 r hx hr
    have hx' : x1 < b_nd b := by omega
    have hmb := MB_129 (r := r) hb
    have h4 := hb.2.2.2.1 x1 hx'
    have k3 := hb.1.2.2.1 x1 hx'
    have q1 : sleepD b c x1 x1 = c x1 := by unfold sleepD; grind
    have q2 : sleepD b c x1 (8 + x1) = c (8 + x1) := by unfold sleepD; grind
    have hI1 := hI.1 x1 hx'
    have hr1 := hr.2.1 x1 (by omega)
    rw [q1, q2] at hr1
    apply v_Mod_passes_57
    rw [hmb.2.1, i3n (by omega), i3n (by omega)]
    refine ⟨fun q => absurd q (by omega), fun _ => ⟨by omega, by omega, by omega, ?_⟩⟩
    rintro _ rfl
    refine ⟨by omega, by omega, by omega, ?_⟩
    rintro _ rfl
    simp only [ms_ms, ms_s, ms_n _ _ (show (102 : Nat) ≠ 129 by decide), ms_n _ _ (show (103 : Nat) ≠ 129 by decide), h4.2.1, h4.2.2, hr1.1]
    rw [ru_n (j := 9 + x1) _ _ (by omega), hr1.2, i3s (x := c x1 + 1) (by omega) (by omega), i3s (x := b_wo b x1) (by omega) (by omega), i3s (x := b_gu b x1) (by omega) (by omega), i3s (x := c (8 + x1) - 1) (by omega) (by omega)]
    have e8 : (if c x1 + 1 < b_wo b x1 then c x1 + 1 else b_wo b x1) = min (b_wo b x1) (c x1 + 1) := by split <;> omega
    have e9 : (if b_gu b x1 < c (8 + x1) - 1 then c (8 + x1) - 1 else b_gu b x1) = max (b_gu b x1) (c (8 + x1) - 1) := by split <;> omega
    rw [e8, e9]
    refine ih (x1 + 1) _ (by omega) ?_
    rw [← sleepD_s b c hx' k1]
    exact EQ_g (EQ_d hr (by omega) _) (by omega) _
theorem l_Mod_passes_2 {g : sh_G} {d : Nat} {b : Bk} {c : Nat → Int} {mem0 : sh_Mem} {Q : Option sh_V → sh_Mem → Prop} (hI : Inv b c) (hb : MB mem0 b) (h : ∀ r, EQ r (sleepR b c) → Q none (ms mem0 129 r)) : ∀ (k x1 : Nat) (r : Nat → Int), x1 + k = b_nt b → EQ r (sleepT b c x1) →
    sh_X g (d + 1 + 1) m_Mod_passes 2 [(0, sh_r 96), (1, sh_i (x1 : Int))] [] (ms mem0 129 r) (sh_K m_Mod_passes Q) := by
  have k2 := hb.1.2.1
  intro k
  induction k with
  | zero =>
    intro x1 r hx hr
    have hmb := MB_129 (r := r) hb
    apply v_Mod_passes_2
    rw [hmb.2.2.1, i3n (by omega), i3n (by omega)]
    refine ⟨fun _ => ?_, fun q => absurd (by omega) q⟩
    have e : x1 = b_nt b := by omega
    rw [e, sleepD_0 b c k2] at hr
    exact l_Mod_passes_57 hI hb h (b_nd b) 0 r (by omega) hr
  | succ k ih =>
    intro x1 r hx hr
    have hx' : x1 < b_nt b := by omega
    have hmb := MB_129 (r := r) hb
    have q16 : sleepT b c x1 (16 + x1) = c (16 + x1) := by unfold sleepT; grind
    have q20 : sleepT b c x1 (20 + x1) = c (20 + x1) := by unfold sleepT; grind
    have q24 : sleepT b c x1 (24 + x1) = c (24 + x1) := by unfold sleepT; grind
    have q28 : sleepT b c x1 (28 + x1) = c (28 + x1) := by unfold sleepT; grind
    have q32 : sleepT b c x1 (32 + x1) = c (32 + x1) := by unfold sleepT; grind
    have hI3 := hI.2.2.1 x1 hx'
    have hT : InvT (sleepT b c x1) x1 := by
      refine ⟨?_, ?_, ?_, ?_, ?_, ?_, ?_⟩ <;> simp only [q16, q20, q28, q32] <;> first | omega | exact hI3.2.2.2.2.2.2
    have fin : ∀ (r1 c1 : Nat → Int), EQ r1 c1 → c1 (28 + x1) = c (28 + x1) → ru c1 (28 + x1) (max 0 (c (28 + x1) - 1)) = sleepT b c (x1 + 1) → sh_X g (d + 1 + 1) m_Mod_passes 25 [(0, sh_r 96), (1, sh_i (x1 : Int))] [] (ms mem0 129 r1) (sh_K m_Mod_passes Q) := by
      intro r1 c1 w1 w2 w3
      have w4 := (w1.2.2 x1 (by omega)).2.2.2.1
      rw [w2] at w4
      apply v_Mod_passes_25
      refine ⟨by omega, by omega, ?_⟩
      rintro _ rfl
      rw [ms_ms, ms_s, w4, show i3 0 = 0 from rfl, i3s (by omega) (by omega)]
      have e9 : (if 0 < c (28 + x1) - 1 then c (28 + x1) - 1 else (0 : Int)) = max 0 (c (28 + x1) - 1) := by split <;> omega
      rw [e9]
      refine ih (x1 + 1) _ (by omega) ?_
      rw [← w3]
      have p := EQ_x w1 (j := 28 + x1) (by omega) (by omega) (max 0 (c (28 + x1) - 1))
      have e0 : 28 + x1 + 1 = 29 + x1 := by omega
      rw [e0] at p; exact p
    apply v_Mod_passes_2
    rw [hmb.2.2.1, i3n (by omega), i3n (by omega)]
    refine ⟨fun q => absurd q (by omega), fun _ => s_Mod_hasPiece (by rw [ms_s]; exact hr) hT (by omega) ⟨_, rfl, ?_⟩⟩
    rw [q16, i3s (by split <;> omega) (by split <;> omega)]
    refine ⟨fun q => fin r _ hr q28 (sleepT_no b c hx' k2 (by grind)), fun q => ?_⟩
    have hp : 0 < c (16 + x1) := by grind
    refine s_Mod_ages (by rw [ms_s]; exact hr) hT (by omega) (by rw [q16]; exact hp) (fun r1 hr1 => ⟨rfl, ?_⟩)
    rw [ms_ms]
    have eg : gbF (sleepT b c x1) x1 1 = gbF c x1 1 := by unfold gbF; rw [q20, q32]
    rw [eg, q16, q20, q24] at hr1
    refine fin r1 _ hr1 ?_ (sleepT_yes b c hx' k2 hp)
    rw [ru_n _ _ (by omega), ru_n _ _ (by omega), ru_n _ _ (by omega), q28]
theorem s_Mod_passes {g : sh_G} {d : Nat} {mem : sh_Mem} {Q : Option sh_V → sh_Mem → Prop} {b : Bk} {c : Nat → Int} (hR : EQ (mem 129) c) (hI : Inv b c) (hb : MB mem b) (h : ∀ r, EQ r (sleepR b c) → Q none (ms mem 129 r)) : sh_Cal g (d + 2) m_Mod_passes [sh_r 96] mem Q := by
  apply v_Mod_passes
  have q := l_Mod_passes_2 (g := g) (d := d) hI hb h (b_nt b) 0 (mem 129) (by omega) (by rw [sleepT_0]; exact hR)
  rw [ms_id] at q
  exact q
