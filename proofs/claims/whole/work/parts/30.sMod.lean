/-! ===== the reference's row, and what it does to it ===== -/
def EQ (r c : Nat → Int) : Prop := r 0 = c 44 ∧ (∀ i, i < 8 → r (1 + i) = c i ∧ r (9 + i) = c (8 + i)) ∧
  ∀ t, t < 4 → r (17 + t) = c (16 + t) ∧ r (21 + t) = (if 0 < c (16 + t) then c (20 + t) else -1) ∧ r (25 + t) = (if 0 < c (16 + t) then c (24 + t) else -1) ∧ r (29 + t) = c (28 + t) ∧ r (33 + t) = c (32 + t) ∧ r (37 + t) = c (36 + t) ∧ r (41 + t) = c (40 + t)
def MB (mem : sh_Mem) (b : Bk) : Prop := BkOk b ∧ mem 98 0 = (b_nd b : Int) ∧ mem 98 1 = (b_nt b : Int) ∧ (∀ i, i < b_nd b → mem 101 i = b_ki b i ∧ mem 102 i = b_wo b i ∧ mem 103 i = b_gu b i) ∧ ∀ t, t < b_nt b → mem 104 t = b_sk b t ∧ mem 105 t = b_sa b t
theorem MB_ms {mem : sh_Mem} {b : Bk} {a : Nat} {r : Nat → Int} (h : MB mem b) (h1 : a ≠ 98) (h2 : a ≠ 101) (h3 : a ≠ 102) (h4 : a ≠ 103) (h5 : a ≠ 104) (h6 : a ≠ 105) : MB (ms mem a r) b := by
  unfold MB at *
  rw [ms_n _ _ (Ne.symm h1), ms_n _ _ (Ne.symm h2), ms_n _ _ (Ne.symm h3), ms_n _ _ (Ne.symm h4), ms_n _ _ (Ne.symm h5), ms_n _ _ (Ne.symm h6)]
  exact h
theorem MB_129 {mem : sh_Mem} {b : Bk} {r : Nat → Int} (h : MB mem b) : MB (ms mem 129 r) b := MB_ms h (by decide) (by decide) (by decide) (by decide) (by decide) (by decide)
/-- a place of a day, of a thief other than the piece's -/
theorem EQ_d {r c : Nat → Int} (h : EQ r c) {e : Nat} (he : e < 8) (x : Int) : EQ (ru r (1 + e) x) (ru c e x) := by
  obtain ⟨h0, h1, h2⟩ := h
  refine ⟨by unfold ru; grind, fun i hi => ?_, fun t ht => ?_⟩
  · have := h1 i hi; unfold ru; grind
  · have := h2 t ht; unfold ru; grind
theorem EQ_g {r c : Nat → Int} (h : EQ r c) {e : Nat} (he : e < 8) (x : Int) : EQ (ru r (9 + e) x) (ru c (8 + e) x) := by
  obtain ⟨h0, h1, h2⟩ := h
  refine ⟨by unfold ru; grind, fun i hi => ?_, fun t ht => ?_⟩
  · have := h1 i hi; unfold ru; grind
  · have := h2 t ht; unfold ru; grind
theorem EQ_x {r c : Nat → Int} (h : EQ r c) {j : Nat} (h28 : 28 ≤ j) (h44 : j < 44) (x : Int) : EQ (ru r (j + 1) x) (ru c j x) := by
  obtain ⟨h0, h1, h2⟩ := h
  refine ⟨by unfold ru; grind, fun i hi => ?_, fun t ht => ?_⟩
  · have := h1 i hi; unfold ru; grind
  · have := h2 t ht; unfold ru; grind
theorem EQ_n {r c : Nat → Int} (h : EQ r c) (x : Int) : EQ (ru r 0 x) (ru c 44 x) := by
  obtain ⟨h0, h1, h2⟩ := h
  refine ⟨by unfold ru; grind, fun i hi => ?_, fun t ht => ?_⟩
  · have := h1 i hi; unfold ru; grind
  · have := h2 t ht; unfold ru; grind
/-- a piece comes, or is another -/
theorem EQ_p {r c : Nat → Int} (h : EQ r c) {t : Nat} (ht : t < 4) {m s o : Int} (hm : 0 < m) : EQ (ru (ru (ru r (17 + t) m) (21 + t) s) (25 + t) o) (ru (ru (ru c (16 + t) m) (20 + t) s) (24 + t) o) := by
  obtain ⟨h0, h1, h2⟩ := h
  refine ⟨by unfold ru; grind, fun i hi => ?_, fun u hu => ?_⟩
  · have := h1 i hi; unfold ru; grind
  · have := h2 u hu
    by_cases e : u = t
    · subst e; unfold ru; grind
    · unfold ru; grind
/-- a piece goes -/
theorem EQ_o {r c : Nat → Int} (h : EQ r c) {t : Nat} (ht : t < 4) : EQ (ru (ru (ru r (17 + t) 0) (21 + t) (-1)) (25 + t) (-1)) (ru c (16 + t) 0) := by
  obtain ⟨h0, h1, h2⟩ := h
  refine ⟨by unfold ru; grind, fun i hi => ?_, fun u hu => ?_⟩
  · have := h1 i hi; unfold ru; grind
  · have := h2 u hu
    by_cases e : u = t
    · subst e; unfold ru; grind
    · unfold ru; grind
theorem s_Mod_within {g : sh_G} {d : Nat} {mem : sh_Mem} {Q : Option sh_V → sh_Mem → Prop} {x y z : Int} (h : Q (some (sh_i (if i3 y ≤ i3 x ∧ i3 x ≤ i3 z then 1 else 0))) (mem)) : sh_Cal g d m_Mod_within [sh_i x, sh_i y, sh_i z] mem Q := by
  apply v_Mod_within
  grind
theorem s_Mod_between {g : sh_G} {d : Nat} {mem : sh_Mem} {Q : Option sh_V → sh_Mem → Prop} {x : Int} (h : Q (some (sh_i (clampN x))) (mem)) : sh_Cal g d m_Mod_between [sh_i x, sh_i 0, sh_i 99] mem Q := by
  apply sh_nrm
  apply v_Mod_between
  have e1 : i3 0 = 0 := rfl
  have e2 : i3 99 = 99 := rfl
  rw [e1, e2]
  unfold clampN at h
  refine ⟨fun c => ⟨fun c2 => ⟨_, rfl, ?_⟩, fun c2 => ⟨_, rfl, ?_⟩⟩, fun c => ⟨_, rfl, ?_⟩⟩
  · grind
  · grind
  · grind
theorem s_Mod_hasPiece {g : sh_G} {d : Nat} {mem : sh_Mem} {Q : Option sh_V → sh_Mem → Prop} {t : Nat} {c : Nat → Int} (hR : EQ (mem 129) c) (hT : InvT c t) (ht : t < 4) (h : Q (some (sh_i (if 0 < c (16 + t) then 1 else 0))) (mem)) : sh_Cal g d m_Mod_hasPiece [sh_r 96, sh_i t] mem Q := by
  obtain ⟨i1, i2, -⟩ := hT
  have hr := (hR.2.2 t ht).1
  apply v_Mod_hasPiece
  rw [hr, i3s (by omega) (by omega)]
  grind
theorem s_Mod_isFree {g : sh_G} {d : Nat} {mem : sh_Mem} {Q : Option sh_V → sh_Mem → Prop} {t : Nat} {c : Nat → Int} (hR : EQ (mem 129) c) (hT : InvT c t) (ht : t < 4) (h : Q (some (sh_i (if c (28 + t) = 0 then 1 else 0))) (mem)) : sh_Cal g d m_Mod_isFree [sh_r 96, sh_i t] mem Q := by
  obtain ⟨i1, i2, i3', i4, -⟩ := hT
  have hr := (hR.2.2 t ht).2.2.2.1
  apply v_Mod_isFree
  rw [hr, i3s (by omega) (by omega)]
  grind
theorem s_Mod_couldSteal {g : sh_G} {d : Nat} {mem : sh_Mem} {Q : Option sh_V → sh_Mem → Prop} {t : Nat} {c : Nat → Int} (hR : EQ (mem 129) c) (hT : InvT c t) (ht : t < 4) (h : Q (some (sh_i (if c (28 + t) = 0 ∧ c (16 + t) = 0 then 1 else 0))) (mem)) : sh_Cal g (d + 1) m_Mod_couldSteal [sh_r 96, sh_i t] mem Q := by
  obtain ⟨i1, i2, -⟩ := id hT
  apply v_Mod_couldSteal
  refine s_Mod_isFree hR hT ht ⟨_, rfl, ?_⟩
  rw [i3s (by split <;> omega) (by split <;> omega)]
  refine ⟨fun q => ?_, fun q => s_Mod_hasPiece hR hT ht ⟨_, rfl, ?_⟩⟩
  · grind
  · rw [i3s (by split <;> omega) (by split <;> omega)]
    grind
theorem s_Mod_canDeal {g : sh_G} {d : Nat} {mem : sh_Mem} {Q : Option sh_V → sh_Mem → Prop} {t : Nat} {c : Nat → Int} (hR : EQ (mem 129) c) (hT : InvT c t) (ht : t < 4) (h : Q (some (sh_i (if c (28 + t) = 0 ∧ 0 < c (16 + t) then 1 else 0))) (mem)) : sh_Cal g (d + 1) m_Mod_canDeal [sh_r 96, sh_i t] mem Q := by
  apply v_Mod_canDeal
  refine s_Mod_isFree hR hT ht ⟨_, rfl, ?_⟩
  rw [i3s (by split <;> omega) (by split <;> omega)]
  refine ⟨fun q => ?_, fun q => s_Mod_hasPiece hR hT ht ⟨_, rfl, ?_⟩⟩
  · grind
  · rw [i3s (by split <;> omega) (by split <;> omega)]
    grind
theorem s_Mod_isOpen {g : sh_G} {d : Nat} {mem : sh_Mem} {Q : Option sh_V → sh_Mem → Prop} {t e : Nat} {b : Bk} {c : Nat → Int} (hR : EQ (mem 129) c) (hD : InvD b c e) (hb : MB mem b) (ht : t < b_nt b) (he : e < b_nd b) (h : Q (some (sh_i (if 0 < c e ∧ c (8 + e) ≤ b_sk b t then 1 else 0))) (mem)) : sh_Cal g d m_Mod_isOpen [sh_r 96, sh_i t, sh_i e] mem Q := by
  obtain ⟨i1, i2, i3', i4⟩ := hD
  have k1 := hb.1.1
  have k2 := hb.1.2.1
  have k3 := hb.1.2.2.1 e he
  have k4 := hb.1.2.2.2.1 t ht
  have hr := hR.2.1 e (by omega)
  apply v_Mod_isOpen
  rw [hr.1, hr.2, (hb.2.2.2.2 t ht).1, i3s (x := c e) (by omega) (by omega), i3s (x := c (8 + e)) (by omega) (by omega), i3s (x := b_sk b t) (by omega) (by omega)]
  grind
/-- what one would take, were he ready -/
def hauM (b : Bk) (c : Nat → Int) (t e : Nat) : Int := if 0 < c e ∧ c (8 + e) ≤ b_sk b t then min (b_sa b t) (c e) else 0
theorem s_Mod_haulOf {g : sh_G} {d : Nat} {mem : sh_Mem} {Q : Option sh_V → sh_Mem → Prop} {t e : Nat} {b : Bk} {c : Nat → Int} (hR : EQ (mem 129) c) (hD : InvD b c e) (hb : MB mem b) (ht : t < b_nt b) (he : e < b_nd b) (h : Q (some (sh_i (hauM b c t e))) (mem)) : sh_Cal g (d + 1) m_Mod_haulOf [sh_r 96, sh_i t, sh_i e] mem Q := by
  obtain ⟨i1, i2, i3', i4⟩ := id hD
  have k1 := hb.1.1
  have k2 := hb.1.2.1
  have k3 := hb.1.2.2.1 e he
  have k4 := hb.1.2.2.2.1 t ht
  have hr := hR.2.1 e (by omega)
  apply v_Mod_haulOf
  refine s_Mod_isOpen hR hD hb ht he ⟨_, rfl, ?_⟩
  rw [i3s (by split <;> omega) (by split <;> omega), hr.1, (hb.2.2.2.2 t ht).2, i3s (x := c e) (by omega) (by omega), i3s (x := b_sa b t) (by omega) (by omega)]
  unfold hauM at h
  refine ⟨fun q => ?_, fun q => ⟨by omega, by omega, ?_⟩⟩
  · grind
  · grind
theorem s_Mod_takesAway {g : sh_G} {d : Nat} {mem : sh_Mem} {Q : Option sh_V → sh_Mem → Prop} {t : Nat} (ht : t < 4) (h : Q (none) (ms mem 129 (ru (ru (ru (mem 129) (17 + t) 0) (21 + t) (-1)) (25 + t) (-1)))) : sh_Cal g d m_Mod_takesAway [sh_r 96, sh_i t] mem Q := by
  apply v_Mod_takesAway
  refine ⟨by omega, ?_⟩
  rintro _ rfl
  refine ⟨by omega, ?_⟩
  rintro _ rfl
  refine ⟨by omega, ?_⟩
  rintro _ rfl
  simpa only [ms_ms, ms_s] using h
theorem s_Mod_steals {g : sh_G} {d : Nat} {mem : sh_Mem} {Q : Option sh_V → sh_Mem → Prop} {t e : Nat} {b : Bk} {c : Nat → Int} (hR : EQ (mem 129) c) (hI : Inv b c) (hb : MB mem b) (ht : t < b_nt b) (he : e < b_nd b) (h1 : c (28 + t) = 0) (h2 : c (16 + t) = 0) (h : ∀ r, EQ r (takeR b c t e) → Q (some (sh_i (bag b c t e))) (ms mem 129 r)) : sh_Cal g (d + 2) m_Mod_steals [sh_r 96, sh_i t, sh_i e] mem Q := by
  have hI1 := hI.1 e he
  have k1 := hb.1.1
  have k2 := hb.1.2.1
  have k3 := hb.1.2.2.1 e he
  have k4 := hb.1.2.2.2.1 t ht
  have hr := hR.2.1 e (by omega)
  have eb : hauM b c t e = bag b c t e := by unfold hauM bag; grind
  have hbg : 0 ≤ bag b c t e ∧ bag b c t e ≤ 12 := by unfold bag; split <;> omega
  apply v_Mod_steals
  refine s_Mod_haulOf hR hI1 hb ht he ⟨_, rfl, ?_⟩
  rw [eb, i3s (x := bag b c t e) (by omega) (by omega)]
  refine ⟨fun q => ⟨by omega, ?_⟩, fun q => ⟨by omega, by omega, by omega, ?_⟩⟩
  · rintro _ rfl
    refine ⟨by omega, by omega, ?_⟩
    rintro _ rfl
    refine ⟨by omega, ?_⟩
    rintro _ rfl
    refine ⟨by omega, by omega, ?_⟩
    rintro _ rfl
    refine ⟨by omega, by omega, ?_⟩
    rintro _ rfl
    simp only [ms_ms, ms_s, ms_n _ _ (show (101 : Nat) ≠ 129 by decide)]
    have p := EQ_g (EQ_d (EQ_p hR (t := t) (by omega) (m := bag b c t e) (s := b_ki b e) (o := 0) (by omega)) (e := e) (by omega) (c e - bag b c t e)) (e := e) (by omega) (min 9 (c (8 + e) + 2))
    have e1 : ru (ru (ru (mem 129) (17 + t) (bag b c t e)) (21 + t) (b_ki b e)) (25 + t) 0 (1 + e) = c e := by rw [ru_n _ _ (by omega), ru_n _ _ (by omega), ru_n _ _ (by omega)]; exact hr.1
    have e2 : ∀ x, ru (ru (ru (ru (mem 129) (17 + t) (bag b c t e)) (21 + t) (b_ki b e)) (25 + t) 0) (1 + e) x (9 + e) = c (8 + e) := fun x => by rw [ru_n _ _ (by omega), ru_n _ _ (by omega), ru_n _ _ (by omega), ru_n _ _ (by omega)]; exact hr.2
    rw [(hb.2.2.2.1 e he).1, e1, e2, i3s (by omega) (by omega), show i3 9 = 9 from rfl]
    have e9 : (if c (8 + e) + 2 < 9 then c (8 + e) + 2 else (9 : Int)) = min 9 (c (8 + e) + 2) := by split <;> omega
    rw [e9]
    refine h _ ?_
    unfold takeR; rw [if_pos (by omega)]
    exact p
  · rintro _ rfl
    refine ⟨by omega, by omega, ?_⟩
    rintro _ rfl
    simp only [ms_ms, ms_s]
    have p := EQ_g (EQ_x hR (j := 28 + t) (by omega) (by omega) (c (8 + e) - b_sk b t)) (e := e) (by omega) (min 9 (c (8 + e) + 1))
    have e0 : 28 + t + 1 = 29 + t := by omega
    rw [e0] at p
    have e2 : ∀ x, ru (mem 129) (29 + t) x (9 + e) = c (8 + e) := fun x => by rw [ru_n _ _ (by omega)]; exact hr.2
    rw [(hb.2.2.2.2 t ht).1, hr.2, e2, i3s (by omega) (by omega), show i3 9 = 9 from rfl]
    have e9 : (if c (8 + e) + 1 < 9 then c (8 + e) + 1 else (9 : Int)) = min 9 (c (8 + e) + 1) := by split <;> omega
    rw [e9]
    have z := h (ru (ru (mem 129) (29 + t) (c (8 + e) - b_sk b t)) (9 + e) (min 9 (c (8 + e) + 1))) (by unfold takeR; rw [if_neg (by omega)]; exact p)
    rw [q] at z
    exact z
theorem s_Mod_joyOf {g : sh_G} {d : Nat} {mem : sh_Mem} {Q : Option sh_V → sh_Mem → Prop} {t : Nat} {c : Nat → Int} (hR : EQ (mem 129) c) (hT : InvT c t) (ht : t < 4) (h : Q (some (sh_i (joyV c t))) (mem)) : sh_Cal g (d + 1) m_Mod_joyOf [sh_r 96, sh_i t] mem Q := by
  obtain ⟨i1, i2, i3', i4, i5, i6, -⟩ := hT
  have hr := hR.2.2 t ht
  apply v_Mod_joyOf
  rw [hr.1, hr.2.2.2.2.1, i3s (x := c (16 + t) - c (32 + t)) (by omega) (by omega), show i3 0 = 0 from rfl]
  have e9 : (if 0 < c (16 + t) - c (32 + t) then c (16 + t) - c (32 + t) else (0 : Int)) = joyV c t := by unfold joyV; split <;> omega
  rw [e9]
  exact ⟨by omega, by omega, h⟩
theorem s_Mod_spendsIt {g : sh_G} {d : Nat} {mem : sh_Mem} {Q : Option sh_V → sh_Mem → Prop} {t : Nat} {c : Nat → Int} (hR : EQ (mem 129) c) (hT : InvT c t) (ht : t < 4) (h : ∀ r, EQ r (enjoyR c t) → Q (some (sh_i (joyV c t))) (ms mem 129 r)) : sh_Cal g (d + 2) m_Mod_spendsIt [sh_r 96, sh_i t] mem Q := by
  have hr := hR.2.2 t ht
  apply v_Mod_spendsIt
  refine s_Mod_joyOf hR hT ht ⟨_, rfl, by omega, by omega, ?_⟩
  rintro _ rfl
  refine ⟨by omega, ?_⟩
  rintro _ rfl
  refine s_Mod_takesAway ht ⟨rfl, ?_⟩
  simp only [ms_ms, ms_s, hr.2.2.2.2.2.2]
  refine h _ ?_
  have p := EQ_o (EQ_x (EQ_x hR (j := 40 + t) (by omega) (by omega) (c (40 + t) + joyV c t)) (j := 32 + t) (by omega) (by omega) 0) ht
  have e0 : 40 + t + 1 = 41 + t := by omega
  have e1 : 32 + t + 1 = 33 + t := by omega
  rw [e0, e1] at p
  exact p
theorem l_Mod_swapsIt {g : sh_G} {d t u : Nat} {c : Nat → Int} {mem : sh_Mem} {Q : Option sh_V → sh_Mem → Prop} (hR : EQ (mem 129) c) (ht : t < 4) (hu : u < 4) (hp : 0 < c (16 + t)) (hq : 0 < c (16 + u)) (h : ∀ r, EQ r (tradeR c t u) → Q none (ms mem 129 r)) : sh_Cal g d m_Mod_swapsIt [sh_r 96, sh_i (t : Int), sh_i (u : Int)] mem Q := by
  apply v_Mod_swapsIt
  apply v_Mod_swapsIt_3 (x3 := 17)
  rw [i3n (by omega)]
  refine ⟨fun q => absurd q (by omega), fun _ => ⟨by omega, by omega, by omega, ?_⟩⟩
  rintro _ rfl
  refine ⟨by omega, ?_⟩
  rintro _ rfl
  apply v_Mod_swapsIt_3 (x3 := 21)
  rw [i3n (by omega)]
  refine ⟨fun q => absurd q (by omega), fun _ => ⟨by omega, by omega, by omega, ?_⟩⟩
  rintro _ rfl
  refine ⟨by omega, ?_⟩
  rintro _ rfl
  apply v_Mod_swapsIt_3 (x3 := 25)
  rw [i3n (by omega)]
  refine ⟨fun q => absurd q (by omega), fun _ => ⟨by omega, by omega, by omega, ?_⟩⟩
  rintro _ rfl
  refine ⟨by omega, ?_⟩
  rintro _ rfl
  apply v_Mod_swapsIt_3 (x3 := 29)
  rw [i3n (by omega)]
  refine ⟨fun _ => ?_, fun q => absurd (by omega) q⟩
  simp only [ms_ms, ms_s]
  refine h _ ?_
  obtain ⟨h0, h1, h2⟩ := hR
  have a1 := h2 t ht
  have a2 := h2 u hu
  refine ⟨?_, fun i hi => ?_, fun v hv => ?_⟩
  · simp (disch := omega) only [tradeR, xch, ru_s, ru_n]; exact h0
  · have := h1 i hi; simp (disch := omega) only [tradeR, xch, ru_s, ru_n]; exact this
  · have a3 := h2 v hv
    by_cases e1 : v = t
    · subst e1
      by_cases e2 : v = u
      · subst e2; simp (disch := omega) only [tradeR, xch, ru_s, ru_n]; exact a3
      · simp (disch := omega) only [tradeR, xch, ru_s, ru_n]; grind
    · by_cases e2 : v = u
      · subst e2; simp (disch := omega) only [tradeR, xch, ru_s, ru_n]; grind
      · simp (disch := omega) only [tradeR, xch, ru_s, ru_n]; exact a3
