/-! ===== the reference: years by draws ===== -/
theorem l_divP {x y : Int} (hx : 0 ≤ x) (hx2 : x < 9223372036854775808) (hy : 0 < y) (hy2 : y < 9223372036854775808) : l_div x y = x / y := by
  have e1 : Int64.maxValue.toInt = 9223372036854775807 := by decide
  have e2 : Int64.minValue.toInt = -9223372036854775808 := by decide
  have h1 : 0 ≤ x / y := Int.ediv_nonneg hx (by omega)
  have h2 : x / y ≤ x := Int.ediv_le_self _ hx
  unfold l_div
  rw [← Int64.ofInt_tdiv (by omega) (by omega) (by omega) (by omega), Int.tdiv_eq_ediv_of_nonneg hx]
  exact i6_id (by omega) (by omega)
theorem l_remP {x y : Int} (hx : 0 ≤ x) (hx2 : x < 9223372036854775808) (hy : 0 < y) (hy2 : y < 9223372036854775808) : l_rem x y = x % y := by
  have e1 : Int64.maxValue.toInt = 9223372036854775807 := by decide
  have e2 : Int64.minValue.toInt = -9223372036854775808 := by decide
  have h1 : 0 ≤ x % y := Int.emod_nonneg _ (by omega)
  have h2 : x % y < y := Int.emod_lt_of_pos _ hy
  have h3 : x - x / y * y = x % y := by rw [Int.emod_def, Int.mul_comm]
  unfold l_rem
  rw [← Int64.ofInt_tdiv (by omega) (by omega) (by omega) (by omega), Int.tdiv_eq_ediv_of_nonneg hx, ← Int64.ofInt_mul, ← Int64.ofInt_sub, h3]
  exact i6_id (by omega) (by omega)
theorem l_2iP {x : Int} (h1 : -2147483648 ≤ x) (h2 : x < 2147483648) : l_2i x = x := by
  unfold l_2i; rw [Int64.toInt32_ofInt]; exact i3_id h1 h2
theorem i_2lP {x : Int} (h1 : -2147483648 ≤ x) (h2 : x < 2147483648) : i_2l x = x := by
  unfold i_2l; rw [Int32.toInt_toInt64]; exact i3_id h1 h2
def drawF (g : Int) : Int := (g * 1103515245 + 12345) % 2147483648
def drawV (g : Int) (k : Nat) : Nat := ((g / 65536) % (k : Int)).toNat
theorem drawF_rng (g : Int) : 0 ≤ drawF g ∧ drawF g < 2147483648 := by unfold drawF; omega
theorem drawV_lt {g : Int} {k : Nat} (hk : 0 < k) (hg : 0 ≤ g) : ((drawV g k : Nat) : Int) = (g / 65536) % (k : Int) ∧ drawV g k < k := by
  have h1 : 0 ≤ (g / 65536) % (k : Int) := Int.emod_nonneg _ (by omega)
  have h2 : (g / 65536) % (k : Int) < k := Int.emod_lt_of_pos _ (by omega)
  unfold drawV; omega
theorem s_Mod_draws {g : sh_G} {d : Nat} {mem : sh_Mem} {Q : Option sh_V → sh_Mem → Prop} {n : Nat} {gg : Int} (hn : 0 < n) (hn2 : n ≤ 8) (hg : mem 96 58 = gg) (h0 : 0 ≤ gg) (h1 : gg < 2147483648) (h : Q (some (sh_i ((drawV (drawF gg) n : Nat) : Int))) (ms mem 96 (ru (mem 96) 58 (drawF gg)))) : sh_Cal g d m_Mod_draws [sh_r 96, sh_i (n : Int)] mem Q := by
  have r := drawF_rng gg
  apply v_Mod_draws
  rintro _ rfl
  have e1 : l_rem (mem 96 58 * 1103515245 + 12345) 2147483648 = drawF gg := by rw [hg]; exact l_remP (by omega) (by omega) (by omega) (by omega)
  have e2 : i_2l (n : Int) = (n : Int) := i_2lP (by omega) (by omega)
  have e3 := drawV_lt (g := drawF gg) hn r.1
  rw [e1, e2, ms_s, ru_s, l_divP r.1 (by omega) (by omega) (by omega), l_remP (by omega) (by omega) (by omega) (by omega), ← e3.1, l_2iP (by omega) (by omega)]
  refine ⟨fun z => ?_, h⟩
  have z2 : i6 (n : Int) = 0 := by unfold i6; rw [z]; rfl
  rw [i6_id (by omega) (by omega)] at z2
  omega
/-- what is drawn is done, if it can be: what is taken, the row -/
def doF (b : Bk) (c : Nat → Int) (t e k : Nat) : Int × (Nat → Int) :=
  if k < 2 then (if (c (28 + t) = 0 ∧ c (16 + t) = 0) ∧ 0 < c e then (bag b c t e, takeR b c t e) else (0, c))
  else if c (28 + t) = 0 ∧ 0 < c (16 + t) then (if k = 2 then (0, cashR c t (prV b c t)) else (0, enjoyR c t)) else (0, c)
def lvF (b : Bk) (c : Nat → Int) (g : Int) : Int × (Nat → Int) × Int :=
  if 0 < b_nt b ∧ 0 < b_nd b then ((doF b c (drawV (drawF g) (b_nt b)) (drawV (drawF (drawF g)) (b_nd b)) (drawV (drawF (drawF (drawF g))) 4)).1, sleepR b (doF b c (drawV (drawF g) (b_nt b)) (drawV (drawF (drawF g)) (b_nd b)) (drawV (drawF (drawF (drawF g))) 4)).2, drawF (drawF (drawF g)))
  else (0, sleepR b c, g)
def lsF (b : Bk) : Nat → (Nat → Int) → Int → Int → Int × (Nat → Int)
  | 0, c, _, s => (s, c)
  | k + 1, c, g, s => lsF b k (lvF b c g).2.1 (lvF b c g).2.2 (s + (lvF b c g).1)
theorem Inv_do {b : Bk} {c : Nat → Int} (hb : BkOk b) (hI : Inv b c) {t e k : Nat} (ht : t < b_nt b) (he : e < b_nd b) : Inv b (doF b c t e k).2 := by
  unfold doF
  split
  · split
    · rename_i q; exact Inv_take hb hI ht he q.1.1 q.1.2 q.2
    · exact hI
  · split
    · split
      · exact Inv_cash hb hI ht _
      · exact Inv_enjoy hb hI ht
    · exact hI
theorem lvF_ok {b : Bk} {c : Nat → Int} {g : Int} (hb : BkOk b) (hI : Inv b c) (hg : 0 ≤ g ∧ g < 2147483648) : Inv b (lvF b c g).2.1 ∧ 0 ≤ (lvF b c g).2.2 ∧ (lvF b c g).2.2 < 2147483648 := by
  unfold lvF
  split
  · rename_i q
    have r1 := drawF_rng g
    have r2 := drawF_rng (drawF g)
    exact ⟨Inv_sleep hb (Inv_do hb hI (drawV_lt q.1 r1.1).2 (drawV_lt q.2 r2.1).2), drawF_rng (drawF (drawF g))⟩
  · exact ⟨Inv_sleep hb hI, hg⟩
theorem l_lives_121 {g : sh_G} {d : Nat} {b : Bk} {c : Nat → Int} {x1 : Int} {m : sh_Mem} {Q : Option sh_V → sh_Mem → Prop} (hR : EQ (m 129) c) (hI : Inv b c) (hb : MB m b) (h : ∀ r, EQ r (sleepR b c) → Q (some (sh_i x1)) (ms m 129 r)) :
    sh_X g (d + 5) m_Mod_lives 121 [(0, sh_r 96), (1, sh_i x1)] [] m (sh_K m_Mod_lives Q) := by
  apply v_Mod_lives_121
  exact s_Mod_passes (d := d + 2) hR hI hb (fun r hr => ⟨rfl, h r hr⟩)
theorem l_lives_81 {g : sh_G} {d t k : Nat} {b : Bk} {c : Nat → Int} {x1 x3 : Int} {m : sh_Mem} {Q : Option sh_V → sh_Mem → Prop} (hk : k < 4) (ht : t < b_nt b) (hR : EQ (m 129) c) (hI : Inv b c) (hb : MB m b) (hl : ML m b)
    (h : ∀ m', Sr m m' → m' 96 = m 96 → m' 130 = m 130 → EQ (m' 129) (sleepR b (if k < 2 then c else if c (28 + t) = 0 ∧ 0 < c (16 + t) then (if k = 2 then cashR c t (prV b c t) else enjoyR c t) else c)) → Q (some (sh_i x1)) m') :
    sh_X g (d + 5) m_Mod_lives 81 [(0, sh_r 96), (1, sh_i x1), (2, sh_i (t : Int)), (3, sh_i x3), (4, sh_i (k : Int))] [] m (sh_K m_Mod_lives Q) := by
  have k2 := hb.1.2.1
  have hT := hI.2.2.1 t ht
  have same : (if k < 2 then c else if c (28 + t) = 0 ∧ 0 < c (16 + t) then (if k = 2 then cashR c t (prV b c t) else enjoyR c t) else c) = c → sh_X g (d + 5) m_Mod_lives 121 [(0, sh_r 96), (1, sh_i x1)] [] m (sh_K m_Mod_lives Q) := by
    intro q
    rw [q] at h
    exact l_lives_121 hR hI hb (fun r hr => h _ (Sr_ms (Sr_rf m) (by decide) (by decide) _) (ms_n _ _ (by decide)) (ms_n _ _ (by decide)) (by rw [ms_s]; exact hr))
  apply v_Mod_lives_81
  rw [i3n (by omega)]
  refine ⟨fun q => ?_, fun q => ?_⟩
  · apply v_Mod_lives_101
    rw [i3n (by omega)]
    refine ⟨fun q2 => same (by rw [if_pos (by omega)]), fun q2 => ?_⟩
    refine s_Mod_canDeal (d := d + 3) hR hT (by omega) ⟨_, rfl, ?_⟩
    rw [i3_01]
    refine ⟨fun q3 => same ?_, fun q3 => ?_⟩
    · rw [if_neg (by omega), if_neg (by grind)]
    · have q4 : c (28 + t) = 0 ∧ 0 < c (16 + t) := by grind
      rw [if_neg (by omega), if_pos q4, if_neg (by omega)] at h
      refine s_Mod_spendsIt (d := d + 2) hR hT (by omega) (fun r hr => ⟨_, rfl, ?_⟩)
      refine l_lives_121 (c := enjoyR c t) (by rw [ms_s]; exact hr) (Inv_enjoy hb.1 hI ht) (MB_129 hb) (fun r2 hr2 => h _ (Sr_ms (Sr_ms (Sr_rf m) (by decide) (by decide) _) (by decide) (by decide) _) ?_ ?_ (by rw [ms_s]; exact hr2))
      · rw [ms_n _ _ (by decide), ms_n _ _ (by decide)]
      · rw [ms_n _ _ (by decide), ms_n _ _ (by decide)]
  · have go : ∀ m' : sh_Mem, sh_X g (d + 5) m_Mod_lives 121 [(0, sh_r 96), (1, sh_i x1)] [] m' (sh_K m_Mod_lives Q) → sh_X g (d + 5) m_Mod_lives 101 [(0, sh_r 96), (1, sh_i x1), (2, sh_i (t : Int)), (3, sh_i x3), (4, sh_i (k : Int))] [] m' (sh_K m_Mod_lives Q) := by
      intro m' z
      apply v_Mod_lives_101
      rw [i3n (by omega)]
      exact ⟨fun _ => z, fun q2 => absurd q2 (by omega)⟩
    refine s_Mod_canDeal (d := d + 3) hR hT (by omega) ⟨_, rfl, ?_⟩
    rw [i3_01]
    refine ⟨fun q3 => go _ (same ?_), fun q3 => ?_⟩
    · rw [if_neg (by omega), if_neg (by grind)]
    · have q4 : c (28 + t) = 0 ∧ 0 < c (16 + t) := by grind
      rw [if_neg (by omega), if_pos q4, if_pos (by omega)] at h
      refine s_Mod_sellsIt (d := d) hR hT hl (by omega) q4.2 (fun m2 r he hr => ⟨_, rfl, go _ ?_⟩)
      have s2 := Sr_ms (Sr_Ew (Sr_rf m) he) (a := 129) (by decide) (by decide) r
      refine l_lives_121 (c := cashR c t (prV b c t)) (by rw [ms_s]; exact hr) (Inv_cash hb.1 hI ht _) (MB_Sr s2 hb) (fun r2 hr2 => h _ (Sr_ms s2 (by decide) (by decide) _) ?_ ?_ (by rw [ms_s]; exact hr2))
      · rw [ms_n _ _ (by decide), ms_n _ _ (by decide), he 96 (by omega)]
      · rw [ms_n _ _ (by decide), ms_n _ _ (by decide), he 130 (by omega)]
theorem s_Mod_lives {g : sh_G} {d : Nat} {mem : sh_Mem} {Q : Option sh_V → sh_Mem → Prop} {b : Bk} {c : Nat → Int} {gg : Int} (hR : EQ (mem 129) c) (hI : Inv b c) (hb : MB mem b) (hl : ML mem b) (hg : mem 96 58 = gg) (h0 : 0 ≤ gg ∧ gg < 2147483648) (h : ∀ m', Sr mem m' → m' 96 58 = (lvF b c gg).2.2 → m' 130 = mem 130 → EQ (m' 129) (lvF b c gg).2.1 → Q (some (sh_i (lvF b c gg).1)) m') : sh_Cal g (d + 5) m_Mod_lives [sh_r 96] mem Q := by
  have k1 := hb.1.1
  have k2 := hb.1.2.1
  have none0 : ¬ (0 < b_nt b ∧ 0 < b_nd b) → sh_X g (d + 5) m_Mod_lives 121 [(0, sh_r 96), (1, sh_i 0)] [] mem (sh_K m_Mod_lives Q) := by
    intro q
    unfold lvF at h; rw [if_neg q] at h
    exact l_lives_121 hR hI hb (fun r hr => h _ (Sr_ms (Sr_rf mem) (by decide) (by decide) _) (by rw [ms_n _ _ (by decide)]; exact hg) (ms_n _ _ (by decide)) (by rw [ms_s]; exact hr))
  apply v_Mod_lives
  rw [hb.2.1, hb.2.2.1, i3n (x := b_nt b) (by omega), i3n (x := b_nd b) (by omega)]
  refine ⟨fun q => none0 (by omega), fun q => ⟨fun q2 => none0 (by omega), fun q2 => ?_⟩⟩
  have qq : 0 < b_nt b ∧ 0 < b_nd b := by omega
  unfold lvF at h; rw [if_pos qq] at h
  have r1 := drawF_rng gg
  have r2 := drawF_rng (drawF gg)
  have r3 := drawF_rng (drawF (drawF gg))
  refine s_Mod_draws (d := d + 4) (gg := gg) qq.1 (by omega) hg h0.1 h0.2 ⟨_, rfl, ?_⟩
  rw [ms_n _ _ (show (98 : Nat) ≠ 96 by decide), hb.2.1]
  refine s_Mod_draws (d := d + 4) (gg := drawF gg) qq.2 (by omega) (by rw [ms_s, ru_s]) r1.1 r1.2 ⟨_, rfl, ?_⟩
  rw [show (4 : Int) = ((4 : Nat) : Int) from rfl]
  refine s_Mod_draws (d := d + 4) (n := 4) (gg := drawF (drawF gg)) (by omega) (by omega) (by rw [ms_s, ru_s]) r2.1 r2.2 ⟨_, rfl, ?_⟩
  have l1 := (drawV_lt (k := b_nt b) qq.1 r1.1).2
  have l2 := (drawV_lt (k := b_nd b) qq.2 r2.1).2
  have l3 := (drawV_lt (k := 4) (by omega) r3.1).2
  generalize drawV (drawF gg) (b_nt b) = t at l1 h ⊢
  generalize drawV (drawF (drawF gg)) (b_nd b) = e at l2 h ⊢
  generalize drawV (drawF (drawF (drawF gg))) 4 = k at l3 h ⊢
  generalize hm4 : ms (ms (ms mem 96 (ru (mem 96) 58 (drawF gg))) 96 (ru (ms mem 96 (ru (mem 96) 58 (drawF gg)) 96) 58 (drawF (drawF gg)))) 96 (ru (ms (ms mem 96 (ru (mem 96) 58 (drawF gg))) 96 (ru (ms mem 96 (ru (mem 96) 58 (drawF gg)) 96) 58 (drawF (drawF gg))) 96) 58 (drawF (drawF (drawF gg)))) = m4
  have s4 : Sr mem m4 := by rw [← hm4]; exact Sr_96 (Sr_96 (Sr_96 (Sr_rf mem) (by decide) (by decide) (by decide) _) (by decide) (by decide) (by decide) _) (by decide) (by decide) (by decide) _
  have g4 : m4 96 58 = drawF (drawF (drawF gg)) := by rw [← hm4, ms_s, ru_s]
  have n4 : ∀ a, a ≠ 96 → m4 a = mem a := by intro a ha; rw [← hm4, ms_n _ _ ha, ms_n _ _ ha, ms_n _ _ ha]
  clear hm4
  have hR4 : EQ (m4 129) c := by rw [n4 129 (by decide)]; exact hR
  have hb4 := MB_Sr s4 hb
  have hl4 := ML_Sr s4 hl
  have hT := hI.2.2.1 t l1
  have hD := hI.1 e l2
  have hE := (hR4.2.1 e (by omega)).1
  have kD := hb.1.2.2.1 e l2
  rw [i3n (by omega)]
  have fin : ∀ (x : Int) (m5 : sh_Mem) (c' : Nat → Int), Sr mem m5 → m5 96 58 = drawF (drawF (drawF gg)) → m5 130 = mem 130 → EQ (m5 129) c' → Inv b c' → (x, if k < 2 then c' else if c' (28 + t) = 0 ∧ 0 < c' (16 + t) then (if k = 2 then cashR c' t (prV b c' t) else enjoyR c' t) else c') = doF b c t e k → sh_X g (d + 5) m_Mod_lives 81 [(0, sh_r 96), (1, sh_i x), (2, sh_i (t : Int)), (3, sh_i (e : Int)), (4, sh_i (k : Int))] [] m5 (sh_K m_Mod_lives Q) := by
    intro x m5 c' q1 q2 q3 q4 q5 q6
    refine l_lives_81 (c := c') l3 l1 q4 q5 (MB_Sr q1 hb) (ML_Sr q1 hl) (fun m' y1 y2 y3 y4 => ?_)
    have := h m' (Sr_tr q1 y1) (by rw [y2]; exact q2) (by rw [y3]; exact q3)
    rw [← q6] at this
    exact this y4
  refine ⟨fun z => fin 0 m4 c s4 g4 (n4 130 (by decide)) hR4 hI ?_, fun z => ?_⟩
  · have nk : ¬ k < 2 := by omega
    unfold doF; rw [if_neg nk, if_neg nk]
    by_cases y : c (28 + t) = 0 ∧ 0 < c (16 + t)
    · rw [if_pos y, if_pos y]
      by_cases y2 : k = 2
      · rw [if_pos y2, if_pos y2]
      · rw [if_neg y2, if_neg y2]
    · rw [if_neg y, if_neg y]
  · refine s_Mod_couldSteal (d := d + 3) hR4 hT (by omega) ⟨_, rfl, ?_⟩
    rw [i3_01]
    refine ⟨fun z2 => fin 0 m4 c s4 g4 (n4 130 (by decide)) hR4 hI ?_, fun z2 => ?_⟩
    · unfold doF; rw [if_pos (by omega), if_pos (by omega), if_neg (by grind)]
    · have z3 : c (28 + t) = 0 ∧ c (16 + t) = 0 := by grind
      have te : ((1 : Int) + (e : Int)).toNat = 1 + e := by omega
      rw [te, hE, i3s (by omega) (by omega)]
      refine ⟨by omega, fun z4 => fin 0 m4 c s4 g4 (n4 130 (by decide)) hR4 hI ?_, fun z4 => ?_⟩
      · unfold doF; rw [if_pos (by omega), if_pos (by omega), if_neg (fun y => z4 |> fun z5 => by omega)]
      · refine s_Mod_steals (d := d + 2) hR4 hI hb4 l1 l2 z3.1 z3.2 (fun r hr => ⟨_, rfl, ?_⟩)
        refine fin _ _ (takeR b c t e) (Sr_ms s4 (by decide) (by decide) _) (by rw [ms_n _ _ (by decide)]; exact g4) (by rw [ms_n _ _ (by decide)]; exact n4 130 (by decide)) (by rw [ms_s]; exact hr) (Inv_take hb.1 hI l1 l2 z3.1 z3.2 (by omega)) ?_
        unfold doF; rw [if_pos (by omega), if_pos (by omega), if_pos ⟨z3, by omega⟩]
def q_years (w : Wd) (sd k what : Int) : Int := if (0 ≤ sd ∧ sd ≤ 9999) ∧ (1 ≤ k ∧ k ≤ 99) ∧ (0 ≤ what ∧ what ≤ 2) then (if what = 0 then (lsF (w_b w) k.toNat (w_c w) sd 0).1 else if what = 1 then sumF (lsF (w_b w) k.toNat (w_c w) sd 0).2 36 4 else bitsF (fun t => decide (0 < (lsF (w_b w) k.toNat (w_c w) sd 0).2 (28 + t))) 4) else -1
theorem l_years {g : sh_G} {d n : Nat} {b : Bk} {c0 : Nat → Int} {sd what : Int} {mem : sh_Mem} {Q : Option sh_V → sh_Mem → Prop} (hw : i3 what = what) (hn : n ≤ 99) (hb : MB mem b) (hl : ML mem b) : ∀ (k x : Nat) (m : sh_Mem) (c : Nat → Int) (gg s : Int), x + k = n → Sr mem m → EQ (m 129) c → Inv b c → EQ (m 130) c0 → m 96 58 = gg → 0 ≤ gg ∧ gg < 2147483648 →
    (∀ m', Sr mem m' → EQ (m' 129) c0 → Q (some (sh_i (if what = 0 then (lsF b k c gg s).1 else if what = 1 then sumF (lsF b k c gg s).2 36 4 else bitsF (fun t => decide (0 < (lsF b k c gg s).2 (28 + t))) 4))) m') →
    sh_X g (d + 6) m_Mod_years 62 [(0, sh_r 96), (1, sh_i sd), (2, sh_i (n : Int)), (3, sh_i what), (4, sh_i s), (5, sh_i (x : Int))] [] m (sh_K m_Mod_years Q) := by
  intro k
  induction k with
  | zero =>
    intro x m c gg s hx hs h1 hI h2 hg h0 h
    obtain rfl : x = n := by omega
    apply v_Mod_years_62
    rw [hw]
    refine ⟨fun _ => ?_, fun z => absurd (by omega) z⟩
    rw [show (37 : Int) = ((37 : Nat) : Int) from rfl, show (4 : Int) = ((4 : Nat) : Int) from rfl]
    refine s_Mod_sumOf (by omega) ⟨_, rfl, ?_⟩
    rw [sumF_cong (c := c) (a' := 36) 4 (fun i hi => (h1.2.2 i hi).2.2.2.2.2.1)]
    refine s_Mod_caughtOnes (d := d + 4) h1 hI (MB_Sr hs hb) ⟨_, rfl, ?_⟩
    refine s_Mod_copies (a := 0) (b := 0) (A := 130) (B := 129) (n := 45) (n2 := 45) rfl rfl (by decide) (by omega) (by omega) ⟨rfl, ?_⟩
    have hh := h _ (Sr_ms hs (a := 129) (by decide) (by decide) (cpy (m 130) (m 129) 0 0 45)) (by rw [ms_s]; exact EQ_cp h2)
    rw [lsF] at hh
    refine ⟨fun z => ⟨fun z2 => ?_, fun z2 => ?_⟩, fun z => ?_⟩
    · rw [if_neg z, if_neg z2] at hh; exact hh
    · rw [if_neg z, if_pos z2] at hh; exact hh
    · rw [if_pos z] at hh; exact hh
  | succ k ih =>
    intro x m c gg s hx hs h1 hI h2 hg h0 h
    obtain ⟨v1, v2⟩ := lvF_ok hb.1 hI h0
    rw [lsF] at h
    apply v_Mod_years_62
    rw [i3n (by omega), i3n (by omega)]
    refine ⟨fun z => absurd z (by omega), fun _ => ?_⟩
    refine s_Mod_lives (d := d) h1 hI (MB_Sr hs hb) (ML_Sr hs hl) hg h0 (fun m' y1 y2 y3 y4 => ⟨_, rfl, ?_⟩)
    rw [show ((x : Int) + 1) = ((x + 1 : Nat) : Int) by omega]
    exact ih (x + 1) m' _ _ _ (by omega) (Sr_tr hs y1) y4 v1 (by rw [y3]; exact h2) y2 v2 h
theorem r_years {g : sh_G} {d : Nat} {w : Wd} {mem : sh_Mem} {sd k what : Int} {Q : Option sh_V → sh_Mem → Prop} (hW : WOk w) (h : RRel w mem) (h1 : i3 sd = sd) (h2 : i3 k = k) (h3 : i3 what = what) (hQ : ∀ m', RPost w mem m' → Q (some (sh_i (q_years w sd k what))) m') : sh_Cal g (d + 6) m_Mod_years [sh_r 96, sh_i sd, sh_i k, sh_i what] mem Q := by
  have p0 := RPost_0 h
  have hE := p0.1.2.2.2.2.1
  unfold q_years at hQ
  apply v_Mod_years
  rintro _ rfl
  refine wi_then h1 rfl rfl (fun q => ?_) (fun q1 => ?_)
  · rw [if_neg (fun z => q z.1)] at hQ; exact hQ _ p0
  refine wi_then h2 rfl rfl (fun q => ?_) (fun q2 => ?_)
  · rw [if_neg (fun z => q z.2.1)] at hQ; exact hQ _ p0
  refine wi_then' h3 rfl rfl (fun q => ?_) (fun q3 => ?_)
  · rw [if_neg (fun z => q z.2.2)] at hQ; exact hQ _ p0
  rw [if_pos ⟨q1, q2, q3⟩] at hQ
  obtain ⟨n, rfl⟩ : ∃ n : Nat, k = (n : Int) := ⟨k.toNat, by omega⟩
  rw [Int.toNat_natCast] at hQ
  rintro _ rfl
  rw [i_2lP (x := sd) (by omega) (by omega)]
  generalize ms mem 96 (ru (mem 96) 0 0) = m1 at *
  refine s_Mod_copies (a := 0) (b := 0) (A := 129) (B := 130) (n := 45) (n2 := 45) rfl rfl (by decide) (by omega) (by omega) ⟨rfl, ?_⟩
  have s1 := Sr_96 (Sr_rf m1) (i := 58) (by decide) (by decide) (by decide) sd
  refine l_years (b := w_b w) (c0 := w_c w) h3 (by omega) p0.1.1 p0.1.2.1 n 0 _ (w_c w) sd 0 (by omega) (Sr_ms s1 (a := 130) (by decide) (by decide) _) ?_ hW.2.1 ?_ ?_ (by omega) (fun m' hs he => hQ _ (RPost_sr p0 hs he))
  · rw [ms_n _ _ (by decide), ms_n _ _ (by decide)]; exact hE
  · rw [ms_s, ms_n _ _ (by decide)]; exact EQ_cp hE
  · rw [ms_n _ _ (by decide), ms_s, ru_s]
