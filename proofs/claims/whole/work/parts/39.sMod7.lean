/-! ===== the reference: how it begins, what will be free, lines and seen ones laid ===== -/
def frA (r : Nat → Int) (x : Nat) : Nat → Int := fun k => if k < x then (if 21 ≤ k ∧ k < 29 then -1 else 0) else r k
def frB (b : Bk) (r : Nat → Int) (x : Nat) : Nat → Int := fun k => if 1 ≤ k ∧ k < 1 + x then b_wo b (k - 1) else if 9 ≤ k ∧ k < 9 + x then b_gu b (k - 9) else r k
theorem frA_s (r : Nat → Int) (x : Nat) : ru (frA r x) x (if 21 ≤ x ∧ x < 29 then -1 else 0) = frA r (x + 1) := by
  funext j; unfold ru frA; by_cases e : j = x
  · subst e; rw [if_pos rfl, if_pos (show j < j + 1 by omega)]
  · rw [if_neg e]; grind
theorem frB_s (b : Bk) (r : Nat → Int) {x : Nat} (h : x < 8) : ru (ru (frB b r x) (1 + x) (b_wo b x)) (9 + x) (b_gu b x) = frB b r (x + 1) := by
  funext j; unfold ru frB; by_cases e : j = 9 + x
  · subst e; rw [if_pos rfl, if_neg (by omega), if_pos (by omega)]; congr 1; omega
  · rw [if_neg e]; by_cases e2 : j = 1 + x
    · subst e2; rw [if_pos rfl, if_pos (by omega)]; congr 1; omega
    · rw [if_neg e2]; grind
theorem l_fresh_39 {g : sh_G} {d : Nat} {b : Bk} {mem : sh_Mem} {q : Nat → Int} {Q : Option sh_V → sh_Mem → Prop} (hb : MB mem b) (h : Q none (ms mem 129 (frB b q (b_nd b)))) : ∀ (k x : Nat), x + k = b_nd b →
    sh_X g d m_Mod_fresh0 39 [(0, sh_r 96), (1, sh_i (x : Int))] [] (ms mem 129 (frB b q x)) (sh_K m_Mod_fresh0 Q) := by
  have k1 := hb.1.1
  intro k
  induction k with
  | zero =>
    intro x hx
    obtain rfl : x = b_nd b := by omega
    apply v_Mod_fresh0_39
    rw [ms_n _ _ (show (98 : Nat) ≠ 129 by decide), hb.2.1]
    exact ⟨fun _ => h, fun q => absurd (by omega) q⟩
  | succ k ih =>
    intro x hx
    have hx2 := hb.2.2.2.1 x (by omega)
    apply v_Mod_fresh0_39
    rw [ms_n _ _ (show (98 : Nat) ≠ 129 by decide), hb.2.1, i3n (by omega), i3n (by omega)]
    refine ⟨fun q => absurd q (by omega), fun _ => ⟨by omega, by omega, ?_⟩⟩
    rintro _ rfl
    refine ⟨by omega, by omega, ?_⟩
    rintro _ rfl
    simp only [ms_ms, ms_s, ms_n _ _ (show (102 : Nat) ≠ 129 by decide), ms_n _ _ (show (103 : Nat) ≠ 129 by decide), hx2.2.1, hx2.2.2]
    rw [frB_s b q (by omega)]
    exact ih (x + 1) (by omega)
theorem l_fresh_2 {g : sh_G} {d : Nat} {mem : sh_Mem} {Q : Option sh_V → sh_Mem → Prop} (h : sh_X g d m_Mod_fresh0 39 [(0, sh_r 96), (1, sh_i 0)] [] (ms mem 129 (frA (mem 129) 45)) (sh_K m_Mod_fresh0 Q)) : ∀ (k x : Nat), x + k = 45 →
    sh_X g d m_Mod_fresh0 2 [(0, sh_r 96), (1, sh_i (x : Int))] [] (ms mem 129 (frA (mem 129) x)) (sh_K m_Mod_fresh0 Q) := by
  intro k
  induction k with
  | zero =>
    intro x hx
    obtain rfl : x = 45 := by omega
    apply v_Mod_fresh0_2
    exact ⟨fun _ => h, fun q => absurd (by decide) q⟩
  | succ k ih =>
    intro x hx
    have ih' := ih (x + 1) (by omega)
    rw [← frA_s] at ih'
    apply v_Mod_fresh0_2
    rw [i3n (by omega)]
    refine ⟨fun q => absurd q (by omega), fun _ => ⟨fun q => ⟨by omega, ?_⟩, fun q => ⟨fun q2 => ⟨by omega, ?_⟩, fun q2 => ⟨by omega, ?_⟩⟩⟩⟩
    · rintro _ rfl
      rw [if_neg (by omega)] at ih'; rw [ms_ms, ms_s]; exact ih'
    · rintro _ rfl
      rw [if_neg (by omega)] at ih'; rw [ms_ms, ms_s]; exact ih'
    · rintro _ rfl
      rw [if_pos (by omega)] at ih'; rw [ms_ms, ms_s]; exact ih'
theorem EQ_fresh {b : Bk} (hb : BkOk b) (r : Nat → Int) : EQ (frB b (frA r 45) (b_nd b)) (freshR b) := by
  have k1 := hb.1
  unfold EQ frB frA freshR
  refine ⟨by grind, fun i hi => ⟨?_, ?_⟩, fun t ht => ?_⟩
  · by_cases q : i < b_nd b
    · rw [if_pos (by omega), if_pos (by omega), if_pos q]; congr 1; omega
    · rw [if_neg (by omega), if_neg (by omega), if_pos (by omega), if_neg (by omega), if_pos (by omega), if_neg q]
  · by_cases q : i < b_nd b
    · rw [if_neg (by omega), if_pos (by omega), if_neg (by omega), if_pos (by omega), if_pos (by omega)]; congr 1; omega
    · rw [if_neg (by omega), if_neg (by omega), if_pos (by omega), if_neg (by omega), if_neg (by omega), if_pos (by omega), if_neg (by omega)]
  · grind
theorem s_Mod_fresh0 {g : sh_G} {d : Nat} {mem : sh_Mem} {Q : Option sh_V → sh_Mem → Prop} {b : Bk} (hb : MB mem b) (h : ∀ r, EQ r (freshR b) → Q none (ms mem 129 r)) : sh_Cal g d m_Mod_fresh0 [sh_r 96] mem Q := by
  apply v_Mod_fresh0
  have e0 : frA (mem 129) 0 = mem 129 := by funext k; unfold frA; rw [if_neg (by omega)]
  have e1 : frB b (frA (mem 129) 45) 0 = frA (mem 129) 45 := by funext k; unfold frB; rw [if_neg (by omega), if_neg (by omega)]
  have w := l_fresh_2 (g := g) (d := d) (mem := mem) (Q := Q) (by
    have w2 := l_fresh_39 (g := g) (d := d) (q := frA (mem 129) 45) hb (h _ (EQ_fresh hb.1 _)) (b_nd b) 0 (by omega)
    rw [e1] at w2; exact w2) 45 0 (by omega)
  rw [e0, ms_id] at w
  exact w
/-- who is free and whom a day is free to, behind so many nights -/
def opF (b : Bk) (c : Nat → Int) (t n : Nat) (e : Nat) : Bool := decide (nightsR b c n (28 + t) = 0) && opnM b (nightsR b c n) t e
theorem l_layO_38 {g : sh_G} {d n t : Nat} {b : Bk} {c : Nat → Int} {m : sh_Mem} {Q : Option sh_V → sh_Mem → Prop} (hn : n ≤ 30) (ht : t < b_nt b) (hR : EQ (m 129) (nightsR b c n)) (hI : Inv b c) (hb : MB m b) (h : sh_X g (d + 3) m_Mod_laysOpen 23 [(0, sh_r 96), (1, sh_i (n : Int)), (2, sh_i ((t + 1 : Nat) : Int))] [] (ms m 138 (ru (m 138) (4 * n + t) (bitsF (opF b c t n) (b_nd b)))) (sh_K m_Mod_laysOpen Q)) : ∀ (k x : Nat), x + k = b_nd b →
    sh_X g (d + 3) m_Mod_laysOpen 38 [(0, sh_r 96), (1, sh_i (n : Int)), (2, sh_i (t : Int)), (3, sh_i (bitsF (opF b c t n) x)), (4, sh_i (x : Int))] [] m (sh_K m_Mod_laysOpen Q) := by
  have k1 := hb.1.1
  have k2 := hb.1.2.1
  have hIn := Inv_nights hb.1 n c hI
  intro k
  induction k with
  | zero =>
    intro x hx
    obtain rfl : x = b_nd b := by omega
    apply v_Mod_laysOpen_38
    rw [hb.2.1]
    refine ⟨fun _ => ⟨by omega, ?_⟩, fun q => absurd (by omega) q⟩
    rintro _ rfl
    exact h
  | succ k ih =>
    intro x hx
    have ih' := ih (x + 1) (by omega)
    rw [bitsF] at ih'
    apply v_Mod_laysOpen_38
    rw [hb.2.1, i3n (by omega), i3n (by omega)]
    refine ⟨fun q => absurd q (by omega), fun _ => s_Mod_isFree hR (hIn.2.2.1 t ht) (by omega) ⟨_, rfl, ?_⟩⟩
    rw [i3s (by split <;> omega) (by split <;> omega), bitsF_or0]
    refine ⟨fun q => ?_, fun q => s_Mod_isOpen hR (hIn.1 x (by omega)) hb ht (by omega) ⟨_, rfl, ?_⟩⟩
    · rw [if_neg (by unfold opF; simp; grind)] at ih'; exact ih'
    · rw [i3s (by split <;> omega) (by split <;> omega)]
      refine ⟨fun q2 => ?_, fun q2 => ?_⟩
      · rw [if_neg (by unfold opF opnM; simp; grind)] at ih'; exact ih'
      · rw [if_pos (by unfold opF opnM; simp; grind)] at ih'; exact ih'
def opR (b : Bk) (c : Nat → Int) (r : Nat → Int) (x : Nat) : Prop := ∀ n t, t < b_nt b → n < x → r (4 * n + t) = bitsF (opF b c t n) (b_nd b)
theorem l_layO_23 {g : sh_G} {d n : Nat} {b : Bk} {c : Nat → Int} {mem : sh_Mem} {Q : Option sh_V → sh_Mem → Prop} (hn : n ≤ 30) (hI : Inv b c) (hb : MB mem b) (h : ∀ m, Sr mem m → EQ (m 129) (nightsR b c (n + 1)) → EQ (m 131) c → opR b c (m 138) (n + 1) → sh_X g (d + 3) m_Mod_laysOpen 15 [(0, sh_r 96), (1, sh_i ((n + 1 : Nat) : Int))] [] m (sh_K m_Mod_laysOpen Q)) : ∀ (k x : Nat) (m : sh_Mem), x + k = b_nt b → Sr mem m → EQ (m 129) (nightsR b c n) → EQ (m 131) c → opR b c (m 138) n → (∀ t, t < x → m 138 (4 * n + t) = bitsF (opF b c t n) (b_nd b)) →
    sh_X g (d + 3) m_Mod_laysOpen 23 [(0, sh_r 96), (1, sh_i (n : Int)), (2, sh_i (x : Int))] [] m (sh_K m_Mod_laysOpen Q) := by
  have k2 := hb.1.2.1
  have hIn := Inv_nights hb.1 n c hI
  intro k
  induction k with
  | zero =>
    intro x m hx hs h1 h2 h3 h4
    obtain rfl : x = b_nt b := by omega
    apply v_Mod_laysOpen_23
    rw [(MB_Sr hs hb).2.2.1]
    refine ⟨fun _ => s_Mod_passes h1 hIn (MB_Sr hs hb) (fun r hr => ⟨rfl, ?_⟩), fun q => absurd (by omega) q⟩
    refine h _ (Sr_ms hs (by decide) (by decide) _) (by rw [ms_s, nightsR_s]; exact hr) (by rw [ms_n _ _ (by decide)]; exact h2) ?_
    rw [ms_n _ _ (by decide)]
    intro n' t' ht' hn'
    by_cases e : n' = n
    · subst e; exact h4 t' ht'
    · exact h3 n' t' ht' (by omega)
  | succ k ih =>
    intro x m hx hs h1 h2 h3 h4
    apply v_Mod_laysOpen_23
    rw [(MB_Sr hs hb).2.2.1, i3n (by omega), i3n (by omega)]
    refine ⟨fun q => absurd q (by omega), fun _ => ?_⟩
    refine l_layO_38 (c := c) hn (by omega) h1 hI (MB_Sr hs hb) (ih (x + 1) _ (by omega) (Sr_ms hs (by decide) (by decide) _) ?_ ?_ ?_ ?_) (b_nd b) 0 (by omega)
    · rw [ms_n _ _ (by decide)]; exact h1
    · rw [ms_n _ _ (by decide)]; exact h2
    · rw [ms_s]; intro n' t' ht' hn'; rw [ru_n _ _ (by omega)]; exact h3 n' t' ht' hn'
    · rw [ms_s]; intro t' ht'
      by_cases e : t' = x
      · subst e; rw [ru_s]
      · rw [ru_n _ _ (by omega)]; exact h4 t' (by omega)
theorem l_layO_15 {g : sh_G} {d : Nat} {b : Bk} {c : Nat → Int} {mem : sh_Mem} {Q : Option sh_V → sh_Mem → Prop} (hI : Inv b c) (hb : MB mem b) (h : ∀ m', Sr mem m' → EQ (m' 129) c → opR b c (m' 138) 31 → Q none m') : ∀ (k x : Nat) (m : sh_Mem), x + k = 31 → Sr mem m → EQ (m 129) (nightsR b c x) → EQ (m 131) c → opR b c (m 138) x →
    sh_X g (d + 3) m_Mod_laysOpen 15 [(0, sh_r 96), (1, sh_i (x : Int))] [] m (sh_K m_Mod_laysOpen Q) := by
  intro k
  induction k with
  | zero =>
    intro x m hx hs h1 h2 h3
    obtain rfl : x = 31 := by omega
    apply v_Mod_laysOpen_15
    refine ⟨fun _ => ?_, fun q => absurd (by decide) q⟩
    rw [show (0 : Int) = ((0 : Nat) : Int) from rfl]
    refine s_Mod_copies (A := 131) (B := 129) (n := 45) (n2 := 45) rfl rfl (by decide) (by omega) (by omega) ⟨rfl, ?_⟩
    exact h _ (Sr_ms hs (by decide) (by decide) _) (by rw [ms_s]; exact EQ_cp h2) (by rw [ms_n _ _ (by decide)]; exact h3)
  | succ k ih =>
    intro x m hx hs h1 h2 h3
    apply v_Mod_laysOpen_15
    rw [i3n (by omega)]
    refine ⟨fun q => absurd q (by omega), fun _ => ?_⟩
    exact l_layO_23 (by omega) hI hb (fun m' q1 q2 q3 q4 => ih (x + 1) m' (by omega) q1 q2 q3 q4) (b_nt b) 0 m (by omega) hs h1 h2 h3 (fun t ht => absurd ht (by omega))
theorem s_Mod_laysOpen {g : sh_G} {d : Nat} {mem : sh_Mem} {Q : Option sh_V → sh_Mem → Prop} {b : Bk} {c : Nat → Int} (hR : EQ (mem 129) c) (hI : Inv b c) (hb : MB mem b) (h : ∀ m', Sr mem m' → EQ (m' 129) c → opR b c (m' 138) 31 → Q none m') : sh_Cal g (d + 3) m_Mod_laysOpen [sh_r 96] mem Q := by
  apply v_Mod_laysOpen
  rw [show (0 : Int) = ((0 : Nat) : Int) from rfl]
  refine s_Mod_copies (A := 129) (B := 131) (n := 45) (n2 := 45) rfl rfl (by decide) (by omega) (by omega) ⟨rfl, ?_⟩
  exact l_layO_15 hI hb h 31 0 _ (by omega) (Sr_ms (Sr_rf mem) (by decide) (by decide) _) (by rw [ms_n _ _ (by decide)]; exact hR) (by rw [ms_s]; exact EQ_cp hR) (fun n t _ hn => absurd hn (by omega))
