/-! ===== the reference: bits, sums, what is undone ===== -/
theorem i_or0 (x : Int) : i_or x 0 = i3 x := by
  unfold i_or i3; congr 1; show Int32.ofInt x ||| 0 = Int32.ofInt x; exact Int32.or_zero
theorem bitsF_cut {P : Nat → Bool} {n : Nat} : ∀ m, n ≤ m → (∀ t, n ≤ t → t < m → P t = false) → bitsF P m = bitsF P n
  | 0, h, _ => by obtain rfl : n = 0 := by omega
                  rfl
  | m + 1, h, hp => by
    rcases Nat.lt_or_ge m n with q | q
    · obtain rfl : n = m + 1 := by omega
      rfl
    · rw [bitsF, if_neg (by rw [hp m q (by omega)]; decide)]
      exact bitsF_cut m q (fun t h1 h2 => hp t h1 (by omega))
theorem bitsF_or0 (P : Nat → Bool) (n : Nat) : i_or (bitsF P n) 0 = bitsF P n := by rw [i_or0, bitsF_i3]
theorem l_Mod_having {g : sh_G} {d : Nat} {b : Bk} {c : Nat → Int} {mem : sh_Mem} {Q : Option sh_V → sh_Mem → Prop} (hR : EQ (mem 129) c) (hI : Inv b c) (hb : MB mem b) (h : Q (some (sh_i (bitsF (fun t => decide (0 < c (16 + t))) (b_nt b)))) mem) : ∀ (k x : Nat), x + k = b_nt b →
    sh_X g (d + 1) m_Mod_having 4 [(0, sh_r 96), (1, sh_i (bitsF (fun t => decide (0 < c (16 + t))) x)), (2, sh_i (x : Int))] [] mem (sh_K m_Mod_having Q) := by
  have k2 := hb.1.2.1
  intro k
  induction k with
  | zero =>
    intro x hx
    obtain rfl : x = b_nt b := by omega
    apply v_Mod_having_4
    rw [hb.2.2.1, i3n (by omega)]
    exact ⟨fun _ => h, fun q => absurd (by omega) q⟩
  | succ k ih =>
    intro x hx
    have ih' := ih (x + 1) (by omega)
    rw [bitsF] at ih'
    apply v_Mod_having_4
    rw [hb.2.2.1, i3n (by omega), i3n (by omega)]
    refine ⟨fun q => absurd q (by omega), fun _ => s_Mod_hasPiece hR (hI.2.2.1 x (by omega)) (by omega) ⟨_, rfl, ?_⟩⟩
    rw [i3s (by split <;> omega) (by split <;> omega), bitsF_or0]
    refine ⟨fun q => ?_, fun q => ?_⟩
    · rw [if_neg (by simp; grind)] at ih'; exact ih'
    · rw [if_pos (by simp; grind)] at ih'; exact ih'
theorem s_Mod_having {g : sh_G} {d : Nat} {mem : sh_Mem} {Q : Option sh_V → sh_Mem → Prop} {b : Bk} {c : Nat → Int} (hR : EQ (mem 129) c) (hI : Inv b c) (hb : MB mem b) (h : Q (some (sh_i (bitsF (fun t => decide (0 < c (16 + t))) 4))) (mem)) : sh_Cal g (d + 1) m_Mod_having [sh_r 96] mem Q := by
  have k2 := hb.1.2.1
  rw [bitsF_cut (n := b_nt b) 4 k2 (fun t h1 h2 => by have := hI.2.2.2 t h1 h2; simp; omega)] at h
  apply v_Mod_having
  exact l_Mod_having hR hI hb h (b_nt b) 0 (by omega)
theorem l_Mod_caughtOnes {g : sh_G} {d : Nat} {b : Bk} {c : Nat → Int} {mem : sh_Mem} {Q : Option sh_V → sh_Mem → Prop} (hR : EQ (mem 129) c) (hI : Inv b c) (hb : MB mem b) (h : Q (some (sh_i (bitsF (fun t => decide (0 < c (28 + t))) (b_nt b)))) mem) : ∀ (k x : Nat), x + k = b_nt b →
    sh_X g (d + 1) m_Mod_caughtOnes 4 [(0, sh_r 96), (1, sh_i (bitsF (fun t => decide (0 < c (28 + t))) x)), (2, sh_i (x : Int))] [] mem (sh_K m_Mod_caughtOnes Q) := by
  have k2 := hb.1.2.1
  intro k
  induction k with
  | zero =>
    intro x hx
    obtain rfl : x = b_nt b := by omega
    apply v_Mod_caughtOnes_4
    rw [hb.2.2.1, i3n (by omega)]
    exact ⟨fun _ => h, fun q => absurd (by omega) q⟩
  | succ k ih =>
    intro x hx
    have ih' := ih (x + 1) (by omega)
    have hT := hI.2.2.1 x (by omega)
    rw [bitsF] at ih'
    apply v_Mod_caughtOnes_4
    rw [hb.2.2.1, i3n (by omega), i3n (by omega)]
    refine ⟨fun q => absurd q (by omega), fun _ => s_Mod_isFree hR hT (by omega) ⟨_, rfl, ?_⟩⟩
    rw [i3s (by split <;> omega) (by split <;> omega), bitsF_or0]
    refine ⟨fun q => ?_, fun q => ?_⟩
    · rw [if_pos (by simp; grind)] at ih'; exact ih'
    · rw [if_neg (by simp; grind)] at ih'; exact ih'
theorem s_Mod_caughtOnes {g : sh_G} {d : Nat} {mem : sh_Mem} {Q : Option sh_V → sh_Mem → Prop} {b : Bk} {c : Nat → Int} (hR : EQ (mem 129) c) (hI : Inv b c) (hb : MB mem b) (h : Q (some (sh_i (bitsF (fun t => decide (0 < c (28 + t))) 4))) (mem)) : sh_Cal g (d + 1) m_Mod_caughtOnes [sh_r 96] mem Q := by
  have k2 := hb.1.2.1
  rw [bitsF_cut (n := b_nt b) 4 k2 (fun t h1 h2 => by have := hI.2.2.2 t h1 h2; simp; omega)] at h
  apply v_Mod_caughtOnes
  exact l_Mod_caughtOnes hR hI hb h (b_nt b) 0 (by omega)
theorem l_Mod_sumOf {g : sh_G} {d a n : Nat} {mem : sh_Mem} {Q : Option sh_V → sh_Mem → Prop} (ha : a + n ≤ 45) (h : Q (some (sh_i (sumF (mem 129) a n))) mem) : ∀ (k x : Nat), x + k = n →
    sh_X g d m_Mod_sumOf 5 [(0, sh_r 96), (1, sh_i (a : Int)), (2, sh_i (n : Int)), (3, sh_i (sumF (mem 129) a x)), (4, sh_i ((a + x : Nat) : Int))] [] mem (sh_K m_Mod_sumOf Q) := by
  intro k
  induction k with
  | zero =>
    intro x hx
    obtain rfl : x = n := by omega
    apply v_Mod_sumOf_5
    exact ⟨fun _ => h, fun q => absurd (by omega) q⟩
  | succ k ih =>
    intro x hx
    apply v_Mod_sumOf_5
    rw [i3n (by omega), i3n (by omega)]
    exact ⟨fun q => absurd q (by omega), fun _ => ⟨by omega, ih (x + 1) (by omega)⟩⟩
theorem s_Mod_sumOf {g : sh_G} {d : Nat} {mem : sh_Mem} {Q : Option sh_V → sh_Mem → Prop} {a n : Nat} (ha : a + n ≤ 45) (h : Q (some (sh_i (sumF (mem 129) a n))) (mem)) : sh_Cal g d m_Mod_sumOf [sh_r 96, sh_i a, sh_i n] mem Q := by
  apply v_Mod_sumOf
  exact l_Mod_sumOf ha h n 0 (by omega)
theorem sumF_cong {r c : Nat → Int} {a a' : Nat} : ∀ n, (∀ i, i < n → r (a + i) = c (a' + i)) → sumF r a n = sumF c a' n
  | 0, _ => rfl
  | n + 1, h => by rw [sumF, sumF, sumF_cong n (fun i hi => h i (by omega)), h n (by omega)]
/-- the first of the most among n thieves -/
def moF (c : Nat → Int) (a : Nat) : Nat → Int
  | 0 => -1
  | n + 1 => if moF c a n < 0 then (n : Int) else if i3 (c (a + n)) ≤ i3 (c (a + (moF c a n).toNat)) then moF c a n else (n : Int)
theorem moF_rng (c : Nat → Int) (a : Nat) : ∀ n, -1 ≤ moF c a n ∧ moF c a n < n
  | 0 => by unfold moF; omega
  | n + 1 => by have := moF_rng c a n; unfold moF; grind
theorem moF_cong {r c : Nat → Int} {a a' : Nat} : ∀ n, (∀ i, i < n → r (a + i) = c (a' + i)) → moF r a n = moF c a' n
  | 0, _ => rfl
  | n + 1, h => by
    have ih := moF_cong n (fun i hi => h i (by omega))
    have hr := moF_rng c a' n
    rw [moF, moF, ih, h n (by omega)]
    split
    · rfl
    · rw [h (moF c a' n).toNat (by omega)]
theorem l_Mod_mostAt {g : sh_G} {d a : Nat} {b : Bk} {mem : sh_Mem} {Q : Option sh_V → sh_Mem → Prop} (ha : a + 4 ≤ 45) (hb : MB mem b) (h : Q (some (sh_i (moF (mem 129) a (b_nt b)))) mem) : ∀ (k x : Nat), x + k = b_nt b →
    sh_X g d m_Mod_mostAt 4 [(0, sh_r 96), (1, sh_i (a : Int)), (2, sh_i (moF (mem 129) a x)), (3, sh_i (x : Int))] [] mem (sh_K m_Mod_mostAt Q) := by
  have k2 := hb.1.2.1
  intro k
  induction k with
  | zero =>
    intro x hx
    obtain rfl : x = b_nt b := by omega
    apply v_Mod_mostAt_4
    rw [hb.2.2.1, i3n (by omega)]
    exact ⟨fun _ => h, fun q => absurd (by omega) q⟩
  | succ k ih =>
    intro x hx
    have ih' := ih (x + 1) (by omega)
    have hm := moF_rng (mem 129) a x
    rw [moF] at ih'
    apply v_Mod_mostAt_4
    rw [hb.2.2.1, i3n (by omega), i3n (by omega), i3s (x := moF (mem 129) a x) (by omega) (by omega)]
    refine ⟨fun q => absurd q (by omega), fun _ => ⟨fun q => ?_, fun q => ?_⟩⟩
    · rw [if_pos q] at ih'; exact ih'
    · have e : ((a : Int) + moF (mem 129) a x).toNat = a + (moF (mem 129) a x).toNat := by omega
      rw [e]
      rw [if_neg q] at ih'
      refine ⟨by omega, by omega, fun q2 => ?_, fun q2 => ?_⟩
      · rw [if_pos q2] at ih'; exact ih'
      · rw [if_neg q2] at ih'; exact ih'
theorem s_Mod_mostAt {g : sh_G} {d : Nat} {mem : sh_Mem} {Q : Option sh_V → sh_Mem → Prop} {a : Nat} {b : Bk} (ha : a + 4 ≤ 45) (hb : MB mem b) (h : Q (some (sh_i (moF (mem 129) a (b_nt b)))) (mem)) : sh_Cal g d m_Mod_mostAt [sh_r 96, sh_i a] mem Q := by
  apply v_Mod_mostAt
  exact l_Mod_mostAt ha hb h (b_nt b) 0 (by omega)
def opnM (b : Bk) (c : Nat → Int) (t e : Nat) : Bool := decide (0 < c e ∧ c (8 + e) ≤ b_sk b t)
theorem l_Mod_canOf {g : sh_G} {d t : Nat} {b : Bk} {c : Nat → Int} {mem : sh_Mem} {Q : Option sh_V → sh_Mem → Prop} (hR : EQ (mem 129) c) (hI : Inv b c) (hb : MB mem b) (ht : t < b_nt b) (h : Q (some (sh_i (bitsF (fun e => decide (c (28 + t) = 0 ∧ c (16 + t) = 0) && opnM b c t e) (b_nd b)))) mem) : ∀ (k x : Nat), x + k = b_nd b →
    sh_X g (d + 2) m_Mod_canOf 4 [(0, sh_r 96), (1, sh_i (t : Int)), (2, sh_i (bitsF (fun e => decide (c (28 + t) = 0 ∧ c (16 + t) = 0) && opnM b c t e) x)), (3, sh_i (x : Int))] [] mem (sh_K m_Mod_canOf Q) := by
  have k1 := hb.1.1
  have k2 := hb.1.2.1
  intro k
  induction k with
  | zero =>
    intro x hx
    obtain rfl : x = b_nd b := by omega
    apply v_Mod_canOf_4
    rw [hb.2.1, i3n (by omega)]
    exact ⟨fun _ => h, fun q => absurd (by omega) q⟩
  | succ k ih =>
    intro x hx
    have ih' := ih (x + 1) (by omega)
    rw [bitsF] at ih'
    apply v_Mod_canOf_4
    rw [hb.2.1, i3n (by omega), i3n (by omega)]
    refine ⟨fun q => absurd q (by omega), fun _ => s_Mod_couldSteal hR (hI.2.2.1 t ht) (by omega) ⟨_, rfl, ?_⟩⟩
    rw [i3s (by split <;> omega) (by split <;> omega), bitsF_or0]
    refine ⟨fun q => ?_, fun q => s_Mod_isOpen hR (hI.1 x (by omega)) hb ht (by omega) ⟨_, rfl, ?_⟩⟩
    · rw [if_neg (by simp; grind)] at ih'; exact ih'
    · rw [i3s (by split <;> omega) (by split <;> omega)]
      refine ⟨fun q2 => ?_, fun q2 => ?_⟩
      · rw [if_neg (by unfold opnM; simp; grind)] at ih'; exact ih'
      · rw [if_pos (by unfold opnM; simp; grind)] at ih'; exact ih'
theorem s_Mod_canOf {g : sh_G} {d : Nat} {mem : sh_Mem} {Q : Option sh_V → sh_Mem → Prop} {t : Nat} {b : Bk} {c : Nat → Int} (hR : EQ (mem 129) c) (hI : Inv b c) (hb : MB mem b) (ht : t < b_nt b) (h : Q (some (sh_i (bitsF (fun e => decide (c (28 + t) = 0 ∧ c (16 + t) = 0) && opnM b c t e) (b_nd b)))) (mem)) : sh_Cal g (d + 2) m_Mod_canOf [sh_r 96, sh_i t] mem Q := by
  apply v_Mod_canOf
  exact l_Mod_canOf hR hI hb ht h (b_nd b) 0 (by omega)
