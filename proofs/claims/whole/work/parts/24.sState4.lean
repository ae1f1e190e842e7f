/-! ===== sums, bits, the law's price ===== -/
def sumF (c : Nat → Int) (a : Nat) : Nat → Int
  | 0 => 0
  | n + 1 => sumF c a n + c (a + n)
def bitsF (P : Nat → Bool) : Nat → Int
  | 0 => 0
  | n + 1 => if P n = true then i_or (bitsF P n) (i_shl 1 (n : Int)) else bitsF P n
theorem i3_i_or (a b : Int) : i3 (i_or a b) = i_or a b := i3_nrm _
theorem bitsF_i3 (P : Nat → Bool) : ∀ n, i3 (bitsF P n) = bitsF P n
  | 0 => rfl
  | n + 1 => by unfold bitsF; split; exact i3_nrm _; exact bitsF_i3 P n
theorem l_State_sumOfThieves {g : sh_G} {d S a : Nat} {mem : sh_Mem} {Q : Option sh_V → sh_Mem → Prop} (hS : ob8 S) (ha : a ≤ 41) (h : Q (some (sh_i (sumF (mem (S + 1)) a 4))) mem) : ∀ (k x3 : Nat), x3 + k = 4 →
    sh_X g d m_State_sumOfThieves 4 [(0, sh_r S), (1, sh_i (a : Int)), (2, sh_i (sumF (mem (S + 1)) a x3)), (3, sh_i (x3 : Int))] [] mem (sh_K m_State_sumOfThieves Q) := by
  intro k
  induction k with
  | zero =>
    intro x3 hx
    have e : x3 = 4 := by omega
    subst e
    apply v_State_sumOfThieves_4 hS
    exact ⟨fun _ => h, fun q => absurd (by decide) q⟩
  | succ k ih =>
    intro x3 hx
    apply v_State_sumOfThieves_4 hS
    rw [i3n (by omega)]
    exact ⟨fun q => absurd q (by omega), fun _ => ⟨by omega, ih (x3 + 1) (by omega)⟩⟩
theorem s_State_sumOfThieves {g : sh_G} {d : Nat} {mem : sh_Mem} {Q : Option sh_V → sh_Mem → Prop} {S a : Nat} (hS : ob8 S) (ha : a ≤ 41) (h : Q (some (sh_i (sumF (mem (S + 1)) a 4))) (mem)) : sh_Cal g d m_State_sumOfThieves [sh_r S, sh_i a] mem Q := by
  apply v_State_sumOfThieves hS
  exact l_State_sumOfThieves hS ha h 4 0 (by omega)
theorem l_State_bitsOf {g : sh_G} {d S a : Nat} {mem : sh_Mem} {Q : Option sh_V → sh_Mem → Prop} (hS : ob8 S) (ha : a ≤ 41) (hc : ∀ t, t < 4 → 0 ≤ mem (S + 1) (a + t) ∧ mem (S + 1) (a + t) ≤ 1000) (h : Q (some (sh_i (bitsF (fun t => decide (0 < mem (S + 1) (a + t))) 4))) mem) : ∀ (k x3 : Nat), x3 + k = 4 →
    sh_X g d m_State_bitsOf 4 [(0, sh_r S), (1, sh_i (a : Int)), (2, sh_i (bitsF (fun t => decide (0 < mem (S + 1) (a + t))) x3)), (3, sh_i (x3 : Int))] [] mem (sh_K m_State_bitsOf Q) := by
  intro k
  induction k with
  | zero =>
    intro x3 hx
    have e : x3 = 4 := by omega
    subst e
    apply v_State_bitsOf_4 hS
    exact ⟨fun _ => h, fun q => absurd (by decide) q⟩
  | succ k ih =>
    intro x3 hx
    have hc1 := hc x3 (by omega)
    have ih' := ih (x3 + 1) (by omega)
    rw [bitsF] at ih'
    apply v_State_bitsOf_4 hS
    rw [i3n (by omega), i3s (x := mem (S + 1) (a + x3)) (by omega) (by omega)]
    refine ⟨fun q => absurd q (by omega), fun _ => ⟨by omega, fun q => ?_, fun q => ?_⟩⟩
    · rw [if_neg (by simp; omega)] at ih'; exact ih'
    · rw [if_pos (by simp; omega)] at ih'; exact ih'
theorem s_State_holders {g : sh_G} {d : Nat} {mem : sh_Mem} {Q : Option sh_V → sh_Mem → Prop} {S : Nat} {b : Bk} (hS : ob8 S) (hI : Inv b (mem (S + 1))) (h : Q (some (sh_i (bitsF (fun t => decide (0 < mem (S + 1) (16 + t))) 4))) (mem)) : sh_Cal g (d + 1) m_State_holders [sh_r S] mem Q := by
  apply v_State_holders hS
  apply v_State_bitsOf (row := 16) hS
  refine l_State_bitsOf (a := 16) hS (by omega) (fun t ht => ?_) ⟨_, rfl, h⟩ 4 0 (by omega)
  rcases Nat.lt_or_ge t (b_nt b) with q | q
  · have := hI.2.2.1 t q; omega
  · have := hI.2.2.2 t q ht; omega
theorem s_State_prisoners {g : sh_G} {d : Nat} {mem : sh_Mem} {Q : Option sh_V → sh_Mem → Prop} {S : Nat} {b : Bk} (hS : ob8 S) (hI : Inv b (mem (S + 1))) (h : Q (some (sh_i (bitsF (fun t => decide (0 < mem (S + 1) (28 + t))) 4))) (mem)) : sh_Cal g (d + 1) m_State_prisoners [sh_r S] mem Q := by
  apply v_State_prisoners hS
  apply v_State_bitsOf (row := 28) hS
  refine l_State_bitsOf (a := 28) hS (by omega) (fun t ht => ?_) ⟨_, rfl, h⟩ 4 0 (by omega)
  rcases Nat.lt_or_ge t (b_nt b) with q | q
  · have := hI.2.2.1 t q; omega
  · have := hI.2.2.2 t q ht; omega
/-- the best skill of those who could steal -/
def brsF (b : Bk) (c : Nat → Int) : Nat → Int
  | 0 => -1
  | n + 1 => if c (28 + n) = 0 ∧ c (16 + n) = 0 then max (brsF b c n) (b_sk b n) else brsF b c n
theorem brsF_rng {b : Bk} (hb : BkOk b) (c : Nat → Int) : ∀ n, n ≤ b_nt b → -1 ≤ brsF b c n ∧ brsF b c n ≤ 9
  | 0, _ => by unfold brsF; omega
  | n + 1, h => by
    have h1 := brsF_rng hb c n (by omega)
    have h2 := hb.2.2.2.1 n (by omega)
    unfold brsF; split <;> omega
theorem l_State_bestReadySkill {g : sh_G} {d S B : Nat} {b : Bk} {mem : sh_Mem} {Q : Option sh_V → sh_Mem → Prop} (hS : ob8 S) (hB : ob0 B) (hI : Inv b (mem (S + 1))) (hb : CB mem B b) (h : Q (some (sh_i (brsF b (mem (S + 1)) (b_nt b)))) mem) : ∀ (k x3 : Nat), x3 + k = b_nt b →
    sh_X g (d + 1 + 1) m_State_bestReadySkill 4 [(0, sh_r S), (1, sh_r B), (2, sh_i (brsF b (mem (S + 1)) x3)), (3, sh_i (x3 : Int))] [] mem (sh_K m_State_bestReadySkill Q) := by
  have k2 := hb.1.2.1
  intro k
  induction k with
  | zero =>
    intro x3 hx
    have e : x3 = b_nt b := by omega
    subst e
    apply v_State_bestReadySkill_4 hS hB
    rw [hb.2.2.1, i3n (by omega)]
    exact ⟨fun _ => h, fun q => absurd (by omega) q⟩
  | succ k ih =>
    intro x3 hx
    have ih' := ih (x3 + 1) (by omega)
    have hr := brsF_rng hb.1 (mem (S + 1)) x3 (by omega)
    have h2 := hb.1.2.2.2.1 x3 (by omega)
    rw [brsF] at ih'
    apply v_State_bestReadySkill_4 hS hB
    rw [hb.2.2.1, i3n (by omega), i3n (by omega)]
    refine ⟨fun q => absurd q (by omega), fun _ => s_State_isReady hS hI (by omega) hb.1 ⟨_, rfl, ?_⟩⟩
    rw [i3s (by split <;> omega) (by split <;> omega), (hb.2.2.2.2 x3 (by omega)).1, i3s (x := b_sk b x3) (by omega) (by omega), i3s (x := brsF b (mem (S + 1)) x3) (by omega) (by omega)]
    refine ⟨fun q => ?_, fun q => ⟨by omega, ?_⟩⟩
    · rw [if_neg (by grind)] at ih'; exact ih'
    · rw [if_pos (by grind)] at ih'
      have e9 : (if brsF b (mem (S + 1)) x3 < b_sk b x3 then b_sk b x3 else brsF b (mem (S + 1)) x3) = max (brsF b (mem (S + 1)) x3) (b_sk b x3) := by split <;> omega
      rw [e9]; exact ih'
theorem s_State_bestReadySkill {g : sh_G} {d : Nat} {mem : sh_Mem} {Q : Option sh_V → sh_Mem → Prop} {S B : Nat} {b : Bk} (hS : ob8 S) (hB : ob0 B) (hI : Inv b (mem (S + 1))) (hb : CB mem B b) (h : Q (some (sh_i (brsF b (mem (S + 1)) (b_nt b)))) (mem)) : sh_Cal g (d + 2) m_State_bestReadySkill [sh_r S, sh_r B] mem Q := by
  apply v_State_bestReadySkill hS hB
  exact l_State_bestReadySkill hS hB hI hb h (b_nt b) 0 (by omega)
/-! as it begins -/
def zrR (c : Nat → Int) (n : Nat) : Nat → Int := fun k => if k < n then 0 else c k
def bgR (b : Bk) (c : Nat → Int) (n : Nat) : Nat → Int := fun k => if k < 8 then (if k < n then b_wo b k else 0) else if k < 16 then (if k - 8 < n then b_gu b (k - 8) else 0) else if k < 45 then 0 else c k
def beginR (b : Bk) (c : Nat → Int) : Nat → Int := fun k => if k < 45 then freshR b k else c k
theorem l_State_begin_23 {g : sh_G} {d S B : Nat} {b : Bk} {c : Nat → Int} {mem0 : sh_Mem} {Q : Option sh_V → sh_Mem → Prop} (hS : ob8 S) (hB : ob0 B) (hb : CB mem0 B b) (h : Q none (ms mem0 (S + 1) (beginR b c))) : ∀ (k x2 : Nat), x2 + k = b_nd b →
    sh_X g d m_State_begin 23 [(0, sh_r S), (1, sh_r B), (2, sh_i (x2 : Int))] [] (ms mem0 (S + 1) (bgR b c x2)) (sh_K m_State_begin Q) := by
  have k1 := hb.1.1
  intro k
  induction k with
  | zero =>
    intro x2 hx
    have hcb := CB_ms (r := bgR b c x2) hb hS hB
    apply v_State_begin_23 hS hB
    rw [hcb.2.1, i3n (by omega), i3n (by omega)]
    refine ⟨fun _ => ?_, fun q => absurd (by omega) q⟩
    have e : bgR b c x2 = beginR b c := by funext j; unfold bgR beginR freshR; grind
    rw [e]; exact h
  | succ k ih =>
    intro x2 hx
    have hx' : x2 < b_nd b := by omega
    have hcb := CB_ms (r := bgR b c x2) hb hS hB
    have n3 := ob8_ne hS hB (k := 3) (by omega)
    have n4 := ob8_ne hS hB (k := 4) (by omega)
    have h4 := hb.2.2.2.1 x2 hx'
    apply v_State_begin_23 hS hB
    rw [hcb.2.1, i3n (by omega), i3n (by omega)]
    refine ⟨fun q => absurd q (by omega), fun _ => ⟨by omega, by omega, ?_⟩⟩
    rintro _ rfl
    refine ⟨by omega, by omega, ?_⟩
    rintro _ rfl
    simp only [ms_ms, ms_s, ms_n _ _ n3, ms_n _ _ n4, h4.2.1, h4.2.2]
    have e : ru (ru (bgR b c x2) x2 (b_wo b x2)) (8 + x2) (b_gu b x2) = bgR b c (x2 + 1) := by
      funext j; unfold ru bgR
      by_cases e1 : j = 8 + x2
      · subst e1; have : 8 + x2 - 8 = x2 := by omega
        grind
      · grind
    rw [e]
    exact ih (x2 + 1) (by omega)
theorem l_State_begin_2 {g : sh_G} {d S B : Nat} {b : Bk} {c : Nat → Int} {mem0 : sh_Mem} {Q : Option sh_V → sh_Mem → Prop} (hS : ob8 S) (hB : ob0 B) (hb : CB mem0 B b) (h : Q none (ms mem0 (S + 1) (beginR b c))) : ∀ (k x2 : Nat), x2 + k = 45 →
    sh_X g d m_State_begin 2 [(0, sh_r S), (1, sh_r B), (2, sh_i (x2 : Int))] [] (ms mem0 (S + 1) (zrR c x2)) (sh_K m_State_begin Q) := by
  intro k
  induction k with
  | zero =>
    intro x2 hx
    apply v_State_begin_2 hS hB
    rw [i3n (by omega)]
    refine ⟨fun _ => ?_, fun q => absurd (by omega) q⟩
    have e : zrR c x2 = bgR b c 0 := by funext j; unfold zrR bgR; grind
    rw [e]
    exact l_State_begin_23 hS hB hb h (b_nd b) 0 (by omega)
  | succ k ih =>
    intro x2 hx
    apply v_State_begin_2 hS hB
    rw [i3n (by omega)]
    refine ⟨fun q => absurd q (by omega), fun _ => ⟨by omega, ?_⟩⟩
    rintro _ rfl
    simp only [ms_ms, ms_s]
    have e : ru (zrR c x2) x2 0 = zrR c (x2 + 1) := by funext j; unfold ru zrR; grind
    rw [e]
    exact ih (x2 + 1) (by omega)
theorem s_State_begin {g : sh_G} {d : Nat} {mem : sh_Mem} {Q : Option sh_V → sh_Mem → Prop} {S B : Nat} {b : Bk} (hS : ob8 S) (hB : ob0 B) (hb : CB mem B b) (h : Q (none) (ms mem (S + 1) (beginR b (mem (S + 1))))) : sh_Cal g d m_State_begin [sh_r S, sh_r B] mem Q := by
  apply v_State_begin hS hB
  have q := l_State_begin_2 (g := g) (d := d) (c := mem (S + 1)) hS hB hb h 45 0 (by omega)
  have e : zrR (mem (S + 1)) 0 = mem (S + 1) := by funext j; unfold zrR; grind
  rw [e, ms_id] at q
  exact q
