/-! ===== the class's State ===== -/
theorem s_State_hasPiece {g : sh_G} {d : Nat} {mem : sh_Mem} {Q : Option sh_V → sh_Mem → Prop} {S t : Nat} (hS : ob8 S) (ht : t < 4) (hc : 0 ≤ mem (S + 1) (16 + t) ∧ mem (S + 1) (16 + t) ≤ 12) (h : Q (some (sh_i (if 0 < mem (S + 1) (16 + t) then 1 else 0))) (mem)) : sh_Cal g d m_State_hasPiece [sh_r S, sh_i t] mem Q := by
  apply v_State_hasPiece hS
  rw [i3s (by omega) (by omega)]
  grind
theorem s_State_isReady {g : sh_G} {d : Nat} {mem : sh_Mem} {Q : Option sh_V → sh_Mem → Prop} {S t : Nat} {b : Bk} (hS : ob8 S) (hI : Inv b (mem (S + 1))) (ht : t < b_nt b) (hb : BkOk b) (h : Q (some (sh_i (if mem (S + 1) (28 + t) = 0 ∧ mem (S + 1) (16 + t) = 0 then 1 else 0))) (mem)) : sh_Cal g (d + 1) m_State_isReady [sh_r S, sh_i t] mem Q := by
  have hI3 := hI.2.2.1 t ht
  have h4 := hb.2.1
  apply v_State_isReady hS
  rw [i3s (x := mem (S + 1) (28 + t)) (by omega) (by omega)]
  refine ⟨by omega, fun c => ?_, fun c => s_State_hasPiece hS (by omega) (by omega) ⟨_, rfl, ?_⟩⟩
  · grind
  · rw [i3s (by split <;> omega) (by split <;> omega)]
    grind
theorem s_State_canTake {g : sh_G} {d : Nat} {mem : sh_Mem} {Q : Option sh_V → sh_Mem → Prop} {S t e : Nat} {b : Bk} (hS : ob8 S) (hI : Inv b (mem (S + 1))) (ht : t < b_nt b) (he : e < b_nd b) (hb : BkOk b) (h : Q (some (sh_i (if mem (S + 1) (28 + t) = 0 ∧ mem (S + 1) (16 + t) = 0 ∧ 0 < mem (S + 1) e then 1 else 0))) (mem)) : sh_Cal g (d + 2) m_State_canTake [sh_r S, sh_i t, sh_i e] mem Q := by
  have hI1 := hI.1 e he
  have h4 := hb.1
  have h5 := (hb.2.2.1 e he)
  apply v_State_canTake hS
  refine s_State_isReady hS hI ht hb ⟨_, rfl, ?_⟩
  rw [i3s (x := mem (S + 1) e) (by omega) (by omega), i3s (by split <;> omega) (by split <;> omega)]
  grind
theorem s_State_canPart {g : sh_G} {d : Nat} {mem : sh_Mem} {Q : Option sh_V → sh_Mem → Prop} {S t : Nat} {b : Bk} (hS : ob8 S) (hI : Inv b (mem (S + 1))) (ht : t < b_nt b) (hb : BkOk b) (h : Q (some (sh_i (if mem (S + 1) (28 + t) = 0 ∧ 0 < mem (S + 1) (16 + t) then 1 else 0))) (mem)) : sh_Cal g (d + 1) m_State_canPart [sh_r S, sh_i t] mem Q := by
  have hI3 := hI.2.2.1 t ht
  have h4 := hb.2.1
  apply v_State_canPart hS
  rw [i3s (x := mem (S + 1) (28 + t)) (by omega) (by omega)]
  refine ⟨by omega, fun c => ?_, fun c => s_State_hasPiece hS (by omega) (by omega) ⟨_, rfl, ?_⟩⟩
  · grind
  · rw [i3s (by split <;> omega) (by split <;> omega)]
    grind
theorem s_State_canTrade {g : sh_G} {d : Nat} {mem : sh_Mem} {Q : Option sh_V → sh_Mem → Prop} {S t u : Nat} {b : Bk} (hS : ob8 S) (hI : Inv b (mem (S + 1))) (ht : t < b_nt b) (hu : u < b_nt b) (hb : BkOk b) (h : Q (some (sh_i (if t ≠ u ∧ (mem (S + 1) (28 + t) = 0 ∧ 0 < mem (S + 1) (16 + t)) ∧ mem (S + 1) (28 + u) = 0 ∧ 0 < mem (S + 1) (16 + u) then 1 else 0))) (mem)) : sh_Cal g (d + 2) m_State_canTrade [sh_r S, sh_i t, sh_i u] mem Q := by
  have h4 := hb.2.1
  apply v_State_canTrade hS
  rw [i3n (by omega), i3n (by omega)]
  refine ⟨fun c => ?_, fun c => s_State_canPart hS hI ht hb ⟨_, rfl, ?_⟩⟩
  · grind
  · rw [i3s (by split <;> omega) (by split <;> omega)]
    refine ⟨fun c => ?_, fun c => s_State_canPart hS hI hu hb ⟨_, rfl, ?_⟩⟩
    · grind
    · rw [i3s (by split <;> omega) (by split <;> omega)]
      grind
theorem s_State_bagged {g : sh_G} {d : Nat} {mem : sh_Mem} {Q : Option sh_V → sh_Mem → Prop} {S B t e : Nat} {b : Bk} (hS : ob8 S) (hB : ob0 B) (hI : Inv b (mem (S + 1))) (hb : CB mem B b) (ht : t < b_nt b) (he : e < b_nd b) (h : Q (some (sh_i (bag b (mem (S + 1)) t e))) (mem)) : sh_Cal g (d + 3) m_State_bagged [sh_r S, sh_r B, sh_i t, sh_i e] mem Q := by
  obtain ⟨hk, h2, h3, h4, h5⟩ := hb
  have k1 := hk.1
  have k2 := hk.2.1
  have k3 := hk.2.2.1 e he
  have k4 := hk.2.2.2.1 t ht
  have hI1 := hI.1 e he
  obtain ⟨e1, e2⟩ := h5 t ht
  apply v_State_bagged hS hB
  refine s_State_canTake hS hI ht he hk ⟨_, rfl, ?_⟩
  rw [i3s (by split <;> omega) (by split <;> omega), e1, e2, i3s (x := mem (S + 1) e) (by omega) (by omega), i3s (x := mem (S + 1) (8 + e)) (by omega) (by omega), i3s (x := b_sk b t) (by omega) (by omega), i3s (x := b_sa b t) (by omega) (by omega)]
  unfold bag at h
  refine ⟨fun c => ?_, fun c => ⟨by omega, by omega, fun c2 => ⟨by omega, by omega, ?_⟩, fun c2 => ?_⟩⟩
  · grind
  · grind
  · grind
theorem s_State_exchange {g : sh_G} {d : Nat} {mem : sh_Mem} {Q : Option sh_V → sh_Mem → Prop} {S a c : Nat} (hS : ob8 S) (ha : a < 45) (hc : c < 45) (h : Q (none) (ms mem (S + 1) (xch (mem (S + 1)) a c))) : sh_Cal g d m_State_exchange [sh_r S, sh_i a, sh_i c] mem Q := by
  apply v_State_exchange hS
  refine ⟨ha, hc, ha, ?_⟩
  rintro _ rfl
  refine ⟨hc, ?_⟩
  rintro _ rfl
  simpa only [ms_ms, ms_s, xch] using h
theorem s_State_trade {g : sh_G} {d : Nat} {mem : sh_Mem} {Q : Option sh_V → sh_Mem → Prop} {S t u : Nat} (hS : ob8 S) (ht : t < 4) (hu : u < 4) (h : Q (none) (ms mem (S + 1) (tradeR (mem (S + 1)) t u))) : sh_Cal g (d + 1) m_State_trade [sh_r S, sh_i t, sh_i u] mem Q := by
  apply v_State_trade hS
  refine s_State_exchange hS (by omega) (by omega) ⟨rfl, s_State_exchange hS (by omega) (by omega) ⟨rfl, s_State_exchange hS (by omega) (by omega) ⟨rfl, ?_⟩⟩⟩
  simpa only [ms_ms, ms_s, tradeR] using h
theorem s_State_take {g : sh_G} {d : Nat} {mem : sh_Mem} {Q : Option sh_V → sh_Mem → Prop} {S B t e : Nat} {b : Bk} (hS : ob8 S) (hB : ob0 B) (hI : Inv b (mem (S + 1))) (hb : CB mem B b) (ht : t < b_nt b) (he : e < b_nd b) (h : Q (some (sh_i (bag b (mem (S + 1)) t e))) (ms mem (S + 1) (takeR b (mem (S + 1)) t e))) : sh_Cal g (d + 4) m_State_take [sh_r S, sh_r B, sh_i t, sh_i e] mem Q := by
  have hb0 := hb
  obtain ⟨hk, h2, h3, h4, h5⟩ := hb
  have k1 := hk.1
  have k2 := hk.2.1
  have k3 := hk.2.2.1 e he
  have k4 := hk.2.2.2.1 t ht
  have hI1 := hI.1 e he
  obtain ⟨e1, e2⟩ := h5 t ht
  have hbg : 0 ≤ bag b (mem (S + 1)) t e ∧ bag b (mem (S + 1)) t e ≤ 12 := by unfold bag; split <;> omega
  apply v_State_take hS hB
  refine s_State_bagged hS hB hI hb0 ht he ⟨_, rfl, by omega, ?_⟩
  have n2 := ob8_ne hS hB (k := 2) (by omega)
  have n6 := ob8_ne hS hB (k := 6) (by omega)
  rw [i3s (x := bag b (mem (S + 1)) t e) (by omega) (by omega)]
  unfold takeR at h
  refine ⟨fun c => ⟨by omega, by omega, ?_⟩, fun c => ⟨by omega, ?_⟩⟩
  · rintro _ rfl
    refine ⟨by omega, ?_⟩
    rintro _ rfl
    rw [if_neg (by omega)] at h
    simp only [ms_ms, ms_s, e1]
    rw [i3s (x := mem (S + 1) (8 + e) + 1) (by omega) (by omega), show i3 9 = 9 from rfl]
    have e9 : (if mem (S + 1) (8 + e) + 1 < 9 then mem (S + 1) (8 + e) + 1 else (9 : Int)) = min 9 (mem (S + 1) (8 + e) + 1) := by split <;> omega
    rw [e9]
    exact h
  · rintro _ rfl
    refine ⟨by omega, by omega, ?_⟩
    rintro _ rfl
    refine ⟨by omega, ?_⟩
    rintro _ rfl
    refine ⟨by omega, by omega, ?_⟩
    rintro _ rfl
    refine ⟨by omega, ?_⟩
    rintro _ rfl
    rw [if_pos (by omega)] at h
    simp only [ms_ms, ms_s, ms_n _ _ n2]
    rw [(h4 e he).1, i3s (x := mem (S + 1) (8 + e) + 2) (by omega) (by omega), show i3 9 = 9 from rfl]
    have e9 : (if mem (S + 1) (8 + e) + 2 < 9 then mem (S + 1) (8 + e) + 2 else (9 : Int)) = min 9 (mem (S + 1) (8 + e) + 2) := by split <;> omega
    rw [e9, ru_n _ _ (by omega), ru_n _ _ (by omega), ru_n _ _ (by omega)]
    exact h
theorem s_State_enjoy {g : sh_G} {d : Nat} {mem : sh_Mem} {Q : Option sh_V → sh_Mem → Prop} {S t : Nat} {b : Bk} (hS : ob8 S) (hI : Inv b (mem (S + 1))) (ht : t < b_nt b) (hb : BkOk b) (h : Q (some (sh_i (joyV (mem (S + 1)) t))) (ms mem (S + 1) (enjoyR (mem (S + 1)) t))) : sh_Cal g (d + 1) m_State_enjoy [sh_r S, sh_i t] mem Q := by
  have hI3 := hI.2.2.1 t ht
  have h4 := hb.2.1
  apply v_State_enjoy hS
  refine ⟨by omega, by omega, by omega, by omega, ?_⟩
  rintro _ rfl
  refine ⟨by omega, ?_⟩
  rintro _ rfl
  refine ⟨by omega, ?_⟩
  rintro _ rfl
  rw [show i3 0 = 0 from rfl, i3s (x := mem (S + 1) (16 + t) - mem (S + 1) (32 + t)) (by omega) (by omega)]
  have e9 : (if 0 < mem (S + 1) (16 + t) - mem (S + 1) (32 + t) then mem (S + 1) (16 + t) - mem (S + 1) (32 + t) else (0 : Int)) = joyV (mem (S + 1)) t := by unfold joyV; split <;> omega
  rw [e9]
  simpa only [ms_ms, ms_s, enjoyR] using h
theorem s_State_leftBehind {g : sh_G} {d : Nat} {mem : sh_Mem} {Q : Option sh_V → sh_Mem → Prop} {S B e : Nat} {n : Int} {b : Bk} (hS : ob8 S) (hB : ob0 B) (hI1 : InvD b (mem (S + 1)) e) (hb : CB mem B b) (he : e < b_nd b) (hn : 0 ≤ n ∧ n ≤ 1000) (h : Q (some (sh_i (min (b_wo b e) (mem (S + 1) e + n)))) (mem)) : sh_Cal g (d + 1) m_State_leftBehind [sh_r S, sh_r B, sh_i e, sh_i n] mem Q := by
  obtain ⟨hk, h2, h3, h4, h5⟩ := hb
  have k1 := hk.1
  have k3 := hk.2.2.1 e he
  obtain ⟨i1, i2, i3x, i4⟩ := hI1
  apply v_State_leftBehind hS hB
  rw [(h4 e he).2.1, i3s (by omega) (by omega), i3s (by omega) (by omega)]
  refine ⟨by omega, by omega, ?_⟩
  have e9 : (if mem (S + 1) e + n < b_wo b e then mem (S + 1) e + n else b_wo b e) = min (b_wo b e) (mem (S + 1) e + n) := by split <;> omega
  rw [e9]; exact h
theorem s_State_guardBehind {g : sh_G} {d : Nat} {mem : sh_Mem} {Q : Option sh_V → sh_Mem → Prop} {S B e : Nat} {n : Int} {b : Bk} (hS : ob8 S) (hB : ob0 B) (hI1 : InvD b (mem (S + 1)) e) (hb : CB mem B b) (he : e < b_nd b) (hn : 0 ≤ n ∧ n ≤ 1000) (h : Q (some (sh_i (max (b_gu b e) (mem (S + 1) (8 + e) - n)))) (mem)) : sh_Cal g (d + 1) m_State_guardBehind [sh_r S, sh_r B, sh_i e, sh_i n] mem Q := by
  obtain ⟨hk, h2, h3, h4, h5⟩ := hb
  have k1 := hk.1
  have k3 := hk.2.2.1 e he
  obtain ⟨i1, i2, i3x, i4⟩ := hI1
  apply v_State_guardBehind hS hB
  rw [(h4 e he).2.2, i3s (by omega) (by omega), i3s (by omega) (by omega)]
  refine ⟨by omega, by omega, ?_⟩
  have e9 : (if b_gu b e < mem (S + 1) (8 + e) - n then mem (S + 1) (8 + e) - n else b_gu b e) = max (b_gu b e) (mem (S + 1) (8 + e) - n) := by split <;> omega
  rw [e9]; exact h
theorem s_State_relaxed {g : sh_G} {d : Nat} {mem : sh_Mem} {Q : Option sh_V → sh_Mem → Prop} {x y : Int} (hx : 0 ≤ x ∧ x ≤ 1000) (hy : 0 ≤ y ∧ y ≤ 1000) (h : Q (some (sh_i (if y < x then x - 1 else x))) (mem)) : sh_Cal g d m_State_relaxed [sh_i x, sh_i y] mem Q := by
  apply v_State_relaxed
  rw [i3s (by omega) (by omega), i3s (by omega) (by omega)]
  grind
theorem s_State_isFreeBehind {g : sh_G} {d : Nat} {mem : sh_Mem} {Q : Option sh_V → sh_Mem → Prop} {S t : Nat} {n : Int} {b : Bk} (hS : ob8 S) (hI : Inv b (mem (S + 1))) (ht : t < b_nt b) (hb : BkOk b) (hn : 0 ≤ n ∧ n ≤ 1000) (h : Q (some (sh_i (if mem (S + 1) (28 + t) ≤ n then 1 else 0))) (mem)) : sh_Cal g d m_State_isFreeBehind [sh_r S, sh_i t, sh_i n] mem Q := by
  have hI3 := hI.2.2.1 t ht
  have h4 := hb.2.1
  apply v_State_isFreeBehind hS
  rw [i3s (by omega) (by omega), i3s (by omega) (by omega)]
  grind
/-- open to one, behind so many nights -/
def opnB (b : Bk) (c : Nat → Int) (t e : Nat) (n : Int) : Prop := c (28 + t) ≤ n ∧ 0 < min (b_wo b e) (c e + n) ∧ max (b_gu b e) (c (8 + e) - n) ≤ b_sk b t
theorem s_State_spoiled {g : sh_G} {d : Nat} {mem : sh_Mem} {Q : Option sh_V → sh_Mem → Prop} {s m o : Int} (hs : 0 ≤ s ∧ s ≤ 3) (hm : 0 ≤ m ∧ m ≤ 1000) (h : Q (some (sh_i (spo s m o))) (mem)) : sh_Cal g d m_State_spoiled [sh_i s, sh_i m, sh_i o] mem Q := by
  apply v_State_spoiled
  rw [i3s (x := s) (by omega) (by omega), i_div2 (by omega) (by omega)]
  unfold spo at h
  grind
