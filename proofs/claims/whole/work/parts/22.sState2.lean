/-! ===== the class's State: loops ===== -/
theorem spo_rng {s m o : Int} (hm : 0 < m ∧ m ≤ 12) : 0 ≤ spo s m o ∧ spo s m o ≤ m := by unfold spo; grind
theorem mbF_rng (s : Int) : ∀ (n : Nat) (m o : Int), 0 ≤ m ∧ m ≤ 12 → 0 ≤ mbF s m o n ∧ mbF s m o n ≤ 12
  | 0, m, o, h => h
  | n + 1, m, o, h => by
    unfold mbF
    split
    · exact mbF_rng s n _ _ (by unfold spo; grind)
    · exact h
theorem l_State_muchBehind {g : sh_G} {d S t n : Nat} {mem : sh_Mem} {Q : Option sh_V → sh_Mem → Prop} (hS : ob8 S) (ht : t < 4) (hn : n ≤ 1000) : ∀ (k x5 : Nat) (m o : Int), x5 + k = n → 0 ≤ m ∧ m ≤ 12 → (0 < m → 0 ≤ mem (S + 1) (20 + t) ∧ mem (S + 1) (20 + t) ≤ 3) → Q (some (sh_i (mbF (mem (S + 1) (20 + t)) m o k))) mem →
    sh_X g (d + 1) m_State_muchBehind 24 [(0, sh_r S), (1, sh_i (t : Int)), (2, sh_i (n : Int)), (3, sh_i m), (4, sh_i o), (5, sh_i (x5 : Int))] [] mem (sh_K m_State_muchBehind Q) := by
  intro k
  induction k with
  | zero =>
    intro x5 m o hx hm hs h
    apply v_State_muchBehind_24 hS
    rw [i3n (x := n) (by omega), i3n (x := x5) (by omega)]
    exact ⟨fun _ => h, fun c => absurd (by omega) c⟩
  | succ k ih =>
    intro x5 m o hx hm hs h
    apply v_State_muchBehind_24 hS
    rw [i3n (x := n) (by omega), i3n (x := x5) (by omega), i3s (x := m) (by omega) (by omega)]
    refine ⟨fun c => absurd c (by omega), fun _ => ⟨fun c => ?_, fun c => ⟨by omega, s_State_spoiled (hs (by omega)) (by omega) ⟨_, rfl, ih (x5 + 1) _ _ (by omega) ?_ ?_ ?_⟩⟩⟩⟩
    · rw [mbF, if_neg (by omega)] at h; exact h
    · have := spo_rng (s := mem (S + 1) (20 + t)) (o := o + 1) (m := m) (by omega); omega
    · exact fun _ => hs (by omega)
    · rw [mbF, if_pos (by omega)] at h; exact h
theorem s_State_muchBehind {g : sh_G} {d : Nat} {mem : sh_Mem} {Q : Option sh_V → sh_Mem → Prop} {S t n : Nat} {b : Bk} (hS : ob8 S) (hI3 : InvT (mem (S + 1)) t) (ht : t < b_nt b) (hb : BkOk b) (hn : n ≤ 1000) (h : Q (some (sh_i (mbF (mem (S + 1) (20 + t)) (mem (S + 1) (16 + t)) (mem (S + 1) (24 + t)) n))) (mem)) : sh_Cal g (d + 1) m_State_muchBehind [sh_r S, sh_i t, sh_i (n : Int)] mem Q := by
  obtain ⟨i1, i2, i3x, i4, i5, i6, i7⟩ := id hI3
  have h4 := hb.2.1
  apply v_State_muchBehind hS
  exact ⟨by omega, by omega, l_State_muchBehind hS (by omega) hn n 0 _ _ (by omega) (by omega) i7 h⟩
theorem s_State_guiltBehind {g : sh_G} {d : Nat} {mem : sh_Mem} {Q : Option sh_V → sh_Mem → Prop} {S t : Nat} {n : Int} {b : Bk} (hS : ob8 S) (hI3 : InvT (mem (S + 1)) t) (ht : t < b_nt b) (hb : BkOk b) (hn : 0 ≤ n ∧ n ≤ 1000) (hp : 0 < mem (S + 1) (16 + t)) (h : Q (some (sh_i (gbF (mem (S + 1)) t n))) (mem)) : sh_Cal g (d + 1) m_State_guiltBehind [sh_r S, sh_i t, sh_i n] mem Q := by
  obtain ⟨i1, i2, i3x, i4, i5, i6, i7⟩ := id hI3
  have h4 := hb.2.1
  have h9 := i7 hp
  apply v_State_guiltBehind hS
  rw [i3s (x := mem (S + 1) (20 + t)) (by omega) (by omega), i3s (x := mem (S + 1) (32 + t) + n) (by omega) (by omega), show i3 9 = 9 from rfl]
  unfold gbF at h
  refine ⟨by omega, by omega, fun c => ?_, fun c => ?_⟩
  · rw [if_neg c] at h; exact h
  · rw [if_pos c] at h
    have e9 : (if mem (S + 1) (32 + t) + n < 9 then mem (S + 1) (32 + t) + n else (9 : Int)) = min 9 (mem (S + 1) (32 + t) + n) := by split <;> omega
    rw [e9]; exact h
theorem s_State_joyBehind {g : sh_G} {d : Nat} {mem : sh_Mem} {Q : Option sh_V → sh_Mem → Prop} {S t n : Nat} {b : Bk} (hS : ob8 S) (hI3 : InvT (mem (S + 1)) t) (ht : t < b_nt b) (hb : BkOk b) (hn : n ≤ 1000) (hp : 0 < mem (S + 1) (16 + t)) (h : Q (some (sh_i (max 0 (mbF (mem (S + 1) (20 + t)) (mem (S + 1) (16 + t)) (mem (S + 1) (24 + t)) n - gbF (mem (S + 1)) t n)))) (mem)) : sh_Cal g (d + 2) m_State_joyBehind [sh_r S, sh_i t, sh_i (n : Int)] mem Q := by
  obtain ⟨i1, i2, i3x, i4, i5, i6, i7⟩ := id hI3
  have hm := mbF_rng (mem (S + 1) (20 + t)) n (mem (S + 1) (16 + t)) (mem (S + 1) (24 + t)) (by omega)
  have hg : 0 ≤ gbF (mem (S + 1)) t n ∧ gbF (mem (S + 1)) t n ≤ 9 := by unfold gbF; split <;> omega
  apply v_State_joyBehind hS
  refine s_State_muchBehind hS hI3 ht hb hn ⟨_, rfl, s_State_guiltBehind hS hI3 ht hb (by omega) hp ⟨_, rfl, ?_⟩⟩
  rw [show i3 0 = 0 from rfl, i3s (by omega) (by omega)]
  generalize mbF (mem (S + 1) (20 + t)) (mem (S + 1) (16 + t)) (mem (S + 1) (24 + t)) n = x at *
  generalize gbF (mem (S + 1)) t n = y at *
  have e9 : (if 0 < x - y then x - y else (0 : Int)) = max 0 (x - y) := by split <;> omega
  rw [e9]; exact h
theorem s_State_isOpenBehind {g : sh_G} {d : Nat} {mem : sh_Mem} {Q : Option sh_V → sh_Mem → Prop} {S B t e : Nat} {n : Int} {b : Bk} (hS : ob8 S) (hB : ob0 B) (hI : Inv b (mem (S + 1))) (hb : CB mem B b) (ht : t < b_nt b) (he : e < b_nd b) (hn : 0 ≤ n ∧ n ≤ 1000) (h : (opnB b (mem (S + 1)) t e n → Q (some (sh_i 1)) mem) ∧ (¬ opnB b (mem (S + 1)) t e n → Q (some (sh_i 0)) mem)) : sh_Cal g (d + 2) m_State_isOpenBehind [sh_r S, sh_r B, sh_i t, sh_i e, sh_i n] mem Q := by
  have hb0 := hb
  obtain ⟨hk, h2, h3, h4, h5⟩ := hb
  have k1 := hk.1
  have k2 := hk.2.1
  have k3 := hk.2.2.1 e he
  have k4 := hk.2.2.2.1 t ht
  have hI1 := hI.1 e he
  obtain ⟨e1, e2⟩ := h5 t ht
  unfold opnB at h
  apply v_State_isOpenBehind hS hB
  refine s_State_isFreeBehind hS hI ht hk hn ⟨_, rfl, ?_⟩
  rw [i3s (by split <;> omega) (by split <;> omega)]
  refine ⟨fun c => ?_, fun c => s_State_leftBehind hS hB hI1 hb0 he hn ⟨_, rfl, ?_⟩⟩
  · apply h.2; grind
  · rw [i3s (by omega) (by omega)]
    refine ⟨fun c2 => ?_, fun c2 => ⟨by omega, s_State_guardBehind hS hB hI1 hb0 he hn ⟨_, rfl, ?_⟩⟩⟩
    · apply h.2; grind
    · rw [e1, i3s (by omega) (by omega), i3s (by omega) (by omega)]
      refine ⟨fun c3 => h.2 ?_, fun c3 => h.1 ?_⟩
      · grind
      · grind
/-! a night -/
/-- a night, of the first n thieves -/
def sleepT (b : Bk) (c : Nat → Int) (n : Nat) : Nat → Int := fun k =>
  if 16 ≤ k ∧ k < 20 ∧ k - 16 < n then sleepR b c k else if 24 ≤ k ∧ k < 28 ∧ k - 24 < n then sleepR b c k else if 28 ≤ k ∧ k < 32 ∧ k - 28 < n then sleepR b c k else if 32 ≤ k ∧ k < 36 ∧ k - 32 < n then sleepR b c k else c k
/-- .. of all thieves and the first n days -/
def sleepD (b : Bk) (c : Nat → Int) (n : Nat) : Nat → Int := fun k =>
  if k < 8 then (if k < n then sleepR b c k else c k) else if k < 16 then (if k - 8 < n then sleepR b c k else c k) else if k = 44 then c k else sleepR b c k
theorem sleepT_0 (b : Bk) (c : Nat → Int) : sleepT b c 0 = c := by funext k; unfold sleepT; grind
theorem sleepT_no (b : Bk) (c : Nat → Int) {x : Nat} (hx : x < b_nt b) (h4 : b_nt b ≤ 4) (hp : c (16 + x) = 0) : ru (sleepT b c x) (28 + x) (max 0 (c (28 + x) - 1)) = sleepT b c (x + 1) := by
  funext k; unfold ru sleepT sleepR
  by_cases e1 : k = 28 + x
  · subst e1; grind
  · by_cases e2 : k = 16 + x
    · subst e2; grind
    · by_cases e3 : k = 24 + x
      · subst e3; have : 24 + x - 8 = 16 + x := by omega
        grind
      · by_cases e4 : k = 32 + x
        · subst e4; have : 32 + x - 16 = 16 + x := by omega
          grind
        · grind
theorem sleepT_yes (b : Bk) (c : Nat → Int) {x : Nat} (hx : x < b_nt b) (h4 : b_nt b ≤ 4) (hp : 0 < c (16 + x)) : ru (ru (ru (ru (sleepT b c x) (32 + x) (gbF c x 1)) (16 + x) (spo (c (20 + x)) (c (16 + x)) (c (24 + x) + 1))) (24 + x) (c (24 + x) + 1)) (28 + x) (max 0 (c (28 + x) - 1)) = sleepT b c (x + 1) := by
  funext k; unfold ru sleepT sleepR gbF
  by_cases e1 : k = 28 + x
  · subst e1; grind
  · by_cases e2 : k = 16 + x
    · subst e2
      have a1 : 16 + x + 4 = 20 + x := by omega
      have a2 : 16 + x + 8 = 24 + x := by omega
      rw [a1, a2]
      grind
    · by_cases e3 : k = 24 + x
      · subst e3; have : 24 + x - 8 = 16 + x := by omega
        grind
      · by_cases e4 : k = 32 + x
        · subst e4
          have a1 : 32 + x - 16 = 16 + x := by omega
          have a2 : 32 + x - 12 = 20 + x := by omega
          rw [a1, a2]
          grind
        · grind
theorem sleepD_0 (b : Bk) (c : Nat → Int) (h4 : b_nt b ≤ 4) : sleepT b c (b_nt b) = sleepD b c 0 := by
  funext k; unfold sleepD sleepT sleepR; grind
theorem sleepD_s (b : Bk) (c : Nat → Int) {x : Nat} (hx : x < b_nd b) (h8 : b_nd b ≤ 8) : ru (ru (sleepD b c x) x (min (b_wo b x) (c x + 1))) (8 + x) (max (b_gu b x) (c (8 + x) - 1)) = sleepD b c (x + 1) := by
  funext k; unfold ru sleepD sleepR
  by_cases e1 : k = 8 + x
  · subst e1; have : 8 + x - 8 = x := by omega
    grind
  · by_cases e2 : k = x
    · subst e2; grind
    · grind
theorem sleepD_n (b : Bk) (c : Nat → Int) (h8 : b_nd b ≤ 8) : ru (sleepD b c (b_nd b)) 44 (c 44 + 1) = sleepR b c := by
  funext k; unfold ru sleepD sleepR; grind
