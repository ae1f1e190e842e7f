/-! ===== watch ===== -/
/-- the most that one can take who can, but from one day: days x.. of a thief -/
def mb1 (b : Bk) (c : Nat → Int) (but : Int) (t : Nat) : Nat → Nat → Int → Int
  | 0, _, acc => acc
  | n + 1, x, acc => if (x : Int) = but then mb1 b c but t n (x + 1) acc
      else if (decide (c (28 + t) = 0 ∧ c (16 + t) = 0) && opnM b c t x) = true then mb1 b c but t n (x + 1) (max acc (hauM b c t x)) else mb1 b c but t n (x + 1) acc
def mb2 (b : Bk) (c : Nat → Int) (but : Int) : Nat → Nat → Int → Int
  | 0, _, acc => acc
  | n + 1, t, acc => mb2 b c but n (t + 1) (mb1 b c but t (b_nd b) 0 acc)
theorem hauM_rng {b : Bk} (hb : BkOk b) {c : Nat → Int} (hI : Inv b c) {t e : Nat} (ht : t < b_nt b) (he : e < b_nd b) : 0 ≤ hauM b c t e ∧ hauM b c t e ≤ 12 := by
  have := hb.2.2.2.1 t ht; have := hI.1 e he; unfold hauM; split <;> omega
theorem mb1_rng {b : Bk} (hb : BkOk b) {c : Nat → Int} (hI : Inv b c) (but : Int) {t : Nat} (ht : t < b_nt b) : ∀ (n x : Nat) (acc : Int), x + n ≤ b_nd b → 0 ≤ acc ∧ acc ≤ 12 → 0 ≤ mb1 b c but t n x acc ∧ mb1 b c but t n x acc ≤ 12
  | 0, _, acc, _, h => h
  | n + 1, x, acc, hx, h => by
    have hh := hauM_rng hb hI ht (show x < b_nd b by omega)
    unfold mb1
    split
    · exact mb1_rng hb hI but ht n (x + 1) acc (by omega) h
    · split
      · exact mb1_rng hb hI but ht n (x + 1) _ (by omega) (by omega)
      · exact mb1_rng hb hI but ht n (x + 1) acc (by omega) h
theorem mb2_rng {b : Bk} (hb : BkOk b) {c : Nat → Int} (hI : Inv b c) (but : Int) : ∀ (n t : Nat) (acc : Int), t + n ≤ b_nt b → 0 ≤ acc ∧ acc ≤ 12 → 0 ≤ mb2 b c but n t acc ∧ mb2 b c but n t acc ≤ 12
  | 0, _, acc, _, h => h
  | n + 1, t, acc, ht, h => by
    unfold mb2
    exact mb2_rng hb hI but n (t + 1) _ (by omega) (mb1_rng hb hI but (by omega) _ 0 acc (by omega) h)
theorem l_mostBut_17 {g : sh_G} {d t : Nat} {but : Int} {b : Bk} {c : Nat → Int} {m : sh_Mem} {Q : Option sh_V → sh_Mem → Prop} (hR : EQ (m 129) c) (hI : Inv b c) (hb : MB m b) (ht : t < b_nt b) (hbut : i3 but = but) : ∀ (k x : Nat) (acc : Int), x + k = b_nd b → 0 ≤ acc ∧ acc ≤ 12 → sh_X g (d + 3) m_Mod_mostBut 4 [(0, sh_r 96), (1, sh_i but), (2, sh_i (mb1 b c but t k x acc)), (3, sh_i ((t + 1 : Nat) : Int))] [] m (sh_K m_Mod_mostBut Q) →
    sh_X g (d + 3) m_Mod_mostBut 17 [(0, sh_r 96), (1, sh_i but), (2, sh_i acc), (3, sh_i (t : Int)), (4, sh_i (x : Int))] [] m (sh_K m_Mod_mostBut Q) := by
  have k1 := hb.1.1
  have k2 := hb.1.2.1
  intro k
  induction k with
  | zero =>
    intro x acc hx hacc h
    obtain rfl : x = b_nd b := by omega
    apply v_Mod_mostBut_17
    rw [hb.2.1]
    exact ⟨fun _ => h, fun q => absurd (by omega) q⟩
  | succ k ih =>
    intro x acc hx hacc h
    have hh := hauM_rng hb.1 hI ht (show x < b_nd b by omega)
    rw [mb1] at h
    apply v_Mod_mostBut_17
    rw [hb.2.1, i3n (by omega), i3n (by omega), hbut]
    refine ⟨fun q => absurd q (by omega), fun _ => ⟨fun q => ?_, fun q => s_Mod_canOf hR hI hb ht ⟨_, rfl, ?_⟩⟩⟩
    · rw [if_pos q] at h; exact ih (x + 1) acc (by omega) hacc h
    · rw [bitsF_bit _ k1 (show x < b_nd b by omega)]
      rw [if_neg q] at h
      by_cases z : (decide (c (28 + t) = 0 ∧ c (16 + t) = 0) && opnM b c t x) = true
      · rw [if_pos z] at h ⊢
        refine ⟨fun q2 => absurd rfl q2, fun _ => s_Mod_haulOf hR (hI.1 x (by omega)) hb ht (by omega) ⟨_, rfl, ?_⟩⟩
        rw [i3s (x := acc) (by omega) (by omega), i3s (x := hauM b c t x) (by omega) (by omega)]
        have e : (if acc < hauM b c t x then hauM b c t x else acc) = max acc (hauM b c t x) := by omega
        rw [e]
        exact ih (x + 1) _ (by omega) (by omega) h
      · rw [if_neg z] at h ⊢
        exact ⟨fun _ => ih (x + 1) acc (by omega) hacc h, fun q2 => absurd q2 (by decide)⟩
theorem l_mostBut_4 {g : sh_G} {d : Nat} {but : Int} {b : Bk} {c : Nat → Int} {m : sh_Mem} {Q : Option sh_V → sh_Mem → Prop} (hR : EQ (m 129) c) (hI : Inv b c) (hb : MB m b) (hbut : i3 but = but) : ∀ (k t : Nat) (acc : Int), t + k = b_nt b → 0 ≤ acc ∧ acc ≤ 12 → Q (some (sh_i (mb2 b c but k t acc))) m →
    sh_X g (d + 3) m_Mod_mostBut 4 [(0, sh_r 96), (1, sh_i but), (2, sh_i acc), (3, sh_i (t : Int))] [] m (sh_K m_Mod_mostBut Q) := by
  have k2 := hb.1.2.1
  intro k
  induction k with
  | zero =>
    intro t acc hx hacc h
    obtain rfl : t = b_nt b := by omega
    apply v_Mod_mostBut_4
    rw [hb.2.2.1]
    exact ⟨fun _ => h, fun q => absurd (by omega) q⟩
  | succ k ih =>
    intro t acc hx hacc h
    apply v_Mod_mostBut_4
    rw [hb.2.2.1, i3n (by omega), i3n (by omega)]
    refine ⟨fun q => absurd q (by omega), fun _ => ?_⟩
    rw [mb2] at h
    exact l_mostBut_17 hR hI hb (by omega) hbut (b_nd b) 0 acc (by omega) hacc (ih (t + 1) _ (by omega) (mb1_rng hb.1 hI but (by omega) _ 0 acc (by omega) hacc) h)
theorem l_mostBut {g : sh_G} {d : Nat} {but : Int} {b : Bk} {c : Nat → Int} {m : sh_Mem} {Q : Option sh_V → sh_Mem → Prop} (hR : EQ (m 129) c) (hI : Inv b c) (hb : MB m b) (hbut : i3 but = but) (h : Q (some (sh_i (mb2 b c but (b_nt b) 0 0))) m) : sh_Cal g (d + 3) m_Mod_mostBut [sh_r 96, sh_i but] m Q := by
  apply v_Mod_mostBut
  exact l_mostBut_4 hR hI hb hbut (b_nt b) 0 0 (by omega) (by omega) h
/-- the first day without which they can take least, so far: least, day -/
def waF (b : Bk) (c : Nat → Int) : Nat → Int × Int
  | 0 => (mb2 b c (-1) (b_nt b) 0 0, -1)
  | n + 1 => if mb2 b c (n : Int) (b_nt b) 0 0 < (waF b c n).1 then (mb2 b c (n : Int) (b_nt b) 0 0, (n : Int)) else waF b c n
theorem waF_rng {b : Bk} (hb : BkOk b) {c : Nat → Int} (hI : Inv b c) : ∀ n, 0 ≤ (waF b c n).1 ∧ (waF b c n).1 ≤ 12
  | 0 => mb2_rng hb hI _ _ 0 0 (by omega) (by omega)
  | n + 1 => by
    unfold waF; split
    · exact mb2_rng hb hI _ _ 0 0 (by omega) (by omega)
    · exact waF_rng hb hI n
theorem l_watch {g : sh_G} {d : Nat} {b : Bk} {c : Nat → Int} {m : sh_Mem} {Q : Option sh_V → sh_Mem → Prop} (hR : EQ (m 129) c) (hI : Inv b c) (hb : MB m b) (h : Q (some (sh_i (waF b c (b_nd b)).2)) m) : ∀ (k x : Nat), x + k = b_nd b →
    sh_X g (d + 4) m_Mod_watch 15 [(0, sh_r 96), (1, sh_i (waF b c x).1), (2, sh_i (waF b c x).2), (3, sh_i (x : Int))] [] m (sh_K m_Mod_watch Q) := by
  have k1 := hb.1.1
  intro k
  induction k with
  | zero =>
    intro x hx
    obtain rfl : x = b_nd b := by omega
    apply v_Mod_watch_15
    rw [hb.2.1]
    exact ⟨fun _ => h, fun q => absurd (by omega) q⟩
  | succ k ih =>
    intro x hx
    have ih' := ih (x + 1) (by omega)
    have hw := waF_rng hb.1 hI x
    have hm := mb2_rng hb.1 hI (x : Int) (b_nt b) 0 0 (by omega) (by omega)
    rw [waF] at ih'
    apply v_Mod_watch_15
    rw [hb.2.1, i3n (by omega), i3n (by omega)]
    refine ⟨fun q => absurd q (by omega), fun _ => l_mostBut hR hI hb (i3n (by omega)) ⟨_, rfl, ?_⟩⟩
    rw [i3s (x := mb2 b c (x : Int) (b_nt b) 0 0) (by omega) (by omega), i3s (x := (waF b c x).1) (by omega) (by omega)]
    refine ⟨fun q => ?_, fun q => ?_⟩
    · rw [if_pos q] at ih'; exact ih'
    · rw [if_neg q] at ih'; exact ih'
theorem r_watch {g : sh_G} {d : Nat} {w : Wd} {mem : sh_Mem} {Q : Option sh_V → sh_Mem → Prop} (hW : WOk w) (h : RRel w mem) (hQ : ∀ m', RPost w mem m' → Q (some (sh_i (waF (w_b w) (w_c w) (b_nd (w_b w))).2)) m') : sh_Cal g (d + 4) m_Mod_watch [sh_r 96] mem Q := by
  have p0 := RPost_0 h
  apply v_Mod_watch
  rintro _ rfl
  refine l_mostBut p0.1.2.2.2.2.1 hW.2.1 p0.1.1 rfl ⟨_, rfl, ?_⟩
  exact l_watch p0.1.2.2.2.2.1 hW.2.1 p0.1.1 (hQ _ p0) (b_nd (w_b w)) 0 (by omega)
