/-! ===== the reference: how likely a day is free ===== -/
def rsP (c : Nat → Int) (x : Nat) : Nat → Int := fun k => if 8 ≤ k ∧ k < 8 + x then min 9 (c k + 3) else c k
theorem rsP_0 (c : Nat → Int) : rsP c 0 = c := by funext k; unfold rsP; rw [if_neg (by omega)]
theorem rsP_s (c : Nat → Int) (x : Nat) : ru (rsP c x) (8 + x) (min 9 (c (8 + x) + 3)) = rsP c (x + 1) := by
  funext k; unfold ru rsP
  by_cases e : k = 8 + x
  · subst e; rw [if_pos rfl, if_pos (by omega)]
  · rw [if_neg e]
    by_cases e2 : 8 ≤ k ∧ k < 8 + x
    · rw [if_pos e2, if_pos (by omega)]
    · rw [if_neg e2, if_neg (by omega)]
theorem rsP_at (c : Nat → Int) (x : Nat) : rsP c x (8 + x) = c (8 + x) := by unfold rsP; rw [if_neg (by omega)]
theorem rsP_n (c : Nat → Int) {x k : Nat} (hx : x ≤ 8) (hk : k < 8 ∨ 16 ≤ k) : rsP c x k = c k := by unfold rsP; rw [if_neg (by omega)]
theorem rsP_g (c : Nat → Int) {x e : Nat} (he : e < x) : rsP c x (8 + e) = min 9 (c (8 + e) + 3) := by unfold rsP; rw [if_pos (by omega)]
theorem Inv_rs {b : Bk} {c : Nat → Int} (hb : BkOk b) (h : Inv b c) : Inv b (rsP c (b_nd b)) := by
  have k1 := hb.1
  have k2 := hb.2.1
  refine ⟨fun i hi => ?_, fun i hi hi2 => ?_, fun t ht => ?_, fun t ht ht2 => ?_⟩
  · have q := h.1 i hi; have q2 := hb.2.2.1 i hi
    rw [rsP_n c k1 (by omega), rsP_g c hi]; omega
  · have q := h.2.1 i hi hi2
    rw [rsP_n c k1 (by omega)]
    refine ⟨q.1, ?_⟩
    unfold rsP; rw [if_neg (by omega)]; exact q.2
  · have q := h.2.2.1 t ht
    rw [rsP_n c k1 (by omega), rsP_n c k1 (by omega), rsP_n c k1 (by omega), rsP_n c k1 (by omega)]; exact q
  · have q := h.2.2.2 t ht ht2
    rw [rsP_n c k1 (by omega), rsP_n c k1 (by omega), rsP_n c k1 (by omega), rsP_n c k1 (by omega), rsP_n c k1 (by omega)]; exact q
/-- with constables as the bits of come say, weighed -/
def chF (b : Bk) (o : Int) (t e : Nat) : Nat → Nat → (Nat → Int) → Int
  | 0, _, c => if c (28 + t) = 0 ∧ 0 < c e ∧ c (8 + e) ≤ b_sk b t then 1 else 0
  | n + 1, come, c => (if come % 2 = 1 then o else 10 - o) * chF b o t e n (come / 2) (sleepR b (if come % 2 = 1 then rsP c (b_nd b) else c))
def scF (f : Nat → Int) : Nat → Int
  | 0 => 0
  | n + 1 => scF f n + f n
def tenF : Nat → Int
  | 0 => 1
  | n + 1 => tenF n * 10
def wgF (gu sk o : Int) : Nat → Int → Int
  | 0, g => if g ≤ sk then 1 else 0
  | n + 1, g => (10 - o) * wgF gu sk o n (max gu (g - 1)) + o * wgF gu sk o n (max gu (min 9 (g + 3) - 1))
theorem scF_two (f : Nat → Int) : ∀ m, scF f (2 * m) = scF (fun j => f (2 * j) + f (2 * j + 1)) m
  | 0 => rfl
  | m + 1 => by
    rw [show 2 * (m + 1) = 2 * m + 1 + 1 by omega, scF, scF, scF, scF_two f m]; omega
theorem scF_lin (f h : Nat → Int) (a a2 : Int) : ∀ m, scF (fun j => a * f j + a2 * h j) m = a * scF f m + a2 * scF h m
  | 0 => by simp [scF]
  | m + 1 => by rw [scF, scF, scF, scF_lin f h a a2 m, Int.mul_add, Int.mul_add]; omega
theorem scF_ch {b : Bk} (hb : BkOk b) {o : Int} {t e : Nat} (ht : t < b_nt b) (he : e < b_nd b) : ∀ (n : Nat) (c : Nat → Int), Inv b c → scF (fun come => chF b o t e n come c) (2 ^ n) = if c (28 + t) ≤ n ∧ 0 < min (b_wo b e) (c e + n) then wgF (b_gu b e) (b_sk b t) o n (c (8 + e)) else 0
  | 0, c, h => by
    have q := h.1 e he
    have q2 := h.2.2.1 t ht
    have q3 := hb.2.2.1 e he
    show scF _ 1 = _
    rw [scF, scF, chF, wgF]
    by_cases z : c (28 + t) = 0 ∧ 0 < c e
    · rw [if_pos (show c (28 + t) ≤ ((0 : Nat) : Int) ∧ 0 < min (b_wo b e) (c e + ((0 : Nat) : Int)) by omega)]
      by_cases z2 : c (8 + e) ≤ b_sk b t
      · rw [if_pos ⟨z.1, z.2, z2⟩, if_pos z2]; rfl
      · rw [if_neg (fun y => z2 y.2.2), if_neg z2]; rfl
    · rw [if_neg (show ¬ (c (28 + t) ≤ ((0 : Nat) : Int) ∧ 0 < min (b_wo b e) (c e + ((0 : Nat) : Int))) by omega), if_neg (fun y => z ⟨y.1, y.2.1⟩)]; rfl
  | n + 1, c, h => by
    have q := h.1 e he
    have q2 := h.2.2.1 t ht
    have q3 := hb.2.2.1 e he
    have hR := Inv_rs hb h
    have k8 := hb.1
    have k4 := hb.2.1
    have i1 := scF_ch hb (o := o) ht he n _ (Inv_sleep hb h)
    have i2 := scF_ch hb (o := o) ht he n _ (Inv_sleep hb hR)
    rw [show 2 ^ (n + 1) = 2 * 2 ^ n by rw [Nat.pow_succ, Nat.mul_comm], scF_two]
    have e1 : (fun j => chF b o t e (n + 1) (2 * j) c + chF b o t e (n + 1) (2 * j + 1) c) = fun j => (10 - o) * (fun come => chF b o t e n come (sleepR b c)) j + o * (fun come => chF b o t e n come (sleepR b (rsP c (b_nd b)))) j := by
      funext j
      have a1 : 2 * j % 2 = 0 := by omega
      have a2 : 2 * j / 2 = j := by omega
      have a3 : (2 * j + 1) % 2 = 1 := by omega
      have a4 : (2 * j + 1) / 2 = j := by omega
      rw [chF, chF, a1, a2, a3, a4, if_neg (by omega), if_neg (by omega), if_pos rfl, if_pos rfl]
    rw [e1, scF_lin, i1, i2, sR_c _ ht hb.2.1, sR_d _ he hb.1, sR_g _ he hb.1, sR_c _ ht hb.2.1, sR_d _ he hb.1, sR_g _ he hb.1, rsP_n c hb.1 (by omega), rsP_n c hb.1 (by omega), rsP_g c he, wgF]
    by_cases z : c (28 + t) ≤ ((n + 1 : Nat) : Int)
    · rw [if_pos (show max 0 (c (28 + t) - 1) ≤ (n : Int) ∧ 0 < min (b_wo b e) (min (b_wo b e) (c e + 1) + (n : Int)) by omega), if_pos (show max 0 (c (28 + t) - 1) ≤ (n : Int) ∧ 0 < min (b_wo b e) (min (b_wo b e) (c e + 1) + (n : Int)) by omega), if_pos (show c (28 + t) ≤ ((n + 1 : Nat) : Int) ∧ 0 < min (b_wo b e) (c e + ((n + 1 : Nat) : Int)) by omega)]
    · rw [if_neg (show ¬ (max 0 (c (28 + t) - 1) ≤ (n : Int) ∧ 0 < min (b_wo b e) (min (b_wo b e) (c e + 1) + (n : Int))) by omega), if_neg (show ¬ (max 0 (c (28 + t) - 1) ≤ (n : Int) ∧ 0 < min (b_wo b e) (min (b_wo b e) (c e + 1) + (n : Int))) by omega), if_neg (fun y => z y.1), Int.mul_zero, Int.mul_zero]; rfl
theorem tenF_pos : ∀ n, 1 ≤ tenF n
  | 0 => by unfold tenF; omega
  | n + 1 => by have := tenF_pos n; unfold tenF; omega
theorem tenF_le : ∀ n, n ≤ 6 → tenF n ≤ 1000000 := by decide +kernel
theorem wgF_rng {gu sk o : Int} (h0 : 0 ≤ o) (h1 : o ≤ 10) : ∀ n g, 0 ≤ wgF gu sk o n g ∧ wgF gu sk o n g ≤ tenF n
  | 0, g => by unfold wgF tenF; split <;> omega
  | n + 1, g => by
    have a := wgF_rng (gu := gu) (sk := sk) h0 h1 n (max gu (g - 1))
    have a2 := wgF_rng (gu := gu) (sk := sk) h0 h1 n (max gu (min 9 (g + 3) - 1))
    rw [wgF, tenF]
    generalize wgF gu sk o n (max gu (g - 1)) = x at a ⊢
    generalize wgF gu sk o n (max gu (min 9 (g + 3) - 1)) = y at a2 ⊢
    have b1 : 0 ≤ (10 - o) * x := Int.mul_nonneg (by omega) a.1
    have b2 : 0 ≤ o * y := Int.mul_nonneg h0 a2.1
    have b3 : (10 - o) * x ≤ (10 - o) * tenF n := Int.mul_le_mul_of_nonneg_left a.2 (by omega)
    have b4 : o * y ≤ o * tenF n := Int.mul_le_mul_of_nonneg_left a2.2 h0
    have b5 : (10 - o) * tenF n + o * tenF n = tenF n * 10 := by rw [← Int.add_mul, Int.mul_comm]; congr 1; omega
    omega
theorem bit6 : ∀ c, c < 64 → ∀ x, x < 6 → i_and (i_shr ((c : Nat) : Int) ((x : Nat) : Int)) 1 = ((c / 2 ^ x % 2 : Nat) : Int) := by decide +kernel
theorem shl6 : ∀ n, n < 7 → i_shl 1 ((n : Nat) : Int) = ((2 ^ n : Nat) : Int) := by decide +kernel
theorem pow6 : ∀ n, n < 7 → 2 ^ n ≤ 64 := by decide
section CH
variable {g : sh_G} {d t e n : Nat} {b : Bk} {c0 : Nat → Int} {o : Int} {mem : sh_Mem} {Q : Option sh_V → sh_Mem → Prop}
theorem l_chance_152 {c : Nat → Int} {come x : Nat} {x5 x7 x10 : Int} (hb : MB mem b) (hI : Inv b c) (h : ∀ m, Sr mem m → EQ (m 129) (sleepR b (rsP c (b_nd b))) → EQ (m 131) c0 → sh_X g (d + 3) m_Mod_chance 103 [(0, sh_r 96), (1, sh_i (t : Int)), (2, sh_i (e : Int)), (3, sh_i (n : Int)), (4, sh_i o), (5, sh_l x5), (7, sh_l x7), (9, sh_i (come : Int)), (10, sh_l x10), (12, sh_i ((x + 1 : Nat) : Int))] [] m (sh_K m_Mod_chance Q)) : ∀ (k y : Nat) (m : sh_Mem), y + k = b_nd b → Sr mem m → EQ (m 129) (rsP c y) → EQ (m 131) c0 →
    sh_X g (d + 3) m_Mod_chance 152 [(0, sh_r 96), (1, sh_i (t : Int)), (2, sh_i (e : Int)), (3, sh_i (n : Int)), (4, sh_i o), (5, sh_l x5), (7, sh_l x7), (9, sh_i (come : Int)), (10, sh_l x10), (12, sh_i (x : Int)), (13, sh_i 1), (14, sh_i (y : Int))] [] m (sh_K m_Mod_chance Q) := by
  have k1 := hb.1.1
  intro k
  induction k with
  | zero =>
    intro y m hy hs h1 h2
    obtain rfl : y = b_nd b := by omega
    apply v_Mod_chance_152
    rw [hs.1 98 (by decide), hb.2.1]
    refine ⟨fun _ => ?_, fun z => absurd (by omega) z⟩
    exact s_Mod_passes (d := d) h1 (Inv_rs hb.1 hI) (MB_Sr hs hb) (fun r hr => ⟨rfl, h _ (Sr_ms hs (by decide) (by decide) _) (by rw [ms_s]; exact hr) (by rw [ms_n _ _ (by decide)]; exact h2)⟩)
  | succ k ih =>
    intro y m hy hs h1 h2
    have hD := hI.1 y (by omega)
    have kD := hb.1.2.2.1 y (by omega)
    have e1 : m 129 (9 + y) = c (8 + y) := by rw [(h1.2.1 y (by omega)).2, rsP_at]
    apply v_Mod_chance_152
    rw [hs.1 98 (by decide), hb.2.1, i3n (by omega), i3n (by omega), e1, i3s (x := c (8 + y) + 3) (by omega) (by omega), show i3 9 = 9 from rfl]
    refine ⟨fun z => absurd z (by omega), fun _ => ⟨fun z => absurd z (by decide), fun _ => ⟨by omega, by omega, ?_⟩⟩⟩
    rintro _ rfl
    have e2 : (if c (8 + y) + 3 < 9 then c (8 + y) + 3 else (9 : Int)) = min 9 (c (8 + y) + 3) := by split <;> omega
    have h3 := EQ_g h1 (e := y) (by omega) (min 9 (c (8 + y) + 3))
    rw [rsP_s] at h3
    rw [e2]
    exact ih (y + 1) _ (by omega) (Sr_ms hs (by decide) (by decide) _) (by rw [ms_s]; exact h3) (by rw [ms_n _ _ (by decide)]; exact h2)
theorem l_chance_103 {come : Nat} {x5 x7 : Int} (hb : MB mem b) (ht : t < b_nt b) (he : e < b_nd b) (hn : n ≤ 6) (hc : come < 64) (ho : 0 ≤ o ∧ o ≤ 10) : ∀ (k x : Nat) (m : sh_Mem) (c : Nat → Int) (p : Int), x + k = n → Sr mem m → Inv b c → EQ (m 129) c → EQ (m 131) c0 →
    (∀ m', Sr mem m' → EQ (m' 129) c0 → EQ (m' 131) c0 → sh_X g (d + 3) m_Mod_chance 89 [(0, sh_r 96), (1, sh_i (t : Int)), (2, sh_i (e : Int)), (3, sh_i (n : Int)), (4, sh_i o), (5, sh_l (x5 + p * chF b o t e k (come / 2 ^ x) c)), (7, sh_l x7), (9, sh_i ((come + 1 : Nat) : Int))] [] m' (sh_K m_Mod_chance Q)) →
    sh_X g (d + 3) m_Mod_chance 103 [(0, sh_r 96), (1, sh_i (t : Int)), (2, sh_i (e : Int)), (3, sh_i (n : Int)), (4, sh_i o), (5, sh_l x5), (7, sh_l x7), (9, sh_i (come : Int)), (10, sh_l p), (12, sh_i (x : Int))] [] m (sh_K m_Mod_chance Q) := by
  have k1 := hb.1.1
  have k2 := hb.1.2.1
  intro k
  induction k with
  | zero =>
    intro x m c p hx hs hI h1 h2 h
    obtain rfl : x = n := by omega
    have hT := hI.2.2.1 t ht
    have fin : ∀ v : Int, v = x5 + p * chF b o t e 0 (come / 2 ^ x) c → sh_X g (d + 3) m_Mod_chance 235 [(0, sh_r 96), (1, sh_i (t : Int)), (2, sh_i (e : Int)), (3, sh_i (x : Int)), (4, sh_i o), (5, sh_l v), (7, sh_l x7), (9, sh_i (come : Int)), (10, sh_l p), (12, sh_i (x : Int))] [] m (sh_K m_Mod_chance Q) := by
      rintro _ rfl
      apply v_Mod_chance_235
      refine s_Mod_copies (a := 0) (b := 0) (A := 131) (B := 129) (n := 45) (n2 := 45) rfl rfl (by decide) (by omega) (by omega) ⟨rfl, ?_⟩
      exact h _ (Sr_ms hs (by decide) (by decide) _) (by rw [ms_s]; exact EQ_cp h2) (by rw [ms_n _ _ (by decide)]; exact h2)
    rw [chF] at fin
    apply v_Mod_chance_103
    refine ⟨fun _ => ?_, fun z => absurd (by omega) z⟩
    refine s_Mod_isFree (d := d + 2) h1 hT (by omega) ⟨_, rfl, ?_⟩
    rw [i3_01]
    refine ⟨fun z => fin _ ?_, fun z => s_Mod_isOpen (d := d + 2) h1 (hI.1 e he) (MB_Sr hs hb) ht he ⟨_, rfl, ?_⟩⟩
    · rw [if_neg (by grind)]; omega
    · rw [i3_01]
      refine ⟨fun z2 => fin _ ?_, fun z2 => fin _ ?_⟩
      · rw [if_neg (by grind)]; omega
      · rw [if_pos (by grind)]; omega
  | succ k ih =>
    intro x m c p hx hs hI h1 h2 h
    rw [chF] at h
    have e0 : come / 2 ^ x / 2 = come / 2 ^ (x + 1) := by rw [Nat.div_div_eq_div_mul, Nat.pow_succ]
    rw [e0] at h
    have eo : i_2l o = o := i_2lP (by omega) (by omega)
    have eo2 : i_2l (10 - o) = 10 - o := i_2lP (by omega) (by omega)
    apply v_Mod_chance_103
    rw [i3n (by omega), i3n (by omega), bit6 come hc x (by omega)]
    refine ⟨fun z => absurd z (by omega), fun _ => ⟨fun z => ?_, fun z => ?_⟩⟩
    · rw [if_neg (by omega), if_neg (by omega)] at h
      apply v_Mod_chance_125
      rw [eo, eo2]
      refine ⟨fun _ => ?_, fun z2 => absurd rfl z2⟩
      have go : sh_Cal g (d + 2) m_Mod_passes [sh_r 96] m (fun rv m2 => rv = none ∧ sh_X g (d + 3) m_Mod_chance 103 [(0, sh_r 96), (1, sh_i (t : Int)), (2, sh_i (e : Int)), (3, sh_i (n : Int)), (4, sh_i o), (5, sh_l x5), (7, sh_l x7), (9, sh_i (come : Int)), (10, sh_l (p * (10 - o))), (12, sh_i ((x + 1 : Nat) : Int))] [] m2 (sh_K m_Mod_chance Q)) := by
        refine s_Mod_passes (d := d) h1 hI (MB_Sr hs hb) (fun r hr => ⟨rfl, ?_⟩)
        refine ih (x + 1) _ (sleepR b c) _ (by omega) (Sr_ms hs (by decide) (by decide) _) (Inv_sleep hb.1 hI) (by rw [ms_s]; exact hr) (by rw [ms_n _ _ (by decide)]; exact h2) ?_
        rw [Int.mul_assoc]; exact h
      apply v_Mod_chance_152 (x14 := 0)
      rw [hs.1 98 (by decide), hb.2.1, i3n (by omega)]
      exact ⟨fun _ => go, fun _ => ⟨fun _ => go, fun z2 => absurd rfl z2⟩⟩
    · rw [if_pos (by omega), if_pos (by omega)] at h
      apply v_Mod_chance_125
      rw [eo, eo2]
      refine ⟨fun z2 => absurd z2 (by decide), fun _ => ?_⟩
      refine l_chance_152 hb hI (fun m2 y1 y2 y3 => ih (x + 1) m2 (sleepR b (rsP c (b_nd b))) _ (by omega) y1 (Inv_sleep hb.1 (Inv_rs hb.1 hI)) y2 y3 ?_) (b_nd b) 0 m (by omega) hs (by rw [rsP_0]; exact h1) h2
      rw [Int.mul_assoc]; exact h
theorem l_chance_89 (hb : MB mem b) (hI : Inv b c0) (ht : t < b_nt b) (he : e < b_nd b) (hn : n ≤ 6) (ho : 0 ≤ o ∧ o ≤ 10) (h : ∀ m', Sr mem m' → EQ (m' 129) c0 → Q (some (sh_i (scF (fun come => chF b o t e n come c0) (2 ^ n) * 1000000 / tenF n))) m') : ∀ (k x : Nat) (m : sh_Mem), x + k = 2 ^ n → Sr mem m → EQ (m 129) c0 → EQ (m 131) c0 →
    sh_X g (d + 3) m_Mod_chance 89 [(0, sh_r 96), (1, sh_i (t : Int)), (2, sh_i (e : Int)), (3, sh_i (n : Int)), (4, sh_i o), (5, sh_l (scF (fun come => chF b o t e n come c0) x)), (7, sh_l (tenF n)), (9, sh_i (x : Int))] [] m (sh_K m_Mod_chance Q) := by
  have h64 := pow6 n (by omega)
  intro k
  induction k with
  | zero =>
    intro x m hx hs h1 h2
    obtain rfl : x = 2 ^ n := by omega
    have t1 := tenF_pos n
    have t2 := tenF_le n hn
    have hS : 0 ≤ scF (fun come => chF b o t e n come c0) (2 ^ n) ∧ scF (fun come => chF b o t e n come c0) (2 ^ n) ≤ tenF n := by
      rw [scF_ch hb.1 ht he n c0 hI]; split
      · exact wgF_rng ho.1 ho.2 _ _
      · omega
    apply v_Mod_chance_89
    rw [shl6 n (by omega), i3n (by omega)]
    refine ⟨fun _ => ⟨fun z => ?_, ?_⟩, fun z => absurd (by omega) z⟩
    · have z2 : i6 (tenF n) = 0 := by unfold i6; rw [z]; rfl
      rw [i6_id (by omega) (by omega)] at z2
      omega
    · generalize scF (fun come => chF b o t e n come c0) (2 ^ n) = S at hS h ⊢
      have d1 : 0 ≤ S * 1000000 / tenF n := Int.ediv_nonneg (by omega) (by omega)
      have d2 : S * 1000000 / tenF n ≤ 1000000 := by
        apply Int.ediv_le_of_le_mul (by omega)
        rw [Int.mul_comm]; exact Int.mul_le_mul_of_nonneg_left hS.2 (by omega)
      rw [l_divP (by omega) (by omega) (by omega) (by omega), l_2iP (by omega) (by omega)]
      exact h m hs h1
  | succ k ih =>
    intro x m hx hs h1 h2
    apply v_Mod_chance_89
    rw [shl6 n (by omega), i3n (by omega)]
    refine ⟨fun z => absurd z (by omega), fun _ => ?_⟩
    refine l_chance_103 hb ht he hn (by omega) ho n 0 m c0 1 (by omega) hs hI h1 h2 (fun m' y1 y2 y3 => ?_)
    rw [Nat.pow_zero, Nat.div_one, Int.one_mul]
    exact ih (x + 1) m' (by omega) y1 y2 y3
theorem l_chance_53 (hb : MB mem b) (hn : n ≤ 6) (hE : EQ (mem 129) c0) (h : ∀ m, Sr mem m → EQ (m 129) c0 → EQ (m 131) c0 → sh_X g (d + 3) m_Mod_chance 89 [(0, sh_r 96), (1, sh_i (t : Int)), (2, sh_i (e : Int)), (3, sh_i (n : Int)), (4, sh_i o), (5, sh_l 0), (7, sh_l (tenF n)), (9, sh_i ((0 : Nat) : Int))] [] m (sh_K m_Mod_chance Q)) : ∀ (k x : Nat), x + k = n →
    sh_X g (d + 3) m_Mod_chance 53 [(0, sh_r 96), (1, sh_i (t : Int)), (2, sh_i (e : Int)), (3, sh_i (n : Int)), (4, sh_i o), (5, sh_l 0), (7, sh_l (tenF x)), (9, sh_i (x : Int))] [] mem (sh_K m_Mod_chance Q) := by
  intro k
  induction k with
  | zero =>
    intro x hx
    obtain rfl : x = n := by omega
    apply v_Mod_chance_53
    refine ⟨fun _ => ?_, fun z => absurd (by omega) z⟩
    refine s_Mod_copies (a := 0) (b := 0) (A := 129) (B := 131) (n := 45) (n2 := 45) rfl rfl (by decide) (by omega) (by omega) ⟨rfl, ?_⟩
    exact h _ (Sr_ms (Sr_rf mem) (by decide) (by decide) _) (by rw [ms_n _ _ (by decide)]; exact hE) (by rw [ms_s]; exact EQ_cp hE)
  | succ k ih =>
    intro x hx
    apply v_Mod_chance_53
    rw [i3n (by omega), i3n (by omega)]
    exact ⟨fun z => absurd z (by omega), fun _ => ih (x + 1) (by omega)⟩
end CH
abbrev cCh (w : Wd) (t x k o : Int) : Prop := isT w t ∧ isD w x ∧ (1 ≤ k ∧ k ≤ 6) ∧ (0 ≤ o ∧ o ≤ 10)
def q_chance (w : Wd) (t x k o : Int) : Int := if cCh w t x k o then scF (fun come => chF (w_b w) o t.toNat x.toNat k.toNat come (w_c w)) (2 ^ k.toNat) * 1000000 / tenF k.toNat else -1
theorem r_chance {g : sh_G} {d : Nat} {w : Wd} {mem : sh_Mem} {t x k o : Int} {Q : Option sh_V → sh_Mem → Prop} (hW : WOk w) (h : RRel w mem) (h1 : i3 t = t) (h2 : i3 x = x) (h3 : i3 k = k) (h4 : i3 o = o) (hQ : ∀ m', RPost w mem m' → Q (some (sh_i (q_chance w t x k o))) m') : sh_Cal g (d + 3) m_Mod_chance [sh_r 96, sh_i t, sh_i x, sh_i k, sh_i o] mem Q := by
  have p0 := RPost_0 h
  have hE := p0.1.2.2.2.2.1
  unfold q_chance at hQ
  apply v_Mod_chance
  rintro _ rfl
  refine isT_then p0.1 h1 (fun q => ?_) (fun tn et ht => ?_)
  · rw [if_neg (fun z => q z.1)] at hQ; exact hQ _ p0
  refine isD_then p0.1 h2 (fun q => ?_) (fun xn ex hx => ?_)
  · rw [if_neg (fun z => q z.2.1)] at hQ; exact hQ _ p0
  refine wi_then h3 rfl rfl (fun q => ?_) (fun q3 => ?_)
  · rw [if_neg (fun z => q z.2.2.1)] at hQ; exact hQ _ p0
  refine wi_then' h4 rfl rfl (fun q => ?_) (fun q4 => ?_)
  · rw [if_neg (fun z => q z.2.2.2)] at hQ; exact hQ _ p0
  obtain ⟨n, rfl⟩ : ∃ n : Nat, k = (n : Int) := ⟨k.toNat, by omega⟩
  subst et ex
  rw [if_pos ⟨by omega, by omega, q3, q4⟩] at hQ
  simp only [Int.toNat_natCast] at hQ
  refine l_chance_53 p0.1.1 (by omega) hE (fun m hs e1 e2 => ?_) n 0 (by omega)
  exact l_chance_89 (c0 := w_c w) p0.1.1 hW.2.1 ht hx (by omega) q4 (fun m' hs he => hQ _ (RPost_sr p0 hs he)) (2 ^ n) 0 m (by omega) hs e1 e2
