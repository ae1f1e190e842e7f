/-! ===== bits of an int (these rows began as the kit's BITS family) ===== -/
def bt (x : Int32) (i : Nat) : Bool := x.toBitVec.getLsbD i
theorem b_ext {x y : Int32} (h : ∀ i, i < 32 → bt x i = bt y i) : x = y := Int32.toBitVec_inj.mp (BitVec.eq_of_getLsbD_eq (fun i hi => h i hi))
theorem b_or (x y : Int32) (i : Nat) : bt (x ||| y) i = (bt x i || bt y i) := by unfold bt; rw [Int32.toBitVec_or, BitVec.getLsbD_or]
theorem b_and (x y : Int32) (i : Nat) : bt (x &&& y) i = (bt x i && bt y i) := by unfold bt; rw [Int32.toBitVec_and, BitVec.getLsbD_and]
theorem b_xor (x y : Int32) (i : Nat) : bt (x ^^^ y) i = (bt x i ^^ bt y i) := by unfold bt; rw [Int32.toBitVec_xor, BitVec.getLsbD_xor]
theorem b_m1 : ∀ i, i < 32 → bt (-1) i = true := by decide +kernel
theorem b_1 : ∀ i, i < 32 → bt 1 i = decide (i = 0) := by decide +kernel
theorem b_0 (i : Nat) : bt 0 i = false := BitVec.getLsbD_zero
theorem s_l : ∀ n, n < 32 → ((nI n &&& 31).toBitVec.smod 32).toNat = n := by decide +kernel
theorem b_shl (n : Nat) (hn : n < 32) (x : Int32) {i : Nat} (hi : i < 32) : bt (x <<< (nI n &&& 31)) i = (decide (n ≤ i) && bt x (i - n)) := by
  unfold bt
  rw [Int32.toBitVec_shiftLeft]
  show (x.toBitVec <<< ((nI n &&& 31).toBitVec.smod 32).toNat).getLsbD i = _
  rw [s_l n hn, BitVec.getLsbD_shiftLeft]
  rcases Nat.lt_or_ge i n with h | h
  · simp [h, Nat.not_le.mpr h]
  · simp [hi, h, Nat.not_lt.mpr h]
theorem b_sshr (n : Nat) (hn : n < 32) (x : Int32) {i : Nat} (hi : i < 32) : bt (x >>> (nI n &&& 31)) i = if n + i < 32 then bt x (n + i) else bt x 31 := by
  unfold bt
  rw [Int32.toBitVec_shiftRight]
  show (x.toBitVec.sshiftRight ((nI n &&& 31).toBitVec.smod 32).toNat).getLsbD i = _
  rw [s_l n hn, BitVec.getLsbD_sshiftRight, BitVec.msb_eq_getLsbD_last]
  simp [hi]
theorem nI_cast (e : Nat) : Int32.ofInt (e : Int) = nI e := by unfold nI; rw [← Int32.ofInt_eq_ofNat]
theorem i_bitB (x : Int) {e : Nat} (he : e < 32) : i_and (i_shr x (e : Int)) 1 = if bt (Int32.ofInt x) e = true then 1 else 0 := by
  have q : (Int32.ofInt x >>> (nI e &&& 31)) &&& 1 = if bt (Int32.ofInt x) e = true then 1 else 0 := by
    apply b_ext
    intro i hi
    rw [b_and, b_sshr e he _ hi, b_1 i hi]
    by_cases e0 : i = 0
    · subst e0
      rw [if_pos (by omega), Nat.add_zero]
      by_cases z : bt (Int32.ofInt x) e = true
      · rw [if_pos z, z]; decide
      · rw [if_neg z, b_0]; simp at z; rw [z]; rfl
    · rw [decide_eq_false e0, Bool.and_false]
      by_cases z : bt (Int32.ofInt x) e = true
      · rw [if_pos z, b_1 i hi, decide_eq_false e0]
      · rw [if_neg z, b_0]
  unfold i_and i_shr
  rw [Int32.ofInt_toInt, nI_cast]
  show ((Int32.ofInt x >>> (nI e &&& 31)) &&& 1).toInt = _
  rw [q]
  split <;> rfl
theorem bt_bits (P : Nat → Bool) {n e : Nat} (hn : n ≤ 8) (he : e < 8) : bt (Int32.ofInt (bitsF P n)) e = (decide (e < n) && P e) := by
  have q := bitsF_bitN P hn he
  rw [i_bitB _ (by omega)] at q
  by_cases z : e < n ∧ P e = true
  · rw [if_pos z] at q
    rw [decide_eq_true z.1, z.2]
    by_cases y : bt (Int32.ofInt (bitsF P n)) e = true
    · exact y
    · rw [if_neg y] at q; exact absurd q (by decide)
  · rw [if_neg z] at q
    have z2 : (decide (e < n) && P e) = false := by
      by_cases y : e < n
      · rw [decide_eq_true y]; cases h : P e
        · rfl
        · exact absurd ⟨y, h⟩ z
      · rw [decide_eq_false y]; rfl
    rw [z2]
    by_cases y : bt (Int32.ofInt (bitsF P n)) e = true
    · rw [if_pos y] at q; exact absurd q (by decide)
    · simpa using y
/-- a mask of days -/
def GM (x : Int) (G : Nat → Bool) : Prop := ∀ e, e < 8 → bt (Int32.ofInt x) e = G e
def gU (G : Nat → Bool) (e : Nat) : Nat → Bool := fun j => decide (j = e) || G j
theorem GM_0 : GM 0 (fun _ => false) := fun e _ => b_0 e
theorem GM_u {x : Int} {G : Nat → Bool} (h : GM x G) {e : Nat} (he : e < 8) : GM (i_or x (i_shl 1 (e : Int))) (gU G e) := by
  intro i hi
  unfold i_or i_shl gU
  rw [Int32.ofInt_toInt, Int32.ofInt_toInt, nI_cast, b_or, h i hi]
  have q := b_shl e (by omega) 1 (show i < 32 by omega)
  show (G i || bt (1 <<< (nI e &&& 31)) i) = _
  rw [q, b_1 (i - e) (by omega), Bool.or_comm]
  congr 1
  by_cases z : i = e
  · subst z; simp
  · rw [decide_eq_false z]
    by_cases y : e ≤ i
    · rw [decide_eq_false (show ¬ i - e = 0 by omega), Bool.and_false]
    · rw [decide_eq_false y]; rfl
theorem GM_t {x : Int} {G : Nat → Bool} (h : GM x G) {e : Nat} (he : e < 8) : i_and (i_shr x (e : Int)) 1 = if G e = true then 1 else 0 := by rw [i_bitB _ (by omega), h e he]
theorem GM_m {x : Int} {F G : Nat → Bool} {n : Nat} (h : GM x G) (hn : n ≤ 8) {e : Nat} (he : e < n) : i_and (i_shr (i_and (bitsF F n) (i_xor x (-1))) (e : Int)) 1 = if F e = true ∧ G e = false then 1 else 0 := by
  rw [i_bitB _ (by omega)]
  unfold i_and i_xor
  rw [Int32.ofInt_toInt, Int32.ofInt_toInt, b_and, b_xor, bt_bits F hn (by omega), h e (by omega), decide_eq_true he]
  show (if (true && F e && (G e ^^ bt (-1) e)) = true then 1 else 0) = _
  rw [b_m1 e (by omega)]
  cases F e <;> cases G e <;> rfl
/-! ===== which thief should go where ===== -/
def ggL (F : Nat → Int × (Nat → Int) → Int × (Nat → Int)) : Nat → Nat → Int × (Nat → Int) → Int × (Nat → Int)
  | 0, _, st => st
  | n + 1, e, st => ggL F n (e + 1) (F e st)
def gg (b : Bk) (c : Nat → Int) : Nat → Nat → (Nat → Bool) → Int → (Nat → Int) → Int × (Nat → Int) → Int × (Nat → Int)
  | 0, _, _, s, r, st => if st.1 < s then (s, r) else st
  | k + 1, t, G, s, r, st => gg b c k (t + 1) G s (ru r t (-1)) (ggL (fun e st => if 0 < bag b c t e ∧ G e = false then gg b c k (t + 1) (gU G e) (s + bag b c t e) (ru r t (e : Int)) st else st) (b_nd b) 0 st)
abbrev ggF (b : Bk) (c : Nat → Int) (k t : Nat) (G : Nat → Bool) (s : Int) (r : Nat → Int) : Nat → Int × (Nat → Int) → Int × (Nat → Int) := fun e st => if 0 < bag b c t e ∧ G e = false then gg b c k (t + 1) (gU G e) (s + bag b c t e) (ru r t (e : Int)) st else st
theorem bag_rng {b : Bk} (hb : BkOk b) {c : Nat → Int} {t e : Nat} (ht : t < b_nt b) : 0 ≤ bag b c t e ∧ bag b c t e ≤ 12 := by
  have := hb.2.2.2.1 t ht
  unfold bag; split <;> omega
theorem ggL_rng {F : Nat → Int × (Nat → Int) → Int × (Nat → Int)} (hF : ∀ e st, -1 ≤ st.1 ∧ st.1 ≤ 48 → st.1 ≤ (F e st).1 ∧ (F e st).1 ≤ 48) : ∀ n e st, -1 ≤ st.1 ∧ st.1 ≤ 48 → st.1 ≤ (ggL F n e st).1 ∧ (ggL F n e st).1 ≤ 48
  | 0, e, st, h => ⟨by rw [ggL]; omega, h.2⟩
  | n + 1, e, st, h => by
    have a := hF e st h
    have a2 := ggL_rng hF n (e + 1) (F e st) (by omega)
    rw [ggL]; omega
theorem gg_rng {b : Bk} (hb : BkOk b) {c : Nat → Int} : ∀ (k t : Nat) (G : Nat → Bool) (s : Int) (r : Nat → Int) (st : Int × (Nat → Int)), t + k = b_nt b → s + 12 * k ≤ 48 → -1 ≤ st.1 ∧ st.1 ≤ 48 → st.1 ≤ (gg b c k t G s r st).1 ∧ s ≤ (gg b c k t G s r st).1 ∧ (gg b c k t G s r st).1 ≤ 48
  | 0, t, G, s, r, st, ht, hs, h => by
    rw [gg]; split
    · simp only; omega
    · omega
  | k + 1, t, G, s, r, st, ht, hs, h => by
    have hL := ggL_rng (F := ggF b c k t G s r) (fun e st h => by
      have hb2 := bag_rng hb (c := c) (e := e) (show t < b_nt b by omega)
      unfold ggF; split
      · have := gg_rng hb (c := c) k (t + 1) (gU G e) (s + bag b c t e) (ru r t (e : Int)) st (by omega) (by omega) h; omega
      · omega) (b_nd b) 0 st h
    have e0 : gg b c (k + 1) t G s r st = gg b c k (t + 1) G s (ru r t (-1)) (ggL (ggF b c k t G s r) (b_nd b) 0 st) := by rw [gg]
    rw [e0]
    have := gg_rng hb (c := c) k (t + 1) G s (ru r t (-1)) (ggL (ggF b c k t G s r) (b_nd b) 0 st) (by omega) (by omega) (by omega)
    omega
theorem bag_F {b : Bk} (hb : BkOk b) {c : Nat → Int} {t e : Nat} (ht : t < b_nt b) : (decide (c (28 + t) = 0 ∧ c (16 + t) = 0) && opnM b c t e) = true ↔ 0 < bag b c t e := by
  have := hb.2.2.2.1 t ht
  unfold bag opnM
  rw [Bool.and_eq_true, decide_eq_true_eq, decide_eq_true_eq]
  split <;> omega
/-- the best so far, as it is held -/
def GR (n : Nat) (most : Int) (best : Nat → Int) (st : Int × (Nat → Int)) : Prop := most = st.1 ∧ (0 ≤ st.1 → ∀ j, j < n → best j = st.2 j)
def Gq (m m' : sh_Mem) : Prop := (∀ a, a ≠ 96 → a ≠ 136 → a ≠ 137 → m' a = m a) ∧ ∀ i, i ≠ 55 → m' 96 i = m 96 i
theorem Gq_rf (m : sh_Mem) : Gq m m := ⟨fun _ _ _ _ => rfl, fun _ _ => rfl⟩
theorem Gq_tr {m m' m'' : sh_Mem} (h : Gq m m') (h2 : Gq m' m'') : Gq m m'' := ⟨fun a e1 e2 e3 => (h2.1 a e1 e2 e3).trans (h.1 a e1 e2 e3), fun i hi => (h2.2 i hi).trans (h.2 i hi)⟩
theorem Gq_136 {m m' : sh_Mem} (h : Gq m m') (r : Nat → Int) : Gq m (ms m' 136 r) := ⟨fun a e1 e2 e3 => by rw [ms_n _ _ e2]; exact h.1 a e1 e2 e3, fun i hi => by rw [ms_n _ _ (by decide)]; exact h.2 i hi⟩
theorem Gq_137 {m m' : sh_Mem} (h : Gq m m') (r : Nat → Int) : Gq m (ms m' 137 r) := ⟨fun a e1 e2 e3 => by rw [ms_n _ _ e3]; exact h.1 a e1 e2 e3, fun i hi => by rw [ms_n _ _ (by decide)]; exact h.2 i hi⟩
theorem Gq_96 {m m' : sh_Mem} (h : Gq m m') (x : Int) : Gq m (ms m' 96 (ru (m' 96) 55 x)) := ⟨fun a e1 e2 e3 => by rw [ms_n _ _ e1]; exact h.1 a e1 e2 e3, fun i hi => by rw [ms_s, ru_n _ _ hi]; exact h.2 i hi⟩
theorem Gq_Sr {m m' : sh_Mem} (h : Gq m m') : Sr m m' := ⟨fun a ha => h.1 a (by unfold scr at ha; omega) (by unfold scr at ha; omega) (by unfold scr at ha; omega), h.2 1 (by decide), h.2 51 (by decide), h.2 0 (by decide)⟩
theorem l_goesOut_27 {g : sh_G} {d t : Nat} {tk s : Int} {m : sh_Mem} {Q : Option sh_V → sh_Mem → Prop} (h : Q none (ms m 137 (cpy (m 136) (m 137) 0 0 4))) : ∀ (k x : Nat), x + k = 4 →
    sh_X g (d + 1) m_Mod_goesOut 27 [(0, sh_r 96), (1, sh_i (t : Int)), (2, sh_i tk), (3, sh_i s), (4, sh_i (x : Int))] [] (ms m 137 (cpy (m 136) (m 137) 0 0 x)) (sh_K m_Mod_goesOut Q) := by
  intro k
  induction k with
  | zero =>
    intro x hx
    obtain rfl : x = 4 := by omega
    apply v_Mod_goesOut_27
    exact ⟨fun _ => h, fun q => absurd (by decide) q⟩
  | succ k ih =>
    intro x hx
    have ih' := ih (x + 1) (by omega)
    rw [← cpy_s, Nat.zero_add] at ih'
    apply v_Mod_goesOut_27
    rw [i3n (by omega), Int.toNat_natCast]
    refine ⟨fun q => absurd q (by omega), fun _ => ⟨by omega, by omega, ?_⟩⟩
    rintro _ rfl
    rw [ms_ms, ms_s, ms_n _ _ (by decide), show ((x : Int) + 1) = ((x + 1 : Nat) : Int) by omega]
    exact ih'
theorem s_goesOut {g : sh_G} {b : Bk} {c : Nat → Int} (hb : BkOk b) (hI : Inv b c) : ∀ (k D t : Nat) (G : Nat → Bool) (tk s : Int) (r : Nat → Int) (st : Int × (Nat → Int)) (m : sh_Mem) (Q : Option sh_V → sh_Mem → Prop), k + 3 ≤ D → t + k = b_nt b → 0 ≤ s → s + 12 * k ≤ 48 → -1 ≤ st.1 ∧ st.1 ≤ 48 → GM tk G → MB m b → EQ (m 129) c → (∀ j, j < t → m 136 j = r j) → GR (b_nt b) (m 96 55) (m 137) st →
    (∀ m', Gq m m' → (∀ j, j < t → m' 136 j = r j) → GR (b_nt b) (m' 96 55) (m' 137) (gg b c k t G s r st) → Q none m') → sh_Cal g D m_Mod_goesOut [sh_r 96, sh_i (t : Int), sh_i tk, sh_i s] m Q := by
  have k1 := hb.1
  have k2 := hb.2.1
  intro k
  induction k with
  | zero =>
    intro D t G tk s r st m Q hD ht hs hs2 hst hG hm hR hr hst2 h
    obtain ⟨D, rfl⟩ : ∃ D', D = D' + 1 := ⟨D - 1, by omega⟩
    rw [gg] at h
    apply v_Mod_goesOut
    rw [hm.2.2.1, hst2.1, i3n (by omega), i3n (by omega), i3s (x := st.1) (by omega) (by omega), i3s (x := s) (by omega) (by omega)]
    refine ⟨fun q => absurd (by omega) q, fun _ => ⟨fun q => ?_, fun q => ?_⟩⟩
    · rintro _ rfl
      rw [if_pos q] at h
      have w := l_goesOut_27 (g := g) (d := D) (t := t) (tk := tk) (s := s) (m := ms m 96 (ru (m 96) 55 s)) (Q := Q) (h _ (Gq_137 (Gq_96 (Gq_rf m) s) _) (fun j hj => by rw [ms_n _ _ (by decide), ms_n _ _ (by decide)]; exact hr j hj) ⟨by rw [ms_n _ _ (by decide), ms_s, ru_s], fun _ j hj => by
        rw [ms_s]; unfold cpy; rw [if_pos (by omega), ms_n _ _ (by decide)]
        have := hr j (by omega)
        simpa using this⟩) 4 0 (by omega)
      rw [cpy_0, ms_id] at w
      exact w
    · rw [if_neg q] at h
      exact h m (Gq_rf m) hr hst2
  | succ k ih =>
    intro D t G tk s r st m Q hD ht hs hs2 hst hG hm hR hr hst2 h
    obtain ⟨D, rfl⟩ : ∃ D', D = D' + 1 := ⟨D - 1, by omega⟩
    obtain ⟨D, rfl⟩ : ∃ D', D = D' + 3 := ⟨D - 3, by omega⟩
    have ht2 : t < b_nt b := by omega
    rw [gg] at h
    have lp : ∀ (n x : Nat) (st : Int × (Nat → Int)) (m2 : sh_Mem), x + n = b_nd b → Gq m m2 → -1 ≤ st.1 ∧ st.1 ≤ 48 → (∀ j, j < t → m2 136 j = r j) → GR (b_nt b) (m2 96 55) (m2 137) st →
        (∀ m', Gq m m' → (∀ j, j < t → m' 136 j = r j) → GR (b_nt b) (m' 96 55) (m' 137) (gg b c k (t + 1) G s (ru r t (-1)) (ggL (ggF b c k t G s r) n x st)) → Q none m') →
        sh_X g (D + 3 + 1) m_Mod_goesOut 68 [(0, sh_r 96), (1, sh_i (t : Int)), (2, sh_i tk), (3, sh_i s), (4, sh_i (i_and (bitsF (fun e => decide (c (28 + t) = 0 ∧ c (16 + t) = 0) && opnM b c t e) (b_nd b)) (i_xor tk (-1)))), (5, sh_i (x : Int))] [] m2 (sh_K m_Mod_goesOut Q) := by
      intro n
      induction n with
      | zero =>
        intro x st m2 hx hq hst hr2 hst3 h
        obtain rfl : x = b_nd b := by omega
        have hm2 := MB_Sr (Gq_Sr hq) hm
        apply v_Mod_goesOut_68
        rw [hm2.2.1]
        refine ⟨fun _ => ⟨by omega, ?_⟩, fun q => absurd (by omega) q⟩
        rintro _ rfl
        rw [ggL] at h
        refine ih (D + 3) (t + 1) G tk s (ru r t (-1)) st _ _ (by omega) (by omega) hs (by omega) hst hG (MB_ms hm2 (by decide) (by decide) (by decide) (by decide) (by decide) (by decide)) (by rw [ms_n _ _ (by decide), hq.1 129 (by decide) (by decide) (by decide)]; exact hR) (fun j hj => ?_) (by rw [ms_n _ _ (by decide), ms_n _ _ (by decide)]; exact hst3) (fun m' y1 y2 y3 => ⟨rfl, ?_⟩)
        · rw [ms_s]
          by_cases e : j = t
          · subst e; rw [ru_s, ru_s]
          · rw [ru_n _ _ e, ru_n _ _ e]; exact hr2 j (by omega)
        · exact h m' (Gq_tr (Gq_136 hq _) y1) (fun j hj => by rw [y2 j (by omega), ru_n _ _ (by omega)]) y3
      | succ n ihn =>
        intro x st m2 hx hq hst hr2 hst3 h
        have hm2 := MB_Sr (Gq_Sr hq) hm
        have hR2 : EQ (m2 129) c := by rw [hq.1 129 (by decide) (by decide) (by decide)]; exact hR
        have hbg := bag_rng hb (c := c) (e := x) ht2
        have hF := bag_F hb (c := c) (t := t) (e := x) ht2
        rw [ggL] at h
        have eT := GM_m (F := fun e => decide (c (28 + t) = 0 ∧ c (16 + t) = 0) && opnM b c t e) hG k1 (show x < b_nd b by omega)
        simp only [hF] at eT
        apply v_Mod_goesOut_68
        rw [hm2.2.1, i3n (by omega), i3n (by omega), eT]
        refine ⟨fun q => absurd q (by omega), fun _ => ⟨fun q => ⟨by omega, ?_⟩, fun q => ?_⟩⟩
        · have q2 : 0 < bag b c t x ∧ G x = false := by
            by_cases y : 0 < bag b c t x ∧ G x = false
            · exact y
            · rw [if_neg y] at q; exact absurd rfl q
          rintro _ rfl
          have eF : ggF b c k t G s r x st = gg b c k (t + 1) (gU G x) (s + bag b c t x) (ru r t (x : Int)) st := by unfold ggF; rw [if_pos q2]
          have eh : hauM b c t x = bag b c t x := by
            have := hF.mpr q2.1
            unfold hauM; unfold bag; unfold opnM at this
            rw [Bool.and_eq_true, decide_eq_true_eq, decide_eq_true_eq] at this
            rw [if_pos this.2, if_pos ⟨this.1.1, this.1.2, this.2⟩]
          rw [eF] at h
          have rr := gg_rng hb (c := c) k (t + 1) (gU G x) (s + bag b c t x) (ru r t (x : Int)) st (by omega) (by omega) hst
          refine s_Mod_haulOf (d := D + 2) (b := b) (c := c) (by rw [ms_n _ _ (by decide)]; exact hR2) (hI.1 x (by omega)) (MB_ms hm2 (by decide) (by decide) (by decide) (by decide) (by decide) (by decide)) ht2 (by omega) ⟨_, rfl, ?_⟩
          rw [eh]
          refine ih (D + 3) (t + 1) (gU G x) _ (s + bag b c t x) (ru r t (x : Int)) st _ _ (by omega) (by omega) (by omega) (by omega) hst (GM_u hG (by omega)) (MB_ms hm2 (by decide) (by decide) (by decide) (by decide) (by decide) (by decide)) (by rw [ms_n _ _ (by decide)]; exact hR2) (fun j hj => ?_) (by rw [ms_n _ _ (by decide), ms_n _ _ (by decide)]; exact hst3) (fun m' y1 y2 y3 => ⟨rfl, ?_⟩)
          · rw [ms_s]
            by_cases e : j = t
            · subst e; rw [ru_s, ru_s]
            · rw [ru_n _ _ e, ru_n _ _ e]; exact hr2 j (by omega)
          · exact ihn (x + 1) _ m' (by omega) (Gq_tr (Gq_136 hq _) y1) (by omega) (fun j hj => by rw [y2 j (by omega), ru_n _ _ (by omega)]) y3 h
        · have q2 : ¬ (0 < bag b c t x ∧ G x = false) := by
            intro y; rw [if_pos y] at q; exact absurd q (by decide)
          have eF : ggF b c k t G s r x st = st := by unfold ggF; rw [if_neg q2]
          rw [eF] at h
          exact ihn (x + 1) st m2 (by omega) hq hst hr2 hst3 h
    apply v_Mod_goesOut
    rw [hm.2.2.1, i3n (by omega), i3n (by omega)]
    refine ⟨fun _ => s_Mod_canOf (d := D + 1) hR hI hm ht2 ⟨_, rfl, ?_⟩, fun q => absurd q (by omega)⟩
    exact lp (b_nd b) 0 st m (by omega) (Gq_rf m) hst hr hst2 h
def gaF (w : Wd) : Int × (Nat → Int) := gg (w_b w) (w_c w) (b_nt (w_b w)) 0 (fun _ => false) 0 (fun _ => 0) (-1, fun _ => 0)
def q_gang (w : Wd) (k : Int) : Int := if k = -1 then (gaF w).1 else if isT w k then (gaF w).2 k.toNat else -2
theorem r_gang {g : sh_G} {d : Nat} {w : Wd} {mem : sh_Mem} {k : Int} {Q : Option sh_V → sh_Mem → Prop} (hW : WOk w) (h : RRel w mem) (hk : i3 k = k) (hQ : ∀ m', RPost w mem m' → Q (some (sh_i (q_gang w k))) m') : sh_Cal g (d + 8) m_Mod_gang [sh_r 96, sh_i k] mem Q := by
  have p0 := RPost_0 h
  have k1 := hW.1.1
  have k2 := hW.1.2.1
  have hE := p0.1.2.2.2.2.1
  unfold q_gang at hQ
  generalize hm1 : ms mem 96 (ru (mem 96) 0 0) = m1 at p0 hE
  have go : k = -1 ∨ isT w k → sh_X g (d + 7 + 1) m_Mod_gang 21 [(0, sh_r 96), (1, sh_i k)] [] m1 (sh_K m_Mod_gang Q) := by
    intro hc
    apply v_Mod_gang_21
    rintro _ rfl
    rw [hk, show (0 : Int) = ((0 : Nat) : Int) from rfl]
    have rr := gg_rng hW.1 (c := w_c w) (b_nt (w_b w)) 0 (fun _ => false) 0 (fun _ => 0) (-1, fun _ => 0) (by omega) (by omega) (by simp only; omega)
    refine s_goesOut hW.1 hW.2.1 (b_nt (w_b w)) (d + 7) 0 (fun _ => false) _ _ (fun _ => 0) (-1, fun _ => 0) _ _ (by omega) (by omega) (by decide) (by show (0 : Int) + 12 * _ ≤ 48; omega) (by simp only; omega) GM_0 (MB_ms p0.1.1 (by decide) (by decide) (by decide) (by decide) (by decide) (by decide)) (by rw [ms_n _ _ (by decide)]; exact hE) (fun j hj => absurd hj (by omega)) ⟨by rw [ms_s, ru_s], fun y => absurd y (by decide)⟩ (fun m' y1 y2 y3 => ⟨rfl, ?_⟩)
    have s1 : Sr m1 m' := Sr_tr (Sr_96 (Sr_rf m1) (i := 55) (by decide) (by decide) (by decide) (-1)) (Gq_Sr y1)
    have q1 := hQ m' (RPost_sr p0 s1 (by rw [y1.1 129 (by decide) (by decide) (by decide), ms_n _ _ (by decide)]; exact hE))
    refine ⟨fun z => ?_, fun z => ?_⟩
    · rcases hc with z2 | z2
      · exact absurd z2 z
      · rw [if_neg z, if_pos z2] at q1
        refine ⟨by omega, ?_⟩
        have e := y3.2 rr.2.1 k.toNat (by omega)
        rw [e]; exact q1
    · rw [if_pos z] at q1
      rw [y3.1]; exact q1
  apply v_Mod_gang
  rintro _ rfl
  rw [hk, hm1]
  refine ⟨fun z => go (Or.inl z), fun z => isT_then' p0.1 hk (fun q => ?_) (fun n e hn => go (Or.inr (by omega)))⟩
  rw [if_neg z, if_neg q] at hQ; exact hQ _ p0
