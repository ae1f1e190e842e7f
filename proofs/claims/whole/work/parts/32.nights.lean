/-! ===== rows: what stays so; nights ===== -/
theorem sR_d {b : Bk} (c : Nat → Int) {e : Nat} (he : e < b_nd b) (h8 : b_nd b ≤ 8) : sleepR b c e = min (b_wo b e) (c e + 1) := by unfold sleepR; grind
theorem sR_g {b : Bk} (c : Nat → Int) {e : Nat} (he : e < b_nd b) (h8 : b_nd b ≤ 8) : sleepR b c (8 + e) = max (b_gu b e) (c (8 + e) - 1) := by
  have : 8 + e - 8 = e := by omega
  unfold sleepR; grind
theorem sR_m {b : Bk} (c : Nat → Int) {t : Nat} (ht : t < b_nt b) (h4 : b_nt b ≤ 4) : sleepR b c (16 + t) = if 0 < c (16 + t) then spo (c (20 + t)) (c (16 + t)) (c (24 + t) + 1) else c (16 + t) := by
  have a1 : 16 + t + 4 = 20 + t := by omega
  have a2 : 16 + t + 8 = 24 + t := by omega
  unfold sleepR; rw [a1, a2]; grind
theorem sR_s {b : Bk} (c : Nat → Int) {t : Nat} (ht : t < 4) : sleepR b c (20 + t) = c (20 + t) := by unfold sleepR; grind
theorem sR_o {b : Bk} (c : Nat → Int) {t : Nat} (ht : t < b_nt b) (h4 : b_nt b ≤ 4) : sleepR b c (24 + t) = if 0 < c (16 + t) then c (24 + t) + 1 else c (24 + t) := by
  have a1 : 24 + t - 8 = 16 + t := by omega
  unfold sleepR; rw [a1]; grind
theorem sR_c {b : Bk} (c : Nat → Int) {t : Nat} (ht : t < b_nt b) (h4 : b_nt b ≤ 4) : sleepR b c (28 + t) = max 0 (c (28 + t) - 1) := by unfold sleepR; grind
theorem sR_q {b : Bk} (c : Nat → Int) {t : Nat} (ht : t < b_nt b) (h4 : b_nt b ≤ 4) : sleepR b c (32 + t) = if 0 < c (16 + t) ∧ c (20 + t) = 1 then min 9 (c (32 + t) + 1) else c (32 + t) := by
  have a1 : 32 + t - 16 = 16 + t := by omega
  have a2 : 32 + t - 12 = 20 + t := by omega
  unfold sleepR; rw [a1, a2]; grind
theorem sR_44 {b : Bk} (c : Nat → Int) : sleepR b c 44 = c 44 + 1 := by unfold sleepR; simp
theorem sR_k {b : Bk} (c : Nat → Int) {k : Nat} (h1 : 36 ≤ k) (h2 : k < 44) : sleepR b c k = c k := by unfold sleepR; grind
theorem sR_hi {b : Bk} (c : Nat → Int) {i : Nat} (h1 : b_nd b ≤ i) (h2 : i < 8) : sleepR b c i = c i ∧ sleepR b c (8 + i) = c (8 + i) := by
  have : 8 + i - 8 = i := by omega
  unfold sleepR; grind
theorem sR_ht {b : Bk} (c : Nat → Int) {t : Nat} (h1 : b_nt b ≤ t) (h2 : t < 4) : sleepR b c (16 + t) = c (16 + t) ∧ sleepR b c (28 + t) = c (28 + t) ∧ sleepR b c (32 + t) = c (32 + t) := by unfold sleepR; grind
theorem Inv_sleep {b : Bk} {c : Nat → Int} (hb : BkOk b) (h : Inv b c) : Inv b (sleepR b c) := by
  obtain ⟨h1, h2, h3, h4⟩ := h
  have k1 := hb.1
  have k2 := hb.2.1
  refine ⟨fun i hi => ?_, fun i hi hi2 => ?_, fun t ht => ?_, fun t ht ht2 => ?_⟩
  · rw [sR_d c hi k1, sR_g c hi k1]; have := h1 i hi; have := hb.2.2.1 i hi; omega
  · rw [(sR_hi c hi hi2).1, (sR_hi c hi hi2).2]; exact h2 i hi hi2
  · have a := h3 t ht
    rw [sR_m c ht k2, sR_c c ht k2, sR_q c ht k2, sR_s c (by omega)]
    refine ⟨?_, ?_, by omega, by omega, ?_, ?_, fun q => ?_⟩
    · split
      · exact (spo_rng (by omega)).1
      · omega
    · split
      · have := spo_rng (s := c (20 + t)) (o := c (24 + t) + 1) (m := c (16 + t)) (by omega); omega
      · omega
    · split <;> omega
    · split <;> omega
    · split at q
      · exact a.2.2.2.2.2.2 (by assumption)
      · exact a.2.2.2.2.2.2 q
  · have a := h4 t ht ht2
    have q := sR_ht (b := b) c ht ht2
    rw [q.1, q.2.1, q.2.2, sR_k c (by omega) (by omega), sR_k c (by omega) (by omega)]
    exact a
theorem Inv_nights {b : Bk} (hb : BkOk b) : ∀ (n : Nat) (c : Nat → Int), Inv b c → Inv b (nightsR b c n)
  | 0, _, h => h
  | n + 1, _, h => Inv_nights hb n _ (Inv_sleep hb h)
theorem nightsR_s (b : Bk) : ∀ (n : Nat) (c : Nat → Int), nightsR b c (n + 1) = sleepR b (nightsR b c n)
  | 0, _ => rfl
  | n + 1, c => by rw [nightsR, nightsR_s b n (sleepR b c)]; rfl
theorem nR_d {b : Bk} (hb : BkOk b) {e : Nat} (he : e < b_nd b) : ∀ (n : Nat) (c : Nat → Int), Inv b c → nightsR b c n e = min (b_wo b e) (c e + n)
  | 0, c, h => by have := h.1 e he; rw [nightsR]; omega
  | n + 1, c, h => by rw [nightsR, nR_d hb he n _ (Inv_sleep hb h), sR_d c he hb.1]; omega
theorem nR_g {b : Bk} (hb : BkOk b) {e : Nat} (he : e < b_nd b) : ∀ (n : Nat) (c : Nat → Int), Inv b c → nightsR b c n (8 + e) = max (b_gu b e) (c (8 + e) - n)
  | 0, c, h => by have := h.1 e he; rw [nightsR]; omega
  | n + 1, c, h => by rw [nightsR, nR_g hb he n _ (Inv_sleep hb h), sR_g c he hb.1]; omega
theorem nR_c {b : Bk} (hb : BkOk b) {t : Nat} (ht : t < b_nt b) : ∀ (n : Nat) (c : Nat → Int), Inv b c → nightsR b c n (28 + t) = max 0 (c (28 + t) - n)
  | 0, c, h => by have := h.2.2.1 t ht; rw [nightsR]; omega
  | n + 1, c, h => by rw [nightsR, nR_c hb ht n _ (Inv_sleep hb h), sR_c c ht hb.2.1]; omega
theorem mbF_0 (s o : Int) : ∀ n, mbF s 0 o n = 0
  | 0 => rfl
  | n + 1 => by rw [mbF, if_neg (by omega)]
theorem nR_m {b : Bk} (hb : BkOk b) {t : Nat} (ht : t < b_nt b) : ∀ (n : Nat) (c : Nat → Int), Inv b c → nightsR b c n (16 + t) = mbF (c (20 + t)) (c (16 + t)) (c (24 + t)) n
  | 0, c, h => rfl
  | n + 1, c, h => by
    have a := h.2.2.1 t ht
    have k2 := hb.2.1
    rw [nightsR, nR_m hb ht n _ (Inv_sleep hb h), sR_m c ht hb.2.1, sR_s c (by omega), sR_o c ht hb.2.1, mbF]
    by_cases q : 0 < c (16 + t)
    · rw [if_pos q, if_pos q, if_pos q]
    · have e : c (16 + t) = 0 := by omega
      rw [if_neg q, if_neg q, if_neg q, e, mbF_0]
theorem nR_s {b : Bk} {t : Nat} (ht : t < 4) : ∀ (n : Nat) (c : Nat → Int), nightsR b c n (20 + t) = c (20 + t)
  | 0, c => rfl
  | n + 1, c => by rw [nightsR, nR_s ht n, sR_s c ht]
theorem nR_44 {b : Bk} : ∀ (n : Nat) (c : Nat → Int), nightsR b c n 44 = c 44 + n
  | 0, c => by rw [nightsR]; omega
  | n + 1, c => by rw [nightsR, nR_44 n, sR_44]; omega
/-- once nothing is left, nothing comes -/
theorem nR_m0 {b : Bk} (hb : BkOk b) {t : Nat} (ht : t < b_nt b) (n : Nat) (c : Nat → Int) (h : Inv b c) (h0 : c (16 + t) = 0) : nightsR b c n (16 + t) = 0 := by rw [nR_m hb ht n c h, h0, mbF_0]
theorem nR_o {b : Bk} (hb : BkOk b) {t : Nat} (ht : t < b_nt b) : ∀ (n : Nat) (c : Nat → Int), Inv b c → 0 < nightsR b c n (16 + t) → nightsR b c n (24 + t) = c (24 + t) + n
  | 0, c, h, _ => by rw [nightsR]; omega
  | n + 1, c, h, hp => by
    have a := h.2.2.1 t ht
    rw [nightsR] at hp ⊢
    by_cases q : 0 < c (16 + t)
    · rw [nR_o hb ht n _ (Inv_sleep hb h) hp, sR_o c ht hb.2.1, if_pos q]; omega
    · have e : c (16 + t) = 0 := by omega
      rw [nR_m0 hb ht n _ (Inv_sleep hb h) (by rw [sR_m c ht hb.2.1, if_neg q, e])] at hp
      omega
theorem mbF_1 (o : Int) : ∀ (n : Nat) (m : Int) (o : Int), mbF 1 m o n = m
  | 0, m, o => rfl
  | n + 1, m, o => by
    rw [mbF]
    have e : spo 1 m (o + 1) = m := by unfold spo; rw [if_neg (by decide), if_neg (by decide), if_neg (by decide)]
    rw [e, mbF_1 o n]
    split <;> rfl
theorem nR_q {b : Bk} (hb : BkOk b) {t : Nat} (ht : t < b_nt b) : ∀ (n : Nat) (c : Nat → Int), Inv b c → 0 < c (16 + t) → nightsR b c n (32 + t) = gbF c t n
  | 0, c, h, hp => by have := h.2.2.1 t ht; rw [nightsR]; unfold gbF; split <;> omega
  | n + 1, c, h, hp => by
    have a := h.2.2.1 t ht
    have k2 := hb.2.1
    rw [nightsR_s, sR_q _ ht hb.2.1, nR_q hb ht n c h hp, nR_s (by omega), nR_m hb ht n c h]
    by_cases q : c (20 + t) = 1
    · rw [q, mbF_1 0, if_pos ⟨hp, rfl⟩]; unfold gbF; rw [if_pos q, if_pos q]; omega
    · rw [if_neg (fun z => q z.2)]; unfold gbF; rw [if_neg q, if_neg q]
/-! rows by hand -/
theorem Inv_take {b : Bk} {c : Nat → Int} (hb : BkOk b) (h : Inv b c) {t e : Nat} (ht : t < b_nt b) (he : e < b_nd b) (h1 : c (28 + t) = 0) (h2 : c (16 + t) = 0) (h3 : 0 < c e) : Inv b (takeR b c t e) := by
  have k1 := hb.1
  have k2 := hb.2.1
  have k3 := hb.2.2.1 e he
  have k4 := hb.2.2.2.1 t ht
  have a := h.1 e he
  have hbg : 0 ≤ bag b c t e ∧ bag b c t e ≤ 12 ∧ bag b c t e ≤ c e := by unfold bag; split <;> omega
  have hbn : ¬ 0 < bag b c t e → b_sk b t < c (8 + e) := by unfold bag; split <;> omega
  unfold takeR
  split
  · rename_i hp
    refine ⟨fun i hi => ?_, fun i hi hi2 => ?_, fun u hu => ?_, fun u hu hu2 => ?_⟩
    · have q := h.1 i hi
      by_cases ei : i = e
      · subst ei; simp (disch := omega) only [ru_s, ru_n]; omega
      · simp (disch := omega) only [ru_s, ru_n]; exact q
    · have q := h.2.1 i hi hi2; simp (disch := omega) only [ru_s, ru_n]; exact q
    · have q := h.2.2.1 u hu
      by_cases eu : u = t
      · subst eu; simp (disch := omega) only [ru_s, ru_n]; exact ⟨by omega, by omega, q.2.2.1, q.2.2.2.1, q.2.2.2.2.1, q.2.2.2.2.2.1, fun _ => by omega⟩
      · simp (disch := omega) only [ru_s, ru_n]; exact q
    · have q := h.2.2.2 u hu hu2; simp (disch := omega) only [ru_s, ru_n]; exact q
  · rename_i hp
    have hbn := hbn hp
    refine ⟨fun i hi => ?_, fun i hi hi2 => ?_, fun u hu => ?_, fun u hu hu2 => ?_⟩
    · have q := h.1 i hi
      by_cases ei : i = e
      · subst ei; simp (disch := omega) only [ru_s, ru_n]; omega
      · simp (disch := omega) only [ru_s, ru_n]; exact q
    · have q := h.2.1 i hi hi2; simp (disch := omega) only [ru_s, ru_n]; exact q
    · have q := h.2.2.1 u hu
      by_cases eu : u = t
      · subst eu; simp (disch := omega) only [ru_s, ru_n]; exact ⟨q.1, q.2.1, by omega, by omega, q.2.2.2.2.1, q.2.2.2.2.2.1, q.2.2.2.2.2.2⟩
      · simp (disch := omega) only [ru_s, ru_n]; exact q
    · have q := h.2.2.2 u hu hu2; simp (disch := omega) only [ru_s, ru_n]; exact q
theorem Inv_cash {b : Bk} {c : Nat → Int} (hb : BkOk b) (h : Inv b c) {t : Nat} (ht : t < b_nt b) (p : Int) : Inv b (cashR c t p) := by
  have k1 := hb.1
  have k2 := hb.2.1
  unfold cashR
  refine ⟨fun i hi => ?_, fun i hi hi2 => ?_, fun u hu => ?_, fun u hu hu2 => ?_⟩
  · have q := h.1 i hi; simp (disch := omega) only [ru_s, ru_n]; exact q
  · have q := h.2.1 i hi hi2; simp (disch := omega) only [ru_s, ru_n]; exact q
  · have q := h.2.2.1 u hu
    by_cases eu : u = t
    · subst eu; simp (disch := omega) only [ru_s, ru_n]; exact ⟨by omega, by omega, q.2.2.1, q.2.2.2.1, q.2.2.2.2.1, q.2.2.2.2.2.1, fun z => absurd z (by omega)⟩
    · simp (disch := omega) only [ru_s, ru_n]; exact q
  · have q := h.2.2.2 u hu hu2; simp (disch := omega) only [ru_s, ru_n]; exact q
theorem Inv_enjoy {b : Bk} {c : Nat → Int} (hb : BkOk b) (h : Inv b c) {t : Nat} (ht : t < b_nt b) : Inv b (enjoyR c t) := by
  have k1 := hb.1
  have k2 := hb.2.1
  unfold enjoyR
  refine ⟨fun i hi => ?_, fun i hi hi2 => ?_, fun u hu => ?_, fun u hu hu2 => ?_⟩
  · have q := h.1 i hi; simp (disch := omega) only [ru_s, ru_n]; exact q
  · have q := h.2.1 i hi hi2; simp (disch := omega) only [ru_s, ru_n]; exact q
  · have q := h.2.2.1 u hu
    by_cases eu : u = t
    · subst eu; simp (disch := omega) only [ru_s, ru_n]; exact ⟨by omega, by omega, q.2.2.1, q.2.2.2.1, by omega, by omega, fun z => absurd z (by omega)⟩
    · simp (disch := omega) only [ru_s, ru_n]; exact q
  · have q := h.2.2.2 u hu hu2; simp (disch := omega) only [ru_s, ru_n]; exact q
theorem Inv_trade {b : Bk} {c : Nat → Int} (hb : BkOk b) (h : Inv b c) {t u : Nat} (ht : t < b_nt b) (hu : u < b_nt b) (ne : t ≠ u) : Inv b (tradeR c t u) := by
  have k1 := hb.1
  have k2 := hb.2.1
  have qt := h.2.2.1 t ht
  have qu := h.2.2.1 u hu
  refine ⟨fun i hi => ?_, fun i hi hi2 => ?_, fun v hv => ?_, fun v hv hv2 => ?_⟩
  · have q := h.1 i hi; simp (disch := omega) only [tradeR, xch, ru_s, ru_n]; exact q
  · have q := h.2.1 i hi hi2; simp (disch := omega) only [tradeR, xch, ru_s, ru_n]; exact q
  · have q := h.2.2.1 v hv
    by_cases e1 : v = t
    · subst e1; simp (disch := omega) only [tradeR, xch, ru_s, ru_n]; exact ⟨qu.1, qu.2.1, q.2.2.1, q.2.2.2.1, q.2.2.2.2.1, q.2.2.2.2.2.1, qu.2.2.2.2.2.2⟩
    · by_cases e2 : v = u
      · subst e2; simp (disch := omega) only [tradeR, xch, ru_s, ru_n]; exact ⟨qt.1, qt.2.1, q.2.2.1, q.2.2.2.1, q.2.2.2.2.1, q.2.2.2.2.2.1, qt.2.2.2.2.2.2⟩
      · simp (disch := omega) only [tradeR, xch, ru_s, ru_n]; exact q
  · have q := h.2.2.2 v hv hv2; simp (disch := omega) only [tradeR, xch, ru_s, ru_n]; exact q
theorem Inv_fresh {b : Bk} (hb : BkOk b) : Inv b (freshR b) := by
  have k1 := hb.1
  have k2 := hb.2.1
  refine ⟨fun i hi => ?_, fun i hi hi2 => ?_, fun v hv => ?_, fun v hv hv2 => ?_⟩
  · have q := hb.2.2.1 i hi
    have e : 8 + i - 8 = i := by omega
    unfold freshR; rw [e]; grind
  · have e : 8 + i - 8 = i := by omega
    unfold freshR; rw [e]; grind
  · unfold freshR; grind
  · unfold freshR; grind
theorem Inv_cong {b : Bk} (hb : BkOk b) {c c' : Nat → Int} (h : ∀ k, k < 45 → c' k = c k) (hI : Inv b c) : Inv b c' := by
  have k1 := hb.1
  have k2 := hb.2.1
  refine ⟨fun i hi => ?_, fun i hi hi2 => ?_, fun v hv => ?_, fun v hv hv2 => ?_⟩
  · rw [h _ (by omega), h _ (by omega)]; exact hI.1 i hi
  · rw [h _ (by omega), h _ (by omega)]; exact hI.2.1 i hi hi2
  · rw [h _ (by omega), h _ (by omega), h _ (by omega), h _ (by omega)]; exact hI.2.2.1 v hv
  · rw [h _ (by omega), h _ (by omega), h _ (by omega), h _ (by omega), h _ (by omega)]; exact hI.2.2.2 v hv hv2
theorem EQ_cong {r r' c c' : Nat → Int} (h1 : ∀ k, k < 45 → r' k = r k) (h2 : ∀ k, k < 45 → c' k = c k) (h : EQ r c) : EQ r' c' := by
  refine ⟨?_, fun i hi => ?_, fun t ht => ?_⟩
  · rw [h1 _ (by omega), h2 _ (by omega)]; exact h.1
  · rw [h1 _ (by omega), h2 _ (by omega), h1 _ (by omega), h2 _ (by omega)]; exact h.2.1 i hi
  · rw [h1 _ (by omega), h1 _ (by omega), h1 _ (by omega), h1 _ (by omega), h1 _ (by omega), h1 _ (by omega), h1 _ (by omega), h2 _ (by omega), h2 _ (by omega), h2 _ (by omega), h2 _ (by omega), h2 _ (by omega), h2 _ (by omega), h2 _ (by omega)]; exact h.2.2 t ht
