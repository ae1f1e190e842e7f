/-! ===== how the class holds what both know ===== -/
def Z (c : Nat → Int) : Prop := ∀ k, 45 ≤ k → c k = 0
theorem Z_ru {c : Nat → Int} (h : Z c) {i : Nat} (hi : i < 45) (x : Int) : Z (ru c i x) := fun k hk => by rw [ru_n _ _ (by omega)]; exact h k hk
theorem Z_take {b : Bk} {c : Nat → Int} (h : Z c) {t e : Nat} (ht : t < 4) (he : e < 8) : Z (takeR b c t e) := by
  unfold takeR; split
  · exact Z_ru (Z_ru (Z_ru (Z_ru (Z_ru h (by omega) _) (by omega) _) (by omega) _) (by omega) _) (by omega) _
  · exact Z_ru (Z_ru h (by omega) _) (by omega) _
theorem Z_cash {c : Nat → Int} (h : Z c) {t : Nat} (ht : t < 4) (p : Int) : Z (cashR c t p) := Z_ru (Z_ru h (by omega) _) (by omega) _
theorem Z_enjoy {c : Nat → Int} (h : Z c) {t : Nat} (ht : t < 4) : Z (enjoyR c t) := Z_ru (Z_ru (Z_ru h (by omega) _) (by omega) _) (by omega) _
theorem Z_trade {c : Nat → Int} (h : Z c) {t u : Nat} (ht : t < 4) (hu : u < 4) : Z (tradeR c t u) := by
  unfold tradeR xch
  exact Z_ru (Z_ru (Z_ru (Z_ru (Z_ru (Z_ru h (by omega) _) (by omega) _) (by omega) _) (by omega) _) (by omega) _) (by omega) _
theorem Z_sleep {b : Bk} {c : Nat → Int} (h : Z c) : Z (sleepR b c) := by
  intro k hk
  unfold sleepR
  rw [if_neg (by omega), if_neg (by omega), if_neg (by omega), if_neg (by omega), if_neg (by omega), if_neg (by omega), if_neg (by omega), if_neg (by omega)]
  exact h k hk
theorem Z_fresh (b : Bk) : Z (freshR b) := by
  intro k hk; unfold freshR; rw [if_neg (by omega), if_neg (by omega)]
theorem Z_begin {b : Bk} {c : Nat → Int} (h : Z c) : beginR b c = freshR b := by
  funext k; unfold beginR; split
  · rfl
  · rw [h k (by omega), Z_fresh b k (by omega)]
theorem Z_cpy {f r : Nat → Int} (hf : Z f) (hr : Z r) : cpy f r 0 0 45 = f := by
  funext k; unfold cpy
  by_cases q : k < 45
  · rw [if_pos (by omega)]; congr 1; omega
  · rw [if_neg (by omega), hr k (by omega), hf k (by omega)]
/-- what is kept: a ring, the newest first -/
def CP (u f : Nat → Int) (L : List (Nat → Int)) : Prop := ∃ n : Nat, n < 16 ∧ f 1 = (n : Int) ∧ f 2 = (L.length : Int) ∧ L.length ≤ 16 ∧ ∀ i, i < L.length → ∀ k, k < 45 → u (45 * ((n + 15 - i) % 16) + k) = L.getD i (fun _ => 0) k
def CS (mem : sh_Mem) (E : Nat) (s : Se) : Prop := mem E 0 = (s.1 : Int) ∧ ∀ i, i < s.1 → mem (E + 1) i = s.2.1 i ∧ mem (E + 2) i = s.2.2.1 i ∧ mem (E + 3) i = s.2.2.2 i
def CY (mem : sh_Mem) (Y : Nat) (y : Se) : Prop := mem Y 0 = (y.1 : Int) ∧ ∀ i, i < y.1 → mem (Y + 1) i = y.2.1 i ∧ (y.2.1 i ≠ 0 → mem (Y + 2) i = y.2.2.1 i) ∧ (y.2.1 i = 1 ∨ y.2.1 i = 4 → mem (Y + 3) i = y.2.2.2 i)
def CR (B Y : Nat) (w : Wd) (mem : sh_Mem) : Prop :=
  (mem 1 9 = (B : Int) ∧ mem 1 10 = ((55 - B : Nat) : Int) ∧ mem 1 11 = (Y : Int) ∧ mem 1 12 = ((92 - Y : Nat) : Int)) ∧ CB mem B (w_b w) ∧ CL mem B (w_b w) ∧
  ((∀ i, i < b_nd (w_b w) → mem (B + 1) i = (w_nm w).1 i) ∧ ∀ t, t < b_nt (w_b w) → mem (B + 5) t = (w_nm w).2 t) ∧
  (mem 6 = w_c w ∧ Z (w_c w) ∧ Z (mem 8) ∧ (∀ p ∈ w_p w, Z p) ∧ ∀ j, j < 4 → ∀ q, w_m w j = some q → Z q.1) ∧
  CP (mem 10) (mem 9) (w_p w) ∧ CY mem Y (w_y w) ∧ CS mem 11 (w_s w) ∧
  (∀ j, j < 4 → mem (52 + 11 * j) 0 = (if (w_m w j).isSome then 1 else 0) ∧ ∀ q, w_m w j = some q → (∀ k, k < 45 → mem (54 + 11 * j) k = q.1 k) ∧ CY mem (55 + 11 * j) q.2.1 ∧ CS mem (59 + 11 * j) q.2.2) ∧
  mem 2 1 = ((w_t w).1 : Int) ∧ ∀ i, i < (w_t w).1 → mem 3 i = (w_t w).2 i
abbrev obB (B : Nat) : Prop := B = 22 ∨ B = 33
abbrev obY (Y : Nat) : Prop := Y = 44 ∨ Y = 48
theorem obB_0 {B : Nat} (h : obB B) : ob0 B := by unfold ob0; rcases h with rfl | rfl <;> decide
theorem obY_10 {Y : Nat} (h : obY Y) : ob10 Y := by unfold ob10; rcases h with rfl | rfl <;> decide
theorem o5 : ob8 5 := by unfold ob8; decide
theorem o7 : ob8 7 := by unfold ob8; decide
theorem o11 : ob6 11 := by unfold ob6; decide
def CRel (w : Wd) (mem : sh_Mem) : Prop := ∃ B Y : Nat, obB B ∧ obY Y ∧ CR B Y w mem
/-- the reference's cells are as they were -/
def Hi (m m' : sh_Mem) : Prop := ∀ a, 96 ≤ a → m' a = m a
def CPost (w : Wd) (m m' : sh_Mem) : Prop := CRel w m' ∧ Hi m m'
abbrev csc (a : Nat) : Prop := a = 4 ∨ (7 ≤ a ∧ a ≤ 8) ∨ (15 ≤ a ∧ a ≤ 20) ∨ a = 32 ∨ a = 43
theorem CY_cong {m M : sh_Mem} {Y : Nat} {y : Se} (h : CY m Y y) (e0 : M Y = m Y) (e1 : M (Y + 1) = m (Y + 1)) (e2 : M (Y + 2) = m (Y + 2)) (e3 : M (Y + 3) = m (Y + 3)) : CY M Y y := by
  unfold CY at *; rw [e0, e1, e2, e3]; exact h
theorem CS_cong {m M : sh_Mem} {Y : Nat} {y : Se} (h : CS m Y y) (e0 : M Y = m Y) (e1 : M (Y + 1) = m (Y + 1)) (e2 : M (Y + 2) = m (Y + 2)) (e3 : M (Y + 3) = m (Y + 3)) : CS M Y y := by
  unfold CS at *; rw [e0, e1, e2, e3]; exact h
theorem CB_cong {m M : sh_Mem} {B : Nat} {b : Bk} (h : CB m B b) (e : ∀ k, k ≤ 9 → M (B + k) = m (B + k)) : CB M B b := by
  have e0 := e 0 (by omega)
  rw [Nat.add_zero] at e0
  unfold CB at *
  rw [e0, e 2 (by omega), e 3 (by omega), e 4 (by omega), e 6 (by omega), e 7 (by omega)]; exact h
theorem CL_cong {m M : sh_Mem} {B : Nat} {b : Bk} (h : CL m B b) (e : ∀ k, k ≤ 9 → M (B + k) = m (B + k)) : CL M B b := by
  unfold CL at *
  rw [e 8 (by omega), e 9 (by omega)]; exact h
/-- another row, another past; what is scratch otherwise -/
theorem CR_kp {B Y : Nat} {w : Wd} {m M : sh_Mem} {c' : Nat → Int} {L : List (Nat → Int)} (hB : obB B) (hY : obY Y) (h : CR B Y w m) (e : ∀ a, a < 96 → a ≠ 6 → a ≠ 9 → a ≠ 10 → ¬ csc a → M a = m a) (h6 : M 6 = c') (hZ : Z c') (h8 : Z (M 8)) (hP : CP (M 10) (M 9) L) (hZL : ∀ p ∈ L, Z p) : CR B Y (w_b w, w_nm w, c', L, w.2.2.2.2) M := by
  obtain ⟨h1, h2, h3, h4, h5, h6', h7, h8', h9, h10, h11⟩ := h
  have eB : ∀ k, k ≤ 9 → M (B + k) = m (B + k) := fun k hk => e _ (by omega) (by omega) (by omega) (by omega) (by unfold csc; omega)
  refine ⟨?_, CB_cong h2 eB, CL_cong h3 eB, ?_, ⟨h6, hZ, h8, hZL, h5.2.2.2.2⟩, hP, ?_, ?_, ?_, ?_, ?_⟩
  · rw [e 1 (by omega) (by omega) (by omega) (by omega) (by unfold csc; omega)]; exact h1
  · rw [eB 1 (by omega), eB 5 (by omega)]; exact h4
  · exact CY_cong h7 (e _ (by omega) (by omega) (by omega) (by omega) (by unfold csc; omega)) (e _ (by omega) (by omega) (by omega) (by omega) (by unfold csc; omega)) (e _ (by omega) (by omega) (by omega) (by omega) (by unfold csc; omega)) (e _ (by omega) (by omega) (by omega) (by omega) (by unfold csc; omega))
  · exact CS_cong h8' (e _ (by omega) (by omega) (by omega) (by omega) (by unfold csc; omega)) (e _ (by omega) (by omega) (by omega) (by omega) (by unfold csc; omega)) (e _ (by omega) (by omega) (by omega) (by omega) (by unfold csc; omega)) (e _ (by omega) (by omega) (by omega) (by omega) (by unfold csc; omega))
  · intro j hj
    obtain ⟨a1, a2⟩ := h9 j hj
    have ee : ∀ k, k ≤ 10 → M (52 + 11 * j + k) = m (52 + 11 * j + k) := fun k hk => e _ (by omega) (by omega) (by omega) (by omega) (by unfold csc; omega)
    refine ⟨by rw [e (52 + 11 * j) (by omega) (by omega) (by omega) (by omega) (by unfold csc; omega)]; exact a1, fun q hq => ?_⟩
    obtain ⟨b1, b2, b3⟩ := a2 q hq
    refine ⟨by rw [e (54 + 11 * j) (by omega) (by omega) (by omega) (by omega) (by unfold csc; omega)]; exact b1, ?_, ?_⟩
    · exact CY_cong b2 (e _ (by omega) (by omega) (by omega) (by omega) (by unfold csc; omega)) (e _ (by omega) (by omega) (by omega) (by omega) (by unfold csc; omega)) (e _ (by omega) (by omega) (by omega) (by omega) (by unfold csc; omega)) (e _ (by omega) (by omega) (by omega) (by omega) (by unfold csc; omega))
    · exact CS_cong b3 (e _ (by omega) (by omega) (by omega) (by omega) (by unfold csc; omega)) (e _ (by omega) (by omega) (by omega) (by omega) (by unfold csc; omega)) (e _ (by omega) (by omega) (by omega) (by omega) (by unfold csc; omega)) (e _ (by omega) (by omega) (by omega) (by omega) (by unfold csc; omega))
  · rw [e 2 (by omega) (by omega) (by omega) (by omega) (by unfold csc; omega)]; exact h10
  · rw [e 3 (by omega) (by omega) (by omega) (by omega) (by unfold csc; omega)]; exact h11
/-- what an inner call of the class leaves: its scratch -/
def Cs (m m' : sh_Mem) : Prop := (∀ a, ¬ csc a → m' a = m a) ∧ Z (m' 8)
theorem CR_Cs {B Y : Nat} {w : Wd} {m M : sh_Mem} (hB : obB B) (hY : obY Y) (h : CR B Y w m) (hs : Cs m M) : CR B Y w M := by
  have h5 := h.2.2.2.2.1
  have := CR_kp (c' := w_c w) (L := w_p w) hB hY h (fun a _ _ _ _ h5 => hs.1 a h5) (by rw [hs.1 6 (by decide)]; exact h5.1) h5.2.1 hs.2 (by rw [hs.1 9 (by decide), hs.1 10 (by decide)]; exact h.2.2.2.2.2.1) h5.2.2.2.1
  exact this
theorem Cs_rf {B Y : Nat} {w : Wd} {m : sh_Mem} (h : CR B Y w m) : Cs m m := ⟨fun _ _ => rfl, h.2.2.2.2.1.2.2.1⟩
theorem Cs_tr {m m' m'' : sh_Mem} (h : Cs m m') (h2 : Cs m' m'') : Cs m m'' := ⟨fun a ha => (h2.1 a ha).trans (h.1 a ha), h2.2⟩
theorem Cs_ms {m m' : sh_Mem} (h : Cs m m') {a : Nat} (h1 : csc a) (h2 : a ≠ 8) (r : Nat → Int) : Cs m (ms m' a r) := ⟨fun b hb => by rw [ms_n _ _ (fun e : b = a => hb (by rw [e]; exact h1))]; exact h.1 b hb, by rw [ms_n _ _ (Ne.symm h2)]; exact h.2⟩
theorem Cs_8 {m m' : sh_Mem} (h : Cs m m') {r : Nat → Int} (hr : Z r) : Cs m (ms m' 8 r) := ⟨fun b hb => by rw [ms_n _ _ (fun e : b = 8 => hb (by rw [e]; decide))]; exact h.1 b hb, by rw [ms_s]; exact hr⟩
theorem Cs_Hi {m m' : sh_Mem} (h : Cs m m') : Hi m m' := fun a ha => h.1 a (by unfold csc; omega)
theorem csc_10 {B : Nat} (h : obB B) : csc (B + 10) ∧ B + 10 ≠ 8 := by rcases h with rfl | rfl <;> decide
theorem Hi_rf (m : sh_Mem) : Hi m m := fun _ _ => rfl
theorem Hi_tr {m m' m'' : sh_Mem} (h : Hi m m') (h2 : Hi m' m'') : Hi m m'' := fun a ha => (h2 a ha).trans (h a ha)
theorem Hi_ms {m m' : sh_Mem} (h : Hi m m') {a : Nat} (h1 : a < 96) (r : Nat → Int) : Hi m (ms m' a r) := fun b hb => by rw [ms_n _ _ (by omega)]; exact h b hb
theorem CPost_Cs {B Y : Nat} {w : Wd} {m M : sh_Mem} (hB : obB B) (hY : obY Y) (h : CR B Y w m) (hs : Cs m M) : CPost w m M := ⟨⟨B, Y, hB, hY, CR_Cs hB hY h hs⟩, Cs_Hi hs⟩
theorem CPost_rf {B Y : Nat} {w : Wd} {m : sh_Mem} (hB : obB B) (hY : obY Y) (h : CR B Y w m) : CPost w m m := ⟨⟨B, Y, hB, hY, h⟩, Hi_rf m⟩
theorem CPost_ms {B Y : Nat} {w : Wd} {m : sh_Mem} (hB : obB B) (hY : obY Y) (h : CR B Y w m) {a : Nat} (h1 : csc a) (h2 : a ≠ 8) (r : Nat → Int) : CPost w m (ms m a r) := CPost_Cs hB hY h (Cs_ms (Cs_rf h) h1 h2 r)
/-! questions of the class -/
theorem cD_then {g : sh_G} {d B Y : Nat} {w : Wd} {mem : sh_Mem} {t : Int} {A A2 : sh_Mem → Prop} (hB : obB B) (h : CR B Y w mem) (ht : i3 t = t) (h0 : ¬ isD w t → A mem) (h1 : ∀ n : Nat, t = (n : Int) → n < b_nd (w_b w) → A2 mem) : sh_Cal g d m_Sto_isDay [sh_r 1, sh_i t] mem (fun rv m2 => ∃ r1 : Int, rv = some (sh_i r1) ∧ ((i3 r1 = 0 → A m2) ∧ (¬ i3 r1 = 0 → A2 m2))) := by
  have k1 := h.2.1.1.1
  apply v_Sto_isDay (obB_0 hB)
  rw [h.2.1.2.1, ht, i3n (by omega)]
  refine ⟨fun q => ⟨_, rfl, fun _ => h0 (by omega), fun z => absurd rfl z⟩, fun q => ⟨h.1.1, fun q2 => ⟨_, rfl, fun _ => h0 (by omega), fun z => absurd rfl z⟩, fun q2 => ⟨_, rfl, fun z => absurd z (by decide), fun _ => h1 t.toNat (by omega) (by omega)⟩⟩⟩
theorem cT_then {g : sh_G} {d B Y : Nat} {w : Wd} {mem : sh_Mem} {t : Int} {A A2 : sh_Mem → Prop} (hB : obB B) (h : CR B Y w mem) (ht : i3 t = t) (h0 : ¬ isT w t → A mem) (h1 : ∀ n : Nat, t = (n : Int) → n < b_nt (w_b w) → A2 mem) : sh_Cal g d m_Sto_isThief [sh_r 1, sh_i t] mem (fun rv m2 => ∃ r1 : Int, rv = some (sh_i r1) ∧ ((i3 r1 = 0 → A m2) ∧ (¬ i3 r1 = 0 → A2 m2))) := by
  have k1 := h.2.1.1.2.1
  apply v_Sto_isThief (obB_0 hB)
  rw [h.2.1.2.2.1, ht, i3n (by omega)]
  refine ⟨fun q => ⟨_, rfl, fun _ => h0 (by omega), fun z => absurd rfl z⟩, fun q => ⟨h.1.1, fun q2 => ⟨_, rfl, fun _ => h0 (by omega), fun z => absurd rfl z⟩, fun q2 => ⟨_, rfl, fun z => absurd z (by decide), fun _ => h1 t.toNat (by omega) (by omega)⟩⟩⟩
theorem cD_then' {g : sh_G} {d B Y : Nat} {w : Wd} {mem : sh_Mem} {t : Int} {A A2 : sh_Mem → Prop} (hB : obB B) (h : CR B Y w mem) (ht : i3 t = t) (h0 : ¬ isD w t → A mem) (h1 : ∀ n : Nat, t = (n : Int) → n < b_nd (w_b w) → A2 mem) : sh_Cal g d m_Sto_isDay [sh_r 1, sh_i t] mem (fun rv m2 => ∃ r1 : Int, rv = some (sh_i r1) ∧ ((¬ i3 r1 = 0 → A2 m2) ∧ (i3 r1 = 0 → A m2))) := by
  refine sh_mono (cD_then hB h ht h0 h1) (fun rv m2 hx => ?_)
  obtain ⟨r1, e, y1, y2⟩ := hx
  exact ⟨r1, e, y2, y1⟩
theorem cT_then' {g : sh_G} {d B Y : Nat} {w : Wd} {mem : sh_Mem} {t : Int} {A A2 : sh_Mem → Prop} (hB : obB B) (h : CR B Y w mem) (ht : i3 t = t) (h0 : ¬ isT w t → A mem) (h1 : ∀ n : Nat, t = (n : Int) → n < b_nt (w_b w) → A2 mem) : sh_Cal g d m_Sto_isThief [sh_r 1, sh_i t] mem (fun rv m2 => ∃ r1 : Int, rv = some (sh_i r1) ∧ ((¬ i3 r1 = 0 → A2 m2) ∧ (i3 r1 = 0 → A m2))) := by
  refine sh_mono (cT_then hB h ht h0 h1) (fun rv m2 hx => ?_)
  obtain ⟨r1, e, y1, y2⟩ := hx
  exact ⟨r1, e, y2, y1⟩
theorem cW_then {g : sh_G} {d : Nat} {mem : sh_Mem} {x a b : Int} {A A2 : sh_Mem → Prop} (hx : i3 x = x) (ha : i3 a = a) (hb : i3 b = b) (h0 : ¬ (a ≤ x ∧ x ≤ b) → A mem) (h1 : a ≤ x ∧ x ≤ b → A2 mem) : sh_Cal g d m_Sto_isWithin [sh_i x, sh_i a, sh_i b] mem (fun rv m2 => ∃ r1 : Int, rv = some (sh_i r1) ∧ ((i3 r1 = 0 → A m2) ∧ (¬ i3 r1 = 0 → A2 m2))) := by
  apply v_Sto_isWithin
  rw [hx, ha, hb]
  refine ⟨fun q => ⟨_, rfl, fun _ => h0 (by omega), fun z => absurd rfl z⟩, fun q => ⟨fun q2 => ⟨_, rfl, fun _ => h0 (by omega), fun z => absurd rfl z⟩, fun q2 => ⟨_, rfl, fun z => absurd z (by decide), fun _ => h1 (by omega)⟩⟩⟩
theorem cW_then' {g : sh_G} {d : Nat} {mem : sh_Mem} {x a b : Int} {A A2 : sh_Mem → Prop} (hx : i3 x = x) (ha : i3 a = a) (hb : i3 b = b) (h0 : ¬ (a ≤ x ∧ x ≤ b) → A mem) (h1 : a ≤ x ∧ x ≤ b → A2 mem) : sh_Cal g d m_Sto_isWithin [sh_i x, sh_i a, sh_i b] mem (fun rv m2 => ∃ r1 : Int, rv = some (sh_i r1) ∧ ((¬ i3 r1 = 0 → A2 m2) ∧ (i3 r1 = 0 → A m2))) := by
  refine sh_mono (cW_then hx ha hb h0 h1) (fun rv m2 hx => ?_)
  obtain ⟨r1, e, y1, y2⟩ := hx
  exact ⟨r1, e, y2, y1⟩
/-! the ring -/
theorem rem16 : ∀ n, n < 32 → i_rem ((n : Nat) : Int) 16 = ((n % 16 : Nat) : Int) := by decide +kernel
theorem s_Past_keep {g : sh_G} {d : Nat} {mem : sh_Mem} {L : List (Nat → Int)} {Q : Option sh_V → sh_Mem → Prop} (hP : CP (mem 10) (mem 9) L) (h : ∀ u f, CP u f ((mem 6 :: L).take 16) → Q none (ms (ms mem 10 u) 9 f)) : sh_Cal g (d + 1) m_Past_keep [sh_r 9, sh_r 5] mem Q := by
  obtain ⟨n, p1, p2, p3, p4, p5⟩ := hP
  apply v_Past_keep o5
  have e1 : (((n : Nat) : Int) * 45).toNat = 45 * n := by omega
  rw [p2, e1]
  refine ⟨by omega, ?_⟩
  rintro _ rfl
  rintro _ rfl
  rintro _ rfl
  simp only [ms_s, ms_ms, ms_n _ _ (show (9 : Nat) ≠ 10 by decide), p2, ru_n _ _ (show (2 : Nat) ≠ 1 by decide), p3]
  rw [show ((n : Int) + 1) = ((n + 1 : Nat) : Int) by omega, rem16 (n + 1) (by omega), i3s (x := (L.length : Int) + 1) (by omega) (by omega), show i3 16 = 16 from rfl]
  refine h _ _ ⟨(n + 1) % 16, by omega, ?_, ?_, by simp; omega, fun i hi k hk => ?_⟩
  · rw [ru_n _ _ (by decide), ru_s]
  · rw [ru_s]; simp only [List.length_take, List.length_cons]; split <;> omega
  · simp only [List.length_take, List.length_cons] at hi
    show cpy (mem 6) (mem 10) 0 (45 * n) 45 (45 * (((n + 1) % 16 + 15 - i) % 16) + k) = _
    have e2 : ((mem 6 :: L).take 16).getD i (fun _ => 0) = (mem 6 :: L).getD i (fun _ => 0) := by
      simp only [List.getD_eq_getElem?_getD]; rw [List.getElem?_take_of_lt (by omega)]
    rw [e2]
    cases i with
    | zero =>
      have e3 : ((n + 1) % 16 + 15 - 0) % 16 = n := by omega
      rw [e3]; unfold cpy; rw [if_pos (by omega)]
      simp only [List.getD_cons_zero]
      congr 1; omega
    | succ i =>
      have e3 : ((n + 1) % 16 + 15 - (i + 1)) % 16 = (n + 15 - i) % 16 := by omega
      have e4 : (n + 15 - i) % 16 ≠ n := by omega
      rw [e3, List.getD_cons_succ, ← p5 i (by omega) k hk]
      unfold cpy; rw [if_neg (by omega)]
