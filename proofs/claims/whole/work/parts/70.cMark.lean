/-! ===== the class: marks ===== -/
theorem ob10_far {a c : Nat} (h : ob10 a) (h2 : ob10 c) (hn : a ≠ c) : a + 3 < c ∨ c + 3 < a := (by decide : ∀ x ∈ ([44, 48, 55, 66, 77, 88] : List Nat), ∀ y ∈ ([44, 48, 55, 66, 77, 88] : List Nat), x ≠ y → x + 3 < y ∨ y + 3 < x) a h c h2 hn
theorem ob6_far {a c : Nat} (h : ob6 a) (h2 : ob6 c) (hn : a ≠ c) : a + 3 < c ∨ c + 3 < a := (by decide : ∀ x ∈ ([11, 59, 70, 81, 92] : List Nat), ∀ y ∈ ([11, 59, 70, 81, 92] : List Nat), x ≠ y → x + 3 < y ∨ y + 3 < x) a h c h2 hn
theorem s_Year_copy {g : sh_G} {d Y Y2 : Nat} {y : Se} {mem : sh_Mem} {Q : Option sh_V → sh_Mem → Prop} (hY : ob10 Y) (hY2 : ob10 Y2) (hn : Y ≠ Y2) (h40 : y.1 ≤ 40) (hy : CY mem Y2 y) (h : ∀ M, (∀ a, a < Y ∨ Y + 3 < a → M a = mem a) → CY M Y y → Q none M) : sh_Cal g (d + 1) m_Year_copy [sh_r Y, sh_r Y2] mem Q := by
  have far := ob10_far hY hY2 hn
  apply v_Year_copy hY hY2
  rintro _ rfl
  rintro _ rfl
  rintro _ rfl
  rintro _ rfl
  refine h _ (fun a ha => ?_) ?_
  · rw [ms_n _ _ (by omega), ms_n _ _ (by omega), ms_n _ _ (by omega), ms_n _ _ (by omega)]
  · have c0 : ∀ (f r : Nat → Int) (i : Nat), i < 40 → cpy f r ((0 : Int)).toNat ((0 : Int)).toNat ((40 : Int)).toNat i = f i := by
      intro f r i hi
      show cpy f r 0 0 40 i = f i
      unfold cpy; rw [if_pos (by omega)]; congr 1; omega
    refine ⟨?_, fun i hi => ?_⟩
    · rw [ms_n _ _ (by omega), ms_n _ _ (by omega), ms_n _ _ (by omega), ms_s, ru_s]; exact hy.1
    · have q := hy.2 i hi
      rw [ms_n _ _ (show Y + 1 ≠ Y + 3 by omega), ms_n _ _ (show Y + 1 ≠ Y + 2 by omega), ms_s, ms_n _ _ (show Y + 2 ≠ Y + 3 by omega), ms_s, ms_s, c0 _ _ i (by omega), c0 _ _ i (by omega), c0 _ _ i (by omega), ms_n _ _ (show Y2 + 1 ≠ Y by omega), ms_n _ _ (show Y2 + 2 ≠ Y + 1 by omega), ms_n _ _ (show Y2 + 2 ≠ Y by omega), ms_n _ _ (show Y2 + 3 ≠ Y + 2 by omega), ms_n _ _ (show Y2 + 3 ≠ Y + 1 by omega), ms_n _ _ (show Y2 + 3 ≠ Y by omega)]
      exact q
theorem l_Seen_copy {g : sh_G} {d E E2 : Nat} {s : Se} {mem : sh_Mem} {Q : Option sh_V → sh_Mem → Prop} (hE : ob6 E) (hE2 : ob6 E2) (hn : E ≠ E2) (h8 : s.1 ≤ 8) (hb : ∀ i, i < s.1 → s.2.2.2 i = 0 ∨ s.2.2.2 i = 1) (hs : CS mem E2 s) (h : ∀ M, (∀ a, a < E ∨ E + 3 < a → M a = mem a) → CS M E s → Q none M) : ∀ (k x : Nat) (m : sh_Mem), x + k = s.1 → (∀ a, a < E ∨ E + 3 < a → m a = mem a) → m E 0 = (s.1 : Int) → (∀ i, i < x → m (E + 1) i = s.2.1 i ∧ m (E + 2) i = s.2.2.1 i ∧ m (E + 3) i = s.2.2.2 i) →
    sh_X g d m_Seen_copy 10 [(0, sh_r E), (1, sh_r E2), (2, sh_i (x : Int))] [] m (sh_K m_Seen_copy Q) := by
  have far := ob6_far hE hE2 hn
  intro k
  induction k with
  | zero =>
    intro x m hx hm h0 hi
    obtain rfl : x = s.1 := by omega
    apply v_Seen_copy_10 hE hE2
    rw [h0]
    exact ⟨fun _ => h m hm ⟨h0, hi⟩, fun q => absurd (by omega) q⟩
  | succ k ih =>
    intro x m hx hm h0 hi
    have q := hs.2 x (by omega)
    have e1 : m (E2 + 1) x = s.2.1 x := by rw [hm (E2 + 1) (by omega)]; exact q.1
    have e2 : m (E2 + 2) x = s.2.2.1 x := by rw [hm (E2 + 2) (by omega)]; exact q.2.1
    have e3 : m (E2 + 3) x = s.2.2.2 x := by rw [hm (E2 + 3) (by omega)]; exact q.2.2
    apply v_Seen_copy_10 hE hE2
    rw [h0, i3n (by omega), i3n (by omega)]
    refine ⟨fun q => absurd q (by omega), fun _ => ⟨by omega, by omega, ?_⟩⟩
    rintro _ rfl
    refine ⟨by omega, by omega, ?_⟩
    rintro _ rfl
    rw [ms_n _ _ (show E2 + 3 ≠ E + 2 by omega), ms_n _ _ (show E2 + 3 ≠ E + 1 by omega), e3]
    refine ⟨by omega, hb x (by omega), by omega, ?_⟩
    rintro _ rfl
    refine ih (x + 1) _ (by omega) (fun a ha => ?_) ?_ (fun i hi2 => ?_)
    · rw [ms_n _ _ (by omega), ms_n _ _ (by omega), ms_n _ _ (by omega)]; exact hm a ha
    · rw [ms_n _ _ (by omega), ms_n _ _ (by omega), ms_n _ _ (by omega)]; exact h0
    · rw [ms_n _ _ (show E + 1 ≠ E + 3 by omega), ms_n _ _ (show E + 1 ≠ E + 2 by omega), ms_s, ms_n _ _ (show E + 2 ≠ E + 3 by omega), ms_s, ms_s, ms_n _ _ (show E + 2 ≠ E + 1 by omega), ms_n _ _ (show E2 + 2 ≠ E + 1 by omega), ms_n _ _ (show E + 3 ≠ E + 2 by omega), ms_n _ _ (show E + 3 ≠ E + 1 by omega), e1, e2]
      by_cases e : i = x
      · subst e; rw [ru_s, ru_s, ru_s]; exact ⟨rfl, rfl, rfl⟩
      · rw [ru_n _ _ e, ru_n _ _ e, ru_n _ _ e]; exact hi i (by omega)
theorem s_Seen_copy {g : sh_G} {d E E2 : Nat} {s : Se} {mem : sh_Mem} {Q : Option sh_V → sh_Mem → Prop} (hE : ob6 E) (hE2 : ob6 E2) (hn : E ≠ E2) (h8 : s.1 ≤ 8) (hb : ∀ i, i < s.1 → s.2.2.2 i = 0 ∨ s.2.2.2 i = 1) (hs : CS mem E2 s) (h : ∀ M, (∀ a, a < E ∨ E + 3 < a → M a = mem a) → CS M E s → Q none M) : sh_Cal g d m_Seen_copy [sh_r E, sh_r E2] mem Q := by
  apply v_Seen_copy hE hE2
  rintro _ rfl
  exact l_Seen_copy hE hE2 hn h8 hb hs h s.1 0 _ (by omega) (fun a ha => ms_n _ _ (by omega)) (by rw [ms_s, ru_s]; exact hs.1) (fun i hi => absurd hi (by omega))
theorem CR_lay {B Y j : Nat} {w : Wd} {m M : sh_Mem} (hB : obB B) (hY : obY Y) (h : CR B Y w m) (hj : j < 4) (e : ∀ a, a < 96 → a < 52 + 11 * j ∨ 62 + 11 * j < a → M a = m a) (e0 : M (52 + 11 * j) 0 = 1) (e1 : ∀ k, k < 45 → M (54 + 11 * j) k = w_c w k) (e2 : CY M (55 + 11 * j) (w_y w)) (e3 : CS M (59 + 11 * j) (w_s w)) : CR B Y (w_lay w j) M := by
  obtain ⟨h1, h2, h3, h4, h5, h6', h7, h8', h9, h10, h11⟩ := h
  have eB : ∀ k, k ≤ 9 → M (B + k) = m (B + k) := fun k hk => e _ (by omega) (by omega)
  refine ⟨?_, CB_cong h2 eB, CL_cong h3 eB, ?_, ?_, ?_, ?_, ?_, ?_, ?_, ?_⟩
  · rw [e 1 (by omega) (by omega)]; exact h1
  · rw [eB 1 (by omega), eB 5 (by omega)]; exact h4
  · rw [e 6 (by omega) (by omega), e 8 (by omega) (by omega)]
    refine ⟨h5.1, h5.2.1, h5.2.2.1, h5.2.2.2.1, fun i hi q hq => ?_⟩
    have hq' : mu (w_m w) j (some (w_c w, w_y w, w_s w)) i = some q := hq
    unfold mu at hq'
    split at hq'
    · cases hq'; exact h5.2.1
    · exact h5.2.2.2.2 i hi q hq'
  · rw [e 10 (by omega) (by omega), e 9 (by omega) (by omega)]; exact h6'
  · exact CY_cong h7 (e _ (by omega) (by omega)) (e _ (by omega) (by omega)) (e _ (by omega) (by omega)) (e _ (by omega) (by omega))
  · exact CS_cong h8' (e _ (by omega) (by omega)) (e _ (by omega) (by omega)) (e _ (by omega) (by omega)) (e _ (by omega) (by omega))
  · intro i hi
    show M (52 + 11 * i) 0 = (if (mu (w_m w) j (some (w_c w, w_y w, w_s w)) i).isSome = true then 1 else 0) ∧ ∀ q, mu (w_m w) j (some (w_c w, w_y w, w_s w)) i = some q → _
    by_cases ei : i = j
    · subst ei
      have em : mu (w_m w) i (some (w_c w, w_y w, w_s w)) i = some (w_c w, w_y w, w_s w) := by unfold mu; rw [if_pos rfl]
      rw [em]
      refine ⟨e0, fun q hq => ?_⟩
      cases hq
      exact ⟨e1, e2, e3⟩
    · have em : mu (w_m w) j (some (w_c w, w_y w, w_s w)) i = w_m w i := by unfold mu; rw [if_neg ei]
      rw [em]
      obtain ⟨a1, a2⟩ := h9 i hi
      refine ⟨by rw [e (52 + 11 * i) (by omega) (by omega)]; exact a1, fun q hq => ?_⟩
      obtain ⟨b1, b2, b3⟩ := a2 q hq
      refine ⟨by rw [e (54 + 11 * i) (by omega) (by omega)]; exact b1, ?_, ?_⟩
      · exact CY_cong b2 (e _ (by omega) (by omega)) (e _ (by omega) (by omega)) (e _ (by omega) (by omega)) (e _ (by omega) (by omega))
      · exact CS_cong b3 (e _ (by omega) (by omega)) (e _ (by omega) (by omega)) (e _ (by omega) (by omega)) (e _ (by omega) (by omega))
  · rw [e 2 (by omega) (by omega)]; exact h10
  · rw [e 3 (by omega) (by omega)]; exact h11
theorem CR_go {B Y : Nat} {w : Wd} {m M : sh_Mem} {q : (Nat → Int) × Se × Se} (hB : obB B) (hY : obY Y) (h : CR B Y w m) (e : ∀ a, a < 96 → a ≠ 6 → a ≠ 9 → a < 11 ∨ 14 < a → a < Y ∨ Y + 3 < a → M a = m a) (e6 : M 6 = q.1) (hZ : Z q.1) (hP : CP (M 10) (M 9) []) (e2 : CY M Y q.2.1) (e3 : CS M 11 q.2.2) : CR B Y (w_go w q) M := by
  obtain ⟨h1, h2, h3, h4, h5, h6', h7, h8', h9, h10, h11⟩ := h
  have eB : ∀ k, k ≤ 9 → M (B + k) = m (B + k) := fun k hk => e _ (by omega) (by omega) (by omega) (by omega) (by omega)
  refine ⟨?_, CB_cong h2 eB, CL_cong h3 eB, ?_, ?_, hP, e2, e3, ?_, ?_, ?_⟩
  · rw [e 1 (by omega) (by omega) (by omega) (by omega) (by omega)]; exact h1
  · rw [eB 1 (by omega), eB 5 (by omega)]; exact h4
  · rw [e6, e 8 (by omega) (by omega) (by omega) (by omega) (by omega)]
    exact ⟨rfl, hZ, h5.2.2.1, fun p hp => (nomatch (show p ∈ ([] : List (Nat → Int)) from hp)), h5.2.2.2.2⟩
  · intro i hi
    obtain ⟨a1, a2⟩ := h9 i hi
    refine ⟨by rw [e (52 + 11 * i) (by omega) (by omega) (by omega) (by omega) (by omega)]; exact a1, fun q hq => ?_⟩
    obtain ⟨b1, b2, b3⟩ := a2 q hq
    refine ⟨by rw [e (54 + 11 * i) (by omega) (by omega) (by omega) (by omega) (by omega)]; exact b1, ?_, ?_⟩
    · exact CY_cong b2 (e _ (by omega) (by omega) (by omega) (by omega) (by omega)) (e _ (by omega) (by omega) (by omega) (by omega) (by omega)) (e _ (by omega) (by omega) (by omega) (by omega) (by omega)) (e _ (by omega) (by omega) (by omega) (by omega) (by omega))
    · exact CS_cong b3 (e _ (by omega) (by omega) (by omega) (by omega) (by omega)) (e _ (by omega) (by omega) (by omega) (by omega) (by omega)) (e _ (by omega) (by omega) (by omega) (by omega) (by omega)) (e _ (by omega) (by omega) (by omega) (by omega) (by omega))
  · rw [e 2 (by omega) (by omega) (by omega) (by omega) (by omega)]; exact h10
  · rw [e 3 (by omega) (by omega) (by omega) (by omega) (by omega)]; exact h11
theorem obM {j : Nat} (h : j < 4) : ob3 (52 + 11 * j) ∧ ob8 (52 + 11 * j + 1) ∧ ob10 (52 + 11 * j + 3) ∧ ob6 (52 + 11 * j + 7) := by
  unfold ob3 ob8 ob10 ob6
  rcases (by omega : j = 0 ∨ j = 1 ∨ j = 2 ∨ j = 3) with rfl | rfl | rfl | rfl <;> decide
theorem c_mark {g : sh_G} {d : Nat} {w : Wd} {mem : sh_Mem} {k back : Int} {Q : Option sh_V → sh_Mem → Prop} (hW : WOk w) (h : CRel w mem) (hk : i3 k = k) (hb : back = 0 ∨ back = 1) (hQ : ∀ m', CPost (a_mark w k back) mem m' → Q (some (sh_i (q_mark w k back))) m') : sh_Cal g (d + 3) m_Sto_mark [sh_r 1, sh_i k, sh_i back] mem Q := by
  obtain ⟨B, Y, hB, hY, hc⟩ := h
  have eb : i3 back = back := i3s (by omega) (by omega)
  have y40 := hW.2.2.2.2.1.1
  have hs := hW.2.2.2.2.2.1
  have h5 := hc.2.2.2.2.1
  unfold a_mark q_mark at hQ
  apply v_Sto_mark (obY_10 hY)
  refine cW_then' hk rfl rfl (fun q => ?_) (fun q => ?_)
  · rw [if_neg q, if_neg q] at hQ; exact hQ _ (CPost_rf hB hY hc)
  rw [if_pos q, if_pos q] at hQ
  obtain ⟨j, rfl⟩ : ∃ j : Nat, k = (j : Int) := ⟨k.toNat, by omega⟩
  have hj : j < 4 := by omega
  rw [Int.toNat_natCast] at hQ ⊢
  obtain ⟨o3, o8, o10, o6⟩ := obM hj
  obtain ⟨a1, a2⟩ := hc.2.2.2.2.2.2.2.2.1 j hj
  rw [eb, a1]
  refine ⟨fun z => ⟨by omega, fun z2 => ⟨by omega, hc.1.2.2.1, ?_⟩, fun z2 => ?_⟩, fun z => ⟨by omega, hc.1.2.2.1, ?_⟩⟩
  · rw [if_neg z, if_neg z] at hQ
    cases hq : w_m w j with
    | none => rw [hq] at z2; exact absurd rfl z2
    | some p =>
      rw [hq] at hQ
      obtain ⟨b1, b2, b3⟩ := a2 p hq
      obtain ⟨c1, c2, c3⟩ := hW.2.2.2.2.2.2.1 j hj p hq
      have zp := h5.2.2.2.2 j hj p hq
      apply v_Mark_goBack o3 o5 (obY_10 hY) o11
      refine s_State_copy (d := d + 0) (S := 5) (S2 := 52 + 11 * j + 1) o5 o8 ⟨rfl, ?_⟩
      have e6 : cpy (mem (52 + 11 * j + 1 + 1)) (mem (5 + 1)) 0 0 45 = p.1 := by
        funext i; unfold cpy
        by_cases y : i < 45
        · rw [if_pos (by omega)]
          have := b1 i y
          rw [show 54 + 11 * j = 52 + 11 * j + 1 + 1 by omega] at this
          rw [← this]; congr 1; omega
        · rw [if_neg (by omega), zp i (by omega)]
          show mem 6 i = 0
          rw [h5.1]; exact h5.2.1 i (by omega)
      rw [e6]
      refine s_Year_copy (d := d) (Y := Y) (Y2 := 52 + 11 * j + 3) (y := p.2.1) (obY_10 hY) o10 (by omega) c2.1 ?_ (fun M hM hMy => ⟨rfl, ?_⟩)
      · rw [show 52 + 11 * j + 3 = 55 + 11 * j by omega]
        exact CY_cong b2 (ms_n _ _ (by omega)) (ms_n _ _ (by omega)) (ms_n _ _ (by omega)) (ms_n _ _ (by omega))
      · refine s_Seen_copy (E := 11) (E2 := 52 + 11 * j + 7) (s := p.2.2) o11 o6 (by omega) c3.1 (fun i hi => (c3.2 i hi).2.2.2.2) ?_ (fun M2 hM2 hMs => ⟨rfl, rfl, ?_⟩)
        · rw [show 52 + 11 * j + 7 = 59 + 11 * j by omega]
          refine CS_cong b3 ?_ ?_ ?_ ?_
          · rw [hM _ (by omega), ms_n _ _ (by omega)]
          · rw [hM _ (by omega), ms_n _ _ (by omega)]
          · rw [hM _ (by omega), ms_n _ _ (by omega)]
          · rw [hM _ (by omega), ms_n _ _ (by omega)]
        · apply v_Past_clear
          rintro _ rfl
          refine ⟨rfl, hQ _ ⟨⟨B, Y, hB, hY, CR_go hB hY hc (fun a _ f1 f2 f3 f4 => ?_) ?_ zp ?_ ?_ ?_⟩, fun a ha => ?_⟩⟩
          · rw [ms_n _ _ f2, hM2 a (by omega), hM a (by omega), ms_n _ _ f1]
          · rw [ms_n _ _ (by decide), hM2 6 (by omega), hM 6 (by omega)]; exact ms_s _ _ _
          · obtain ⟨n, p1, p2, p3, -⟩ := hc.2.2.2.2.2.1
            refine ⟨n, p1, ?_, ?_, Nat.zero_le 16, fun i hi => absurd hi (Nat.not_lt_zero i)⟩
            · rw [ms_s, ru_n _ _ (by decide), hM2 9 (by omega), hM 9 (by omega), ms_n _ _ (by decide)]; exact p2
            · rw [ms_s, ru_s]; rfl
          · exact CY_cong hMy (by rw [ms_n _ _ (by omega), hM2 _ (by omega)]) (by rw [ms_n _ _ (by omega), hM2 _ (by omega)]) (by rw [ms_n _ _ (by omega), hM2 _ (by omega)]) (by rw [ms_n _ _ (by omega), hM2 _ (by omega)])
          · exact CS_cong hMs (ms_n _ _ (by decide)) (ms_n _ _ (by decide)) (ms_n _ _ (by decide)) (ms_n _ _ (by decide))
          · rw [ms_n _ _ (by omega), hM2 a (by omega), hM a (by omega), ms_n _ _ (by omega)]
  · rw [if_neg z, if_neg z] at hQ
    cases hq : w_m w j with
    | none => rw [hq] at hQ; exact hQ _ (CPost_rf hB hY hc)
    | some p => rw [hq] at z2; exact absurd (show i3 1 = 0 from z2) (by decide)
  · rw [if_pos z, if_pos z] at hQ
    apply v_Mark_lay o3 o5 (obY_10 hY) o11
    rintro _ rfl
    refine s_State_copy (d := d + 0) (S := 52 + 11 * j + 1) (S2 := 5) o8 o5 ⟨rfl, ?_⟩
    refine s_Year_copy (d := d) (Y := 52 + 11 * j + 3) (Y2 := Y) (y := w_y w) o10 (obY_10 hY) (by omega) y40 ?_ (fun M hM hMy => ⟨rfl, ?_⟩)
    · refine CY_cong hc.2.2.2.2.2.2.1 ?_ ?_ ?_ ?_
      · rw [ms_n _ _ (by omega), ms_n _ _ (by omega)]
      · rw [ms_n _ _ (by omega), ms_n _ _ (by omega)]
      · rw [ms_n _ _ (by omega), ms_n _ _ (by omega)]
      · rw [ms_n _ _ (by omega), ms_n _ _ (by omega)]
    · refine s_Seen_copy (E := 52 + 11 * j + 7) (E2 := 11) (s := w_s w) o6 o11 (by omega) hs.1 (fun i hi => (hs.2 i hi).2.2.2.2) ?_ (fun M2 hM2 hMs => ⟨rfl, rfl, ?_⟩)
      · refine CS_cong hc.2.2.2.2.2.2.2.1 ?_ ?_ ?_ ?_
        · rw [hM _ (by omega), ms_n _ _ (by omega), ms_n _ _ (by omega)]
        · rw [hM _ (by omega), ms_n _ _ (by omega), ms_n _ _ (by omega)]
        · rw [hM _ (by omega), ms_n _ _ (by omega), ms_n _ _ (by omega)]
        · rw [hM _ (by omega), ms_n _ _ (by omega), ms_n _ _ (by omega)]
      · refine hQ _ ⟨⟨B, Y, hB, hY, CR_lay hB hY hc hj (fun a _ ha => ?_) ?_ ?_ ?_ ?_⟩, fun a ha => ?_⟩
        · rw [hM2 a (by omega), hM a (by omega), ms_n _ _ (by omega), ms_n _ _ (by omega)]
        · rw [hM2 _ (by omega), hM _ (by omega), ms_n _ _ (by omega), ms_s, ru_s]
        · intro i hi
          rw [hM2 _ (by omega), hM _ (by omega), show 54 + 11 * j = 52 + 11 * j + 1 + 1 by omega, ms_s]
          unfold cpy; rw [if_pos (by omega), ms_n _ _ (by omega), show mem (5 + 1) = w_c w from h5.1]; congr 1; omega
        · rw [show 55 + 11 * j = 52 + 11 * j + 3 by omega]
          exact CY_cong hMy (hM2 _ (by omega)) (hM2 _ (by omega)) (hM2 _ (by omega)) (hM2 _ (by omega))
        · rw [show 59 + 11 * j = 52 + 11 * j + 7 by omega]; exact hMs
        · rw [hM2 a (by omega), hM a (by omega), ms_n _ _ (by omega), ms_n _ _ (by omega)]
