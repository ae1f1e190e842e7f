/-! ===== the reference: marks ===== -/
theorem Col_to {n : Int} {x y z : Nat → Int} {o o' len : Nat} {s : Se} (h : Col n x y z o s) (hl : s.1 ≤ len) : Col n (cpy x x o o' len) (cpy y y o o' len) (cpy z z o o' len) o' s := by
  refine ⟨h.1, fun i hi => ?_⟩
  have := h.2 i hi
  have e : ∀ r : Nat → Int, cpy r r o o' len (o' + i) = r (o + i) := by
    intro r; unfold cpy; rw [if_pos (by omega)]; congr 1; omega
  rw [e, e, e]; exact this
theorem Col_ot {n : Int} {x y z : Nat → Int} {o o' o2 len : Nat} {s : Se} (h : Col n x y z o2 s) (hl : s.1 ≤ len) (hd : o2 + len ≤ o' ∨ o' + len ≤ o2) : Col n (cpy x x o o' len) (cpy y y o o' len) (cpy z z o o' len) o2 s := by
  refine ⟨h.1, fun i hi => ?_⟩
  have := h.2 i hi
  have e : ∀ r : Nat → Int, cpy r r o o' len (o2 + i) = r (o2 + i) := by
    intro r; unfold cpy; rw [if_neg (by omega)]
  rw [e, e, e]; exact this
def mu (f : Nat → Mk) (k : Nat) (q : Mk) : Nat → Mk := fun j => if j = k then q else f j
abbrev w_lay (w : Wd) (k : Nat) : Wd := (w_b w, w_nm w, w_c w, w_p w, w_y w, w_s w, mu (w_m w) k (some (w_c w, w_y w, w_s w)), w_t w)
abbrev w_go (w : Wd) (q : (Nat → Int) × Se × Se) : Wd := (w_b w, w_nm w, q.1, [], q.2.1, q.2.2, w_m w, w_t w)
def a_mark (w : Wd) (k back : Int) : Wd := if 0 ≤ k ∧ k ≤ 3 then (if back = 0 then w_lay w k.toNat else match w_m w k.toNat with | none => w | some q => w_go w q) else w
def q_mark (w : Wd) (k back : Int) : Int := if 0 ≤ k ∧ k ≤ 3 then (if back = 0 then 1 else match w_m w k.toNat with | none => 0 | some _ => 1) else 0
theorem WOk_mark {w : Wd} {k back : Int} (h : WOk w) : WOk (a_mark w k back) := by
  obtain ⟨h1, h2, h3, h4, h5, h6, h7, h8⟩ := id h
  unfold a_mark
  split
  · rename_i hk
    split
    · refine ⟨h1, h2, h3, h4, h5, h6, fun j hj q hq => ?_, h8⟩
      have hq' : mu (w_m w) k.toNat (some (w_c w, w_y w, w_s w)) j = some q := hq
      unfold mu at hq'
      split at hq'
      · cases hq'; exact ⟨h2, h5, h6⟩
      · exact h7 j hj q hq'
    · split
      · exact h
      · rename_i q hq
        obtain ⟨a1, a2, a3⟩ := h7 k.toNat (by omega) q hq
        exact ⟨h1, a1, Nat.zero_le 16, fun p hp => (nomatch (show p ∈ ([] : List (Nat → Int)) from hp)), a2, a3, h7, h8⟩
  · exact h
theorem RRel_lay {w : Wd} {m M : sh_Mem} {k : Nat} (hW : WOk w) (h : RRel w m) (hk : k < 4) (e : ∀ a, a < 121 ∨ (128 < a ∧ a ≠ 133 ∧ a ≠ 135) → M a = m a) (e1 : M 121 = ru (m 121) (1 + k) (m 121 0)) (e2 : M 122 = cpy (m 122) (m 122) (40 * 0) (40 * (1 + k)) 40) (e3 : M 123 = cpy (m 123) (m 123) (40 * 0) (40 * (1 + k)) 40) (e4 : M 124 = cpy (m 124) (m 124) (40 * 0) (40 * (1 + k)) 40)
    (e5 : M 125 = ru (m 125) (1 + k) (m 125 0)) (e6 : M 126 = cpy (m 126) (m 126) (8 * 0) (8 * (1 + k)) 8) (e7 : M 127 = cpy (m 127) (m 127) (8 * 0) (8 * (1 + k)) 8) (e8 : M 128 = cpy (m 128) (m 128) (8 * 0) (8 * (1 + k)) 8) (e9 : M 133 = cpy (m 129) (m 133) 0 (45 * k) 45) (e10 : M 135 = ru (m 135) k 1) : RRel (w_lay w k) M := by
  have y40 := hW.2.2.2.2.1.1
  have s8 := hW.2.2.2.2.2.1.1
  have hm := hW.2.2.2.2.2.2.1
  obtain ⟨h1, h2, h3, h4, h5, h6, h7, h8, h9, h10, h11, h12⟩ := h
  refine ⟨MB_cong h1 (e 98 (by omega)) (e 101 (by omega)) (e 102 (by omega)) (e 103 (by omega)) (e 104 (by omega)) (e 105 (by omega)), ML_cong h2 (e 106 (by omega)) (e 107 (by omega)) (e 108 (by omega)), ?_, ?_, ?_, ?_, ?_, ?_, ?_, ?_, ?_, ?_⟩
  · rw [e 99 (by omega)]; exact h3
  · rw [e 100 (by omega)]; exact h4
  · rw [e 129 (by omega)]; exact h5
  · rw [e 134 (by omega), e 96 (by omega)]; exact h6
  · rw [e1, e2, e3, e4, ru_n _ _ (show 0 ≠ 1 + k by omega)]
    exact Col_ot h7 (by omega) (by omega)
  · rw [e5, e6, e7, e8, ru_n _ _ (show 0 ≠ 1 + k by omega)]
    exact Col_ot h8 (by omega) (by omega)
  · refine ⟨fun j hj => ?_, fun j hj => ?_⟩
    · rw [e8]; unfold cpy
      split
      · exact h9.1 _ (by omega)
      · exact h9.1 _ hj
    · rw [e3, e4]; unfold cpy
      split
      · exact h9.2 _ (by omega)
      · exact h9.2 _ hj
  · intro j hj
    rw [e10, e9, e1, e2, e3, e4, e5, e6, e7, e8]
    by_cases ej : j = k
    · subst ej
      rw [ru_s, ru_s, ru_s]
      refine ⟨?_, fun q hq => ?_⟩
      · show (1 : Int) = if (mu (w_m w) j (some (w_c w, w_y w, w_s w)) j).isSome = true then 1 else 0
        unfold mu; rw [if_pos rfl]; rfl
      · have hq' : mu (w_m w) j (some (w_c w, w_y w, w_s w)) j = some q := hq
        unfold mu at hq'; rw [if_pos rfl] at hq'
        cases hq'
        refine ⟨EQ_cong (fun k hk => ?_) (fun _ _ => rfl) h5, Col_to h7 (by omega), Col_to h8 (by omega)⟩
        unfold cpy; rw [if_pos (by omega)]; congr 1; omega
    · obtain ⟨a1, a2⟩ := h10 j hj
      have em : mu (w_m w) k (some (w_c w, w_y w, w_s w)) j = w_m w j := by unfold mu; rw [if_neg ej]
      rw [ru_n _ _ ej, ru_n _ _ (show 1 + j ≠ 1 + k by omega), ru_n _ _ (show 1 + j ≠ 1 + k by omega)]
      refine ⟨?_, fun q hq => ?_⟩
      · show m 135 j = if (mu (w_m w) k (some (w_c w, w_y w, w_s w)) j).isSome = true then 1 else 0
        rw [em]; exact a1
      · have hq' : mu (w_m w) k (some (w_c w, w_y w, w_s w)) j = some q := hq
        rw [em] at hq'
        obtain ⟨b1, b2, b3⟩ := a2 q hq'
        obtain ⟨c1, c2, c3⟩ := hm j hj q hq'
        have c21 := c2.1
        have c31 := c3.1
        refine ⟨EQ_cong (fun i hi => ?_) (fun _ _ => rfl) b1, Col_ot b2 (by omega) (by omega), Col_ot b3 (by omega) (by omega)⟩
        unfold cpy; rw [if_neg (by omega)]
  · rw [e 96 (by omega)]; exact h11
  · rw [e 97 (by omega)]; exact h12
theorem RRel_go {w : Wd} {m M : sh_Mem} {k : Nat} {q : (Nat → Int) × Se × Se} (hW : WOk w) (h : RRel w m) (hk : k < 4) (hq : w_m w k = some q) (e : ∀ a, (a < 121 ∧ a ≠ 96) ∨ (129 < a ∧ a ≠ 135) → M a = m a) (e1 : M 121 = ru (m 121) 0 (m 121 (1 + k))) (e2 : M 122 = cpy (m 122) (m 122) (40 * (1 + k)) (40 * 0) 40) (e3 : M 123 = cpy (m 123) (m 123) (40 * (1 + k)) (40 * 0) 40) (e4 : M 124 = cpy (m 124) (m 124) (40 * (1 + k)) (40 * 0) 40)
    (e5 : M 125 = ru (m 125) 0 (m 125 (1 + k))) (e6 : M 126 = cpy (m 126) (m 126) (8 * (1 + k)) (8 * 0) 8) (e7 : M 127 = cpy (m 127) (m 127) (8 * (1 + k)) (8 * 0) 8) (e8 : M 128 = cpy (m 128) (m 128) (8 * (1 + k)) (8 * 0) 8) (e9 : M 129 = cpy (m 133) (m 129) (45 * k) 0 45) (e10 : M 135 = ru (m 135) k 1) (e11 : M 96 = ru (m 96) 51 0) : RRel (w_go w q) M := by
  have hm := hW.2.2.2.2.2.2.1
  obtain ⟨h1, h2, h3, h4, h5, h6, h7, h8, h9, h10, h11, h12⟩ := h
  obtain ⟨q1, q2, q3⟩ := hm k hk q hq
  obtain ⟨a1, a2⟩ := h10 k hk
  obtain ⟨b1, b2, b3⟩ := a2 q hq
  have q21 := q2.1
  have q31 := q3.1
  refine ⟨MB_cong h1 (e 98 (by omega)) (e 101 (by omega)) (e 102 (by omega)) (e 103 (by omega)) (e 104 (by omega)) (e 105 (by omega)), ML_cong h2 (e 106 (by omega)) (e 107 (by omega)) (e 108 (by omega)), ?_, ?_, ?_, ?_, ?_, ?_, ?_, ?_, ?_, ?_⟩
  · rw [e 99 (by omega)]; exact h3
  · rw [e 100 (by omega)]; exact h4
  · rw [e9]
    refine EQ_cong (fun i hi => ?_) (fun _ _ => rfl) b1
    unfold cpy; rw [if_pos (by omega)]; congr 1
  · rw [e 134 (by omega), e11]
    exact ⟨by rw [ru_s]; rfl, Nat.zero_le 16, fun i hi => absurd hi (Nat.not_lt_zero i)⟩
  · rw [e1, e2, e3, e4, ru_s]
    exact Col_to b2 (by omega)
  · rw [e5, e6, e7, e8, ru_s]
    exact Col_to b3 (by omega)
  · refine ⟨fun j hj => ?_, fun j hj => ?_⟩
    · rw [e8]; unfold cpy
      split
      · exact h9.1 _ (by omega)
      · exact h9.1 _ hj
    · rw [e3, e4]; unfold cpy
      split
      · exact h9.2 _ (by omega)
      · exact h9.2 _ hj
  · intro j hj
    rw [e10, e 133 (by omega), e1, e2, e3, e4, e5, e6, e7, e8, ru_n _ _ (show 1 + j ≠ 0 by omega), ru_n _ _ (show 1 + j ≠ 0 by omega)]
    obtain ⟨a1, a2⟩ := h10 j hj
    refine ⟨?_, fun p hp => ?_⟩
    · by_cases ej : j = k
      · subst ej; rw [ru_s]; show (1 : Int) = if (w_m w j).isSome = true then 1 else 0; rw [hq]; rfl
      · rw [ru_n _ _ ej]; exact a1
    · obtain ⟨b1, b2, b3⟩ := a2 p hp
      obtain ⟨c1, c2, c3⟩ := hm j hj p hp
      have c21 := c2.1
      have c31 := c3.1
      exact ⟨b1, Col_ot b2 (by omega) (by omega), Col_ot b3 (by omega) (by omega)⟩
  · rw [e11, ru_n _ _ (by decide)]; exact h11
  · rw [e 97 (by omega)]; exact h12
theorem r_mark_29 {g : sh_G} {d k : Nat} {w : Wd} {back : Int} {mem m : sh_Mem} {Q : Option sh_V → sh_Mem → Prop} (hW : WOk w) (p0 : RPost w mem m) (hk : k < 4) (hb : back = 0 ∨ back = 1) (hlay : back = 0 → ∀ m', RPost (w_lay w k) mem m' → Q (some (sh_i 1)) m') (hgo : back = 1 → ∃ q, w_m w k = some q ∧ ∀ m', RPost (w_go w q) mem m' → Q (some (sh_i 1)) m') :
    sh_X g (d + 1) m_Mod_mark 29 [(0, sh_r 96), (1, sh_i (k : Int)), (2, sh_i back)] [] m (sh_K m_Mod_mark Q) := by
  have h9 := p0.1.2.2.2.2.2.2.2.2.1.1
  have eb : i3 back = back := i3s (by omega) (by omega)
  apply v_Mod_mark_29
  rw [Int.toNat_natCast, eb]
  refine ⟨by omega, ?_⟩
  rintro _ rfl
  refine ⟨fun z => ?_, fun z => ?_⟩
  · have hlay := hlay z
    apply v_Mod_mark_47
    rw [eb]
    refine ⟨fun _ => ?_, fun z2 => absurd z z2⟩
    apply v_Mod_mark_59
    rw [eb, show (0 : Int) = ((0 : Nat) : Int) from rfl, show (1 : Int) + (k : Int) = ((1 + k : Nat) : Int) by omega, show (45 : Int) * (k : Int) = ((45 * k : Nat) : Int) by omega]
    refine s_Mod_laysLines (by omega) (by omega) (by omega) ⟨rfl, ?_⟩
    refine s_Mod_laysSeen (by omega) (by omega) (by omega) (by simp only [ms_n _ _ (show (128 : Nat) ≠ 121 by decide), ms_n _ _ (show (128 : Nat) ≠ 122 by decide), ms_n _ _ (show (128 : Nat) ≠ 123 by decide), ms_n _ _ (show (128 : Nat) ≠ 124 by decide), ms_n _ _ (show (128 : Nat) ≠ 135 by decide)]; exact h9) ⟨rfl, ?_⟩
    refine ⟨fun _ => ?_, fun z2 => absurd z z2⟩
    refine s_Mod_copies (A := 129) (B := 133) (n := 45) (n2 := 180) rfl rfl (by decide) (by omega) (by omega) ⟨rfl, ?_⟩
    refine hlay _ ⟨RRel_lay hW p0.1 hk (fun a ha => ?_) ?_ ?_ ?_ ?_ ?_ ?_ ?_ ?_ ?_ ?_, ?_, ?_⟩
    · rw [ms_n _ _ (by omega), ms_n _ _ (by omega), ms_n _ _ (by omega), ms_n _ _ (by omega), ms_n _ _ (by omega), ms_n _ _ (by omega), ms_n _ _ (by omega), ms_n _ _ (by omega), ms_n _ _ (by omega), ms_n _ _ (by omega)]
    · simp [ms]
    · simp [ms]
    · simp [ms]
    · simp [ms]
    · simp [ms]
    · simp [ms]
    · simp [ms]
    · simp [ms]
    · simp [ms]
    · simp [ms]
    · have := p0.2.1; simp [ms]; exact this
    · exact Lo_ms (Lo_ms (Lo_ms (Lo_ms (Lo_ms (Lo_ms (Lo_ms (Lo_ms (Lo_ms (Lo_ms p0.2.2 (by omega) _) (by omega) _) (by omega) _) (by omega) _) (by omega) _) (by omega) _) (by omega) _) (by omega) _) (by omega) _) (by omega) _
  · obtain ⟨q, hq, hgo⟩ := hgo (by omega)
    apply v_Mod_mark_47
    rw [eb]
    refine ⟨fun z2 => absurd z2 z, fun _ => ?_⟩
    apply v_Mod_mark_59
    rw [eb, show (0 : Int) = ((0 : Nat) : Int) from rfl, show (1 : Int) + (k : Int) = ((1 + k : Nat) : Int) by omega, show (45 : Int) * (k : Int) = ((45 * k : Nat) : Int) by omega]
    refine s_Mod_laysLines (by omega) (by omega) (by omega) ⟨rfl, ?_⟩
    refine s_Mod_laysSeen (by omega) (by omega) (by omega) (by simp only [ms_n _ _ (show (128 : Nat) ≠ 121 by decide), ms_n _ _ (show (128 : Nat) ≠ 122 by decide), ms_n _ _ (show (128 : Nat) ≠ 123 by decide), ms_n _ _ (show (128 : Nat) ≠ 124 by decide), ms_n _ _ (show (128 : Nat) ≠ 135 by decide)]; exact h9) ⟨rfl, ?_⟩
    refine ⟨fun z2 => absurd z2 z, fun _ => ?_⟩
    refine s_Mod_copies (A := 133) (B := 129) (n := 180) (n2 := 45) rfl rfl (by decide) (by omega) (by omega) ⟨rfl, ?_⟩
    rintro _ rfl
    refine hgo _ ⟨RRel_go hW p0.1 hk hq (fun a ha => ?_) ?_ ?_ ?_ ?_ ?_ ?_ ?_ ?_ ?_ ?_ ?_, ?_, ?_⟩
    · rw [ms_n _ _ (by omega), ms_n _ _ (by omega), ms_n _ _ (by omega), ms_n _ _ (by omega), ms_n _ _ (by omega), ms_n _ _ (by omega), ms_n _ _ (by omega), ms_n _ _ (by omega), ms_n _ _ (by omega), ms_n _ _ (by omega), ms_n _ _ (by omega)]
    · simp [ms]
    · simp [ms]
    · simp [ms]
    · simp [ms]
    · simp [ms]
    · simp [ms]
    · simp [ms]
    · simp [ms]
    · simp [ms]
    · simp [ms]
    · simp [ms]
    · have := p0.2.1; simp [ms, ru]; exact this
    · exact Lo_ms (Lo_ms (Lo_ms (Lo_ms (Lo_ms (Lo_ms (Lo_ms (Lo_ms (Lo_ms (Lo_ms (Lo_ms p0.2.2 (by omega) _) (by omega) _) (by omega) _) (by omega) _) (by omega) _) (by omega) _) (by omega) _) (by omega) _) (by omega) _) (by omega) _) (by omega) _
theorem r_mark {g : sh_G} {d : Nat} {w : Wd} {mem : sh_Mem} {k back : Int} {Q : Option sh_V → sh_Mem → Prop} (hW : WOk w) (h : RRel w mem) (hk : i3 k = k) (hb : back = 0 ∨ back = 1) (hQ : ∀ m', RPost (a_mark w k back) mem m' → Q (some (sh_i (q_mark w k back))) m') : sh_Cal g (d + 1) m_Mod_mark [sh_r 96, sh_i k, sh_i back] mem Q := by
  have p0 := RPost_0 h
  have eb : i3 back = back := i3s (by omega) (by omega)
  unfold a_mark q_mark at hQ
  apply v_Mod_mark
  rintro _ rfl
  refine wi_then hk rfl rfl (fun q => ?_) (fun q => ?_)
  · rw [if_neg q, if_neg q] at hQ; exact hQ _ p0
  rw [if_pos q, if_pos q] at hQ
  obtain ⟨n, rfl⟩ : ∃ n : Nat, k = (n : Int) := ⟨k.toNat, by omega⟩
  rw [Int.toNat_natCast] at hQ ⊢
  have hm := (p0.1.2.2.2.2.2.2.2.2.2.1 n (by omega)).1
  rw [hm, eb]
  refine ⟨fun z => ?_, fun z => ⟨by omega, fun z2 => ?_, fun z2 => ?_⟩⟩
  · rw [if_pos z, if_pos z] at hQ
    exact r_mark_29 hW p0 (by omega) hb (fun _ => hQ) (fun z2 => by omega)
  · rw [if_neg z, if_neg z] at hQ
    cases hq : w_m w n with
    | none => rw [hq] at z2; exact absurd rfl z2
    | some q =>
      rw [hq] at hQ
      exact r_mark_29 hW p0 (by omega) hb (fun z3 => absurd z3 z) (fun _ => ⟨q, hq, hQ⟩)
  · rw [if_neg z, if_neg z] at hQ
    cases hq : w_m w n with
    | none => rw [hq] at hQ; exact hQ _ p0
    | some q => rw [hq] at z2; exact absurd (show i3 1 = 0 from z2) (by decide)
