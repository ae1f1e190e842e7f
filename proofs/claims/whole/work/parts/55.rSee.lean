/-! ===== the reference: what was seen; marks ===== -/
def s_add (s : Se) (x k o : Int) : Se := (s.1 + 1, ru s.2.1 s.1 x, ru s.2.2.1 s.1 k, ru s.2.2.2 s.1 o)
abbrev w_seen (w : Wd) (s : Se) : Wd := (w_b w, w_nm w, w_c w, w_p w, w_y w, s, w_m w, w_t w)
abbrev cSee (w : Wd) (x k : Int) : Prop := isD w x ∧ (0 ≤ k ∧ k ≤ 30) ∧ (w_s w).1 ≠ 8
def a_see (w : Wd) (x k o : Int) : Wd := if cSee w x k then w_seen w (s_add (w_s w) x k o) else w
def q_see (w : Wd) (x k : Int) : Int := if cSee w x k then 1 else 0
theorem WOk_see {w : Wd} {x k o : Int} (h : WOk w) (ho : o = 0 ∨ o = 1) : WOk (a_see w x k o) := by
  unfold a_see
  split
  · rename_i q
    obtain ⟨h1, h2, h3, h4, h5, h6, h7, h8⟩ := h
    refine ⟨h1, h2, h3, h4, h5, ?_, h7, h8⟩
    have q8 := h6.1
    refine ⟨?_, fun i hi => ?_⟩
    · have := q.2.2
      show (w_s w).1 + 1 ≤ 8
      omega
    · have hi2 : i < (w_s w).1 + 1 := hi
      by_cases e : i = (w_s w).1
      · subst e
        simp only [s_add, ru_s]
        exact ⟨q.1.1, q.1.2, q.2.1.1, q.2.1.2, ho⟩
      · have := h6.2 i (by omega)
        simp only [s_add, ru_n _ _ e]
        exact this
  · exact h
theorem RRel_see {w : Wd} {m : sh_Mem} {x k o : Int} {n : Nat} (h : RRel w m) (hn : (w_s w).1 = n) (h8 : n < 8) (ho : o = 0 ∨ o = 1) : RRel (w_seen w (s_add (w_s w) x k o)) (ms (ms (ms (ms m 126 (ru (m 126) n x)) 127 (ru (m 127) n k)) 128 (ru (m 128) n o)) 125 (ru (m 125) 0 ((n : Int) + 1))) := by
  obtain ⟨h1, h2, h3, h4, h5, h6, h7, h8', h9, h10, h11, h12⟩ := h
  generalize hM : ms (ms (ms (ms m 126 (ru (m 126) n x)) 127 (ru (m 127) n k)) 128 (ru (m 128) n o)) 125 (ru (m 125) 0 ((n : Int) + 1)) = M
  have e : ∀ a, a ≠ 125 → a ≠ 126 → a ≠ 127 → a ≠ 128 → M a = m a := by
    intro a e1 e2 e3 e4; rw [← hM, ms_n _ _ e1, ms_n _ _ e4, ms_n _ _ e3, ms_n _ _ e2]
  have e5 : M 125 = ru (m 125) 0 ((n : Int) + 1) := by rw [← hM, ms_s]
  have e8 : M 128 = ru (m 128) n o := by rw [← hM, ms_n _ _ (by decide), ms_s]
  have e7 : M 127 = ru (m 127) n k := by rw [← hM, ms_n _ _ (by decide), ms_n _ _ (by decide), ms_s]
  have e6 : M 126 = ru (m 126) n x := by rw [← hM, ms_n _ _ (by decide), ms_n _ _ (by decide), ms_n _ _ (by decide), ms_s]
  clear hM
  refine ⟨MB_cong h1 (e 98 (by decide) (by decide) (by decide) (by decide)) (e 101 (by decide) (by decide) (by decide) (by decide)) (e 102 (by decide) (by decide) (by decide) (by decide)) (e 103 (by decide) (by decide) (by decide) (by decide)) (e 104 (by decide) (by decide) (by decide) (by decide)) (e 105 (by decide) (by decide) (by decide) (by decide)), ML_cong h2 (e 106 (by decide) (by decide) (by decide) (by decide)) (e 107 (by decide) (by decide) (by decide) (by decide)) (e 108 (by decide) (by decide) (by decide) (by decide)), ?_, ?_, ?_, ?_, ?_, ?_, ?_, ?_, ?_, ?_⟩
  · rw [e 99 (by decide) (by decide) (by decide) (by decide)]; exact h3
  · rw [e 100 (by decide) (by decide) (by decide) (by decide)]; exact h4
  · rw [e 129 (by decide) (by decide) (by decide) (by decide)]; exact h5
  · rw [e 134 (by decide) (by decide) (by decide) (by decide), e 96 (by decide) (by decide) (by decide) (by decide)]; exact h6
  · rw [e 121 (by decide) (by decide) (by decide) (by decide), e 122 (by decide) (by decide) (by decide) (by decide), e 123 (by decide) (by decide) (by decide) (by decide), e 124 (by decide) (by decide) (by decide) (by decide)]; exact h7
  · rw [e5, e6, e7, e8, ru_s]
    refine ⟨?_, fun i hi => ?_⟩
    · show (n : Int) + 1 = (((w_s w).1 + 1 : Nat) : Int)
      omega
    · have hi2 : i < (w_s w).1 + 1 := hi
      rw [Nat.zero_add]
      by_cases ei : i = n
      · subst ei
        simp only [s_add, hn, ru_s]
        exact ⟨trivial, trivial, trivial⟩
      · have := h8'.2 i (by omega)
        rw [Nat.zero_add] at this
        simp only [s_add, hn, ru_n _ _ ei]
        exact this
  · refine ⟨?_, by rw [e 123 (by decide) (by decide) (by decide) (by decide), e 124 (by decide) (by decide) (by decide) (by decide)]; exact h9.2⟩
    intro j hj
    rw [e8]
    by_cases ej : j = n
    · subst ej; rw [ru_s]; exact ho
    · rw [ru_n _ _ ej]; exact h9.1 j hj
  · intro j hj
    obtain ⟨a1, a2⟩ := h10 j hj
    refine ⟨by rw [e 135 (by decide) (by decide) (by decide) (by decide)]; exact a1, fun q hq => ?_⟩
    obtain ⟨b1, b2, b3⟩ := a2 q hq
    rw [e 133 (by decide) (by decide) (by decide) (by decide), e 121 (by decide) (by decide) (by decide) (by decide), e 122 (by decide) (by decide) (by decide) (by decide), e 123 (by decide) (by decide) (by decide) (by decide), e 124 (by decide) (by decide) (by decide) (by decide), e5, e6, e7, e8, ru_n _ _ (show 1 + j ≠ 0 by omega)]
    refine ⟨b1, b2, b3.1, fun i hi => ?_⟩
    rw [ru_n _ _ (show 8 * (1 + j) + i ≠ n by omega), ru_n _ _ (show 8 * (1 + j) + i ≠ n by omega), ru_n _ _ (show 8 * (1 + j) + i ≠ n by omega)]
    exact b3.2 i hi
  · rw [e 96 (by decide) (by decide) (by decide) (by decide)]; exact h11
  · rw [e 97 (by decide) (by decide) (by decide) (by decide)]; exact h12
theorem r_see {g : sh_G} {d : Nat} {w : Wd} {mem : sh_Mem} {x k o : Int} {Q : Option sh_V → sh_Mem → Prop} (hW : WOk w) (h : RRel w mem) (hx : i3 x = x) (hk : i3 k = k) (ho : o = 0 ∨ o = 1) (hQ : ∀ m', RPost (a_see w x k o) mem m' → Q (some (sh_i (q_see w x k))) m') : sh_Cal g (d + 1) m_Mod_see [sh_r 96, sh_i x, sh_i k, sh_i o] mem Q := by
  have p0 := RPost_0 h
  have s8 := hW.2.2.2.2.2.1.1
  have hc := p0.1.2.2.2.2.2.2.2.1
  unfold a_see q_see at hQ
  apply v_Mod_see
  rintro _ rfl
  refine isD_then p0.1 hx (fun q => ?_) (fun n e hn => ?_)
  · rw [if_neg (fun z => q z.1), if_neg (fun z => q z.1)] at hQ; exact hQ _ p0
  refine wi_then hk rfl rfl (fun q => ?_) (fun q => ?_)
  · rw [if_neg (fun z => q z.2.1), if_neg (fun z => q z.2.1)] at hQ; exact hQ _ p0
  generalize hm1 : ms mem 96 (ru (mem 96) 0 0) = m1 at *
  rw [hc.1, i3n (by omega)]
  refine ⟨fun q2 => ⟨by omega, ?_⟩, fun q2 => ?_⟩
  · have hcs : cSee w x k := ⟨by omega, q, by omega⟩
    rw [if_pos hcs, if_pos hcs] at hQ
    rintro _ rfl
    rw [ms_n _ _ (show (125 : Nat) ≠ 126 by decide), hc.1]
    refine ⟨by omega, ?_⟩
    rintro _ rfl
    rw [ms_n _ _ (show (125 : Nat) ≠ 127 by decide), ms_n _ _ (show (125 : Nat) ≠ 126 by decide), hc.1]
    refine ⟨ho, by omega, ?_⟩
    rintro _ rfl
    rintro _ rfl
    simp only [ms_n _ _ (show (125 : Nat) ≠ 128 by decide), ms_n _ _ (show (125 : Nat) ≠ 127 by decide), ms_n _ _ (show (125 : Nat) ≠ 126 by decide), ms_n _ _ (show (127 : Nat) ≠ 126 by decide), ms_n _ _ (show (128 : Nat) ≠ 126 by decide), ms_n _ _ (show (128 : Nat) ≠ 127 by decide), hc.1, Int.toNat_natCast]
    refine hQ _ ⟨RRel_see p0.1 rfl (by omega) ho, ?_, ?_⟩
    · rw [ms_n _ _ (by decide), ms_n _ _ (by decide), ms_n _ _ (by decide), ms_n _ _ (by decide)]; exact p0.2.1
    · exact Lo_ms (Lo_ms (Lo_ms (Lo_ms p0.2.2 (by omega) _) (by omega) _) (by omega) _) (by omega) _
  · rw [if_neg (fun z => z.2.2 (by omega)), if_neg (fun z => z.2.2 (by omega))] at hQ; exact hQ _ p0
/-! what is laid aside, and brought back -/
theorem l_laysLines {g : sh_G} {d fr tt : Nat} {m : sh_Mem} {Q : Option sh_V → sh_Mem → Prop} (hf : fr < 6) (ht : tt < 6) (hft : fr ≠ tt) (h : Q none (ms (ms (ms m 122 (cpy (m 122) (m 122) (40 * fr) (40 * tt) 40)) 123 (cpy (m 123) (m 123) (40 * fr) (40 * tt) 40)) 124 (cpy (m 124) (m 124) (40 * fr) (40 * tt) 40))) : ∀ (k x : Nat), x + k = 40 →
    sh_X g d m_Mod_laysLines 14 [(0, sh_r 96), (1, sh_i (fr : Int)), (2, sh_i (tt : Int)), (3, sh_i (x : Int))] [] (ms (ms (ms m 122 (cpy (m 122) (m 122) (40 * fr) (40 * tt) x)) 123 (cpy (m 123) (m 123) (40 * fr) (40 * tt) x)) 124 (cpy (m 124) (m 124) (40 * fr) (40 * tt) x)) (sh_K m_Mod_laysLines Q) := by
  intro k
  induction k with
  | zero =>
    intro x hx
    obtain rfl : x = 40 := by omega
    apply v_Mod_laysLines_14
    exact ⟨fun _ => h, fun q => absurd (by decide) q⟩
  | succ k ih =>
    intro x hx
    have ih' := ih (x + 1) (by omega)
    have e0 : ∀ r : Nat → Int, cpy r r (40 * fr) (40 * tt) x (40 * fr + x) = r (40 * fr + x) := by
      intro r; unfold cpy; rw [if_neg (by omega)]
    apply v_Mod_laysLines_14
    rw [i3n (by omega)]
    refine ⟨fun q => absurd q (by omega), fun _ => ⟨by omega, by omega, ?_⟩⟩
    rintro _ rfl
    refine ⟨by omega, by omega, ?_⟩
    rintro _ rfl
    refine ⟨by omega, by omega, ?_⟩
    rintro _ rfl
    simp only [← cpy_s] at ih'
    have e1 : ∀ (A B C A' B' C' : Nat → Int), ms (ms (ms (ms (ms (ms m 122 A) 123 B) 124 C) 122 A') 123 B') 124 C' = ms (ms (ms m 122 A') 123 B') 124 C' := by
      intro A B C A' B' C'; funext a; unfold ms; grind
    simp only [ms_s, ms_n _ _ (show (122 : Nat) ≠ 123 by decide), ms_n _ _ (show (122 : Nat) ≠ 124 by decide), ms_n _ _ (show (123 : Nat) ≠ 124 by decide), ms_n _ _ (show (123 : Nat) ≠ 122 by decide), ms_n _ _ (show (124 : Nat) ≠ 122 by decide), ms_n _ _ (show (124 : Nat) ≠ 123 by decide), e0, e1]
    exact ih'
theorem s_Mod_laysLines {g : sh_G} {d : Nat} {mem : sh_Mem} {Q : Option sh_V → sh_Mem → Prop} {fr tt : Nat} (hf : fr < 6) (ht : tt < 6) (hft : fr ≠ tt) (h : Q (none) (ms (ms (ms (ms mem 121 (ru (mem 121) tt (mem 121 fr))) 122 (cpy (mem 122) (mem 122) (40 * fr) (40 * tt) 40)) 123 (cpy (mem 123) (mem 123) (40 * fr) (40 * tt) 40)) 124 (cpy (mem 124) (mem 124) (40 * fr) (40 * tt) 40))) : sh_Cal g d m_Mod_laysLines [sh_r 96, sh_i (fr : Int), sh_i (tt : Int)] mem Q := by
  apply v_Mod_laysLines
  refine ⟨hf, ht, ?_⟩
  rintro _ rfl
  have q := l_laysLines (g := g) (d := d) (m := ms mem 121 (ru (mem 121) tt (mem 121 fr))) (Q := Q) hf ht hft (by
    simp only [ms_n _ _ (show (122 : Nat) ≠ 121 by decide), ms_n _ _ (show (123 : Nat) ≠ 121 by decide), ms_n _ _ (show (124 : Nat) ≠ 121 by decide)]; exact h) 40 0 (by omega)
  simp only [cpy_0, ms_id] at q
  exact q
theorem l_laysSeen {g : sh_G} {d fr tt : Nat} {m : sh_Mem} {Q : Option sh_V → sh_Mem → Prop} (hf : fr < 5) (ht : tt < 5) (hft : fr ≠ tt) (h9 : ∀ k, k < 40 → m 128 k = 0 ∨ m 128 k = 1) (h : Q none (ms (ms (ms m 126 (cpy (m 126) (m 126) (8 * fr) (8 * tt) 8)) 127 (cpy (m 127) (m 127) (8 * fr) (8 * tt) 8)) 128 (cpy (m 128) (m 128) (8 * fr) (8 * tt) 8))) : ∀ (k x : Nat), x + k = 8 →
    sh_X g d m_Mod_laysSeen 14 [(0, sh_r 96), (1, sh_i (fr : Int)), (2, sh_i (tt : Int)), (3, sh_i (x : Int))] [] (ms (ms (ms m 126 (cpy (m 126) (m 126) (8 * fr) (8 * tt) x)) 127 (cpy (m 127) (m 127) (8 * fr) (8 * tt) x)) 128 (cpy (m 128) (m 128) (8 * fr) (8 * tt) x)) (sh_K m_Mod_laysSeen Q) := by
  intro k
  induction k with
  | zero =>
    intro x hx
    obtain rfl : x = 8 := by omega
    apply v_Mod_laysSeen_14
    exact ⟨fun _ => h, fun q => absurd (by decide) q⟩
  | succ k ih =>
    intro x hx
    have ih' := ih (x + 1) (by omega)
    have e0 : ∀ r : Nat → Int, cpy r r (8 * fr) (8 * tt) x (8 * fr + x) = r (8 * fr + x) := by
      intro r; unfold cpy; rw [if_neg (by omega)]
    apply v_Mod_laysSeen_14
    rw [i3n (by omega)]
    refine ⟨fun q => absurd q (by omega), fun _ => ⟨by omega, by omega, ?_⟩⟩
    rintro _ rfl
    refine ⟨by omega, by omega, ?_⟩
    rintro _ rfl
    refine ⟨by omega, ?_, by omega, ?_⟩
    · simp only [ms_s, ms_n _ _ (show (128 : Nat) ≠ 126 by decide), ms_n _ _ (show (128 : Nat) ≠ 127 by decide), e0]
      exact h9 _ (by omega)
    rintro _ rfl
    simp only [← cpy_s] at ih'
    have e1 : ∀ (A B C A' B' C' : Nat → Int), ms (ms (ms (ms (ms (ms m 126 A) 127 B) 128 C) 126 A') 127 B') 128 C' = ms (ms (ms m 126 A') 127 B') 128 C' := by
      intro A B C A' B' C'; funext a; unfold ms; grind
    simp only [ms_s, ms_n _ _ (show (126 : Nat) ≠ 127 by decide), ms_n _ _ (show (126 : Nat) ≠ 128 by decide), ms_n _ _ (show (127 : Nat) ≠ 128 by decide), ms_n _ _ (show (127 : Nat) ≠ 126 by decide), ms_n _ _ (show (128 : Nat) ≠ 126 by decide), ms_n _ _ (show (128 : Nat) ≠ 127 by decide), e0, e1]
    exact ih'
theorem s_Mod_laysSeen {g : sh_G} {d : Nat} {mem : sh_Mem} {Q : Option sh_V → sh_Mem → Prop} {fr tt : Nat} (hf : fr < 5) (ht : tt < 5) (hft : fr ≠ tt) (h9 : ∀ k, k < 40 → mem 128 k = 0 ∨ mem 128 k = 1) (h : Q (none) (ms (ms (ms (ms mem 125 (ru (mem 125) tt (mem 125 fr))) 126 (cpy (mem 126) (mem 126) (8 * fr) (8 * tt) 8)) 127 (cpy (mem 127) (mem 127) (8 * fr) (8 * tt) 8)) 128 (cpy (mem 128) (mem 128) (8 * fr) (8 * tt) 8))) : sh_Cal g d m_Mod_laysSeen [sh_r 96, sh_i (fr : Int), sh_i (tt : Int)] mem Q := by
  apply v_Mod_laysSeen
  refine ⟨hf, ht, ?_⟩
  rintro _ rfl
  have q := l_laysSeen (g := g) (d := d) (m := ms mem 125 (ru (mem 125) tt (mem 125 fr))) (Q := Q) hf ht hft (by rw [ms_n _ _ (by decide)]; exact h9) (by
    simp only [ms_n _ _ (show (126 : Nat) ≠ 125 by decide), ms_n _ _ (show (127 : Nat) ≠ 125 by decide), ms_n _ _ (show (128 : Nat) ≠ 125 by decide)]; exact h) 8 0 (by omega)
  simp only [cpy_0, ms_id] at q
  exact q
