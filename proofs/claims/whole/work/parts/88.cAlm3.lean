section ALM
variable {g : sh_G} {d B b : Nat} {T : Tp} {t : Tok} {m0 m mm : sh_Mem} {x : Dr} {Q : Option sh_V → sh_Mem → Prop}
/-- all as it was but the draft, the reader's cells, and the tape is empty -/
def AEn (B : Nat) (m0 m : sh_Mem) : Prop := (∀ a, a ≠ 2 → a ≠ 4 → (a < B ∨ B + 10 < a) → m a = m0 a) ∧ m 2 1 = 0
theorem CD_e {m' : sh_Mem} (h : CD m B x) (e : ∀ a, B ≤ a → m' a = m a) : CD m' B x := by
  unfold CD CNm; rw [e B (by omega), e (B + 1) (by omega), e (B + 2) (by omega), e (B + 3) (by omega), e (B + 4) (by omega), e (B + 5) (by omega), e (B + 6) (by omega), e (B + 7) (by omega), e (B + 8) (by omega), e (B + 9) (by omega)]; exact h
theorem l_readAlm (hJ : JD g) (hT : TpOk T) (hB : ob0 B) (hf : ∀ f m', pAlm T = .inl f → AEn B m0 m' → Q (some (sh_i f)) m') (h0 : ∀ x m', pAlm T = .inr x → AEn B m0 m' → CD m' B x → Q (some (sh_i 0)) m') : ∀ (k i : Nat) (m : sh_Mem) (t : Tok) (x : Dr), i + k = 1000 → TK T t → ASt B m0 m T t x → pAlm T = pAll T k t x →
    sh_X g (d + 48) m_Read_readAlmanac 20 [(0, sh_r 4), (1, sh_r B), (2, sh_i 1), (3, sh_i (i : Int))] [] m (sh_K m_Read_readAlmanac Q) := by
  have l := ob0_c hB
  have fin : ∀ (m : sh_Mem) (t : Tok) (x : Dr), ASt B m0 m T t x → pAlm T = .inr x → sh_Cal g (d + 47) m_Tape_clear [sh_r 2] m (fun rv m1 => rv = none ∧ Q (some (sh_i (m1 4 1))) m1) := by
    intro m t x hs e
    apply v_Tape_clear
    intro m1 e1
    refine ⟨rfl, ?_⟩
    have e41 : m1 4 1 = 0 := by rw [e1, ms_n _ _ (by decide)]; exact hs.2.1
    rw [e41]
    refine h0 x m1 e ⟨fun a h2 h4 h5 => by rw [e1, ms_n _ _ h2]; exact hs.1.1 a h2 h4 h5, by rw [e1, ms_s, ru_s]⟩ (CD_e hs.2.2.2 (fun a ha => by rw [e1, ms_n _ _ (by omega)]))
  have bad : ∀ (m : sh_Mem) (f : Int), AFl B m0 m f → pAlm T = .inl f → sh_Cal g (d + 47) m_Tape_clear [sh_r 2] m (fun rv m1 => rv = none ∧ Q (some (sh_i (m1 4 1))) m1) := by
    intro m f hs e
    apply v_Tape_clear
    intro m1 e1
    refine ⟨rfl, ?_⟩
    have e41 : m1 4 1 = f := by rw [e1, ms_n _ _ (by decide)]; exact hs.2
    rw [e41]
    exact hf f m1 e ⟨fun a h2 h4 h5 => by rw [e1, ms_n _ _ h2]; exact hs.1.1 a h2 h4 h5, by rw [e1, ms_s, ru_s]⟩
  intro k
  induction k with
  | zero =>
    intro i m t x hi ht hs e
    rw [pAll] at e
    apply v_Read_readAlmanac_20 hB
    rw [i3n (x := i) (by omega)]
    exact ⟨fun _ => fin m t x hs e, fun z => by omega⟩
  | succ k ih =>
    intro i m t x hi ht hs e
    have k6 := TK_k hT ht
    rw [pAll] at e
    apply v_Read_readAlmanac_20 hB
    rw [i3n (x := i) (by omega), hs.2.2.1.2.2.2.1, i3s k6.1 k6.2]
    refine ⟨fun z => by omega, fun _ => ⟨fun z => absurd z (by decide), fun _ => ⟨fun z => ?_, fun z => ?_⟩⟩⟩
    · rw [if_pos z] at e; exact fin m t x hs e
    · rw [if_neg z] at e
      have good : ∀ (q : Tok × Dr) (m' : sh_Mem), pLine T x t = .inr q → TK T q.1 → ASt B m0 m' T q.1 q.2 → sh_X g (d + 48) m_Read_readAlmanac 20 [(0, sh_r 4), (1, sh_r B), (2, sh_i 1), (3, sh_i ((i + 1 : Nat) : Int))] [] m' (sh_K m_Read_readAlmanac Q) := by
        intro q m' e2 tk k2
        simp only [e2] at e
        exact ih (i + 1) m' q.1 q.2 (by omega) tk k2 e
      have evil : ∀ (f : Int) (m' : sh_Mem), pLine T x t = .inl f → AFl B m0 m' f → sh_X g (d + 48) m_Read_readAlmanac 20 [(0, sh_r 4), (1, sh_r B), (2, sh_i 0), (3, sh_i ((i + 1 : Nat) : Int))] [] m' (sh_K m_Read_readAlmanac Q) := by
        intro f m' e2 k2
        simp only [e2] at e
        apply v_Read_readAlmanac_20 hB
        exact ⟨fun _ => bad m' f k2 e, fun _ => ⟨fun _ => bad m' f k2 e, fun z => absurd rfl z⟩⟩
      have y0 := ky_i (t := t) 0 (C := 2968) rfl (by decide)
      have y1 := ky_i (t := t) 1 (C := 10792986) rfl (by decide)
      have y2 := ky_i (t := t) 2 (C := 316351) rfl (by decide)
      have kc := kyT_c t
      rw [CT_ky hs.2.2.1]
      unfold pLine at good evil
      refine ⟨fun w => ?_, fun w => ?_, fun w => ?_, fun w => ?_⟩
      · rw [if_pos (y0.mp w)] at good evil
        exact s_readDay (d := d + 35) hJ hT hB ht hs ⟨fun f m' e2 k2 => ⟨0, rfl, evil f m' e2 k2⟩, fun q m' e2 tk k2 => ⟨1, rfl, good q m' e2 tk k2⟩⟩
      · rw [if_neg (fun u => by have := y0.mpr u; omega), if_pos (y1.mp w)] at good evil
        exact s_readThief (d := d + 35) hJ hT hB ht hs ⟨fun f m' e2 k2 => ⟨0, rfl, evil f m' e2 k2⟩, fun q m' e2 tk k2 => ⟨1, rfl, good q m' e2 tk k2⟩⟩
      · rw [if_neg (fun u => by have := y0.mpr u; omega), if_neg (fun u => by have := y1.mpr u; omega), if_pos (y2.mp w)] at good evil
        exact s_readPays (d := d) hJ hT hB ht z hs ⟨fun f m' e2 k2 => ⟨0, rfl, evil f m' e2 k2⟩, fun q m' e2 tk k2 => ⟨1, rfl, good q m' e2 tk k2⟩⟩
      · rw [if_neg (fun u => by have := y0.mpr u; omega), if_neg (fun u => by have := y1.mpr u; omega), if_neg (fun u => by have := y2.mpr u; omega)] at evil
        exact s_refuseK hs.2.2.1 (fun m' k => ⟨0, rfl, evil _ m' rfl (AFl_D (b := B) (by omega) hs.1 (by omega) DS_rf k)⟩)
theorem s_readAlmanac (hJ : JD g) (hT : TpOk T) (hB : ob0 B) (h1 : m 2 1 = (T.1 : Int)) (h3 : ∀ i, i < T.1 → m 3 i = T.2 i) (hf : ∀ f m', pAlm T = .inl f → AEn B m m' → Q (some (sh_i f)) m') (h0 : ∀ x m', pAlm T = .inr x → AEn B m m' → CD m' B x → Q (some (sh_i 0)) m') : sh_Cal g (d + 48) m_Read_readAlmanac [sh_r 4, sh_r B] m Q := by
  have l := ob0_c hB
  have hL := ob0_L hB
  apply v_Read_readAlmanac hB
  apply v_Alm_clear hB
  intro m1 e1 m2 e2 m3 e3
  apply v_Law_clear hL
  intro m4 e4
  refine ⟨rfl, ?_⟩
  apply v_Law_put hL
  have c2 : m4 (B + 8) 2 = 0 := by rw [e4, ms_s, ru_s]
  rw [c2]
  refine ⟨fun z => absurd z (by decide), fun _ => ⟨by omega, fun m5 e5 m6 e6 => ⟨rfl, rfl, fun m7 e7 => ?_⟩⟩⟩
  have o6 : ∀ a, a ≠ B → a ≠ B + 8 → a ≠ B + 9 → m6 a = m a := fun a h1 h2 h3 => by rw [e6, ms_n _ _ h2, e5, ms_n _ _ (by omega), e4, ms_n _ _ h2, e3, ms_n _ _ h1, e2, ms_n _ _ h1, e1, ms_n _ _ h1]
  have o7 : ∀ a, a ≠ B → a ≠ B + 8 → a ≠ B + 9 → a ≠ 4 → m7 a = m a := fun a h1 h2 h3 h4 => by rw [e7, ms_n _ _ h4]; exact o6 a h1 h2 h3
  have B7 : m7 B = ru (ru (ru (m B) 0 0) 1 0) 2 0 := by rw [e7, ms_n _ _ (by omega), e6, ms_n _ _ (by omega), e5, ms_n _ _ (by omega), e4, ms_n _ _ (by omega), e3, ms_s, e2, ms_s, e1, ms_s]
  apply v_Tape_rewind
  intro m8 e8
  have t1 : m8 2 1 = (T.1 : Int) := by rw [e8, ms_s, ru_n _ _ (by decide), o7 2 (by omega) (by omega) (by omega) (by decide)]; exact h1
  have t3 : ∀ i, i < T.1 → m8 3 i = T.2 i := fun i hi => by rw [e8, ms_n _ _ (by decide), o7 3 (by omega) (by omega) (by omega) (by decide)]; exact h3 i hi
  refine s_stepAt (d := d + 37) (q := 0) hJ hT t1 t3 (by rw [e8, ms_s, ru_s]; rfl) (by omega) (fun m9 k9 c9 => ⟨rfl, rfl, ?_⟩)
  refine l_readAlm (m0 := m) (d := d) hJ hT hB hf h0 1000 0 m9 (tok T 0) dr0 (by omega) ⟨0, by omega, rfl⟩ ?_ rfl
  have o9 : ∀ a, a ≠ 2 → m9 a = m7 a := fun a ha => by rw [k9.1 a ha, e8, ms_n _ _ ha]
  have b9 : m9 B = ru (ru (ru (m B) 0 0) 1 0) 2 0 := by rw [o9 B (by omega)]; exact B7
  refine ⟨⟨fun a h2 h4 h5 => by rw [o9 a h2]; exact o7 a (by omega) (by omega) (by omega) h4, ?_⟩, ?_, c9, ⟨⟨by decide, ?_, ?_, fun i hi => absurd hi (Nat.not_lt_zero i), fun i hi => absurd hi (Nat.not_lt_zero i)⟩, fun i hi => absurd hi (Nat.not_lt_zero i), fun i hi => absurd hi (Nat.not_lt_zero i), ?_, ?_, fun i hi => ?_⟩⟩
  · rw [k9.2, t1, h1]
  · rw [o9 4 (by decide), e7, ms_s, ru_s]
  · rw [b9, ru_n _ _ (by decide), ru_n _ _ (by decide), ru_s]; rfl
  · rw [b9, ru_n _ _ (by decide), ru_s]; rfl
  · rw [b9, ru_s]; rfl
  · rw [o9 (B + 8) (by omega), e7, ms_n _ _ (by omega), e6, ms_s, ru_s, e5, ms_n _ _ (by omega), c2]; rfl
  · have hi : i < 1 := hi
    have : i = 0 := by omega
    subst this
    rw [o9 (B + 9) (by omega), e7, ms_n _ _ (by omega), e6, ms_n _ _ (by omega), e5, ms_s]
    exact ru_s _ _ _
end ALM
