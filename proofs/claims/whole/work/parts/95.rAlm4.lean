section ALR
variable {g : sh_G} {d : Nat} {T : Tp} {t : Tok} {m0 m : sh_Mem} {x : Dr} {Q : Option sh_V → sh_Mem → Prop}
theorem s_nextAt (hT : TpOk T) {q : Nat} (h3 : m 96 3 = (T.1 : Int)) (ht : ∀ i, i < T.1 → m 97 i = T.2 i) (h4 : m 96 4 = (q : Int)) (hq : q ≤ T.1) (h : ∀ m', Rk m m' → RT m' T (tok T q) → Q none m') : sh_Cal g (d + 1) m_Mod_nextToken [sh_r 96] m Q := by
  apply v_Mod_nextToken
  exact l_nt_0 (mem := m) hT (T.1 - q) q m (by omega) (Rk_rf m) h3 ht h4 h
theorem l_readsAll (hT : TpOk T) (hf : ∀ f m', pAlm T = .inl f → RFA m0 m' f → Q (some (sh_i 0)) m') (h1 : ∀ y m', pAlm T = .inr y → RAF m0 m' → RD m' y → Q (some (sh_i 1)) m') : ∀ (k i : Nat) (m : sh_Mem) (t : Tok) (x : Dr) (x1 : Int), i + k = 1000 → i ≤ t_p t → TK T t → DrOk T x → RSA m0 m T t x → pAlm T = pAll T k t x →
    sh_X g (d + 5) m_Mod_readsAll 51 [(0, sh_r 96), (1, sh_i x1)] [] m (sh_K m_Mod_readsAll Q) := by
  intro k
  induction k with
  | zero =>
    intro i m t x x1 hi hip ht hx hs e
    rw [pAll] at e
    have k3 : t_k t = 3 := by
      by_cases y : t_k t = 3
      · exact y
      · have := (TK_1000 hT ht).2 y; omega
    apply v_Mod_readsAll_51
    rw [hs.2.1.2.2.2.1, (rK1 hT ht).2.2]
    exact ⟨fun _ => h1 x m e hs.1 hs.2.2, fun z => absurd k3 z⟩
  | succ k ih =>
    intro i m t x x1 hi hip ht hx hs e
    have hr := hs.2.1
    have lc := pLine_c hT ht hx
    rw [pAll] at e
    apply v_Mod_readsAll_51
    rw [hs.2.1.2.2.2.1, (rK1 hT ht).2.2]
    refine ⟨fun z => ?_, fun z => ?_⟩
    · rw [if_pos z] at e; exact h1 x m e hs.1 hs.2.2
    · rw [if_neg z] at e
      have po : RPo m0 T (pLine T x t) (fun rv m' => ∃ r : Int, rv = some (sh_i r) ∧ sh_X g (d + 5) m_Mod_readsAll 114 [(0, sh_r 96), (1, sh_i x1)] [sh_i r] m' (sh_K m_Mod_readsAll Q)) := by
        refine ⟨fun f m' e2 k2 => ⟨0, rfl, ?_⟩, fun q m' e2 tk k2 => ⟨1, rfl, ?_⟩⟩
        · simp only [e2] at e
          apply v_Mod_readsAll_114
          exact ⟨fun y => absurd rfl y, fun _ => hf f m' e k2⟩
        · simp only [e2] at e
          have c2 := lc.2 q e2
          apply v_Mod_readsAll_114
          exact ⟨fun _ => ih (i + 1) m' q.1 q.2 1 (by omega) (by omega) tk c2.2.2 k2 e, fun y => absurd y (by decide)⟩
      unfold pLine at po
      refine s_Mod_isWord hT ht hr (by omega) ⟨_, rfl, ?_⟩
      rw [i3_01]
      refine ⟨fun z1 => ?_, fun z1 => ?_⟩
      · rw [if_neg (n01 z1)] at po
        refine s_Mod_isWord hT ht hr (by omega) ⟨_, rfl, ?_⟩
        rw [i3_01]
        refine ⟨fun z2 => ?_, fun z2 => ?_⟩
        · rw [if_neg (n01 z2)] at po
          refine s_Mod_isWord hT ht hr (by omega) ⟨_, rfl, ?_⟩
          rw [i3_01]
          refine ⟨fun z3 => ?_, fun z3 => ?_⟩
          · rw [if_neg (n01 z3)] at po
            exact s_failsK (k := 1) hr (fun m' k e9 => po.1 _ m' rfl ⟨RAF_K hs.1 k, e9⟩)
          · rw [if_pos (p01 z3)] at po
            exact s_readsPays (d := d + 1) hT ht hx hs po
        · rw [if_pos (p01 z2)] at po
          exact s_readsThief hT ht hs po
      · rw [if_pos (p01 z1)] at po
        exact s_readsDay hT ht hs po
/-- what an almanac's reading leaves of the reference -/
def RAE (m0 m : sh_Mem) : Prop := (∀ a i, ¬ lowC a i → ¬ (a = 96 ∧ (i = 1 ∨ i = 3)) → m a i = m0 a i) ∧ m 96 1 = 0
theorem s_readsAll (hT : TpOk T) (h1 : m 96 1 = (T.1 : Int)) (h3 : ∀ i, i < T.1 → m 97 i = T.2 i) (hf : ∀ f m', pAlm T = .inl f → RAE m m' → m' 96 9 = f → Q (some (sh_i 0)) m') (h0 : ∀ y m', pAlm T = .inr y → RAE m m' → RD m' y → Q (some (sh_i 1)) m') : sh_Cal g (d + 5) m_Mod_readsAll [sh_r 96] m Q := by
  apply v_Mod_readsAll
  apply v_Mod_readsAll_2
  refine ⟨fun z => absurd z (by decide), fun _ => ⟨by omega, fun m5 e5 => ?_⟩⟩
  apply v_Mod_readsAll_2
  refine ⟨fun z => absurd z (by decide), fun _ => ⟨by omega, fun m6 e6 => ?_⟩⟩
  apply v_Mod_readsAll_2
  refine ⟨fun _ => fun m1 e1 m2 e2 m3 e3 => ?_, fun z => absurd (by decide) z⟩
  apply v_Mod_begins
  intro b1 f1 b2 f2 b3 f3
  have r98 : m6 98 = ru (ru (m 98) 2 0) 3 0 := by
    have u : m5 98 = ru (m 98) 2 0 := by rw [e5, ms_s]; rfl
    rw [e6, ms_s, u]; rfl
  have o6 : ∀ a, a ≠ 98 → m6 a = m a := fun a ha => by rw [e6, ms_n _ _ ha, e5, ms_n _ _ ha]
  have b96 : ∀ i, i ≠ 21 → i ≠ 3 → i ≠ 1 → i ≠ 4 → b3 96 i = m 96 i := fun i y1 y2 y3 y4 => by rw [f3, ms_s, ru_n _ _ y4, f2, ms_s, ru_n _ _ y3, f1, ms_s, ru_n _ _ y2, e3, ms_s, ru_n _ _ y1, e2, ms_n _ _ (by decide), e1, ms_n _ _ (by decide), o6 96 (by decide)]
  have m31 : m3 96 1 = (T.1 : Int) := by rw [e3, ms_s, ru_n _ _ (by decide), e2, ms_n _ _ (by decide), e1, ms_n _ _ (by decide), o6 96 (by decide)]; exact h1
  have b33 : b3 96 3 = (T.1 : Int) := by rw [f3, ms_s, ru_n _ _ (by decide), f2, ms_s, ru_n _ _ (by decide), f1, ms_s, ru_s]; exact m31
  have b31 : b3 96 1 = 0 := by rw [f3, ms_s, ru_n _ _ (by decide), f2, ms_s, ru_s]
  have b34 : b3 96 4 = ((0 : Nat) : Int) := by rw [f3, ms_s, ru_s]; rfl
  have b321 : b3 96 21 = 1000 := by rw [f3, ms_s, ru_n _ _ (by decide), f2, ms_s, ru_n _ _ (by decide), f1, ms_s, ru_n _ _ (by decide), e3, ms_s, ru_s]
  have ob : ∀ a, a ≠ 96 → b3 a = m2 a := fun a ha => by rw [f3, ms_n _ _ ha, f2, ms_n _ _ ha, f1, ms_n _ _ ha, e3, ms_n _ _ ha]
  have oa : ∀ a, a ≠ 96 → a ≠ 98 → a ≠ 106 → a ≠ 107 → b3 a = m a := fun a y1 y2 y3 y4 => by rw [ob a y1, e2, ms_n _ _ y4, e1, ms_n _ _ y3, o6 a y2]
  refine s_nextAt (d := d + 2) (q := 0) hT b33 (by rw [oa 97 (by decide) (by decide) (by decide) (by decide)]; exact h3) b34 (by omega) (fun m4 k4 c4 => ⟨rfl, rfl, ?_⟩)
  have r98' : m4 98 = ru (ru (m 98) 2 0) 3 0 := by rw [k4.1 98 (by decide), ob 98 (by decide), e2, ms_n _ _ (by decide), e1, ms_n _ _ (by decide), r98]
  have A4 : RAF b3 m4 := fun a i hn => by
    by_cases y : a = 96
    · subst y; exact k4.2 i (by unfold lowC at hn; omega)
    · rw [k4.1 a y]
  have back : ∀ m', RAF b3 m' → RAE m m' := by
    intro m' hA
    refine ⟨fun a i hn hn2 => ?_, by rw [hA 96 1 (by unfold lowC; omega), b31]⟩
    rw [hA a i hn]
    by_cases y : a = 96
    · subst y; exact b96 i (by unfold lowC at hn; omega) (by omega) (by omega) (by unfold lowC at hn; omega)
    · by_cases y2 : a = 98
      · subst y2; rw [ob 98 (by decide), e2, ms_n _ _ (by decide), e1, ms_n _ _ (by decide), r98, ru_n _ _ (by unfold lowC at hn; omega), ru_n _ _ (by unfold lowC at hn; omega)]
      · by_cases y3 : a = 106
        · subst y3; rw [ob 106 (by decide), e2, ms_n _ _ (by decide), e1, ms_s, ru_n _ _ (by unfold lowC at hn; omega), o6 106 (by decide)]
        · by_cases y4 : a = 107
          · subst y4; rw [ob 107 (by decide), e2, ms_s, ru_n _ _ (by unfold lowC at hn; omega), e1, ms_n _ _ (by decide), o6 107 (by decide)]
          · rw [oa a y y2 y3 y4]
  refine l_readsAll (m0 := b3) hT (fun f m' e k => hf f m' e (back m' k.1) k.2) (fun y m' e k kd => h0 y m' e (back m' k) kd) 1000 0 m4 (tok T 0) dr0 _ (by omega) (by omega) ⟨0, by omega, rfl⟩ DrOk_0 ⟨A4, c4, ⟨⟨by decide, ?_, ?_, fun i hi => absurd hi (Nat.not_lt_zero i), fun i hi => absurd hi (Nat.not_lt_zero i)⟩, fun i hi => absurd hi (Nat.not_lt_zero i), fun i hi => absurd hi (Nat.not_lt_zero i), ?_, fun _ => ⟨?_, ?_⟩, fun q w => (by cases w)⟩⟩ rfl
  · rw [r98', ru_n _ _ (by decide), ru_s]; rfl
  · rw [r98', ru_s]; rfl
  · rw [k4.1 106 (by decide), ob 106 (by decide), e2, ms_n _ _ (by decide), e1, ms_s, ru_s]
  · rw [k4.1 107 (by decide), ob 107 (by decide), e2, ms_s, ru_s]
  · rw [k4.2 21 (by omega)]; exact b321
end ALR
