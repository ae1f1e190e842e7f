section ALR
variable {g : sh_G} {d : Nat} {T : Tp} {t : Tok} {m0 m : sh_Mem} {x : Dr} {Q : Option sh_V → sh_Mem → Prop}
theorem s_readsThief (hT : TpOk T) (ht : TK T t) (hs : RSA m0 m T t x) (hq : RPo m0 T (pThief T x t) Q) : sh_Cal g (d + 4) m_Mod_readsThief [sh_r 96] m Q := by
  obtain ⟨hA, hr, hD⟩ := hs
  obtain ⟨hN, hd2, hd3, hd4, hd5, hd6⟩ := hD
  have hN' := hN
  obtain ⟨⟨n1, n2⟩, n3, n4, n5, n6⟩ := hN'
  unfold pThief at hq
  have e8 : (4 : Int) + (r_nt x : Int) = ((4 + r_nt x : Nat) : Int) := by omega
  apply v_Mod_readsThief
  rw [n4, e8, i3n (x := 4 + r_nt x) (by omega), Int.toNat_natCast]
  refine ⟨fun z => ?_, fun z => ?_⟩
  · rw [if_neg (show ¬ r_nt x = 4 by omega)] at hq
    have tk1 := TK_n ht; have tk2 := TK_n tk1
    refine s_nextK (d := d + 2) hT ht hr (fun m1 k1 c1 => ⟨rfl, ?_⟩)
    have A1 := RAF_K hA (Kr_Rk k1)
    refine s_needsNew (d := d + 1) hT (RN_e hN k1.1) tk1 c1 (fun f m' e k e9 => ⟨_, rfl, fun _ => ?_, fun y => absurd rfl y⟩) (fun m4 e kw k2 e35 c4 => ⟨_, rfl, fun y => absurd y (by decide), fun _ => ?_⟩)
    · simp only [e] at hq; exact hq.1 f m' rfl ⟨RAF_K A1 k, e9⟩
    · simp only [e] at hq
      have A4 := RAF_K A1 k2
      have o2 : ∀ a, a ≠ 96 → m4 a = m a := fun a ha => (k2.1 a ha).trans (k1.1 a ha)
      refine s_needsBoth (d := d) (c := 10320789) hT tk2 c4 (by omega) (by omega) (by omega) (fun f m' e k e9 => ⟨_, rfl, fun y => absurd rfl y, fun _ => ?_⟩) (fun t4 t5 m5 e4 e5 tk5 k5 e34 e35' c5 => ⟨_, rfl, fun _ => ⟨by omega, fun m6 e6 => ?_⟩, fun y => absurd y (by decide)⟩)
      · rcases e with e | ⟨t4, e1, e2⟩
        · simp only [e] at hq; exact hq.1 f m' rfl ⟨RAF_K A4 k, e9⟩
        · simp only [e1, e2] at hq; exact hq.1 f m' rfl ⟨RAF_K A4 k, e9⟩
      · simp only [e4, e5] at hq
        have A6 : RAF m0 m6 := by rw [e6]; exact RAF_w (RAF_K A4 k5) (by unfold lowC; omega)
        have c6 : RT m6 T t5 := by rw [e6]; exact RT_m c5 (by omega)
        refine s_needsBoth (d := d) (c := 374798) hT tk5 c6 (by omega) (by omega) (by omega) (fun f m' e k e9 => ⟨_, rfl, fun y => absurd rfl y, fun _ => ?_⟩) (fun t6 t7 m7 e6' e7' tk7 k7 f34 f35 c7 => ⟨_, rfl, fun _ => ⟨by omega, fun m8 e8' => ⟨by omega, fun m9 e9 m10 e10 => ?_⟩⟩, fun y => absurd y (by decide)⟩)
        · rcases e with e | ⟨t6, e1, e2⟩
          · simp only [e] at hq; exact hq.1 f m' rfl ⟨RAF_K A6 k, e9⟩
          · simp only [e1, e2] at hq; exact hq.1 f m' rfl ⟨RAF_K A6 k, e9⟩
        · simp only [e6', e7'] at hq
          have A10 : RAF m0 m10 := by
            rw [e10]; refine RAF_w ?_ (by unfold lowC; omega)
            rw [e9]; refine RAF_w ?_ (by unfold lowC; omega)
            rw [e8']; exact RAF_w (RAF_K A6 k7) (by unfold lowC; omega)
          have c10 : RT m10 T t7 := by rw [e10, e9, e8']; exact RT_m (RT_m (RT_m c7 (by omega)) (by omega)) (by omega)
          refine s_closes (d := d + 1) hT tk7 c10 (fun f m' e k q9 => ⟨_, rfl, Or.inl rfl, ?_⟩) (fun t8 m11 q8 tk8 k11 c11 => ⟨_, rfl, Or.inr rfl, ?_⟩)
          · simp only [e] at hq; exact hq.1 f m' rfl ⟨RAF_K A10 k, q9⟩
          · simp only [q8] at hq
            refine hq.2 _ m11 rfl tk8 ⟨RAF_K A10 k11, c11, ?_⟩
            have o : ∀ a, a ≠ 96 → a ≠ 98 → a ≠ 100 → a ≠ 104 → a ≠ 105 → m11 a = m a := fun a y1 y2 y3 y5 y6 => by rw [k11.1 a y1, e10, ms_n _ _ y2, e9, ms_n _ _ y3, e8', ms_n _ _ y6, k7.1 a y1, e6, ms_n _ _ y5, k5.1 a y1, o2 a y1]
            have p2 : m11 104 = ru (m 104) (4 + r_nt x) (t_v t4) := by rw [k11.1 _ (by decide), e10, ms_n _ _ (by decide), e9, ms_n _ _ (by decide), e8', ms_n _ _ (by decide), k7.1 _ (by decide), e6, ms_s, e34, k5.1 _ (by decide), o2 _ (by decide)]
            have p3 : m11 105 = ru (m 105) (4 + r_nt x) (t_v t6) := by rw [k11.1 _ (by decide), e10, ms_n _ _ (by decide), e9, ms_n _ _ (by decide), e8', ms_s, f34, k7.1 _ (by decide), e6, ms_n _ _ (by decide), k5.1 _ (by decide), o2 _ (by decide)]
            have v35 : m8 96 35 = t_v (nx T t) := by rw [e8', ms_n _ _ (by decide), f35, e6, ms_n _ _ (by decide), e35', e35]
            have p4 : m11 100 = ru (m 100) (4 + r_nt x) (t_v (nx T t)) := by rw [k11.1 _ (by decide), e10, ms_n _ _ (by decide), e9, ms_s, v35, e8', ms_n _ _ (by decide), k7.1 _ (by decide), e6, ms_n _ _ (by decide), k5.1 _ (by decide), o2 _ (by decide)]
            have p5 : m11 98 = ru (m 98) 3 (m 98 3 + 1) := by
              have u : m9 98 = m 98 := by rw [e9, ms_n _ _ (by decide), e8', ms_n _ _ (by decide), k7.1 _ (by decide), e6, ms_n _ _ (by decide), k5.1 _ (by decide), o2 _ (by decide)]
              rw [k11.1 _ (by decide), e10, ms_s, u]
            have a21 : m11 96 21 = m 96 21 := by rw [k11.2 21 (by omega) (by decide) (by decide), e10, ms_n _ _ (by decide), e9, ms_n _ _ (by decide), e8', ms_n _ _ (by decide), k7.2 21 (by omega) (by decide) (by decide), e6, ms_n _ _ (by decide), k5.2 21 (by omega) (by decide) (by decide), k2.2 21 (by omega) (by decide) (by decide), k1.2 21 (by omega)]
            refine ⟨⟨⟨n1, by show r_nt x + 1 ≤ 4; omega⟩, ?_, ?_, fun i hi => ?_, fun i hi => ?_⟩, fun i hi => ?_, fun i hi => ?_, ?_, fun w => ?_, fun q w => ?_⟩
            · show m11 98 2 = (r_nd x : Int)
              rw [p5, ru_n _ _ (by decide)]; exact n3
            · show m11 98 3 = ((r_nt x + 1 : Nat) : Int)
              rw [p5, ru_s, n4]; omega
            · rw [o 99 (by decide) (by decide) (by decide) (by decide) (by decide)]; exact n5 i hi
            · show m11 100 (4 + i) = ru (r_tn x) (r_nt x) (t_v (nx T t)) i ∧ wR (ru (r_tn x) (r_nt x) (t_v (nx T t)) i)
              have hi : i < r_nt x + 1 := hi
              rw [p4]
              by_cases y : i = r_nt x
              · rw [y, ru_s, ru_s]; exact ⟨rfl, TK_v tk1 kw⟩
              · rw [ru_n _ _ (by omega), ru_n _ _ y]; exact n6 i (by omega)
            · rw [o 101 (by decide) (by decide) (by decide) (by decide) (by decide), o 102 (by decide) (by decide) (by decide) (by decide) (by decide), o 103 (by decide) (by decide) (by decide) (by decide) (by decide)]; exact hd2 i hi
            · show m11 104 (4 + i) = ru (r_sk x) (r_nt x) (t_v t4) i ∧ m11 105 (4 + i) = ru (r_sa x) (r_nt x) (t_v t6) i
              have hi : i < r_nt x + 1 := hi
              rw [p2, p3]
              by_cases y : i = r_nt x
              · rw [y, ru_s, ru_s, ru_s, ru_s]; exact ⟨rfl, rfl⟩
              · rw [ru_n _ _ (show 4 + i ≠ 4 + r_nt x by omega), ru_n _ _ (show 4 + i ≠ 4 + r_nt x by omega), ru_n _ _ y, ru_n _ _ y]; exact hd3 i (by omega)
            · rw [o 106 (by decide) (by decide) (by decide) (by decide) (by decide)]; exact hd4
            · rw [o 107 (by decide) (by decide) (by decide) (by decide) (by decide), a21]; exact hd5 w
            · rw [o 107 (by decide) (by decide) (by decide) (by decide) (by decide), o 108 (by decide) (by decide) (by decide) (by decide) (by decide)]; exact hd6 q w
  · rw [if_pos (show r_nt x = 4 by omega)] at hq
    exact s_failsK (k := 5) hr (fun m' k e9 => ⟨_, rfl, Or.inl rfl, hq.1 _ m' rfl ⟨RAF_K hA k, e9⟩⟩)
theorem RAF_R {m2 m' : sh_Mem} (h : RAF m0 m2) (k : RFr 1000 m2 m') : RAF m0 m' := fun a i hn => by
  by_cases y : a = 96
  · subst y; rw [k.2.1 i (by unfold lowC at hn; omega)]; exact h 96 i hn
  · by_cases y8 : a = 108
    · subst y8; rw [k.2.2 i (by unfold lowC at hn; omega)]; exact h 108 i hn
    · rw [k.1 a y y8 (by unfold lowC at hn; omega) (by unfold lowC at hn; omega)]; exact h a i hn
theorem s_readsPays (hT : TpOk T) (ht : TK T t) (hx : DrOk T x) (hs : RSA m0 m T t x) (hq : RPo m0 T (pPays T x t) Q) : sh_Cal g (d + 3) m_Mod_readsPays [sh_r 96] m Q := by
  obtain ⟨hA, hr, hD⟩ := hs
  obtain ⟨hN, hd2, hd3, hd4, hd5, hd6⟩ := hD
  unfold pPays at hq
  apply v_Mod_readsPays
  rw [hd4]
  cases hw : r_lw x with
  | some y =>
    simp only [hw] at hq
    obtain ⟨y1, y2⟩ := hx.2.2.2 y hw
    have hrd := RdP_ex (RdP_P hT 5) _ _ y1 y2
    have := (TK_1000 hT hrd.1).1
    have := hrd.2.2.1; have := hrd.2.2.2.2.2
    rw [(hd6 y hw).1, i3n (x := 1000 + y.2.2.2.length) (by omega), i3s (x := 1000) (by omega) (by omega)]
    refine ⟨fun z => by omega, fun _ => ?_⟩
    exact s_failsK (k := 3) hr (fun m' k e9 => ⟨_, rfl, Or.inl rfl, hq.1 _ m' rfl ⟨RAF_K hA k, e9⟩⟩)
  | none =>
    simp only [hw] at hq
    obtain ⟨h7, h21⟩ := hd5 hw
    rw [h7]
    refine ⟨fun _ => ?_, fun z => absurd (show i3 1000 ≤ i3 1000 by decide) z⟩
    have tk1 := TK_n ht
    refine s_nextK (d := d + 1) hT ht hr (fun m1 k1 c1 => ⟨rfl, fun m2 e2 => ?_⟩)
    have e21 : m1 96 21 = 1000 := by rw [k1.2 21 (by omega)]; exact h21
    have A2 : RAF m0 m2 := by rw [e2]; exact RAF_w (RAF_K hA (Kr_Rk k1)) (by unfold lowC; omega)
    have c2 : RT m2 T (nx T t) := by rw [e2]; exact RT_m c1 (by omega)
    have rs : RSt 1000 m2 m2 T (nx T t) [] := ⟨⟨fun _ _ _ _ _ => rfl, fun _ _ => rfl, fun _ _ => rfl⟩, rfl, c2, by rw [e2, ms_n _ _ (by decide), e21]; rfl, fun i hi => absurd hi (Nat.not_lt_zero i)⟩
    refine s_Mod_reads (d := d) (m0 := m2) hT (by omega) tk1 rs (fun f m' e k => ⟨_, rfl, fun y => absurd rfl y, fun _ => ?_⟩) (fun r m3 e k59 s3 => ⟨_, rfl, fun _ => fun m4 e4 => ?_, fun y => absurd y (by decide)⟩) (fun r m' e k59 k => ⟨_, rfl, fun y => absurd rfl y, fun _ => ?_⟩)
    · simp only [e] at hq; exact hq.1 f m' rfl ⟨RAF_R A2 k.1, k.2⟩
    · have ps : pSg T 59 r.1 = .inr (nx T r.1) := by unfold pSg; rw [if_pos k59]
      simp only [e, ps] at hq
      have hrd := RdP_ex (RdP_P hT 5) _ _ tk1 e
      obtain ⟨s31, s32, s33, s34, s35⟩ := s3
      refine hq.2 _ m4 rfl (TK_n hrd.1) ⟨by rw [e4]; exact RAF_w (RAF_R A2 s31) (by unfold lowC; omega), by rw [e4]; exact RT_m s33 (by omega), ?_⟩
      have o : ∀ a, a ≠ 96 → a ≠ 106 → a ≠ 107 → a ≠ 108 → a ≠ 109 → a ≠ 110 → m4 a = m a := fun a y1 y2 y3 y4 y5 y6 => by rw [e4, ms_n _ _ y3, s31.1 a y1 y4 y5 y6, e2, ms_n _ _ y2, k1.1 a y1]
      refine ⟨⟨hN.1, ?_, ?_, ?_, ?_⟩, ?_, ?_, ?_, fun w => (by cases w), fun q w => ?_⟩
      · rw [o 98 (by decide) (by decide) (by decide) (by decide) (by decide) (by decide)]; exact hN.2.1
      · rw [o 98 (by decide) (by decide) (by decide) (by decide) (by decide) (by decide)]; exact hN.2.2.1
      · rw [o 99 (by decide) (by decide) (by decide) (by decide) (by decide) (by decide)]; exact hN.2.2.2.1
      · rw [o 100 (by decide) (by decide) (by decide) (by decide) (by decide) (by decide)]; exact hN.2.2.2.2
      · rw [o 101 (by decide) (by decide) (by decide) (by decide) (by decide) (by decide), o 102 (by decide) (by decide) (by decide) (by decide) (by decide) (by decide), o 103 (by decide) (by decide) (by decide) (by decide) (by decide) (by decide)]; exact hd2
      · rw [o 104 (by decide) (by decide) (by decide) (by decide) (by decide) (by decide), o 105 (by decide) (by decide) (by decide) (by decide) (by decide) (by decide)]; exact hd3
      · rw [e4, ms_n _ _ (by decide), s31.1 106 (by decide) (by decide) (by decide) (by decide), e2, ms_s, ru_s, e21]
      · cases w
        refine ⟨by rw [e4, ms_s, ru_s, s34], fun i hi => ?_⟩
        rw [e4, ms_n _ _ (by decide)]; exact s35 i hi
    · have ps : pSg T 59 r.1 = .inl (flt 1 r.1) := by unfold pSg; rw [if_neg k59]
      simp only [e, ps] at hq
      exact hq.1 _ m' rfl ⟨RAF_R A2 k.1, k.2⟩
end ALR
