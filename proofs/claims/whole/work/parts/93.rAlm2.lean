/-! ===== an almanac: the reference reads its lines ===== -/
def lowC (a i : Nat) : Prop := (a = 98 ∧ 2 ≤ i) ∨ ((a = 99 ∨ a = 101 ∨ a = 102 ∨ a = 103) ∧ 8 ≤ i) ∨ ((a = 100 ∨ a = 104 ∨ a = 105) ∧ 4 ≤ i) ∨ ((a = 106 ∨ a = 107) ∧ 1 ≤ i) ∨ (a = 108 ∧ 1000 ≤ i) ∨ a = 109 ∨ a = 110 ∨ (a = 96 ∧ ((4 ≤ i ∧ i ≤ 9) ∨ i = 21 ∨ i = 34 ∨ i = 35))
def RAF (m0 m : sh_Mem) : Prop := ∀ a i, ¬ lowC a i → m a i = m0 a i
def RD (m : sh_Mem) (x : Dr) : Prop := RN m x ∧ (∀ i, i < r_nd x → m 101 (8 + i) = r_ki x i ∧ m 102 (8 + i) = r_wo x i ∧ m 103 (8 + i) = r_gu x i) ∧ (∀ i, i < r_nt x → m 104 (4 + i) = r_sk x i ∧ m 105 (4 + i) = r_sa x i) ∧ m 106 1 = 1000 ∧ (r_lw x = none → m 107 1 = 1000 ∧ m 96 21 = 1000) ∧ ∀ q, r_lw x = some q → m 107 1 = ((1000 + q.2.2.2.length : Nat) : Int) ∧ ∀ i, i < q.2.2.2.length → m 108 (1000 + i) = q.2.2.2.getD i 0
def RSA (m0 m : sh_Mem) (T : Tp) (t : Tok) (x : Dr) : Prop := RAF m0 m ∧ RT m T t ∧ RD m x
def RFA (m0 m : sh_Mem) (f : Int) : Prop := RAF m0 m ∧ m 96 9 = f
abbrev RPo (m0 : sh_Mem) (T : Tp) (o : ALR) (Q : Option sh_V → sh_Mem → Prop) : Prop := (∀ f m', o = .inl f → RFA m0 m' f → Q (some (sh_i 0)) m') ∧ ∀ q m', o = .inr q → TK T q.1 → RSA m0 m' T q.1 q.2 → Q (some (sh_i 1)) m'
section ALR
variable {g : sh_G} {d : Nat} {T : Tp} {t : Tok} {m0 m : sh_Mem} {x : Dr} {Q : Option sh_V → sh_Mem → Prop}
theorem RAF_K {m' : sh_Mem} (h : RAF m0 m) (k : Kr m m') : RAF m0 m' := fun a i hn => by
  by_cases y : a = 96
  · subst y; rw [k.2 i (by unfold lowC at hn; omega) (by unfold lowC at hn; omega) (by unfold lowC at hn; omega)]; exact h 96 i hn
  · rw [k.1 a y]; exact h a i hn
theorem RAF_w {a j : Nat} {v : Int} (h : RAF m0 m) (hl : lowC a j) : RAF m0 (ms m a (ru (m a) j v)) := fun b i hn => by
  by_cases y : b = a
  · subst y; rw [ms_s, ru_n _ _ (fun z => hn (by rw [z]; exact hl))]; exact h b i hn
  · rw [ms_n _ _ y]; exact h b i hn
theorem RT_m {a : Nat} {r : Nat → Int} (hr : RT m T t) (ha : a ≠ 96 ∧ a ≠ 97) : RT (ms m a r) T t := by unfold RT; rw [ms_n _ _ (Ne.symm ha.1), ms_n _ _ (Ne.symm ha.2)]; exact hr
theorem RN_e {m' : sh_Mem} (h : RN m x) (e : ∀ a, a ≠ 96 → m' a = m a) : RN m' x := by unfold RN; rw [e 98 (by decide), e 99 (by decide), e 100 (by decide)]; exact h
theorem s_readsDay (hT : TpOk T) (ht : TK T t) (hs : RSA m0 m T t x) (hq : RPo m0 T (pDay T x t) Q) : sh_Cal g (d + 4) m_Mod_readsDay [sh_r 96] m Q := by
  obtain ⟨hA, hr, hD⟩ := hs
  obtain ⟨hN, hd2, hd3, hd4, hd5, hd6⟩ := hD
  have hN' := hN
  obtain ⟨⟨n1, n2⟩, n3, n4, n5, n6⟩ := hN'
  unfold pDay at hq
  have e8 : (8 : Int) + (r_nd x : Int) = ((8 + r_nd x : Nat) : Int) := by omega
  apply v_Mod_readsDay
  rw [n3, e8, i3n (x := 8 + r_nd x) (by omega)]
  refine ⟨fun z => ?_, fun z => ?_⟩
  · rw [if_neg (show ¬ r_nd x = 8 by omega)] at hq
    have tk1 := TK_n ht; have tk2 := TK_n tk1; have tk3 := TK_n tk2
    refine s_nextK (d := d + 2) hT ht hr (fun m1 k1 c1 => ⟨rfl, ?_⟩)
    have A1 := RAF_K hA (Kr_Rk k1)
    refine s_needsNew (d := d + 1) hT (RN_e hN k1.1) tk1 c1 (fun f m' e k e9 => ⟨_, rfl, fun y => absurd rfl y, fun _ => ?_⟩) (fun m2 e kw k2 e35 c2 => ⟨_, rfl, fun _ => ?_, fun y => absurd y (by decide)⟩)
    · simp only [e] at hq; exact hq.1 f m' rfl ⟨RAF_K A1 k, e9⟩
    · simp only [e] at hq
      have A2 := RAF_K A1 k2
      have o2 : ∀ a, a ≠ 96 → m2 a = m a := fun a ha => (k2.1 a ha).trans (k1.1 a ha)
      have kc := kdT_c (nx T (nx T t))
      have go : ∀ y0, y0 = kdT (nx T (nx T t)) → sh_X g (d + 4) m_Mod_readsDay 97 [(0, sh_r 96), (1, sh_i ((8 + r_nd x : Nat) : Int))] [sh_i y0, sh_i ((8 + r_nd x : Nat) : Int), sh_r 101] m2 (sh_K m_Mod_readsDay Q) := by
        intro y0 ey
        apply v_Mod_readsDay_97
        rw [Int.toNat_natCast]
        refine ⟨by omega, fun m3 e3 => ⟨by omega, ?_⟩⟩
        have A3 : RAF m0 m3 := by rw [e3]; exact RAF_w A2 (by unfold lowC; omega)
        have c3 : RT m3 T (nx T (nx T t)) := by rw [e3]; exact RT_m c2 (by omega)
        have v3 : m3 101 (8 + r_nd x) = y0 := by rw [e3, ms_s, ru_s]
        rw [v3, ey, i3s (x := kdT (nx T (nx T t))) (by omega) (by omega)]
        refine ⟨fun y => ?_, fun y => ?_⟩
        · rw [if_neg (show ¬ kdT (nx T (nx T t)) = -1 by omega)] at hq
          refine s_nextK (d := d + 2) hT tk2 c3 (fun m4 k4 c4 => ⟨rfl, ?_⟩)
          have A4 := RAF_K A3 (Kr_Rk k4)
          refine s_needsBoth (d := d) (c := 12532058) hT tk3 c4 (by omega) (by omega) (by omega) (fun f m' e k e9 => ⟨_, rfl, fun y => absurd rfl y, fun _ => ?_⟩) (fun t4 t5 m5 e4 e5 tk5 k5 e34 e35' c5 => ⟨_, rfl, fun _ => ⟨by omega, fun m6 e6 => ?_⟩, fun y => absurd y (by decide)⟩)
          · rcases e with e | ⟨t4, e1, e2⟩
            · simp only [e] at hq; exact hq.1 f m' rfl ⟨RAF_K A4 k, e9⟩
            · simp only [e1, e2] at hq; exact hq.1 f m' rfl ⟨RAF_K A4 k, e9⟩
          · simp only [e4, e5] at hq
            have A6 : RAF m0 m6 := by rw [e6]; exact RAF_w (RAF_K A4 k5) (by unfold lowC; omega)
            have c6 : RT m6 T t5 := by rw [e6]; exact RT_m c5 (by omega)
            refine s_needsBoth (d := d) (c := 4134649) hT tk5 c6 (by omega) (by omega) (by omega) (fun f m' e k e9 => ⟨_, rfl, fun y => absurd rfl y, fun _ => ?_⟩) (fun t6 t7 m7 e6' e7' tk7 k7 f34 f35 c7 => ⟨_, rfl, fun _ => ⟨by omega, fun m8 e8' => ⟨by omega, fun m9 e9 m10 e10 => ?_⟩⟩, fun y => absurd y (by decide)⟩)
            · rcases e with e | ⟨t6, e1, e2⟩
              · simp only [e] at hq; exact hq.1 f m' rfl ⟨RAF_K A6 k, e9⟩
              · simp only [e1, e2] at hq; exact hq.1 f m' rfl ⟨RAF_K A6 k, e9⟩
            · simp only [e6', e7'] at hq
              have A10 : RAF m0 m10 := by
                rw [e10]; refine RAF_w ?_ (by unfold lowC; omega)
                rw [e9]; refine RAF_w ?_ (by unfold lowC; omega)
                rw [e8']; exact RAF_w (RAF_K A6 k7) (by unfold lowC; omega)
              have c10 : RT m10 T t7 := by rw [e10, e9, e8']; exact RT_m (RT_m (RT_m c7 (by omega)) (by omega)) (by omega)
              refine s_closes (d := d + 1) hT tk7 c10 (fun f m' e k q9 => ⟨_, rfl, Or.inl rfl, ?_⟩) (fun t8 m11 q8 tk8 k11 c11 => ⟨_, rfl, Or.inr rfl, ?_⟩)
              · simp only [e] at hq; exact hq.1 f m' rfl ⟨RAF_K A10 k, q9⟩
              · simp only [q8] at hq
                refine hq.2 _ m11 rfl tk8 ⟨RAF_K A10 k11, c11, ?_⟩
                have o : ∀ a, a ≠ 96 → a ≠ 98 → a ≠ 99 → a ≠ 101 → a ≠ 102 → a ≠ 103 → m11 a = m a := fun a y1 y2 y3 y4 y5 y6 => by rw [k11.1 a y1, e10, ms_n _ _ y2, e9, ms_n _ _ y3, e8', ms_n _ _ y6, k7.1 a y1, e6, ms_n _ _ y5, k5.1 a y1, k4.1 a y1, e3, ms_n _ _ y4, o2 a y1]
                have p1 : m11 101 = ru (m 101) (8 + r_nd x) (kdT (nx T (nx T t))) := by rw [k11.1 _ (by decide), e10, ms_n _ _ (by decide), e9, ms_n _ _ (by decide), e8', ms_n _ _ (by decide), k7.1 _ (by decide), e6, ms_n _ _ (by decide), k5.1 _ (by decide), k4.1 _ (by decide), e3, ms_s, o2 _ (by decide), ey]
                have p2 : m11 102 = ru (m 102) (8 + r_nd x) (t_v t4) := by rw [k11.1 _ (by decide), e10, ms_n _ _ (by decide), e9, ms_n _ _ (by decide), e8', ms_n _ _ (by decide), k7.1 _ (by decide), e6, ms_s, e34, k5.1 _ (by decide), k4.1 _ (by decide), e3, ms_n _ _ (by decide), o2 _ (by decide)]
                have p3 : m11 103 = ru (m 103) (8 + r_nd x) (t_v t6) := by rw [k11.1 _ (by decide), e10, ms_n _ _ (by decide), e9, ms_n _ _ (by decide), e8', ms_s, f34, k7.1 _ (by decide), e6, ms_n _ _ (by decide), k5.1 _ (by decide), k4.1 _ (by decide), e3, ms_n _ _ (by decide), o2 _ (by decide)]
                have v35 : m8 96 35 = t_v (nx T t) := by rw [e8', ms_n _ _ (by decide), f35, e6, ms_n _ _ (by decide), e35', k4.2 35 (by omega), e3, ms_n _ _ (by decide), e35]
                have p4 : m11 99 = ru (m 99) (8 + r_nd x) (t_v (nx T t)) := by rw [k11.1 _ (by decide), e10, ms_n _ _ (by decide), e9, ms_s, v35, e8', ms_n _ _ (by decide), k7.1 _ (by decide), e6, ms_n _ _ (by decide), k5.1 _ (by decide), k4.1 _ (by decide), e3, ms_n _ _ (by decide), o2 _ (by decide)]
                have p5 : m11 98 = ru (m 98) 2 (m 98 2 + 1) := by
                  have u : m9 98 = m 98 := by rw [e9, ms_n _ _ (by decide), e8', ms_n _ _ (by decide), k7.1 _ (by decide), e6, ms_n _ _ (by decide), k5.1 _ (by decide), k4.1 _ (by decide), e3, ms_n _ _ (by decide), o2 _ (by decide)]
                  rw [k11.1 _ (by decide), e10, ms_s, u]
                have a21 : m11 96 21 = m 96 21 := by rw [k11.2 21 (by omega) (by decide) (by decide), e10, ms_n _ _ (by decide), e9, ms_n _ _ (by decide), e8', ms_n _ _ (by decide), k7.2 21 (by omega) (by decide) (by decide), e6, ms_n _ _ (by decide), k5.2 21 (by omega) (by decide) (by decide), k4.2 21 (by omega), e3, ms_n _ _ (by decide), k2.2 21 (by omega) (by decide) (by decide), k1.2 21 (by omega)]
                refine ⟨⟨⟨by show r_nd x + 1 ≤ 8; omega, n2⟩, ?_, ?_, fun i hi => ?_, fun i hi => ?_⟩, fun i hi => ?_, fun i hi => ?_, ?_, fun w => ?_, fun q w => ?_⟩
                · show m11 98 2 = ((r_nd x + 1 : Nat) : Int)
                  rw [p5, ru_s, n3]; omega
                · show m11 98 3 = (r_nt x : Int)
                  rw [p5, ru_n _ _ (by decide)]; exact n4
                · show m11 99 (8 + i) = ru (r_dn x) (r_nd x) (t_v (nx T t)) i ∧ wR (ru (r_dn x) (r_nd x) (t_v (nx T t)) i)
                  have hi : i < r_nd x + 1 := hi
                  rw [p4]
                  by_cases y : i = r_nd x
                  · rw [y, ru_s, ru_s]; exact ⟨rfl, TK_v tk1 kw⟩
                  · rw [ru_n _ _ (by omega), ru_n _ _ y]; exact n5 i (by omega)
                · rw [o 100 (by decide) (by decide) (by decide) (by decide) (by decide) (by decide)]; exact n6 i hi
                · show m11 101 (8 + i) = ru (r_ki x) (r_nd x) (kdT (nx T (nx T t))) i ∧ m11 102 (8 + i) = ru (r_wo x) (r_nd x) (t_v t4) i ∧ m11 103 (8 + i) = ru (r_gu x) (r_nd x) (t_v t6) i
                  have hi : i < r_nd x + 1 := hi
                  rw [p1, p2, p3]
                  by_cases y : i = r_nd x
                  · rw [y, ru_s, ru_s, ru_s, ru_s, ru_s, ru_s]; exact ⟨rfl, rfl, rfl⟩
                  · rw [ru_n _ _ (show 8 + i ≠ 8 + r_nd x by omega), ru_n _ _ (show 8 + i ≠ 8 + r_nd x by omega), ru_n _ _ (show 8 + i ≠ 8 + r_nd x by omega), ru_n _ _ y, ru_n _ _ y, ru_n _ _ y]; exact hd2 i (by omega)
                · rw [o 104 (by decide) (by decide) (by decide) (by decide) (by decide) (by decide), o 105 (by decide) (by decide) (by decide) (by decide) (by decide) (by decide)]; exact hd3 i hi
                · rw [o 106 (by decide) (by decide) (by decide) (by decide) (by decide) (by decide)]; exact hd4
                · rw [o 107 (by decide) (by decide) (by decide) (by decide) (by decide) (by decide), a21]; exact hd5 w
                · rw [o 107 (by decide) (by decide) (by decide) (by decide) (by decide) (by decide), o 108 (by decide) (by decide) (by decide) (by decide) (by decide) (by decide)]; exact hd6 q w
        · rw [if_pos (show kdT (nx T (nx T t)) = -1 by omega)] at hq
          exact s_failsK (k := 1) c3 (fun m' k e9 => ⟨_, rfl, Or.inl rfl, hq.1 _ m' rfl ⟨RAF_K A3 k, e9⟩⟩)
      have kd : kdT (nx T (nx T t)) = (if isW (nx T (nx T t)) 8740238 then 0 else if isW (nx T (nx T t)) 284068024 then 1 else if isW (nx T (nx T t)) 16922 then 2 else if isW (nx T (nx T t)) 3288323 then 3 else -1) := rfl
      refine s_Mod_isWord hT tk2 c2 (by omega) ⟨_, rfl, ?_⟩
      rw [i3_01]
      refine ⟨fun z1 => ?_, fun z1 => go 0 (by rw [kd, if_pos (p01 z1)])⟩
      refine s_Mod_isWord hT tk2 c2 (by omega) ⟨_, rfl, ?_⟩
      rw [i3_01]
      refine ⟨fun z2 => ?_, fun z2 => go 1 (by rw [kd, if_neg (n01 z1), if_pos (p01 z2)])⟩
      refine s_Mod_isWord hT tk2 c2 (by omega) ⟨_, rfl, ?_⟩
      rw [i3_01]
      refine ⟨fun z3 => ?_, fun z3 => go 2 (by rw [kd, if_neg (n01 z1), if_neg (n01 z2), if_pos (p01 z3)])⟩
      refine s_Mod_isWord hT tk2 c2 (by omega) ⟨_, rfl, ?_⟩
      rw [i3_01]
      exact ⟨fun z4 => go (-1) (by rw [kd, if_neg (n01 z1), if_neg (n01 z2), if_neg (n01 z3), if_neg (n01 z4)]), fun z4 => go 3 (by rw [kd, if_neg (n01 z1), if_neg (n01 z2), if_neg (n01 z3), if_pos (p01 z4)])⟩
  · rw [if_pos (show r_nd x = 8 by omega)] at hq
    exact s_failsK (k := 5) hr (fun m' k e9 => ⟨_, rfl, Or.inl rfl, hq.1 _ m' rfl ⟨RAF_K hA k, e9⟩⟩)
end ALR
