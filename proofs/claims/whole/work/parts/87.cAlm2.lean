section ALM
variable {g : sh_G} {d B b : Nat} {T : Tp} {t : Tok} {m0 m mm : sh_Mem} {x : Dr} {r1 r2 r3 r4 : Nat → Int} {Q : Option sh_V → sh_Mem → Prop}
theorem s_readThief (hJ : JD g) (hT : TpOk T) (hB : ob0 B) (ht : TK T t) (hs : ASt B m0 m T t x) (hq : APo B m0 T (pThief T x t) Q) : sh_Cal g (d + 12) m_Read_readThief [sh_r 4, sh_r B] m Q := by
  have l := ob0_c hB
  obtain ⟨hA, h41, hr, hD⟩ := hs
  obtain ⟨hN, hd2, hd3, hd4, hd5, hd6⟩ := hD
  have hN' := hN
  obtain ⟨⟨n1, n2⟩, n3, n4, n5, n6⟩ := hN'
  unfold pThief at hq
  apply v_Read_readThief hB
  rw [n4, i3n (x := r_nt x) (by omega), Int.toNat_natCast]
  refine ⟨fun z => ?_, fun z => ?_⟩
  · rw [if_neg (show ¬ r_nt x = 4 by omega)] at hq
    refine s_stepK (d := d + 2) hJ hT ht hr (fun m1 k1 _ c1 => ⟨rfl, ?_⟩)
    have D1 : DS m (B + 4) m1 _ _ _ _ := DS_K (by omega) DS_rf k1
    have tk1 := TK_n ht
    refine s_isNewName (d := d) (x := x) hJ hT hB (CNm_e hN (k1.1 _ (by omega) (by omega)) (k1.1 _ (by omega) (by omega)) (k1.1 _ (by omega) (by omega))) tk1 c1 (fun f m' e k => ⟨0, rfl, fun y => absurd rfl y, fun _ => ?_⟩) (fun e k1w => ⟨1, rfl, fun _ => ⟨by omega, fun m3 e3 => ?_⟩, fun y => absurd y (by decide)⟩)
    · simp only [e] at hq; exact hq.1 f m' rfl (AFl_D (by omega) hA (by omega) D1 k)
    · simp only [e] at hq
      have D3 := DS_w (i := 1) (by omega) (by omega) D1 e3
      have c3 : CT m3 T (nx T t) := by rw [e3]; exact CT_w c1 (by omega)
      refine s_stepK (d := d + 2) hJ hT tk1 c3 (fun m7 k7 _ c7 => ⟨rfl, ?_⟩)
      have D7 := DS_K (by omega) D3 k7
      have tk2 := TK_n tk1
      refine s_takeKN (d := d + 1) (c := 10320789) hJ hT tk2 c7 (ky_i 5 rfl (by decide)) (by omega) (by omega) (by omega) (fun f m' e k => ⟨0, rfl, fun y => absurd rfl y, fun _ => ?_⟩) (fun f t4 m' e4 e k => ⟨0, rfl, fun y => absurd rfl y, fun _ => ?_⟩) (fun t4 t5 m9 e4 e5 tk5 v5 k9 w9 c9 => ⟨1, rfl, fun _ => ⟨by omega, fun m10 e10 => ?_⟩, fun y => absurd y (by decide)⟩)
      · simp only [e] at hq; exact hq.1 f m' rfl (AFl_D (by omega) hA (by omega) D7 k)
      · simp only [e4, e] at hq; exact hq.1 f m' rfl (AFl_D (by omega) hA (by omega) D7 k)
      · simp only [e4, e5] at hq
        have D10 := DS_w (i := 2) (by omega) (by omega) (DS_K (by omega) D7 k9) e10
        have c10 : CT m10 T t5 := by rw [e10]; exact CT_w c9 (by omega)
        refine s_takeKN (d := d + 1) (c := 374798) hJ hT tk5 c10 (ky_i 6 rfl (by decide)) (by omega) (by omega) (by omega) (fun f m' e k => ⟨0, rfl, fun y => absurd rfl y, fun _ => ?_⟩) (fun f t6 m' e6' e k => ⟨0, rfl, fun y => absurd rfl y, fun _ => ?_⟩) (fun t6 t7 m12 e6' e7 tk7 v7 k12 w12 c12 => ⟨1, rfl, fun _ => ⟨by omega, fun m13 e13 m14 e14 => ?_⟩, fun y => absurd y (by decide)⟩)
        · simp only [e] at hq; exact hq.1 f m' rfl (AFl_D (by omega) hA (by omega) D10 k)
        · simp only [e6', e] at hq; exact hq.1 f m' rfl (AFl_D (by omega) hA (by omega) D10 k)
        · simp only [e6', e7] at hq
          have D13 := DS_w (i := 3) (by omega) (by omega) (DS_K (by omega) D10 k12) e13
          have c13 : CT m13 T t7 := by rw [e13]; exact CT_w c12 (by omega)
          have c14 : CT m14 T t7 := by rw [e14]; exact CT_w c13 (by omega)
          obtain ⟨⟨q1, q2, q3, q4⟩, q5, q6, q7⟩ := D13
          have B13 : m13 B = m B := q5 B (by omega) (by omega) (by omega)
          have fr14 : AFr B m0 m14 := by
            refine ⟨fun a h2 h4 h5 => ?_, ?_⟩
            · rw [e14, ms_n _ _ (by omega), q5 a h2 h4 (by omega)]; exact hA.1 a h2 h4 h5
            · rw [e14, ms_n _ _ (by omega), q6]; exact hA.2
          refine s_takeSignK (d := d + 1) hJ hT tk7 c14 (by omega) (fun f m' e k => ⟨0, rfl, Or.inl rfl, ?_⟩) (fun t8 m15 e8 tk8 k15 c15 => ⟨1, rfl, Or.inr rfl, ?_⟩)
          · simp only [e] at hq
            exact hq.1 f m' rfl ⟨⟨fun a h2 h4 h5 => (k.1 a h2 h4).trans (fr14.1 a h2 h4 h5), k.2.1.trans fr14.2⟩, k.2.2⟩
          · simp only [e8] at hq
            refine hq.2 _ m15 rfl tk8 ⟨⟨fun a h2 h4 h5 => (k15.1 a h2 h4).trans (fr14.1 a h2 h4 h5), k15.2.1.trans fr14.2⟩, ?_, c15, ?_⟩
            · rw [k15.2.2, e14, ms_n _ _ (by omega), q7]; exact h41
            · have R : ∀ a, a ≠ 2 → a ≠ 4 → a ≠ B → m15 a = m13 a := fun a h2 h4 h5 => by rw [k15.1 a h2 h4, e14, ms_n _ _ h5]
              have RB : m15 B = ru (m B) 1 (m B 1 + 1) := by rw [k15.1 B (by omega) (by omega), e14, ms_s, B13]
              have p1 : m15 (B + 5) = ru (m (B + 5)) (r_nt x) (t_v (nx T t)) := by
                have q1' : m13 (B + 5) = ru (m1 (B + 5)) (r_nt x) (m1 2 7) := q1
                rw [R _ (by omega) (by omega) (by omega), q1', k1.1 _ (by omega) (by omega), c1.2.2.2.2.1 k1w]
              have p2 : m15 (B + 6) = ru (m (B + 6)) (r_nt x) (t_v t4) := by
                have q2' : m13 (B + 6) = ru (m9 (B + 6)) (r_nt x) (m9 4 2) := q2
                have u : m7 (B + 6) = m (B + 6) := D7.1.2.1
                rw [R _ (by omega) (by omega) (by omega), q2', k9.1 _ (by omega) (by omega), u, w9]
              have p3 : m15 (B + 7) = ru (m (B + 7)) (r_nt x) (t_v t6) := by
                have q3' : m13 (B + 7) = ru (m12 (B + 7)) (r_nt x) (m12 4 2) := q3
                have u : m10 (B + 7) = m (B + 7) := D10.1.2.2.1
                rw [R _ (by omega) (by omega) (by omega), q3', k12.1 _ (by omega) (by omega), u, w12]
              have p4 : m15 (B + 8) = m (B + 8) := by
                have q4' : m13 (B + 8) = m (B + 8) := q4
                rw [R _ (by omega) (by omega) (by omega), q4']
              have o : ∀ a, (B < a ∧ a < B + 5) ∨ B + 8 < a → m15 a = m a := fun a ha => by rw [R a (by omega) (by omega) (by omega), q5 a (by omega) (by omega) (by omega)]
              refine ⟨⟨⟨n1, by show r_nt x + 1 ≤ 4; omega⟩, ?_, ?_, fun i hi => ?_, fun i hi => ?_⟩, fun i hi => ?_, fun i hi => ?_, ?_, ?_, fun i hi => ?_⟩
              · show m15 B 0 = (r_nd x : Int)
                rw [RB, ru_n _ _ (by omega)]; exact n3
              · show m15 B 1 = ((r_nt x + 1 : Nat) : Int)
                rw [RB, ru_s, n4]; omega
              · rw [o (B + 1) (by omega)]; exact n5 i hi
              · show m15 (B + 5) i = ru (r_tn x) (r_nt x) (t_v (nx T t)) i ∧ wR (ru (r_tn x) (r_nt x) (t_v (nx T t)) i)
                have hi : i < r_nt x + 1 := hi
                rw [p1]
                by_cases y : i = r_nt x
                · rw [y, ru_s, ru_s]; exact ⟨rfl, TK_v tk1 k1w⟩
                · rw [ru_n _ _ y, ru_n _ _ y]; exact n6 i (by omega)
              · rw [o (B + 2) (by omega), o (B + 3) (by omega), o (B + 4) (by omega)]; exact hd2 i hi
              · show m15 (B + 6) i = ru (r_sk x) (r_nt x) (t_v t4) i ∧ m15 (B + 7) i = ru (r_sa x) (r_nt x) (t_v t6) i
                have hi : i < r_nt x + 1 := hi
                rw [p2, p3]
                by_cases y : i = r_nt x
                · rw [y, ru_s, ru_s, ru_s, ru_s]; exact ⟨rfl, rfl⟩
                · rw [ru_n _ _ y, ru_n _ _ y, ru_n _ _ y, ru_n _ _ y]; exact hd3 i (by omega)
              · rw [RB, ru_n _ _ (by omega)]; exact hd4
              · rw [p4]; exact hd5
              · rw [o (B + 9) (by omega)]; exact hd6 i hi
  · rw [if_pos (show r_nt x = 4 by omega)] at hq
    exact s_refuseK hr (fun m' k => ⟨_, rfl, Or.inl rfl, hq.1 _ m' rfl (AFl_D (b := B) (by omega) hA (by omega) DS_rf k)⟩)
theorem ob0_L (h : ob0 B) : ob2 (B + 8) := by rcases ob0_c h with rfl | rfl <;> (unfold ob2; decide)
theorem s_readPays (hJ : JD g) (hT : TpOk T) (hB : ob0 B) (ht : TK T t) (hk : t_k t ≠ 3) (hs : ASt B m0 m T t x) (hq : APo B m0 T (pPays T x t) Q) : sh_Cal g (d + 47) m_Read_readPays [sh_r 4, sh_r B] m Q := by
  have l := ob0_c hB
  have hL := ob0_L hB
  obtain ⟨hA, h41, hr, hD⟩ := hs
  obtain ⟨hN, hd2, hd3, hd4, hd5, hd6⟩ := hD
  unfold pPays at hq
  apply v_Read_readPays hB
  rw [hd4]
  cases hw : r_lw x with
  | some y =>
    simp only [hw] at hq
    refine ⟨fun z => absurd (show i3 1 = 0 from z) (by decide), fun _ => ?_⟩
    exact s_refuseK hr (fun m' k => ⟨_, rfl, Or.inl rfl, hq.1 _ m' rfl (AFl_D (b := B) (by omega) hA (by omega) DS_rf k)⟩)
  | none =>
    simp only [hw] at hq
    refine ⟨fun _ => fun m1 e1 => ?_, fun z => absurd rfl z⟩
    apply v_Law_clear hL
    intro m2 e2
    refine ⟨rfl, ?_⟩
    have c2 : CT m2 T t := by rw [e2, e1]; exact CT_w (CT_w hr (by omega)) (by omega)
    refine s_stepK (d := d + 37) hJ hT ht c2 (fun m3 k3 k34 c3 => ⟨rfl, ?_⟩)
    have fr3 : AFr B m0 m3 := ⟨fun a h2 h4 h5 => by rw [k3.1 a h2 h4, e2, ms_n _ _ (by omega), e1, ms_n _ _ (by omega)]; exact hA.1 a h2 h4 h5, by rw [k3.2.1, e2, ms_n _ _ (by omega), e1, ms_n _ _ (by omega)]; exact hA.2⟩
    have m341 : m3 4 1 = 0 := by rw [k3.2.2, e2, ms_n _ _ (by omega), e1, ms_n _ _ (by omega)]; exact h41
    have ls : LSt (B + 8) m3 m3 T (nx T t) [] := ⟨⟨fun _ _ _ _ _ => rfl, rfl⟩, rfl, c3, by rw [k3.1 _ (by omega) (by omega), e2, ms_s, ru_s]; rfl, fun i hi => absurd hi (by simp)⟩
    have bk : ∀ m', Frm (B + 8) m3 m' → AFr B m0 m' := fun m' f => ⟨fun a h2 h4 h5 => (f.1 a h2 h4 (by omega) (by omega)).trans (fr3.1 a h2 h4 h5), f.2.trans fr3.2⟩
    have tk1 := TK_n ht
    refine s_readE0 (d := d) hJ hT hL m3 m3 (nx T t) [] _ tk1 ls (by simp) ⟨fun f m' e k => ⟨0, rfl, fun _ => ?_, fun y => absurd rfl y⟩, fun r m4 e q => ⟨1, rfl, fun y => absurd y (by decide), fun _ => ?_⟩⟩
    · simp only [e] at hq; exact hq.1 f m' rfl ⟨bk m' k.1, k.2.1⟩
    · simp only [e] at hq
      have hrd := RdP_ex (RdP_P hT 5) _ _ tk1 e
      have c4 := q.2.2.1
      have fr4 := bk m4 q.1
      refine s_takeSignK (d := d + 36) hJ hT hrd.1 c4 (by omega) (fun f m' e k => ⟨0, rfl, fun _ => ?_, fun y => absurd rfl y⟩) (fun t2 m5 e5 tk5 k5 c5 => ⟨1, rfl, fun y => absurd y (by decide), fun _ => ?_⟩)
      · simp only [e] at hq
        exact hq.1 f m' rfl ⟨⟨fun a h2 h4 h5 => (k.1 a h2 h4).trans (fr4.1 a h2 h4 h5), k.2.1.trans fr4.2⟩, k.2.2⟩
      · simp only [e5] at hq
        refine hq.2 _ m5 rfl tk5 ⟨⟨fun a h2 h4 h5 => (k5.1 a h2 h4).trans (fr4.1 a h2 h4 h5), k5.2.1.trans fr4.2⟩, ?_, c5, ?_⟩
        · rw [k5.2.2, q.2.1]; exact m341
        · have R : ∀ a, a ≠ 2 → a ≠ 4 → a ≠ B + 8 → a ≠ B + 9 → a ≠ B → m5 a = m a := fun a h2 h4 h5 h6 h7 => by rw [k5.1 a h2 h4, q.1.1 a h2 h4 h5 (by omega), k3.1 a h2 h4, e2, ms_n _ _ h5, e1, ms_n _ _ h7]
          have RB : m5 B = ru (m B) 2 1 := by rw [k5.1 B (by omega) (by omega), q.1.1 B (by omega) (by omega) (by omega) (by omega), k3.1 B (by omega) (by omega), e2, ms_n _ _ (by omega), e1, ms_s]
          refine ⟨⟨hN.1, ?_, ?_, ?_, ?_⟩, ?_, ?_, ?_, ?_, ?_⟩
          · rw [RB, ru_n _ _ (by omega)]; exact hN.2.1
          · rw [RB, ru_n _ _ (by omega)]; exact hN.2.2.1
          · rw [R (B + 1) (by omega) (by omega) (by omega) (by omega) (by omega)]; exact hN.2.2.2.1
          · rw [R (B + 5) (by omega) (by omega) (by omega) (by omega) (by omega)]; exact hN.2.2.2.2
          · rw [R (B + 2) (by omega) (by omega) (by omega) (by omega) (by omega), R (B + 3) (by omega) (by omega) (by omega) (by omega) (by omega), R (B + 4) (by omega) (by omega) (by omega) (by omega) (by omega)]; exact hd2
          · rw [R (B + 6) (by omega) (by omega) (by omega) (by omega) (by omega), R (B + 7) (by omega) (by omega) (by omega) (by omega) (by omega)]; exact hd3
          · rw [RB, ru_s]; rfl
          · rw [k5.1 (B + 8) (by omega) (by omega)]; exact q.2.2.2.1
          · rw [k5.1 (B + 9) (by omega) (by omega)]; exact q.2.2.2.2
end ALM
