/-! ===== an almanac: the class reads its lines ===== -/
def CD (m : sh_Mem) (B : Nat) (x : Dr) : Prop := CNm m B x ∧ (∀ i, i < r_nd x → m (B + 2) i = r_ki x i ∧ m (B + 3) i = r_wo x i ∧ m (B + 4) i = r_gu x i) ∧ (∀ i, i < r_nt x → m (B + 6) i = r_sk x i ∧ m (B + 7) i = r_sa x i) ∧ m B 2 = (if (r_lw x).isSome then 1 else 0) ∧ m (B + 8) 2 = ((r_C x).length : Int) ∧ ∀ i, i < (r_C x).length → m (B + 9) i = (r_C x).getD i 0
def AFr (B : Nat) (m0 m : sh_Mem) : Prop := (∀ a, a ≠ 2 → a ≠ 4 → (a < B ∨ B + 10 < a) → m a = m0 a) ∧ m 2 1 = m0 2 1
def ASt (B : Nat) (m0 m : sh_Mem) (T : Tp) (t : Tok) (x : Dr) : Prop := AFr B m0 m ∧ m 4 1 = 0 ∧ CT m T t ∧ CD m B x
def AFl (B : Nat) (m0 m : sh_Mem) (f : Int) : Prop := AFr B m0 m ∧ m 4 1 = f
abbrev APo (B : Nat) (m0 : sh_Mem) (T : Tp) (o : ALR) (Q : Option sh_V → sh_Mem → Prop) : Prop := (∀ f m', o = .inl f → AFl B m0 m' f → Q (some (sh_i 0)) m') ∧ ∀ q m', o = .inr q → TK T q.1 → ASt B m0 m' T q.1 q.2 → Q (some (sh_i 1)) m'
/-- four rows behind b are others -/
def DS (m : sh_Mem) (b : Nat) (mm : sh_Mem) (r1 r2 r3 r4 : Nat → Int) : Prop := (mm (b + 1) = r1 ∧ mm (b + 2) = r2 ∧ mm (b + 3) = r3 ∧ mm (b + 4) = r4) ∧ (∀ a, a ≠ 2 → a ≠ 4 → (a < b + 1 ∨ b + 4 < a) → mm a = m a) ∧ mm 2 1 = m 2 1 ∧ mm 4 1 = m 4 1
section ALM
variable {g : sh_G} {d B b : Nat} {T : Tp} {t : Tok} {m0 m mm : sh_Mem} {x : Dr} {r1 r2 r3 r4 : Nat → Int} {Q : Option sh_V → sh_Mem → Prop}
theorem DS_rf : DS m b m (m (b + 1)) (m (b + 2)) (m (b + 3)) (m (b + 4)) := ⟨⟨rfl, rfl, rfl, rfl⟩, fun _ _ _ _ => rfl, rfl, rfl⟩
theorem DS_K {m' : sh_Mem} (hb : 10 < b) (h : DS m b mm r1 r2 r3 r4) (k : Kc mm m') : DS m b m' r1 r2 r3 r4 := by
  obtain ⟨⟨a1, a2, a3, a4⟩, a5, a6, a7⟩ := h
  exact ⟨⟨(k.1 _ (by omega) (by omega)).trans a1, (k.1 _ (by omega) (by omega)).trans a2, (k.1 _ (by omega) (by omega)).trans a3, (k.1 _ (by omega) (by omega)).trans a4⟩, fun a h2 h4 h5 => (k.1 a h2 h4).trans (a5 a h2 h4 h5), k.2.1.trans a6, k.2.2.trans a7⟩
theorem DS_w {m' : sh_Mem} {i : Nat} {r : Nat → Int} (hb : 10 < b) (hi : 1 ≤ i ∧ i ≤ 4) (h : DS m b mm r1 r2 r3 r4) (e : m' = ms mm (b + i) r) : DS m b m' (if i = 1 then r else r1) (if i = 2 then r else r2) (if i = 3 then r else r3) (if i = 4 then r else r4) := by
  obtain ⟨⟨a1, a2, a3, a4⟩, a5, a6, a7⟩ := h
  subst e
  refine ⟨⟨?_, ?_, ?_, ?_⟩, fun a h2 h4 h5 => by rw [ms_n _ _ (by omega)]; exact a5 a h2 h4 h5, by rw [ms_n _ _ (by omega)]; exact a6, by rw [ms_n _ _ (by omega)]; exact a7⟩
  · by_cases y : i = 1
    · subst y; rw [ms_s, if_pos rfl]
    · rw [ms_n _ _ (by omega), if_neg y]; exact a1
  · by_cases y : i = 2
    · subst y; rw [ms_s, if_pos rfl]
    · rw [ms_n _ _ (by omega), if_neg y]; exact a2
  · by_cases y : i = 3
    · subst y; rw [ms_s, if_pos rfl]
    · rw [ms_n _ _ (by omega), if_neg y]; exact a3
  · by_cases y : i = 4
    · subst y; rw [ms_s, if_pos rfl]
    · rw [ms_n _ _ (by omega), if_neg y]; exact a4
theorem CT_w {a : Nat} {r : Nat → Int} (hr : CT m T t) (ha : a ≠ 2 ∧ a ≠ 3) : CT (ms m a r) T t := by unfold CT; rw [ms_n _ _ (Ne.symm ha.1), ms_n _ _ (Ne.symm ha.2)]; exact hr
theorem AFl_D {m' : sh_Mem} {f : Int} (hB : 10 < B) (hA : AFr B m0 m) (hb : B ≤ b ∧ b + 4 ≤ B + 10) (h : DS m b mm r1 r2 r3 r4) (k : Kf mm m' f) : AFl B m0 m' f :=
  ⟨⟨fun a h2 h4 h5 => (k.1 a h2 h4).trans ((h.2.1 a h2 h4 (by omega)).trans (hA.1 a h2 h4 h5)), k.2.1.trans (h.2.2.1.trans hA.2)⟩, k.2.2⟩
theorem ob0_c (h : ob0 B) : B = 22 ∨ B = 33 := by unfold ob0 at h; simpa using h
theorem CNm_e {m' : sh_Mem} (h : CNm m B x) (h0 : m' B = m B) (h1 : m' (B + 1) = m (B + 1)) (h5 : m' (B + 5) = m (B + 5)) : CNm m' B x := by unfold CNm; rw [h0, h1, h5]; exact h
theorem s_readDay (hJ : JD g) (hT : TpOk T) (hB : ob0 B) (ht : TK T t) (hs : ASt B m0 m T t x) (hq : APo B m0 T (pDay T x t) Q) : sh_Cal g (d + 12) m_Read_readDay [sh_r 4, sh_r B] m Q := by
  have l := ob0_c hB
  obtain ⟨hA, h41, hr, hD⟩ := hs
  obtain ⟨hN, hd2, hd3, hd4, hd5, hd6⟩ := hD
  have hN' := hN
  obtain ⟨⟨n1, n2⟩, n3, n4, n5, n6⟩ := hN'
  unfold pDay at hq
  apply v_Read_readDay hB
  rw [n3, i3n (x := r_nd x) (by omega), Int.toNat_natCast]
  refine ⟨fun z => ?_, fun z => ?_⟩
  · rw [if_neg (show ¬ r_nd x = 8 by omega)] at hq
    refine s_stepK (d := d + 2) hJ hT ht hr (fun m1 k1 _ c1 => ⟨rfl, ?_⟩)
    have D1 : DS m B m1 _ _ _ _ := DS_K (by omega) DS_rf k1
    have tk1 := TK_n ht
    refine s_isNewName (d := d) (x := x) hJ hT hB (CNm_e hN (k1.1 _ (by omega) (by omega)) (k1.1 _ (by omega) (by omega)) (k1.1 _ (by omega) (by omega))) tk1 c1 (fun f m' e k => ⟨0, rfl, fun y => absurd rfl y, fun _ => ?_⟩) (fun e k1w => ⟨1, rfl, fun _ => ⟨by omega, fun m3 e3 => ?_⟩, fun y => absurd y (by decide)⟩)
    · simp only [e] at hq; exact hq.1 f m' rfl (AFl_D (by omega) hA (by omega) D1 k)
    · simp only [e] at hq
      have D3 := DS_w (by omega) (by omega) D1 e3
      have c3 : CT m3 T (nx T t) := by rw [e3]; exact CT_w c1 (by omega)
      refine s_stepK (d := d + 2) hJ hT tk1 c3 (fun m4 k4 _ c4 => ⟨rfl, ?_⟩)
      have D4 := DS_K (by omega) D3 k4
      have tk2 := TK_n tk1
      have kc := kyT_c (nx T (nx T t))
      have kd := kd_ky (nx T (nx T t))
      rw [c4.2.2.2.2.2.2.2.1]
      refine s_withinK (by omega) (by omega) (by omega) (fun y => ⟨1, rfl, fun _ => ⟨by omega, fun m6 e6 => ?_⟩, fun z => absurd z (by decide)⟩) (fun y => ⟨0, rfl, fun z => absurd rfl z, fun _ => ?_⟩)
      · have kd := kd.1 y
        rw [if_neg (by omega)] at hq
        rw [← kd] at e6
        have D6 := DS_w (by omega) (by omega) D4 e6
        have c6 : CT m6 T (nx T (nx T t)) := by rw [e6]; exact CT_w c4 (by omega)
        refine s_stepK (d := d + 2) hJ hT tk2 c6 (fun m7 k7 _ c7 => ⟨rfl, ?_⟩)
        have D7 := DS_K (by omega) D6 k7
        refine s_takeKN (d := d + 1) (c := 12532058) hJ hT (TK_n tk2) c7 (ky_i 3 rfl (by decide)) (by omega) (by omega) (by omega) (fun f m' e k => ⟨0, rfl, fun y => absurd rfl y, fun _ => ?_⟩) (fun f t4 m' e4 e k => ⟨0, rfl, fun y => absurd rfl y, fun _ => ?_⟩) (fun t4 t5 m9 e4 e5 tk5 v5 k9 w9 c9 => ⟨1, rfl, fun _ => ⟨by omega, fun m10 e10 => ?_⟩, fun y => absurd y (by decide)⟩)
        · simp only [e] at hq; exact hq.1 f m' rfl (AFl_D (by omega) hA (by omega) D7 k)
        · simp only [e4, e] at hq; exact hq.1 f m' rfl (AFl_D (by omega) hA (by omega) D7 k)
        · simp only [e4, e5] at hq
          have D10 := DS_w (by omega) (by omega) (DS_K (by omega) D7 k9) e10
          have c10 : CT m10 T t5 := by rw [e10]; exact CT_w c9 (by omega)
          refine s_takeKN (d := d + 1) (c := 4134649) hJ hT tk5 c10 (ky_i 4 rfl (by decide)) (by omega) (by omega) (by omega) (fun f m' e k => ⟨0, rfl, fun y => absurd rfl y, fun _ => ?_⟩) (fun f t6 m' e6' e k => ⟨0, rfl, fun y => absurd rfl y, fun _ => ?_⟩) (fun t6 t7 m12 e6' e7 tk7 v7 k12 w12 c12 => ⟨1, rfl, fun _ => ⟨by omega, fun m13 e13 m14 e14 => ?_⟩, fun y => absurd y (by decide)⟩)
          · simp only [e] at hq; exact hq.1 f m' rfl (AFl_D (by omega) hA (by omega) D10 k)
          · simp only [e6', e] at hq; exact hq.1 f m' rfl (AFl_D (by omega) hA (by omega) D10 k)
          · simp only [e6', e7] at hq
            have D13 := DS_w (by omega) (by omega) (DS_K (by omega) D10 k12) e13
            have c13 : CT m13 T t7 := by rw [e13]; exact CT_w c12 (by omega)
            have c14 : CT m14 T t7 := by rw [e14]; exact CT_w c13 (by omega)
            obtain ⟨⟨q1, q2, q3, q4⟩, q5, q6, q7⟩ := D13
            have B13 : m13 B = m B := q5 B (by omega) (by omega) (by omega)
            have fr14 : AFr B m0 m14 := by
              refine ⟨fun a h2 h4 h5 => ?_, ?_⟩
              · rw [e14, ms_n _ _ (by omega), q5 a h2 h4 (by omega)]; exact hA.1 a h2 h4 h5
              · rw [e14, ms_n _ _ (by omega), q6]; exact hA.2
            refine s_takeSignK (d := d + 1) hJ hT tk7 c14 (by omega) (fun f m' e k => ⟨0, rfl, Or.inl rfl, ?_⟩) (fun t8 m15 e8 tk8 k15 c15 => ⟨1, rfl, Or.inr rfl, ?_⟩)
            · simp only [e] at hq
              exact hq.1 f m' rfl ⟨⟨fun a h2 h4 h5 => (k.1 a h2 h4).trans (fr14.1 a h2 h4 h5), k.2.1.trans fr14.2⟩, k.2.2⟩
            · simp only [e8] at hq
              refine hq.2 _ m15 rfl tk8 ⟨⟨fun a h2 h4 h5 => (k15.1 a h2 h4).trans (fr14.1 a h2 h4 h5), k15.2.1.trans fr14.2⟩, ?_, c15, ?_⟩
              · rw [k15.2.2, e14, ms_n _ _ (by omega), q7]; exact h41
              · have R : ∀ a, a ≠ 2 → a ≠ 4 → a ≠ B → m15 a = m13 a := fun a h2 h4 h5 => by rw [k15.1 a h2 h4, e14, ms_n _ _ h5]
                have RB : m15 B = ru (m B) 0 (m B 0 + 1) := by rw [k15.1 B (by omega) (by omega), e14, ms_s, B13]
                have p1 : m15 (B + 1) = ru (m (B + 1)) (r_nd x) (t_v (nx T t)) := by
                  have q1' : m13 (B + 1) = ru (m1 (B + 1)) (r_nd x) (m1 2 7) := q1
                  rw [R _ (by omega) (by omega) (by omega), q1', k1.1 _ (by omega) (by omega), c1.2.2.2.2.1 k1w]
                have p2 : m15 (B + 2) = ru (m (B + 2)) (r_nd x) (kdT (nx T (nx T t))) := by
                  have q2' : m13 (B + 2) = ru (m4 (B + 2)) (r_nd x) (kdT (nx T (nx T t))) := q2
                  have u : m4 (B + 2) = m (B + 2) := D4.1.2.1
                  rw [R _ (by omega) (by omega) (by omega), q2', u]
                have p3 : m15 (B + 3) = ru (m (B + 3)) (r_nd x) (t_v t4) := by
                  have q3' : m13 (B + 3) = ru (m9 (B + 3)) (r_nd x) (m9 4 2) := q3
                  have u : m7 (B + 3) = m (B + 3) := D7.1.2.2.1
                  rw [R _ (by omega) (by omega) (by omega), q3', k9.1 _ (by omega) (by omega), u, w9]
                have p4 : m15 (B + 4) = ru (m (B + 4)) (r_nd x) (t_v t6) := by
                  have q4' : m13 (B + 4) = ru (m12 (B + 4)) (r_nd x) (m12 4 2) := q4
                  have u : m10 (B + 4) = m (B + 4) := D10.1.2.2.2
                  rw [R _ (by omega) (by omega) (by omega), q4', k12.1 _ (by omega) (by omega), u, w12]
                have o : ∀ a, B + 4 < a → m15 a = m a := fun a ha => by rw [R a (by omega) (by omega) (by omega), q5 a (by omega) (by omega) (by omega)]
                refine ⟨⟨⟨by show r_nd x + 1 ≤ 8; omega, n2⟩, ?_, ?_, fun i hi => ?_, fun i hi => ?_⟩, fun i hi => ?_, fun i hi => ?_, ?_, ?_, fun i hi => ?_⟩
                · show m15 B 0 = ((r_nd x + 1 : Nat) : Int)
                  rw [RB, ru_s, n3]; omega
                · show m15 B 1 = (r_nt x : Int)
                  rw [RB, ru_n _ _ (by omega)]; exact n4
                · show m15 (B + 1) i = ru (r_dn x) (r_nd x) (t_v (nx T t)) i ∧ wR (ru (r_dn x) (r_nd x) (t_v (nx T t)) i)
                  have hi : i < r_nd x + 1 := hi
                  rw [p1]
                  by_cases y : i = r_nd x
                  · rw [y, ru_s, ru_s]; exact ⟨rfl, TK_v tk1 k1w⟩
                  · rw [ru_n _ _ y, ru_n _ _ y]; exact n5 i (by omega)
                · rw [o (B + 5) (by omega)]; exact n6 i hi
                · show m15 (B + 2) i = ru (r_ki x) (r_nd x) (kdT (nx T (nx T t))) i ∧ m15 (B + 3) i = ru (r_wo x) (r_nd x) (t_v t4) i ∧ m15 (B + 4) i = ru (r_gu x) (r_nd x) (t_v t6) i
                  have hi : i < r_nd x + 1 := hi
                  rw [p2, p3, p4]
                  by_cases y : i = r_nd x
                  · rw [y, ru_s, ru_s, ru_s, ru_s, ru_s, ru_s]; exact ⟨rfl, rfl, rfl⟩
                  · rw [ru_n _ _ y, ru_n _ _ y, ru_n _ _ y, ru_n _ _ y, ru_n _ _ y, ru_n _ _ y]; exact hd2 i (by omega)
                · rw [o (B + 6) (by omega), o (B + 7) (by omega)]; exact hd3 i hi
                · rw [RB, ru_n _ _ (by omega)]; exact hd4
                · rw [o (B + 8) (by omega)]; exact hd5
                · rw [o (B + 9) (by omega)]; exact hd6 i hi
      · rw [if_pos (kd.2 y)] at hq
        exact s_refuseK c4 (fun m' k => ⟨_, rfl, Or.inl rfl, hq.1 _ m' rfl (AFl_D (by omega) hA (by omega) D4 k)⟩)
  · rw [if_pos (show r_nd x = 8 by omega)] at hq
    exact s_refuseK hr (fun m' k => ⟨_, rfl, Or.inl rfl, hq.1 _ m' rfl (AFl_D (b := B) (by omega) hA (by omega) DS_rf k)⟩)
end ALM
