/-! ===== what fences pay: the class reads a PART, an E ===== -/
section CRE
variable {g : sh_G} {d L : Nat} {T : Tp} {t : Tok} {m0 m : sh_Mem} {C : List Int} {Q : Option sh_V → sh_Mem → Prop}
theorem fcT_c (t : Tok) : 0 ≤ fcT t ∧ fcT t ≤ 4 ∧ (fcT t ≠ 0 → t_k t = 1 ∧ t_v t ≠ 10631) := by
  unfold fcT
  split
  · rename_i q; exact ⟨by omega, by omega, fun _ => ⟨q.1, by rw [q.2]; decide⟩⟩
  · split
    · rename_i q; exact ⟨by omega, by omega, fun _ => ⟨q.1, by rw [q.2]; decide⟩⟩
    · split
      · rename_i q; exact ⟨by omega, by omega, fun _ => ⟨q.1, by rw [q.2]; decide⟩⟩
      · split
        · rename_i q; exact ⟨by omega, by omega, fun _ => ⟨q.1, by rw [q.2]; decide⟩⟩
        · exact ⟨by omega, by omega, fun z => absurd rfl z⟩
theorem s_readPart {deep : Bool} {dp : Int} {pE pQ : Tok → PR} (hJ : JD g) (hT : TpOk T) (hL : ob2 L) (hdp : (0 ≤ dp ∧ dp ≤ 5) ∧ (dp < 5 → deep = false) ∧ (¬ dp < 5 → deep = true)) (hE : deep = false → RdP T pE ∧ CRd g m_Read_readJoined [sh_r 4, sh_r L, sh_i 0, sh_i (dp + 1)] (d + 10) L T pE) (hP : deep = false → RdP T pQ ∧ CRd g m_Read_readPart [sh_r 4, sh_r L, sh_i (dp + 1)] (d + 10) L T pQ) : CRd g m_Read_readPart [sh_r 4, sh_r L, sh_i dp] (d + 11) L T (pPart T deep pE pQ) := by
  intro m0 m t C Q ht hs hl hq
  have k6 := TK_k hT ht
  have hr := hs.2.2.1
  have fc := fcT_c t
  have fk := fc_fk t
  have b16 := ky_i (t := t) 16 (C := 10631) rfl (by decide)
  have go : ¬ (fcT t = 0 ∧ ¬ isW t 10631 ∧ ¬ t_k t = 40 ∧ ¬ t_k t = 2) → sh_X g (d + 11) m_Read_readPart 98 [(0, sh_r 4), (1, sh_r L), (2, sh_i dp), (3, sh_i (if isW t 10631 then 1 else 0)), (4, sh_i (if t_k t = 2 then 1 else 0)), (5, sh_i (if t_k t = 40 then 1 else 0)), (6, sh_i (if ¬ fcT t = 0 then 1 else 0))] [] m (sh_K m_Read_readPart Q) := by
    intro hn
    unfold pPart at hq
    rw [if_neg hn] at hq
    have t3 : t_k t ≠ 3 := fun z => hn ⟨by by_cases y : fcT t = 0; exact y; have := (fc.2.2 y).1; omega, fun y => by have := y.1; omega, by omega, by omega⟩
    have n := nx_lt ht t3
    apply v_Read_readPart_98 hL
    rw [i3_01, i3_01, i3s (x := dp) (by omega) (by omega)]
    refine ⟨fun z => ?_, fun z => ?_⟩
    · have hd := hdp.2.1 z
      rw [if_neg (by rw [hd]; decide)] at hq
      have go146 : ∀ (m1 : sh_Mem) (C1 : List Int), LSt L m0 m1 T t C1 → (C1 = if t_k t = 2 then C ++ [t_v t] else if fcT t ≠ 0 then C ++ [-(fcT t)] else C) → sh_X g (d + 11) m_Read_readPart 146 [(0, sh_r 4), (1, sh_r L), (2, sh_i dp), (3, sh_i (if isW t 10631 then 1 else 0)), (4, sh_i (if t_k t = 2 then 1 else 0)), (5, sh_i (if t_k t = 40 then 1 else 0)), (6, sh_i (if ¬ fcT t = 0 then 1 else 0))] [] m1 (sh_K m_Read_readPart Q) := by
        intro m1 C1 hs1 hc
        apply v_Read_readPart_146 hL
        refine s_stepL (d := d + 1) hJ hT hL ht hs1 (fun m2 s2 => ⟨rfl, ?_⟩)
        rw [i3_01, i3_01]
        refine ⟨fun z3 => ⟨fun z5 => ?_, fun z5 => ?_⟩, fun z3 => ?_⟩
        · rw [if_neg (n01 z3), if_neg (n01 z5)] at hq
          by_cases k2 : t_k t = 2
          · rw [if_pos k2] at hq hc; subst hc; exact hq.2 _ m2 rfl s2
          · have f0 : fcT t ≠ 0 := fun y => hn ⟨y, n01 z3, n01 z5, k2⟩
            rw [if_neg k2] at hq hc; rw [if_pos f0] at hc; subst hc; exact hq.2 _ m2 rfl s2
        · have k40 := p01 z5
          rw [if_neg (n01 z3), if_pos k40] at hq
          rw [if_neg (by omega), if_neg (fun y => by have := (fc.2.2 y).1; omega)] at hc
          rw [hc] at s2
          have hE' := hE hd
          refine hE'.2 m0 m2 (nx T t) C _ (TK_n ht) s2 (by omega) ⟨fun f m' e q => ⟨_, rfl, ?_⟩, fun r m' e q => ⟨_, rfl, ?_⟩⟩
          · simp only [e] at hq; exact ⟨fun _ => hq.1 f m' rfl q, fun z => absurd rfl z⟩
          · simp only [e] at hq
            have hrd := hE'.1 _ _ (TK_n ht) e
            have := hrd.2.1
            refine ⟨fun z => absurd z (by decide), fun _ => ?_⟩
            refine s_signL (d := d) hJ hT hL hrd.1 q (by simp only [List.length_append]; omega) (by omega) (fun y m3 q3 => ⟨_, rfl, fun z => absurd z (by decide), fun _ => ?_⟩) (fun y m3 q3 => ⟨_, rfl, fun _ => ?_, fun z => absurd rfl z⟩)
            · rw [if_pos y] at hq; exact hq.2 _ m3 rfl q3
            · rw [if_neg y] at hq; exact hq.1 _ m3 rfl q3
        · have cw : isW t 10631 := p01 z3
          rw [if_pos cw] at hq
          have k1 := cw.1
          rw [if_neg (by omega), if_neg (fun y => (fc.2.2 y).2 cw.2)] at hc
          rw [hc] at s2
          have hP' := hP hd
          refine hP'.2 m0 m2 (nx T t) C _ (TK_n ht) s2 (by omega) ⟨fun f m' e q => ⟨_, rfl, ?_⟩, fun r m' e q => ⟨_, rfl, ?_⟩⟩
          · simp only [e] at hq; exact s_putF hL q (fun m3 q3 => ⟨rfl, Or.inl rfl, hq.1 f m3 rfl q3⟩)
          · simp only [e] at hq
            have hrd := hP'.1 _ _ (TK_n ht) e
            have := hrd.2.1
            have := (TK_1000 hT hrd.1).1
            refine s_putL hL q (by simp only [List.length_append]; omega) (fun m3 q3 => ⟨rfl, Or.inr rfl, hq.2 _ m3 rfl ?_⟩)
            show LSt L m0 m3 T r.1 (C ++ (r.2.1 ++ [-5]))
            rw [← List.append_assoc]; exact q3
      have c1000 : C.length < 1000 := by have := (TK_1000 hT ht).2 t3; omega
      refine ⟨fun z4 => ⟨fun z6 => ?_, fun z6 => ?_⟩, fun z4 => ?_⟩
      · exact go146 m C hs (by rw [if_neg (n01 z4), if_neg (n01 z6)])
      · rw [hr.2.2.2.2.2.2.2.2, show (-1 : Int) - fkT t = -(fcT t) by omega]
        exact s_putL hL hs c1000 (fun m1 q => ⟨rfl, go146 m1 _ q (by rw [if_neg (n01 z4), if_pos (p01 z6)])⟩)
      · have k2 := p01 z4
        rw [hr.2.2.2.2.2.1 k2]
        exact s_putL hL hs c1000 (fun m1 q => ⟨rfl, go146 m1 _ q (by rw [if_pos k2])⟩)
    · rw [if_pos (hdp.2.2 z)] at hq
      exact s_refuseL hT hL ht hs hl (fun m' q => ⟨_, rfl, Or.inl rfl, hq.1 _ m' rfl q⟩)
  have a71 : ∀ y3 y4 y5 y0 : Int, y3 = (if isW t 10631 then 1 else 0) → y4 = (if t_k t = 2 then 1 else 0) → y5 = (if t_k t = 40 then 1 else 0) → y0 = (if ¬ fcT t = 0 then 1 else 0) → sh_X g (d + 11) m_Read_readPart 71 [(0, sh_r 4), (1, sh_r L), (2, sh_i dp), (3, sh_i y3), (4, sh_i y4), (5, sh_i y5)] [sh_i y0] m (sh_K m_Read_readPart Q) := by
    intro y3 y4 y5 y0 e3 e4 e5 e0
    rw [e3, e4, e5, e0]
    apply v_Read_readPart_71 hL
    rw [i3_01, i3_01, i3_01, i3_01]
    refine ⟨fun z => go (fun y => y.2.1 (p01 z)), fun z3 => ⟨fun z => go (fun y => y.2.2.2 (p01 z)), fun z4 => ⟨fun z => go (fun y => y.2.2.1 (p01 z)), fun z5 => ⟨fun z => go (fun y => p01 z y.1), fun z => ?_⟩⟩⟩⟩
    unfold pPart at hq
    rw [if_pos ⟨by have := n01 z; omega, n01 z3, n01 z5, n01 z4⟩] at hq
    exact s_refuseL hT hL ht hs hl (fun m' q => ⟨_, rfl, Or.inl rfl, hq.1 _ m' rfl q⟩)
  have a53 : ∀ y3 y4 y5 : Int, y3 = (if isW t 10631 then 1 else 0) → y4 = (if t_k t = 2 then 1 else 0) → y5 = (if t_k t = 40 then 1 else 0) → sh_X g (d + 11) m_Read_readPart 53 [(0, sh_r 4), (1, sh_r L), (2, sh_i dp), (3, sh_i y3), (4, sh_i y4)] [sh_i y5] m (sh_K m_Read_readPart Q) := by
    intro y3 y4 y5 e3 e4 e5
    apply v_Read_readPart_53 hL
    rw [CT_fk hr]
    exact ⟨fun z => a71 y3 y4 y5 0 e3 e4 e5 (by rw [if_neg (by omega)]), fun z => a71 y3 y4 y5 1 e3 e4 e5 (by rw [if_pos (by omega)])⟩
  have a34 : ∀ y3 y4 : Int, y3 = (if isW t 10631 then 1 else 0) → y4 = (if t_k t = 2 then 1 else 0) → sh_X g (d + 11) m_Read_readPart 34 [(0, sh_r 4), (1, sh_r L), (2, sh_i dp), (3, sh_i y3)] [sh_i y4] m (sh_K m_Read_readPart Q) := by
    intro y3 y4 e3 e4
    apply v_Read_readPart_34 hL
    rw [hr.2.2.2.1, i3s k6.1 k6.2]
    exact ⟨fun z => a53 y3 y4 0 e3 e4 (by rw [if_neg z]), fun z => a53 y3 y4 1 e3 e4 (by rw [if_pos z])⟩
  have a17 : ∀ y3 : Int, y3 = (if isW t 10631 then 1 else 0) → sh_X g (d + 11) m_Read_readPart 17 [(0, sh_r 4), (1, sh_r L), (2, sh_i dp)] [sh_i y3] m (sh_K m_Read_readPart Q) := by
    intro y3 e3
    apply v_Read_readPart_17 hL
    rw [hr.2.2.2.1, i3s k6.1 k6.2]
    exact ⟨fun z => a34 y3 0 e3 (by rw [if_neg z]), fun z => a34 y3 1 e3 (by rw [if_pos z])⟩
  apply v_Read_readPart hL
  rw [CT_ky hr]
  exact ⟨fun z => a17 0 (by rw [if_neg (fun y => z (b16.mpr y))]), fun z => a17 1 (by rw [if_pos (b16.mp z)])⟩
theorem s_readP (hJ : JD g) (hT : TpOk T) (hL : ob2 L) : ∀ k d : Nat, k ≤ 5 → CRd g m_Read_readPart [sh_r 4, sh_r L, sh_i (5 - (k : Int))] (d + 6 * k + 11) L T (pP T k)
  | 0, d, _ => s_readPart (d := d + 6 * 0) hJ hT hL ⟨by omega, fun z => by omega, fun _ => rfl⟩ (fun z => absurd z (by decide)) (fun z => absurd z (by decide))
  | k + 1, d, hk => by
    have e : (5 - ((k + 1 : Nat) : Int)) + 1 = 5 - (k : Int) := by omega
    have i1 := s_readEx (d := d + 6 * k) hJ hT hL (RdP_P hT k) (s_readP hJ hT hL k d (by omega))
    have i2 := s_readP hJ hT hL k (d + 5) (by omega)
    rw [show d + 6 * k + 16 = d + 6 * (k + 1) + 10 by omega] at i1
    rw [show d + 5 + 6 * k + 11 = d + 6 * (k + 1) + 10 by omega] at i2
    exact s_readPart (d := d + 6 * (k + 1)) (deep := false) hJ hT hL ⟨by omega, fun _ => rfl, fun z => by omega⟩ (fun _ => ⟨RdP_ex (RdP_P hT k), by rw [e]; exact i1⟩) (fun _ => ⟨RdP_P hT k, by rw [e]; exact i2⟩)
/-- E, from its first token on -/
theorem s_readE0 (hJ : JD g) (hT : TpOk T) (hL : ob2 L) : CRd g m_Read_readJoined [sh_r 4, sh_r L, sh_i 0, sh_i 0] (d + 46) L T (pEx T (pP T 5)) := s_readEx (d := d + 30) hJ hT hL (RdP_P hT 5) (s_readP hJ hT hL 5 d (by omega))
end CRE
