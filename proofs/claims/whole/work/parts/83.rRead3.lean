section RRE
variable {g : sh_G} {d n0 e : Nat} {T : Tp} {t : Tok} {m0 m : sh_Mem} {D : List Int} {Q : Option sh_V → sh_Mem → Prop}
theorem l_304 (hT : TpOk T) (ht : TK T t) (hs : RSt n0 m0 m T t D) (h1 : isW t 1111 ∨ isW t 423 → sh_X g (d + 2) m_Mod_reads 324 [(0, sh_r 96), (1, sh_i (e : Int)), (2, sh_i ((0 : Nat) : Int))] [] m (sh_K m_Mod_reads Q)) (ho : ¬ opL t = none) : X304 g d Q e 0 m := by
  have hr := hs.2.2.1
  apply v_Mod_reads_304
  refine s_Mod_isWord hT ht hr (by omega) ⟨_, rfl, ?_⟩
  rw [i3_01]
  refine ⟨fun z => h1 (Or.inl (p01 z)), fun z1 => ?_⟩
  refine s_Mod_isWord hT ht hr (by omega) ⟨_, rfl, ?_⟩
  rw [i3_01]
  refine ⟨fun z => absurd (by unfold opL; rw [if_neg (n01 z1), if_neg (n01 z)]) ho, fun z => h1 (Or.inr (p01 z))⟩
theorem l_324 {o : Int × Int} (hT : TpOk T) (ht : TK T t) (hs : RSt n0 m0 m T t D) (hn : n0 ≤ 1000) (he : e ≤ 5) (hl : D.length ≤ t_p t) (ho : opL t = some o) (h : ∀ m', RSt n0 m0 m' T (nx T t) (D ++ [o.2]) → m' 109 = m 109 → m' 110 = ru (m 110) e 0 → X11 g d Q e 1 m') : sh_X g (d + 2) m_Mod_reads 324 [(0, sh_r 96), (1, sh_i (e : Int)), (2, sh_i ((0 : Nat) : Int))] [] m (sh_K m_Mod_reads Q) := by
  have hr := hs.2.2.1
  have l : D.length < 1000 := by have := (TK_1000 hT ht).2 (op_ok.2.2.2 _ _ ho).1; omega
  have go : sh_Cal g (d + 1) m_Mod_puts [sh_r 96, sh_i o.2] m (fun rv m2 => rv = none ∧ ((0 ≤ (e : Int) ∧ (e : Int) < 7) ∧ ∀ m3 : sh_Mem, m3 = ms m2 110 (ru (m2 110) e 0) → sh_Cal g (d + 1) m_Mod_nextToken [sh_r 96] m3 (fun rv m4 => rv = none ∧ X11 g d Q e 1 m4))) := by
    refine s_putR hs hn l (fun m1 s1 a1 b1 => ⟨rfl, by omega, fun m3 e3 => ?_⟩)
    subst e3
    refine s_nextR hT ht (RSt_lv s1 (Or.inr rfl)) (fun m2 s2 a2 b2 => ⟨rfl, h m2 s2 ?_ ?_⟩)
    · rw [a2, ms_n _ _ (by decide), a1]
    · rw [b2, ms_s, b1]
  unfold opL at ho
  apply v_Mod_reads_324
  rw [Int.toNat_natCast]
  refine s_Mod_isWord hT ht hr (by omega) ⟨_, rfl, ?_⟩
  rw [i3_01]
  refine ⟨fun z => ?_, fun z => ?_⟩
  · rw [if_neg (n01 z)] at ho
    split at ho
    · cases ho; exact go
    · cases ho
  · rw [if_pos (p01 z)] at ho; cases ho; exact go
theorem r_EL {P : Tok → PR} (hT : TpOk T) (hn : n0 ≤ 1000) (he : e ≤ 5) (hR : RdP T P) (hP : RPt g d T n0 e P (fun _ => True)) {mS : sh_Mem} (hpop : popF (mS 109) e = e) : ∀ (k i : Nat) (m : sh_Mem) (s : PS) (D : List Int), i + k = 1000 → i ≤ t_p s.1 → TK T s.1 → RSt n0 m0 m T s.1 (D ++ s.2.2) → (D ++ s.2.2).length ≤ t_p s.1 → Lv2 e mS m → RH0 n0 m0 Q (pLp T P opL k s) → (∀ r m', pLp T P opL k s = .inr r → RSt n0 m0 m' T r.1 (D ++ r.2.2) → Lv2 e mS m' → opL r.1 = none → X304 g d Q e 0 m') → X304 g d Q e 0 m
  | 0, i, m, s, D, hi, hip, ht, hs, hl, hv, hf, hq => by
    have t3 : opL s.1 = none := by
      cases ho : opL s.1 with
      | none => rfl
      | some o => have := (TK_1000 hT ht).2 (op_ok.2.2.2 _ _ ho).1; omega
    rw [pLp] at hq
    exact hq s m rfl hs hv t3
  | k + 1, i, m, s, D, hi, hip, ht, hs, hl, hv, hf, hq => by
    rw [pLp] at hf hq
    cases ho : opL s.1 with
    | none => simp only [ho] at hq; exact hq s m rfl hs hv ho
    | some o =>
      simp only [ho] at hf hq
      have n := nx_lt ht (op_ok.2.2.2 _ _ ho).1
      refine l_304 hT ht hs (fun _ => ?_) (by rw [ho]; exact fun z => by cases z)
      refine l_324 hT ht hs hn he hl ho (fun m1 s1 a1 b1 => ?_)
      have v1 : Lv2 e mS m1 := Lv2_tr hv ⟨fun i _ => by rw [a1], fun i hi => by rw [b1, ru_n _ _ (by omega)]⟩
      refine hP m0 m1 (nx T s.1) _ Q (TK_n ht) s1 (by simp only [List.length_append, List.length_cons, List.length_nil] at hl ⊢; omega) (by rw [popF_cong e (fun i hi => v1.1 i hi)]; exact hpop) (by rw [b1, ru_s]) (fun f m' ee q => ?_) (fun r m' ee q v2 _ => ?_)
      · simp only [ee] at hf; exact hf f m' rfl q
      · simp only [ee] at hf hq
        have hrd := hR _ _ (TK_n ht) ee
        have := hrd.2.2.1
        refine r_EL hT hn he hR hP hpop k (i + 1) m' (pJ s r o) D (by omega) (by show i + 1 ≤ t_p r.1; omega) hrd.1 ?_ ?_ (Lv2_tr v1 v2) hf hq
        · show RSt n0 m0 m' T r.1 (D ++ (s.2.2 ++ (o.2 :: r.2.2)))
          rw [List.append_assoc, List.append_assoc] at q; exact q
        · show (D ++ (s.2.2 ++ (o.2 :: r.2.2))).length ≤ t_p r.1
          simp only [List.length_append, List.length_cons, List.length_nil] at hl ⊢; omega
theorem r_ex {P : Tok → PR} (hT : TpOk T) (hn : n0 ≤ 1000) (he : e ≤ 5) (hR : RdP T P) (hP : RPa g d T n0 e P) : RPt g d T n0 e (pEx T P) (fun t => opL t = none) := by
  intro m0 m t D Q ht hs hl hpop h10 hf hq
  have hR2 := RdP_test hR
  unfold pEx pSeq at hf hq
  refine r_test hT hn he hR hP m0 m t D Q ht hs hl hpop h10 (fun f m' ee q => ?_) (fun r m' ee q v _ => ?_)
  · simp only [ee] at hf; exact hf f m' rfl q
  · simp only [ee] at hf hq
    have hrd := hR2 _ _ ht ee
    have := hrd.2.2.1
    exact r_EL hT hn he hR2 (r_test hT hn he hR hP) hpop 1000 0 m' r D (by omega) (by omega) hrd.1 q (by simp only [List.length_append]; omega) v hf hq
theorem l_152 {x3 x4 x5 : Int} (hT : TpOk T) (ht : TK T t) (hs : RSt n0 m0 m T t D) : ∀ e, e ≤ 6 → (∀ m', RSt n0 m0 m' T (nx T t) D → m' 109 = m 109 → m' 110 = m 110 → X11 g d Q (popF (m 109) e) 0 m') →
    sh_X g (d + 2) m_Mod_reads 152 [(0, sh_r 96), (1, sh_i (e : Int)), (2, sh_i 0), (3, sh_i x3), (4, sh_i x4), (5, sh_i x5)] [] m (sh_K m_Mod_reads Q)
  | 0, _, h => by
    apply v_Mod_reads_152 (x2 := 0)
    refine ⟨fun _ => s_nextR hT ht hs (fun m' a b c => ⟨rfl, h m' a b c⟩), fun z => absurd (show i3 (((0 : Nat)) : Int) ≤ 0 by decide) z⟩
  | e + 1, he, h => by
    rw [popF] at h
    apply v_Mod_reads_152 (x2 := 0)
    rw [i3n (x := e + 1) (by omega), Int.toNat_natCast]
    refine ⟨fun z => by omega, fun _ => ⟨by omega, fun z => ?_, fun z => ?_⟩⟩
    · rw [if_neg z] at h
      exact s_nextR hT ht hs (fun m' a b c => ⟨rfl, h m' a b c⟩)
    · rw [if_pos z] at h
      rw [show ((e + 1 : Nat) : Int) + (-1) = (e : Int) by omega]
      exact l_152 hT ht hs e (by omega) h
theorem l_379 (hT : TpOk T) (ht : TK T t) (hs : RSt n0 m0 m T t D) : ∀ e, e ≤ 6 → (∀ m', RSt n0 m0 m' T (nx T t) D → m' 109 = m 109 → m' 110 = m 110 → X11 g d Q (popF (m 109) e) 0 m') →
    sh_X g (d + 2) m_Mod_reads 379 [(0, sh_r 96), (1, sh_i (e : Int)), (2, sh_i ((0 : Nat) : Int))] [] m (sh_K m_Mod_reads Q)
  | 0, _, h => by
    apply v_Mod_reads_379 (x2 := 0)
    refine ⟨fun _ => s_nextR hT ht hs (fun m' a b c => ⟨rfl, h m' a b c⟩), fun z => absurd (show i3 (((0 : Nat)) : Int) ≤ 0 by decide) z⟩
  | e + 1, he, h => by
    rw [popF] at h
    apply v_Mod_reads_379 (x2 := 0)
    rw [i3n (x := e + 1) (by omega), Int.toNat_natCast]
    refine ⟨fun z => by omega, fun _ => ⟨by omega, fun z => ?_, fun z => ?_⟩⟩
    · rw [if_neg z] at h
      exact s_nextR hT ht hs (fun m' a b c => ⟨rfl, h m' a b c⟩)
    · rw [if_pos z] at h
      rw [show ((e + 1 : Nat) : Int) + (-1) = (e : Int) by omega]
      exact l_379 hT ht hs e (by omega) h
theorem r_part {deep : Bool} {pE pQ : Tok → PR} (hT : TpOk T) (hn : n0 ≤ 1000) (he : e ≤ 5) (hde : (e = 5 → deep = true) ∧ (¬ e = 5 → deep = false)) (hRE : deep = false → RdP T pE) (hE : deep = false → RPt g d T n0 (e + 1) pE (fun t => opL t = none)) (hP : deep = false → RPa g d T n0 (e + 1) pQ) : RPa g d T n0 e (pPart T deep pE pQ) := by
  intro m0 m t D Q ht hs hl hf hq
  have hr := hs.2.2.1
  have fc := fcT_c t
  have k2 := (rK1 hT ht).2.1
  apply v_Mod_reads_11
  refine ⟨fun z => absurd z (by decide), fun _ => ?_⟩
  refine s_Mod_fact hT ht hr ⟨_, rfl, ?_⟩
  refine s_Mod_isWord hT ht hr (by omega) ⟨_, rfl, ?_⟩
  refine s_Mod_isSign hT ht hr (by omega) ⟨_, rfl, ?_⟩
  rw [i3_01, i3_01, i3s (x := fcT t) (by omega) (by omega), hr.2.2.2.1, k2]
  have go : ¬ (fcT t = 0 ∧ ¬ isW t 10631 ∧ ¬ t_k t = 40 ∧ ¬ t_k t = 2) → sh_X g (d + 2) m_Mod_reads 65 [(0, sh_r 96), (1, sh_i (e : Int)), (2, sh_i ((1 : Nat) : Int)), (3, sh_i (fcT t)), (4, sh_i (if isW t 10631 then 1 else 0)), (5, sh_i (if t_k t = 40 then 1 else 0))] [] m (sh_K m_Mod_reads Q) := by
    intro hx
    unfold pPart at hf hq
    rw [if_neg hx] at hf hq
    have t3 : t_k t ≠ 3 := fun z => hx ⟨by by_cases y : fcT t = 0; exact y; have := (fc.2.2 y).1; omega, fun y => by have := y.1; omega, by omega, by omega⟩
    have n := nx_lt ht t3
    have l : D.length < 1000 := by have := (TK_1000 hT ht).2 t3; omega
    apply v_Mod_reads_65
    rw [i3n (x := e) (by omega), i3_01, i3_01, i3s (x := fcT t) (by omega) (by omega)]
    refine ⟨fun z => ?_, fun z => ?_⟩
    · have hd := hde.2 (by omega)
      have e5 : e < 5 := by omega
      rw [if_neg (by rw [hd]; decide)] at hf hq
      have ee : (e : Int) + 1 = ((e + 1 : Nat) : Int) := by omega
      have go86 : isW t 10631 ∨ t_k t = 40 → sh_X g (d + 2) m_Mod_reads 86 [(0, sh_r 96), (1, sh_i (e : Int)), (2, sh_i ((1 : Nat) : Int)), (3, sh_i (fcT t)), (4, sh_i (if isW t 10631 then 1 else 0)), (5, sh_i (if t_k t = 40 then 1 else 0))] [] m (sh_K m_Mod_reads Q) := by
        intro hk
        apply v_Mod_reads_86
        rw [i3_01]
        refine ⟨fun z4 => ?_, fun z4 => ?_⟩
        · have nw := n01 z4
          have k40 : t_k t = 40 := by rcases hk with hk | hk; exact absurd hk nw; exact hk
          rw [if_neg nw, if_pos k40] at hf hq
          apply v_Mod_reads_99
          rw [i3_01, ee, Int.toNat_natCast]
          refine s_putR hs hn l (fun m1 s1 a1 b1 => ⟨rfl, fun _ => ⟨by omega, fun m2 e2 => ⟨by omega, fun m3 e3 => ?_⟩⟩, fun y => absurd z4 y⟩)
          subst e2; subst e3
          refine s_nextR hT ht (RSt_lv (RSt_lv s1 (Or.inl rfl)) (Or.inr rfl)) (fun m4 s4 a4 b4 => ⟨rfl, ?_⟩)
          have a4' : m4 109 = ru (m 109) (e + 1) 2 := by rw [a4, ms_n _ _ (by decide), ms_s, a1]
          have b4' : m4 110 = ru (m 110) (e + 1) 0 := by rw [b4, ms_s, ms_n _ _ (by decide), b1]
          have v4 : Lv e m m4 := fun i hi => ⟨by rw [a4', ru_n _ _ (by omega)], by rw [b4', ru_n _ _ (by omega)]⟩
          refine hE hd m0 m4 (nx T t) _ Q (TK_n ht) s4 (by simp only [List.length_append, List.length_cons, List.length_nil]; omega) (by rw [popF, a4', ru_s, if_neg (by decide)]) (by rw [b4', ru_s]) (fun f m' e2 q => ?_) (fun r m' e2 q v2 o2 => ?_)
          · simp only [e2] at hf; exact hf f m' rfl q
          · simp only [e2] at hf hq
            have hrd := hRE hd _ _ (TK_n ht) e2
            have hr2 := q.2.2.1
            have := hrd.2.2.1
            have v5 : Lv e m m' := Lv_tr v4 (fun i hi => ⟨v2.1 i (by omega), v2.2 i (by omega)⟩)
            have nL : ¬ isW r.1 1111 ∧ ¬ isW r.1 423 := by
              dsimp only at o2; unfold opL at o2; split at o2
              · cases o2
              · split at o2
                · cases o2
                · rename_i y1 y2; exact ⟨y1, y2⟩
            apply v_Mod_reads_304
            refine s_Mod_isWord hT hrd.1 hr2 (by omega) ⟨_, rfl, ?_⟩
            rw [i3_01]
            refine ⟨fun y => absurd (p01 y) nL.1, fun _ => ?_⟩
            refine s_Mod_isWord hT hrd.1 hr2 (by omega) ⟨_, rfl, ?_⟩
            rw [i3_01]
            refine ⟨fun _ => ?_, fun y => absurd (p01 y) nL.2⟩
            refine s_Mod_isSign hT hrd.1 hr2 (by omega) ⟨_, rfl, ?_⟩
            rw [i3_01, i3n (x := e + 1) (by omega)]
            refine ⟨fun y => ⟨fun _ => ?_, fun y2 => by omega⟩, fun y => ⟨fun y2 => by omega, fun _ => ?_⟩⟩
            · rw [if_neg (n01 y)] at hf
              exact s_failsR (k := 1) q (fun m6 q6 => ⟨_, rfl, Or.inl rfl, hf _ m6 rfl q6⟩)
            · rw [if_pos (p01 y)] at hq
              rw [show ((e + 1 : Nat) : Int) + (-1) = (e : Int) by omega]
              have n2 := nx_lt hrd.1 (show t_k r.1 ≠ 3 by have := p01 y; omega)
              have := (TK_1000 hT (TK_n hrd.1)).1
              refine s_putR q hn (by simp only [List.length_append, List.length_cons, List.length_nil]; omega) (fun m6 s6 a6 b6 => ⟨rfl, ?_⟩)
              refine l_379 hT hrd.1 s6 e (by omega) (fun m7 s7 a7 b7 => ?_)
              rw [a6, popF_cong e (fun i hi => (v5 i hi).1)]
              refine hq _ m7 rfl ?_ (Lv_tr v5 (Lv_of (a7.trans a6) (b7.trans b6)))
              show RSt n0 m0 m7 T (nx T r.1) (D ++ (28 :: (r.2.2 ++ [29])))
              rw [List.append_assoc, List.append_assoc] at s7; exact s7
        · have cw := p01 z4
          rw [if_pos cw] at hf hq
          apply v_Mod_reads_99
          rw [i3_01, ee, Int.toNat_natCast]
          refine s_putR hs hn l (fun m1 s1 a1 b1 => ⟨rfl, fun y => absurd y z4, fun _ => ⟨by omega, fun m2 e2 => ⟨by omega, fun m3 e3 => ?_⟩⟩⟩)
          subst e2; subst e3
          refine s_nextR hT ht (RSt_lv (RSt_lv s1 (Or.inl rfl)) (Or.inr rfl)) (fun m4 s4 a4 b4 => ⟨rfl, ?_⟩)
          have a4' : m4 109 = ru (m 109) (e + 1) 1 := by rw [a4, ms_n _ _ (by decide), ms_s, a1]
          have b4' : m4 110 = ru (m 110) (e + 1) 0 := by rw [b4, ms_s, ms_n _ _ (by decide), b1]
          have v4 : Lv e m m4 := fun i hi => ⟨by rw [a4', ru_n _ _ (by omega)], by rw [b4', ru_n _ _ (by omega)]⟩
          refine hP hd m0 m4 (nx T t) _ Q (TK_n ht) s4 (by simp only [List.length_append, List.length_cons, List.length_nil]; omega) (fun f m' e2 q => ?_) (fun r m' e2 q v2 => ?_)
          · simp only [e2] at hf; exact hf f m' rfl q
          · simp only [e2] at hq
            rw [popF, a4', ru_s, if_pos (by decide), ← a4', popF_cong e (fun i hi => (v4 i hi).1)]
            refine hq _ m' rfl ?_ (Lv_tr v4 (fun i hi => v2 i (by omega)))
            show RSt n0 m0 m' T r.1 (D ++ (30 :: r.2.2))
            rw [List.append_assoc] at q; exact q
      refine ⟨fun z4 => go86 (Or.inl (p01 z4)), fun z4 => ⟨fun z5 => ⟨fun z3 => ?_, fun z3 => ?_⟩, fun z5 => go86 (Or.inr (p01 z5))⟩⟩
      · have kk2 : t_k t = 2 := by
          by_cases y : t_k t = 2
          · exact y
          · exact absurd ⟨by omega, n01 z4, n01 z5, y⟩ hx
        rw [hr.2.2.2.2.2.1 kk2]
        rw [if_neg (n01 z4), if_neg (n01 z5), if_pos kk2] at hq
        refine s_putR hs hn l (fun m1 s1 a1 b1 => ⟨rfl, ?_⟩)
        refine l_152 hT ht s1 e (by omega) (fun m2 s2 a2 b2 => ?_)
        rw [a1]
        exact hq _ m2 rfl s2 (Lv_of (a2.trans a1) (b2.trans b1))
      · have f0 : fcT t ≠ 0 := by omega
        have kk1 := (fc.2.2 f0).1
        rw [if_neg (n01 z4), if_neg (n01 z5), if_neg (by omega)] at hq
        refine s_putR hs hn l (fun m1 s1 a1 b1 => ⟨rfl, ?_⟩)
        refine l_152 hT ht s1 e (by omega) (fun m2 s2 a2 b2 => ?_)
        rw [a1]
        exact hq _ m2 rfl s2 (Lv_of (a2.trans a1) (b2.trans b1))
    · rw [if_pos (hde.1 (by omega))] at hf
      exact s_failsR (k := 5) hs (fun m6 q6 => ⟨_, rfl, Or.inl rfl, hf _ m6 rfl q6⟩)
  refine ⟨fun z => go (fun y => z y.1), fun z6 => ⟨fun z => go (fun y => y.2.1 (p01 z)), fun z7 => ⟨fun z => go (fun y => y.2.2.1 (p01 z)), fun z8 => ⟨fun z => go (fun y => y.2.2.2 z), fun z => ?_⟩⟩⟩⟩
  unfold pPart at hf
  rw [if_pos ⟨z6, n01 z7, n01 z8, z⟩] at hf
  exact s_failsR (k := 1) hs (fun m6 q6 => ⟨_, rfl, Or.inl rfl, hf _ m6 rfl q6⟩)
theorem r_P (hT : TpOk T) (hn : n0 ≤ 1000) : ∀ k e, e + k = 5 → RPa g d T n0 e (pP T k)
  | 0, e, he => r_part hT hn (by omega) ⟨fun _ => rfl, fun z => by omega⟩ (fun z => absurd z (by decide)) (fun z => absurd z (by decide)) (fun z => absurd z (by decide))
  | k + 1, e, he => r_part (deep := false) hT hn (by omega) ⟨fun z => by omega, fun _ => rfl⟩ (fun _ => RdP_ex (RdP_P hT k)) (fun _ => r_ex hT hn (by omega) (RdP_P hT k) (r_P hT hn k (e + 1) (by omega))) (fun _ => r_P hT hn k (e + 1) (by omega))
/-- E, and the ; behind it -/
theorem s_Mod_reads (hT : TpOk T) (hn : n0 ≤ 1000) (ht : TK T t) (hs : RSt n0 m0 m T t []) (hf : RH0 n0 m0 Q (pEx T (pP T 5) t)) (h1 : ∀ r m', pEx T (pP T 5) t = .inr r → t_k r.1 = 59 → RSt n0 m0 m' T (nx T r.1) r.2.2 → Q (some (sh_i 1)) m') (h0 : ∀ r m', pEx T (pP T 5) t = .inr r → ¬ t_k r.1 = 59 → RFl n0 m0 m' (flt 1 r.1) → Q (some (sh_i 0)) m') : sh_Cal g (d + 2) m_Mod_reads [sh_r 96] m Q := by
  apply v_Mod_reads
  intro m1 e1
  subst e1
  refine r_ex (e := 0) hT hn (by omega) (RdP_P hT 5) (r_P hT hn 5 0 (by omega)) m0 _ t [] Q ht (RSt_lv hs (Or.inr rfl)) (by simp) rfl (by rw [ms_s, ru_s]) hf (fun r m' ee q _ o2 => ?_)
  have hrd := RdP_ex (RdP_P hT 5) _ _ ht ee
  have hr2 := q.2.2.1
  have nL : ¬ isW r.1 1111 ∧ ¬ isW r.1 423 := by
    dsimp only at o2; unfold opL at o2; split at o2
    · cases o2
    · split at o2
      · cases o2
      · rename_i y1 y2; exact ⟨y1, y2⟩
  have key : sh_Cal g (d + 1) m_Mod_isSign [sh_r 96, sh_i 59] m' (fun rv m5 => ∃ r5 : Int, rv = some (sh_i r5) ∧ ((i3 r5 = 0 → sh_Cal g (d + 1) m_Mod_fails [sh_r 96, sh_i 1] m5 (fun rv m6 => ∃ r6 : Int, rv = some (sh_i r6) ∧ ((r6 = 0 ∨ r6 = 1) ∧ Q (some (sh_i r6)) m6))) ∧ (¬ i3 r5 = 0 → sh_Cal g (d + 1) m_Mod_nextToken [sh_r 96] m5 (fun rv m7 => rv = none ∧ Q (some (sh_i 1)) m7)))) := by
    refine s_Mod_isSign hT hrd.1 hr2 (by omega) ⟨_, rfl, ?_⟩
    rw [i3_01]
    refine ⟨fun y => ?_, fun y => ?_⟩
    · exact s_failsR (k := 1) q (fun m6 q6 => ⟨_, rfl, Or.inl rfl, h0 r m6 ee (n01 y) q6⟩)
    · exact s_nextR hT hrd.1 q (fun m7 s7 _ _ => ⟨rfl, h1 r m7 ee (p01 y) s7⟩)
  apply v_Mod_reads_304
  refine s_Mod_isWord hT hrd.1 hr2 (by omega) ⟨_, rfl, ?_⟩
  rw [i3_01]
  refine ⟨fun y => absurd (p01 y) nL.1, fun _ => ?_⟩
  refine s_Mod_isWord hT hrd.1 hr2 (by omega) ⟨_, rfl, ?_⟩
  rw [i3_01]
  refine ⟨fun _ => ?_, fun y => absurd (p01 y) nL.2⟩
  refine s_Mod_isSign hT hrd.1 hr2 (by omega) ⟨_, rfl, ?_⟩
  rw [i3_01]
  exact ⟨fun y => ⟨fun y2 => absurd rfl y2, fun _ => key⟩, fun y => ⟨fun _ => ⟨fun y2 => absurd rfl y2, fun _ => key⟩, fun y2 => absurd (show i3 (((0 : Nat)) : Int) ≤ 0 by decide) y2⟩⟩
end RRE
