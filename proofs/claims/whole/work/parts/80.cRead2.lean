section CRE
variable {g : sh_G} {d L : Nat} {T : Tp} {t : Tok} {m0 m : sh_Mem} {C : List Int} {Q : Option sh_V → sh_Mem → Prop}
theorem lr_sum {dp : Int} {P : Tok → PR} (hJ : JD g) (hT : TpOk T) (hL : ob2 L) (hR : RdP T P) (hM : CRd g m_Read_readProduct (d + 13) L dp T P) : ∀ (k i : Nat) (m : sh_Mem) (s : PS) (C : List Int), i + k = 1000 → i ≤ t_p s.1 → TK T s.1 → LSt L m0 m T s.1 (C ++ s.2.1) → (C ++ s.2.1).length ≤ t_p s.1 → RdPo L m0 T C (pLp T P opA k s) Q →
    sh_X g (d + 14) m_Read_readSum 10 [(0, sh_r 4), (1, sh_r L), (2, sh_i dp), (3, sh_i 1), (4, sh_i (i : Int))] [] m (sh_K m_Read_readSum Q)
  | 0, i, m, s, C, hi, hip, ht, hs, hl, hq => by
    apply v_Read_readSum_10 hL
    rw [i3n (x := i) (by omega)]
    rw [pLp] at hq
    exact ⟨fun _ => ⟨Or.inr rfl, hq.2 s m rfl hs⟩, fun z => by omega⟩
  | k + 1, i, m, s, C, hi, hip, ht, hs, hl, hq => by
    have k6 := TK_k hT ht
    rw [pLp] at hq
    have flm : ∀ m' f, LFt L m0 m' f → Q (some (sh_i 0)) m' → sh_X g (d + 14) m_Read_readSum 10 [(0, sh_r 4), (1, sh_r L), (2, sh_i dp), (3, sh_i 0), (4, sh_i ((i + 1 : Nat) : Int))] [] m' (sh_K m_Read_readSum Q) := by
      intro m' f q q2
      apply v_Read_readSum_10 hL
      exact ⟨fun _ => ⟨Or.inl rfl, q2⟩, fun _ => ⟨fun _ => ⟨Or.inl rfl, q2⟩, fun z => absurd rfl z⟩⟩
    have go : ∀ o : Int × Int, opA s.1 = some o → sh_Cal g (d + 13) m_Tape_step [sh_r 2] m (fun rv m1 => rv = none ∧ sh_Cal g (d + 13) m_Read_readProduct [sh_r 4, sh_r L, sh_i dp] m1 (fun rv m2 => ∃ r1 : Int, rv = some (sh_i r1) ∧ sh_Cal g (d + 13) m_Law_put [sh_r L, sh_i o.1] m2 (fun rv m3 => rv = none ∧ sh_X g (d + 14) m_Read_readSum 10 [(0, sh_r 4), (1, sh_r L), (2, sh_i dp), (3, sh_i r1), (4, sh_i ((i + 1 : Nat) : Int))] [] m3 (sh_K m_Read_readSum Q)))) := by
      intro o ho
      have t3 := (op_ok.2.1 s.1 o ho).1
      simp only [ho] at hq
      have n := nx_lt ht t3
      refine s_opnd (d := d + 4) hJ hT hL hR hM ht t3 hs hl (fun f m' e q => ?_) (fun r m' e q => ?_)
      · simp only [e] at hq
        exact flm m' f q (hq.1 f m' rfl q)
      · simp only [e] at hq
        have hrd := hR _ _ (TK_n ht) e
        have := hrd.2.1
        refine lr_sum hJ hT hL hR hM k (i + 1) m' (pJ s r o) C (by omega) (by show i + 1 ≤ t_p r.1; omega) hrd.1 ?_ ?_ hq
        · show LSt L m0 m' T r.1 (C ++ (s.2.1 ++ (r.2.1 ++ [o.1])))
          rw [← List.append_assoc]; exact q
        · show (C ++ (s.2.1 ++ (r.2.1 ++ [o.1]))).length ≤ t_p r.1
          simp only [List.length_append, List.length_cons, List.length_nil] at hl ⊢; omega
    have noop : opA s.1 = none → Q (some (sh_i 1)) m := by
      intro z; simp only [z] at hq; exact hq.2 s m rfl hs
    have go46 : ∀ o : Int × Int, opA s.1 = some o → sh_X g (d + 14) m_Read_readSum 46 [(0, sh_r 4), (1, sh_r L), (2, sh_i dp), (3, sh_i 1), (4, sh_i (i : Int))] [] m (sh_K m_Read_readSum Q) := by
      intro o ho
      apply v_Read_readSum_46 hL
      rw [hs.2.2.1.2.2.2.1, i3s k6.1 k6.2]
      have ho2 := ho
      unfold opA at ho
      refine ⟨fun z => ?_, fun z => ?_⟩
      · rw [if_neg z] at ho
        split at ho
        · cases ho; exact go _ ho2
        · cases ho
      · rw [if_pos z] at ho; cases ho; exact go _ ho2
    apply v_Read_readSum_10 hL
    rw [i3n (x := i) (by omega), hs.2.2.1.2.2.2.1, i3s k6.1 k6.2]
    refine ⟨fun z => by omega, fun _ => ⟨fun z => absurd z (by decide), fun _ => ⟨fun z => ?_, fun z => ⟨fun z2 => ⟨Or.inr rfl, ?_⟩, fun z2 => ?_⟩⟩⟩⟩
    · exact go46 (-10, 20) (by unfold opA; rw [if_pos z])
    · exact noop (by unfold opA; rw [if_neg z, if_neg z2])
    · exact go46 (-11, 21) (by unfold opA; rw [if_neg z, if_pos z2])
theorem s_readSum {dp : Int} {P : Tok → PR} (hJ : JD g) (hT : TpOk T) (hL : ob2 L) (hR : RdP T P) (hM : CRd g m_Read_readProduct (d + 13) L dp T P) : CRd g m_Read_readSum (d + 14) L dp T (pSeq T P opA) := by
  intro m0 m t C Q ht hs hl hq
  apply v_Read_readSum hL
  unfold pSeq at hq
  refine hM m0 m t C _ ht hs hl ⟨fun f m' e q => ⟨_, rfl, ?_⟩, fun r m' e q => ⟨_, rfl, ?_⟩⟩
  · simp only [e] at hq
    apply v_Read_readSum_10 hL (x4 := 0)
    exact ⟨fun _ => ⟨Or.inl rfl, hq.1 f m' rfl q⟩, fun _ => ⟨fun _ => ⟨Or.inl rfl, hq.1 f m' rfl q⟩, fun z => absurd rfl z⟩⟩
  · simp only [e] at hq
    have hrd := hR _ _ ht e
    have := hrd.2.1
    exact lr_sum hJ hT hL hR hM 1000 0 m' r C (by omega) (by omega) hrd.1 q (by simp only [List.length_append]; omega) hq
theorem s_readTest {dp : Int} {P : Tok → PR} (hJ : JD g) (hT : TpOk T) (hL : ob2 L) (hR : RdP T P) (hM : CRd g m_Read_readSum (d + 14) L dp T (pSum T P)) : CRd g m_Read_readTest (d + 15) L dp T (pTest T P) := by
  intro m0 m t C Q ht hs hl hq
  have hR2 := RdP_sum hR
  apply v_Read_readTest hL
  unfold pTest at hq
  refine hM m0 m t C _ ht hs hl ⟨fun f m' e q => ⟨_, rfl, ?_⟩, fun s m' e q => ⟨_, rfl, ?_⟩⟩
  · simp only [e] at hq
    exact ⟨fun z => absurd rfl z, fun _ => hq.1 f m' rfl q⟩
  · simp only [e] at hq
    have hrd := hR2 _ _ ht e
    have h1 := hrd.2.1
    have k6 := TK_k hT hrd.1
    have hl' : (C ++ s.2.1).length ≤ t_p s.1 := by simp only [List.length_append]; omega
    have go : ∀ o : Int × Int, opC s.1 = some o → sh_Cal g (d + 14) m_Tape_step [sh_r 2] m' (fun rv m1 => rv = none ∧ sh_Cal g (d + 14) m_Read_readSum [sh_r 4, sh_r L, sh_i dp] m1 (fun rv m2 => ∃ r1 : Int, rv = some (sh_i r1) ∧ sh_Cal g (d + 14) m_Law_put [sh_r L, sh_i o.1] m2 (fun rv m3 => rv = none ∧ ((r1 = 0 ∨ r1 = 1) ∧ Q (some (sh_i r1)) m3)))) := by
      intro o ho
      have t3 := (op_ok.2.2.1 s.1 o ho).1
      simp only [ho] at hq
      have n := nx_lt hrd.1 t3
      refine s_opnd (d := d + 5) (A := fun r1 m3 => (r1 = 0 ∨ r1 = 1) ∧ Q (some (sh_i r1)) m3) hJ hT hL hR2 hM hrd.1 t3 q hl' (fun f m2 e2 q2 => ?_) (fun r m2 e2 q2 => ?_)
      · simp only [e2] at hq
        exact ⟨Or.inl rfl, hq.1 f m2 rfl q2⟩
      · simp only [e2] at hq
        refine ⟨Or.inr rfl, hq.2 _ m2 rfl ?_⟩
        show LSt L m0 m2 T r.1 (C ++ (s.2.1 ++ (r.2.1 ++ [o.1])))
        rw [← List.append_assoc]; exact q2
    have go37 : ∀ o : Int × Int, opC s.1 = some o → sh_X g (d + 15) m_Read_readTest 37 [(0, sh_r 4), (1, sh_r L), (2, sh_i dp)] [] m' (sh_K m_Read_readTest Q) := by
      intro o ho
      apply v_Read_readTest_37 hL
      rw [q.2.2.1.2.2.2.1, i3s k6.1 k6.2]
      have ho2 := ho
      unfold opC at ho
      refine ⟨fun z => ?_, fun z => ?_⟩
      · rw [if_neg z] at ho
        split at ho
        · cases ho; exact go _ ho2
        · cases ho
      · rw [if_pos z] at ho; cases ho; exact go _ ho2
    rw [q.2.2.1.2.2.2.1, i3s k6.1 k6.2]
    refine ⟨fun _ => ⟨fun z => ?_, fun z => ⟨fun z2 => ?_, fun z2 => ?_⟩⟩, fun z => absurd z (by decide)⟩
    · exact go37 (-8, 24) (by unfold opC; rw [if_pos z])
    · exact go37 (-9, 25) (by unfold opC; rw [if_neg z, if_pos z2])
    · have : opC s.1 = none := by unfold opC; rw [if_neg z, if_neg z2]
      simp only [this] at hq
      exact hq.2 s m' rfl q
theorem lr_ex {dp : Int} {P : Tok → PR} (hJ : JD g) (hT : TpOk T) (hL : ob2 L) (hR : RdP T P) (hM : CRd g m_Read_readTest (d + 15) L dp T P) : ∀ (k i : Nat) (m : sh_Mem) (s : PS) (C : List Int), i + k = 1000 → i ≤ t_p s.1 → TK T s.1 → LSt L m0 m T s.1 (C ++ s.2.1) → (C ++ s.2.1).length ≤ t_p s.1 → RdPo L m0 T C (pLp T P opL k s) Q →
    sh_X g (d + 16) m_Read_readE 10 [(0, sh_r 4), (1, sh_r L), (2, sh_i dp), (3, sh_i 1), (4, sh_i (i : Int))] [] m (sh_K m_Read_readE Q)
  | 0, i, m, s, C, hi, hip, ht, hs, hl, hq => by
    apply v_Read_readE_10 hL
    rw [i3n (x := i) (by omega)]
    rw [pLp] at hq
    exact ⟨fun _ => ⟨Or.inr rfl, hq.2 s m rfl hs⟩, fun z => by omega⟩
  | k + 1, i, m, s, C, hi, hip, ht, hs, hl, hq => by
    have k6 := TK_k hT ht
    rw [pLp] at hq
    have flm : ∀ m' f, LFt L m0 m' f → Q (some (sh_i 0)) m' → sh_X g (d + 16) m_Read_readE 10 [(0, sh_r 4), (1, sh_r L), (2, sh_i dp), (3, sh_i 0), (4, sh_i ((i + 1 : Nat) : Int))] [] m' (sh_K m_Read_readE Q) := by
      intro m' f q q2
      apply v_Read_readE_10 hL
      exact ⟨fun _ => ⟨Or.inl rfl, q2⟩, fun _ => ⟨fun _ => ⟨Or.inl rfl, q2⟩, fun z => absurd rfl z⟩⟩
    have go : ∀ o : Int × Int, opL s.1 = some o → sh_Cal g (d + 15) m_Tape_step [sh_r 2] m (fun rv m1 => rv = none ∧ sh_Cal g (d + 15) m_Read_readTest [sh_r 4, sh_r L, sh_i dp] m1 (fun rv m2 => ∃ r1 : Int, rv = some (sh_i r1) ∧ sh_Cal g (d + 15) m_Law_put [sh_r L, sh_i o.1] m2 (fun rv m3 => rv = none ∧ sh_X g (d + 16) m_Read_readE 10 [(0, sh_r 4), (1, sh_r L), (2, sh_i dp), (3, sh_i r1), (4, sh_i ((i + 1 : Nat) : Int))] [] m3 (sh_K m_Read_readE Q)))) := by
      intro o ho
      have t3 := (op_ok.2.2.2 s.1 o ho).1
      simp only [ho] at hq
      have n := nx_lt ht t3
      refine s_opnd (d := d + 6) hJ hT hL hR hM ht t3 hs hl (fun f m' e q => ?_) (fun r m' e q => ?_)
      · simp only [e] at hq
        exact flm m' f q (hq.1 f m' rfl q)
      · simp only [e] at hq
        have hrd := hR _ _ (TK_n ht) e
        have := hrd.2.1
        refine lr_ex hJ hT hL hR hM k (i + 1) m' (pJ s r o) C (by omega) (by show i + 1 ≤ t_p r.1; omega) hrd.1 ?_ ?_ hq
        · show LSt L m0 m' T r.1 (C ++ (s.2.1 ++ (r.2.1 ++ [o.1])))
          rw [← List.append_assoc]; exact q
        · show (C ++ (s.2.1 ++ (r.2.1 ++ [o.1]))).length ≤ t_p r.1
          simp only [List.length_append, List.length_cons, List.length_nil] at hl ⊢; omega
    have noop : opL s.1 = none → Q (some (sh_i 1)) m := by
      intro z; simp only [z] at hq; exact hq.2 s m rfl hs
    have go46 : ∀ o : Int × Int, opL s.1 = some o → sh_X g (d + 16) m_Read_readE 46 [(0, sh_r 4), (1, sh_r L), (2, sh_i dp), (3, sh_i 1), (4, sh_i (i : Int))] [] m (sh_K m_Read_readE Q) := by
      intro o ho
      apply v_Read_readE_46 hL
      have ho2 := ho
      unfold opL at ho
      refine s_isWord (d := d + 5) (ww := 18) hJ hT ht hs.2.2.1 (by omega) (by omega) (by omega) (C := 1111) (by decide +kernel) ⟨_, rfl, ?_⟩
      rw [i3_01]
      refine ⟨fun z => ?_, fun z => ?_⟩
      · rw [if_neg (n01 z)] at ho
        split at ho
        · cases ho; exact go _ ho2
        · cases ho
      · rw [if_pos (p01 z)] at ho; cases ho; exact go _ ho2
    apply v_Read_readE_10 hL
    rw [i3n (x := i) (by omega)]
    refine ⟨fun z => by omega, fun _ => ⟨fun z => absurd z (by decide), fun _ => ?_⟩⟩
    refine s_isWord (d := d + 5) (ww := 18) hJ hT ht hs.2.2.1 (by omega) (by omega) (by omega) (C := 1111) (by decide +kernel) ⟨_, rfl, ?_⟩
    rw [i3_01]
    refine ⟨fun z => ?_, fun z => ?_⟩
    · exact go46 (-6, 26) (by unfold opL; rw [if_pos (p01 z)])
    · refine s_isWord (d := d + 5) (ww := 19) hJ hT ht hs.2.2.1 (by omega) (by omega) (by omega) (C := 423) (by decide +kernel) ⟨_, rfl, ?_⟩
      rw [i3_01]
      refine ⟨fun z2 => ⟨Or.inr rfl, ?_⟩, fun z2 => ?_⟩
      · exact noop (by unfold opL; rw [if_neg (n01 z), if_neg (n01 z2)])
      · exact go46 (-7, 27) (by unfold opL; rw [if_neg (n01 z), if_pos (p01 z2)])
theorem s_readE {dp : Int} {P : Tok → PR} (hJ : JD g) (hT : TpOk T) (hL : ob2 L) (hR : RdP T P) (hM : CRd g m_Read_readTest (d + 15) L dp T P) : CRd g m_Read_readE (d + 16) L dp T (pSeq T P opL) := by
  intro m0 m t C Q ht hs hl hq
  apply v_Read_readE hL
  unfold pSeq at hq
  refine hM m0 m t C _ ht hs hl ⟨fun f m' e q => ⟨_, rfl, ?_⟩, fun r m' e q => ⟨_, rfl, ?_⟩⟩
  · simp only [e] at hq
    apply v_Read_readE_10 hL (x4 := 0)
    exact ⟨fun _ => ⟨Or.inl rfl, hq.1 f m' rfl q⟩, fun _ => ⟨fun _ => ⟨Or.inl rfl, hq.1 f m' rfl q⟩, fun z => absurd rfl z⟩⟩
  · simp only [e] at hq
    have hrd := hR _ _ ht e
    have := hrd.2.1
    exact lr_ex hJ hT hL hR hM 1000 0 m' r C (by omega) (by omega) hrd.1 q (by simp only [List.length_append]; omega) hq
theorem fcT_c (t : Tok) : 0 ≤ fcT t ∧ fcT t ≤ 4 ∧ (fcT t ≠ 0 → t_k t = 1 ∧ t_v t ≠ 10631) := by
  unfold fcT
  split
  · rename_i q; exact ⟨by omega, by omega, fun _ => ⟨q.1, by rw [q.2]; decide⟩⟩
  · split
    · rename_i q; exact ⟨by omega, by omega, fun _ => ⟨q.1, by rw [q.2]; decide⟩⟩
    · split
      · rename_i q; exact ⟨by omega, by omega, fun _ => ⟨q.1, by rw [q.2]; decide⟩⟩
      · split
        · rename_i q; exact ⟨by omega, by omega, fun _ => ⟨q.1, by rw [q.2]; decide⟩⟩
        · exact ⟨by omega, by omega, fun z => absurd rfl z⟩
theorem s_readPart {deep : Bool} {dp : Int} {pE pQ : Tok → PR} (hJ : JD g) (hT : TpOk T) (hL : ob2 L) (hdp : (0 ≤ dp ∧ dp ≤ 5) ∧ (dp < 5 → deep = false) ∧ (¬ dp < 5 → deep = true)) (hE : deep = false → RdP T pE ∧ CRd g m_Read_readE (d + 11) L (dp + 1) T pE) (hP : deep = false → RdP T pQ ∧ CRd g m_Read_readPart (d + 11) L (dp + 1) T pQ) : CRd g m_Read_readPart (d + 12) L dp T (pPart T deep pE pQ) := by
  intro m0 m t C Q ht hs hl hq
  have k6 := TK_k hT ht
  have hr := hs.2.2.1
  have fc := fcT_c t
  have key2 : ∀ y0 y1 : Int, y0 = (if t_k t = 2 then 1 else 0) → y1 = (if t_k t = 40 then 1 else 0) → sh_X g (d + 12) m_Read_readPart 45 [(0, sh_r 4), (1, sh_r L), (2, sh_i dp), (3, sh_i (if t_k t = 1 ∧ t_v t = 10631 then 1 else 0)), (4, sh_i y0)] [sh_i y1] m (sh_K m_Read_readPart Q) := by
    intro y0 y1 e4 e5
    subst e4; subst e5
    apply v_Read_readPart_45 hL
    refine s_factTold hJ hT ht hr ⟨_, rfl, ?_⟩
    rw [i3_01, i3_01, i3_01, i3s (x := -(fcT t)) (by omega) (by omega)]
    have go : ¬ (fcT t = 0 ∧ ¬ isW t 10631 ∧ ¬ t_k t = 40 ∧ ¬ t_k t = 2) → sh_X g (d + 12) m_Read_readPart 78 [(0, sh_r 4), (1, sh_r L), (2, sh_i dp), (3, sh_i (if t_k t = 1 ∧ t_v t = 10631 then 1 else 0)), (4, sh_i (if t_k t = 2 then 1 else 0)), (5, sh_i (if t_k t = 40 then 1 else 0)), (6, sh_i (-(fcT t)))] [] m (sh_K m_Read_readPart Q) := by
      intro hn
      unfold pPart at hq
      rw [if_neg hn] at hq
      have t3 : t_k t ≠ 3 := fun z => hn ⟨by by_cases y : fcT t = 0; exact y; have := (fc.2.2 y).1; omega, fun y => by have := y.1; omega, by omega, by omega⟩
      have n := nx_lt ht t3
      apply v_Read_readPart_78 hL
      rw [i3_01, i3s (x := -(fcT t)) (by omega) (by omega), i3s (x := dp) (by omega) (by omega)]
      refine ⟨fun z => ?_, fun z => ?_⟩
      · have hd := hdp.2.1 z
        rw [if_neg (by rw [hd]; decide)] at hq
        have go119 : ∀ (m1 : sh_Mem) (C1 : List Int), LSt L m0 m1 T t C1 → (C1 = if t_k t = 2 then C ++ [t_v t] else if fcT t ≠ 0 then C ++ [-(fcT t)] else C) → sh_X g (d + 12) m_Read_readPart 119 [(0, sh_r 4), (1, sh_r L), (2, sh_i dp), (3, sh_i (if t_k t = 1 ∧ t_v t = 10631 then 1 else 0)), (4, sh_i (if t_k t = 2 then 1 else 0)), (5, sh_i (if t_k t = 40 then 1 else 0)), (6, sh_i (-(fcT t)))] [] m1 (sh_K m_Read_readPart Q) := by
          intro m1 C1 hs1 hc
          apply v_Read_readPart_119 hL
          refine s_stepL (d := d + 2) hJ hT hL ht hs1 (fun m2 s2 => ⟨rfl, ?_⟩)
          rw [i3_01, i3_01]
          refine ⟨fun z3 => ⟨fun z5 => ?_, fun z5 => ?_⟩, fun z3 => ?_⟩
          · rw [if_neg (n01 z3), if_neg (n01 z5)] at hq
            by_cases k2 : t_k t = 2
            · rw [if_pos k2] at hq hc; subst hc; exact hq.2 _ m2 rfl s2
            · have f0 : fcT t ≠ 0 := fun y => hn ⟨y, n01 z3, n01 z5, k2⟩
              rw [if_neg k2] at hq hc; rw [if_pos f0] at hc; subst hc; exact hq.2 _ m2 rfl s2
          · have k40 := p01 z5
            rw [if_neg (n01 z3), if_pos k40] at hq
            rw [if_neg (by omega), if_neg (fun y => by have := (fc.2.2 y).1; omega)] at hc
            rw [hc] at s2
            have hE' := hE hd
            refine hE'.2 m0 m2 (nx T t) C _ (TK_n ht) s2 (by omega) ⟨fun f m' e q => ⟨_, rfl, ?_⟩, fun r m' e q => ⟨_, rfl, ?_⟩⟩
            · simp only [e] at hq; exact ⟨fun _ => hq.1 f m' rfl q, fun z => absurd rfl z⟩
            · simp only [e] at hq
              have hrd := hE'.1 _ _ (TK_n ht) e
              have := hrd.2.1
              refine ⟨fun z => absurd z (by decide), fun _ => ?_⟩
              refine s_signL (d := d + 1) hJ hT hL hrd.1 q (by simp only [List.length_append]; omega) (by omega) (fun y m3 q3 => ⟨_, rfl, fun z => absurd z (by decide), fun _ => ?_⟩) (fun y m3 q3 => ⟨_, rfl, fun _ => ?_, fun z => absurd rfl z⟩)
              · rw [if_pos y] at hq; exact hq.2 _ m3 rfl q3
              · rw [if_neg y] at hq; exact hq.1 _ m3 rfl q3
          · have cw : isW t 10631 := p01 z3
            rw [if_pos cw] at hq
            have k1 := cw.1
            rw [if_neg (by omega), if_neg (fun y => (fc.2.2 y).2 cw.2)] at hc
            rw [hc] at s2
            have hP' := hP hd
            refine hP'.2 m0 m2 (nx T t) C _ (TK_n ht) s2 (by omega) ⟨fun f m' e q => ⟨_, rfl, ?_⟩, fun r m' e q => ⟨_, rfl, ?_⟩⟩
            · simp only [e] at hq; exact s_putF hL q (fun m3 q3 => ⟨rfl, Or.inl rfl, hq.1 f m3 rfl q3⟩)
            · simp only [e] at hq
              have hrd := hP'.1 _ _ (TK_n ht) e
              have := hrd.2.1
              have := (TK_1000 hT hrd.1).1
              refine s_putL hL q (by simp only [List.length_append]; omega) (fun m3 q3 => ⟨rfl, Or.inr rfl, hq.2 _ m3 rfl ?_⟩)
              show LSt L m0 m3 T r.1 (C ++ (r.2.1 ++ [-5]))
              rw [← List.append_assoc]; exact q3
        have c1000 : C.length < 1000 := by have := (TK_1000 hT ht).2 t3; omega
        refine ⟨fun z4 => ⟨fun z6 => ?_, fun z6 => ?_⟩, fun z4 => ?_⟩
        · exact go119 m C hs (by rw [if_neg (n01 z4), if_neg (fun y => y (by omega))])
        · exact s_putL hL hs c1000 (fun m1 q => ⟨rfl, go119 m1 _ q (by rw [if_neg (n01 z4), if_pos (by omega)])⟩)
        · have k2 := p01 z4
          rw [hr.2.2.2.2.2.1 k2]
          exact s_putL hL hs c1000 (fun m1 q => ⟨rfl, go119 m1 _ q (by rw [if_pos k2])⟩)
      · rw [if_pos (hdp.2.2 z)] at hq
        exact s_refuseL hT hL ht hs hl (fun m' q => ⟨_, rfl, Or.inl rfl, hq.1 _ m' rfl q⟩)
    refine ⟨fun z => go (fun y => y.2.1 (p01 z)), fun z3 => ⟨fun z => go (fun y => y.2.2.2 (p01 z)), fun z4 => ⟨fun z => go (fun y => y.2.2.1 (p01 z)), fun z5 => ⟨fun z => go (fun y => z (by rw [y.1]; rfl)), fun z => ?_⟩⟩⟩⟩
    unfold pPart at hq
    rw [if_pos ⟨by omega, n01 z3, n01 z5, n01 z4⟩] at hq
    exact s_refuseL hT hL ht hs hl (fun m' q => ⟨_, rfl, Or.inl rfl, hq.1 _ m' rfl q⟩)
  have key : ∀ y0 : Int, y0 = (if t_k t = 2 then 1 else 0) → sh_X g (d + 12) m_Read_readPart 26 [(0, sh_r 4), (1, sh_r L), (2, sh_i dp), (3, sh_i (if t_k t = 1 ∧ t_v t = 10631 then 1 else 0))] [sh_i y0] m (sh_K m_Read_readPart Q) := by
    intro y0 e4
    apply v_Read_readPart_26 hL
    rw [hr.2.2.2.1, i3s k6.1 k6.2]
    exact ⟨fun z => key2 y0 0 e4 (by rw [if_neg z]), fun z => key2 y0 1 e4 (by rw [if_pos z])⟩
  apply v_Read_readPart hL
  refine s_isWord (d := d + 1) (ww := 13) hJ hT ht hr (by omega) (by omega) (by omega) (C := 10631) (by decide +kernel) ⟨_, rfl, ?_⟩
  rw [hr.2.2.2.1, i3s k6.1 k6.2]
  exact ⟨fun z => key 0 (by rw [if_neg z]), fun z => key 1 (by rw [if_pos z])⟩
theorem s_readEx {dp : Int} {P : Tok → PR} (hJ : JD g) (hT : TpOk T) (hL : ob2 L) (hR : RdP T P) (hM : CRd g m_Read_readPart (d + 12) L dp T P) : CRd g m_Read_readE (d + 16) L dp T (pEx T P) :=
  s_readE hJ hT hL (RdP_test hR) (s_readTest hJ hT hL hR (s_readSum hJ hT hL (RdP_seq hR op_ok.1) (s_readProduct (d := d + 3) hJ hT hL hR hM)))
theorem s_readP (hJ : JD g) (hT : TpOk T) (hL : ob2 L) : ∀ k d, k ≤ 5 → CRd g m_Read_readPart (d + 5 * k + 12) L (5 - (k : Int)) T (pP T k)
  | 0, d, _ => s_readPart (d := d + 5 * 0) hJ hT hL ⟨by omega, fun z => by omega, fun _ => rfl⟩ (fun z => absurd z (by decide)) (fun z => absurd z (by decide))
  | k + 1, d, hk => by
    have e : (5 - ((k + 1 : Nat) : Int)) + 1 = 5 - (k : Int) := by omega
    have i1 := s_readEx (d := d + 5 * k) hJ hT hL (RdP_P hT k) (s_readP hJ hT hL k d (by omega))
    have i2 := s_readP hJ hT hL k (d + 4) (by omega)
    rw [show d + 5 * k + 16 = d + 5 * (k + 1) + 11 by omega] at i1
    rw [show d + 4 + 5 * k + 12 = d + 5 * (k + 1) + 11 by omega] at i2
    exact s_readPart (d := d + 5 * (k + 1)) (deep := false) hJ hT hL ⟨by omega, fun _ => rfl, fun z => by omega⟩ (fun _ => ⟨RdP_ex (RdP_P hT k), by rw [e]; exact i1⟩) (fun _ => ⟨RdP_P hT k, by rw [e]; exact i2⟩)
/-- E, from its first token on -/
theorem s_readE0 (hJ : JD g) (hT : TpOk T) (hL : ob2 L) : CRd g m_Read_readE (d + 41) L 0 T (pEx T (pP T 5)) := s_readEx (d := d + 25) hJ hT hL (RdP_P hT 5) (s_readP hJ hT hL 5 d (by omega))
end CRE
