/-! ===== what fences pay: the class reads ===== -/
theorem n01 {c : Prop} [Decidable c] (z : (if c then (1 : Int) else 0) = 0) : ¬ c := fun y => by rw [if_pos y] at z; exact absurd z (by decide)
theorem p01 {c : Prop} [Decidable c] (z : ¬ (if c then (1 : Int) else 0) = 0) : c := by
  by_cases y : c
  · exact y
  · rw [if_neg y] at z; exact absurd rfl z
def Frm (L : Nat) (m0 m : sh_Mem) : Prop := (∀ a, a ≠ 2 → a ≠ 4 → a ≠ L → a ≠ L + 1 → m a = m0 a) ∧ m 2 1 = m0 2 1
def LSt (L : Nat) (m0 m : sh_Mem) (T : Tp) (t : Tok) (C : List Int) : Prop := Frm L m0 m ∧ m 4 = m0 4 ∧ CT m T t ∧ m L 2 = (C.length : Int) ∧ ∀ i, i < C.length → m (L + 1) i = C.getD i 0
def LFt (L : Nat) (m0 m : sh_Mem) (f : Int) : Prop := Frm L m0 m ∧ m 4 1 = f ∧ ∃ n : Nat, m L 2 = (n : Int) ∧ n ≤ 1000
abbrev RdPo (L : Nat) (m0 : sh_Mem) (T : Tp) (C : List Int) (o : PR) (Q : Option sh_V → sh_Mem → Prop) : Prop := (∀ f m', o = .inl f → LFt L m0 m' f → Q (some (sh_i 0)) m') ∧ ∀ r m', o = .inr r → LSt L m0 m' T r.1 (C ++ r.2.1) → Q (some (sh_i 1)) m'
def CRd (g : sh_G) (M : sh_M) (dd L : Nat) (dp : Int) (T : Tp) (P : Tok → PR) : Prop := ∀ (m0 m : sh_Mem) (t : Tok) (C : List Int) (Q : Option sh_V → sh_Mem → Prop), TK T t → LSt L m0 m T t C → C.length ≤ t_p t → RdPo L m0 T C (P t) Q → sh_Cal g dd M [sh_r 4, sh_r L, sh_i dp] m Q
theorem ob2_c {L : Nat} (h : ob2 L) : L = 30 ∨ L = 41 := by unfold ob2 at h; simpa using h
section CRE
variable {g : sh_G} {d L : Nat} {T : Tp} {t : Tok} {m0 m : sh_Mem} {C : List Int} {Q : Option sh_V → sh_Mem → Prop}
theorem LS_step {t' : Tok} {m' : sh_Mem} (hL : ob2 L) (h : LSt L m0 m T t C) (hk : Ck m m') (hc : CT m' T t') : LSt L m0 m' T t' C := by
  have l := ob2_c hL
  obtain ⟨h1, h2, h3, h4, h5⟩ := h
  exact ⟨⟨fun a a1 a2 a3 a4 => (hk.1 a a1).trans (h1.1 a a1 a2 a3 a4), hk.2.trans h1.2⟩, (hk.1 4 (by decide)).trans h2, hc, by rw [hk.1 L (by omega)]; exact h4, by rw [hk.1 (L + 1) (by omega)]; exact h5⟩
theorem s_stepL (hJ : JD g) (hT : TpOk T) (hL : ob2 L) (ht : TK T t) (hs : LSt L m0 m T t C) (h : ∀ m', LSt L m0 m' T (nx T t) C → Q none m') : sh_Cal g (d + 9) m_Tape_step [sh_r 2] m Q :=
  s_step hJ hT hs.2.2.1 (TK_q ht).2.1 (fun m' hk hc => h m' (LS_step hL hs hk hc))
theorem TK_1000 (hT : TpOk T) (ht : TK T t) : t_p t ≤ 1000 ∧ (t_k t ≠ 3 → t_p t < 1000) := by
  have q := TK_q ht
  have := hT.1
  exact ⟨by omega, fun z => by have := q.2.2 z; omega⟩
theorem s_refuseL {k : Int} (hT : TpOk T) (hL : ob2 L) (ht : TK T t) (hs : LSt L m0 m T t C) (hl : C.length ≤ t_p t) (h : ∀ m', LFt L m0 m' (flt k t) → Q (some (sh_i 0)) m') : sh_Cal g d m_Read_refuse [sh_r 4, sh_i k] m Q := by
  have l := ob2_c hL
  have := (TK_1000 hT ht).1
  obtain ⟨h1, h2, h3, h4, h5⟩ := hs
  apply v_Read_refuse
  intro m1 e
  subst e
  refine h _ ⟨⟨fun a a1 a2 a3 a4 => by rw [ms_n _ _ a2]; exact h1.1 a a1 a2 a3 a4, by rw [ms_n _ _ (by decide)]; exact h1.2⟩, ?_, C.length, ?_, by omega⟩
  · rw [ms_s, ru_s, h3.2.1]
  · rw [ms_n _ _ (by omega)]; exact h4
theorem s_putL {o : Int} (hL : ob2 L) (hs : LSt L m0 m T t C) (hl : C.length < 1000) (h : ∀ m', LSt L m0 m' T t (C ++ [o]) → Q none m') : sh_Cal g d m_Law_put [sh_r L, sh_i o] m Q := by
  have l := ob2_c hL
  obtain ⟨h1, h2, h3, h4, h5⟩ := hs
  apply v_Law_put hL
  rw [h4, i3n (x := C.length) (by omega)]
  refine ⟨fun z => by omega, fun _ => ⟨by omega, fun m1 e1 m2 e2 => ?_⟩⟩
  subst e1; subst e2
  rw [Int.toNat_natCast]
  apply h
  refine ⟨⟨fun a a1 a2 a3 a4 => by rw [ms_n _ _ a3, ms_n _ _ a4]; exact h1.1 a a1 a2 a3 a4, by rw [ms_n _ _ (by omega), ms_n _ _ (by omega)]; exact h1.2⟩, by rw [ms_n _ _ (by omega), ms_n _ _ (by omega)]; exact h2, ?_, ?_, fun i hi => ?_⟩
  · unfold CT; rw [ms_n _ _ (by omega), ms_n _ _ (by omega), ms_n _ _ (by omega), ms_n _ _ (by omega)]; exact h3
  · rw [ms_s, ru_s, ms_n _ _ (by omega), h4]; simp
  · rw [ms_n _ _ (by omega), ms_s]
    simp only [List.length_append, List.length_cons, List.length_nil] at hi
    by_cases e : i = C.length
    · subst e; rw [ru_s]; simp [List.getD]
    · rw [ru_n _ _ e, h5 i (by omega)]; simp [List.getD, List.getElem?_append_left (show i < C.length by omega)]
theorem s_putF {o f : Int} (hL : ob2 L) (hs : LFt L m0 m f) (h : ∀ m', LFt L m0 m' f → Q none m') : sh_Cal g d m_Law_put [sh_r L, sh_i o] m Q := by
  have l := ob2_c hL
  obtain ⟨h1, h2, n, h4, h5⟩ := hs
  apply v_Law_put hL
  rw [h4, i3n (x := n) (by omega)]
  refine ⟨fun z => h _ ⟨h1, h2, n, h4, h5⟩, fun z => ⟨by omega, fun m1 e1 m2 e2 => ?_⟩⟩
  subst e1; subst e2
  apply h
  refine ⟨⟨fun a a1 a2 a3 a4 => by rw [ms_n _ _ a3, ms_n _ _ a4]; exact h1.1 a a1 a2 a3 a4, by rw [ms_n _ _ (by omega), ms_n _ _ (by omega)]; exact h1.2⟩, by rw [ms_n _ _ (by omega), ms_n _ _ (by omega)]; exact h2, n + 1, ?_, by omega⟩
  rw [ms_s, ru_s, ms_n _ _ (by omega), h4]; simp
theorem s_signL {k : Int} (hJ : JD g) (hT : TpOk T) (hL : ob2 L) (ht : TK T t) (hs : LSt L m0 m T t C) (hl : C.length ≤ t_p t) (hk : -1000000 ≤ k ∧ k ≤ 1000000) (h1 : t_k t = k → ∀ m', LSt L m0 m' T (nx T t) C → Q (some (sh_i 1)) m') (h0 : ¬ t_k t = k → ∀ m', LFt L m0 m' (flt 1 t) → Q (some (sh_i 0)) m') : sh_Cal g (d + 10) m_Read_takeSign [sh_r 4, sh_i k] m Q := by
  have k6 := TK_k hT ht
  apply v_Read_takeSign
  rw [hs.2.2.1.2.2.2.1, i3s k6.1 k6.2, i3s hk.1 hk.2]
  refine ⟨fun z => ?_, fun z => ?_⟩
  · exact s_stepL hJ hT hL ht hs (fun m' q => ⟨rfl, h1 z m' q⟩)
  · exact s_refuseL hT hL ht hs hl (fun m' q => ⟨_, rfl, Or.inl rfl, h0 z m' q⟩)
/-- an operand, and behind it its code -/
theorem s_opnd {M : sh_M} {dp o : Int} {P : Tok → PR} {A : Int → sh_Mem → Prop} (hJ : JD g) (hT : TpOk T) (hL : ob2 L) (hR : RdP T P) (hM : CRd g M (d + 9) L dp T P) (ht : TK T t) (hk : t_k t ≠ 3) (hs : LSt L m0 m T t C) (hl : C.length ≤ t_p t)
    (h0 : ∀ f m', P (nx T t) = .inl f → LFt L m0 m' f → A 0 m') (h1 : ∀ r m', P (nx T t) = .inr r → LSt L m0 m' T r.1 (C ++ (r.2.1 ++ [o])) → A 1 m') :
    sh_Cal g (d + 9) m_Tape_step [sh_r 2] m (fun rv m1 => rv = none ∧ sh_Cal g (d + 9) M [sh_r 4, sh_r L, sh_i dp] m1 (fun rv m2 => ∃ r1 : Int, rv = some (sh_i r1) ∧ sh_Cal g (d + 9) m_Law_put [sh_r L, sh_i o] m2 (fun rv m3 => rv = none ∧ A r1 m3))) := by
  have n := nx_lt ht hk
  refine s_stepL hJ hT hL ht hs (fun m1 s1 => ⟨rfl, hM m0 m1 (nx T t) C _ (TK_n ht) s1 (by omega) ⟨fun f m' e hf => ⟨_, rfl, s_putF hL hf (fun m2 q => ⟨rfl, h0 f m2 e q⟩)⟩, fun r m' e hq => ⟨_, rfl, ?_⟩⟩⟩)
  have hrd := hR _ _ (TK_n ht) e
  have := (TK_1000 hT hrd.1).1
  have := hrd.2.1
  refine s_putL hL hq (by simp only [List.length_append]; omega) (fun m2 q => ⟨rfl, h1 r m2 e ?_⟩)
  rw [List.append_assoc] at q; exact q
theorem s_factTold (hJ : JD g) (hT : TpOk T) (ht : TK T t) (hr : CT m T t) (h : Q (some (sh_i (-(fcT t)))) m) : sh_Cal g (d + 11) m_Read_factTold [sh_r 4] m Q := by
  apply v_Read_factTold
  unfold fcT at h
  refine s_isWord (ww := 14) hJ hT ht hr (by omega) (by omega) (by omega) (C := 271277) (by decide +kernel) ⟨_, rfl, ?_⟩
  rw [i3_01]
  refine ⟨fun z => ?_, fun z => ?_⟩
  · rw [if_neg (n01 z)] at h
    refine s_isWord (ww := 15) hJ hT ht hr (by omega) (by omega) (by omega) (C := 11263) (by decide +kernel) ⟨_, rfl, ?_⟩
    rw [i3_01]
    refine ⟨fun z => ?_, fun z => ?_⟩
    · rw [if_neg (n01 z)] at h
      refine s_isWord (ww := 16) hJ hT ht hr (by omega) (by omega) (by omega) (C := 385418) (by decide +kernel) ⟨_, rfl, ?_⟩
      rw [i3_01]
      refine ⟨fun z => ?_, fun z => ?_⟩
      · rw [if_neg (n01 z)] at h
        refine s_isWord (ww := 17) hJ hT ht hr (by omega) (by omega) (by omega) (C := 80006) (by decide +kernel) ⟨_, rfl, ?_⟩
        rw [i3_01]
        refine ⟨fun z => ?_, fun z => ?_⟩
        · rw [if_neg (n01 z)] at h; exact h
        · rw [if_pos (p01 z)] at h; exact h
      · rw [if_pos (p01 z)] at h; exact h
    · rw [if_pos (p01 z)] at h; exact h
  · rw [if_pos (p01 z)] at h; exact h
/-- a row of operands, as products are -/
theorem l_prod {dp : Int} {P : Tok → PR} (hJ : JD g) (hT : TpOk T) (hL : ob2 L) (hR : RdP T P) (hM : CRd g m_Read_readPart (d + 9) L dp T P) : ∀ (k i : Nat) (m : sh_Mem) (s : PS) (C : List Int), i + k = 1000 → i ≤ t_p s.1 → TK T s.1 → LSt L m0 m T s.1 (C ++ s.2.1) → (C ++ s.2.1).length ≤ t_p s.1 → RdPo L m0 T C (pLp T P opM k s) Q →
    sh_X g (d + 10) m_Read_readProduct 10 [(0, sh_r 4), (1, sh_r L), (2, sh_i dp), (3, sh_i 1), (4, sh_i (i : Int))] [] m (sh_K m_Read_readProduct Q)
  | 0, i, m, s, C, hi, hip, ht, hs, hl, hq => by
    apply v_Read_readProduct_10 hL
    rw [i3n (x := i) (by omega)]
    rw [pLp] at hq
    exact ⟨fun _ => ⟨Or.inr rfl, hq.2 s m rfl hs⟩, fun z => by omega⟩
  | k + 1, i, m, s, C, hi, hip, ht, hs, hl, hq => by
    have k6 := TK_k hT ht
    apply v_Read_readProduct_10 hL
    rw [i3n (x := i) (by omega), hs.2.2.1.2.2.2.1, i3s k6.1 k6.2]
    rw [pLp] at hq
    refine ⟨fun z => by omega, fun _ => ⟨fun z => absurd z (by decide), fun _ => ⟨fun z => ⟨Or.inr rfl, ?_⟩, fun z => ?_⟩⟩⟩
    · rw [show opM s.1 = none by unfold opM; rw [if_neg z]] at hq
      exact hq.2 s m rfl hs
    · have ho : opM s.1 = some (-12, 22) := by unfold opM; rw [if_pos z]
      rw [ho] at hq
      have n := nx_lt ht (show t_k s.1 ≠ 3 by omega)
      refine s_opnd hJ hT hL hR hM ht (by omega) hs hl (fun f m' e q => ?_) (fun r m' e q => ?_)
      · apply v_Read_readProduct_10 hL
        simp only [e] at hq
        exact ⟨fun _ => ⟨Or.inl rfl, hq.1 f m' rfl q⟩, fun _ => ⟨fun _ => ⟨Or.inl rfl, hq.1 f m' rfl q⟩, fun z => absurd rfl z⟩⟩
      · simp only [e] at hq
        have hrd := hR _ _ (TK_n ht) e
        have := hrd.2.1
        refine l_prod hJ hT hL hR hM k (i + 1) m' (pJ s r (-12, 22)) C (by omega) (by show i + 1 ≤ t_p r.1; omega) hrd.1 ?_ ?_ hq
        · show LSt L m0 m' T r.1 (C ++ (s.2.1 ++ (r.2.1 ++ [-12])))
          rw [← List.append_assoc]; exact q
        · show (C ++ (s.2.1 ++ (r.2.1 ++ [-12]))).length ≤ t_p r.1
          simp only [List.length_append, List.length_cons, List.length_nil] at hl ⊢; omega
theorem s_readProduct {dp : Int} {P : Tok → PR} (hJ : JD g) (hT : TpOk T) (hL : ob2 L) (hR : RdP T P) (hM : CRd g m_Read_readPart (d + 9) L dp T P) : CRd g m_Read_readProduct (d + 10) L dp T (pSeq T P opM) := by
  intro m0 m t C Q ht hs hl hq
  apply v_Read_readProduct hL
  unfold pSeq at hq
  refine hM m0 m t C _ ht hs hl ⟨fun f m' e q => ⟨_, rfl, ?_⟩, fun r m' e q => ⟨_, rfl, ?_⟩⟩
  · simp only [e] at hq
    apply v_Read_readProduct_10 hL (x4 := 0)
    exact ⟨fun _ => ⟨Or.inl rfl, hq.1 f m' rfl q⟩, fun _ => ⟨fun _ => ⟨Or.inl rfl, hq.1 f m' rfl q⟩, fun z => absurd rfl z⟩⟩
  · simp only [e] at hq
    have hrd := hR _ _ ht e
    have := hrd.2.1
    exact l_prod hJ hT hL hR hM 1000 0 m' r C (by omega) (by omega) hrd.1 q (by simp only [List.length_append]; omega) hq
end CRE
