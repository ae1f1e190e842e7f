abbrev RH0 (n0 : Nat) (m0 : sh_Mem) (Q : Option sh_V → sh_Mem → Prop) (o : PR) : Prop := ∀ f m', o = .inl f → RFl n0 m0 m' f → Q (some (sh_i 0)) m'
def RPa (g : sh_G) (d : Nat) (T : Tp) (n0 e : Nat) (P : Tok → PR) : Prop := ∀ (m0 m : sh_Mem) (t : Tok) (D : List Int) (Q : Option sh_V → sh_Mem → Prop), TK T t → RSt n0 m0 m T t D → D.length ≤ t_p t → RH0 n0 m0 Q (P t) → (∀ r m', P t = .inr r → RSt n0 m0 m' T r.1 (D ++ r.2.2) → Lv e m m' → X11 g d Q (popF (m 109) e) 0 m') → X11 g d Q e 1 m
def RPs (g : sh_G) (d : Nat) (T : Tp) (n0 e : Nat) (P : Tok → PR) (E : Tok → Prop) : Prop := ∀ (m0 m : sh_Mem) (t : Tok) (D : List Int) (Q : Option sh_V → sh_Mem → Prop), TK T t → RSt n0 m0 m T t D → D.length ≤ t_p t → popF (m 109) e = e → RH0 n0 m0 Q (P t) → (∀ r m', P t = .inr r → RSt n0 m0 m' T r.1 (D ++ r.2.2) → Lv e m m' → E r.1 → X11 g d Q e 0 m') → X11 g d Q e 1 m
def RPt (g : sh_G) (d : Nat) (T : Tp) (n0 e : Nat) (P : Tok → PR) (E : Tok → Prop) : Prop := ∀ (m0 m : sh_Mem) (t : Tok) (D : List Int) (Q : Option sh_V → sh_Mem → Prop), TK T t → RSt n0 m0 m T t D → D.length ≤ t_p t → popF (m 109) e = e → m 110 e = 0 → RH0 n0 m0 Q (P t) → (∀ r m', P t = .inr r → RSt n0 m0 m' T r.1 (D ++ r.2.2) → Lv2 e m m' → E r.1 → X304 g d Q e 0 m') → X11 g d Q e 1 m
section RRE
variable {g : sh_G} {d n0 e : Nat} {T : Tp} {t : Tok} {m0 m : sh_Mem} {D : List Int} {Q : Option sh_V → sh_Mem → Prop}
theorem l_110 (hT : TpOk T) (ht : TK T t) (hs : RSt n0 m0 m T t D) (h1 : t_k t = 43 ∨ t_k t = 45 ∨ t_k t = 42 → sh_X g (d + 2) m_Mod_reads 206 [(0, sh_r 96), (1, sh_i (e : Int)), (2, sh_i ((0 : Nat) : Int))] [] m (sh_K m_Mod_reads Q)) (h2 : t_k t = 60 ∨ t_k t = 61 → sh_X g (d + 2) m_Mod_reads 263 [(0, sh_r 96), (1, sh_i (e : Int)), (2, sh_i ((0 : Nat) : Int))] [] m (sh_K m_Mod_reads Q)) (h3 : ¬ (t_k t = 60 ∨ t_k t = 61) → X304 g d Q e 0 m) : X11 g d Q e 0 m := by
  have hr := hs.2.2.1
  apply v_Mod_reads_11
  refine ⟨fun _ => ?_, fun z => absurd rfl z⟩
  refine s_Mod_isSign hT ht hr (by omega) ⟨_, rfl, ?_⟩
  rw [i3_01]
  refine ⟨fun z => h1 (Or.inl (p01 z)), fun _ => ?_⟩
  refine s_Mod_isSign hT ht hr (by omega) ⟨_, rfl, ?_⟩
  rw [i3_01]
  refine ⟨fun z => h1 (Or.inr (Or.inl (p01 z))), fun _ => ?_⟩
  refine s_Mod_isSign hT ht hr (by omega) ⟨_, rfl, ?_⟩
  rw [i3_01]
  refine ⟨fun _ => ?_, fun z => h1 (Or.inr (Or.inr (p01 z)))⟩
  refine s_Mod_isSign hT ht hr (by omega) ⟨_, rfl, ?_⟩
  rw [i3_01]
  refine ⟨fun z => h2 (Or.inl (p01 z)), fun z1 => ?_⟩
  refine s_Mod_isSign hT ht hr (by omega) ⟨_, rfl, ?_⟩
  rw [i3_01]
  exact ⟨fun z2 => h3 (fun y => by have := n01 z1; have := n01 z2; omega), fun z => h2 (Or.inr (p01 z))⟩
/-- a code, the token behind it, and a part is wanted -/
theorem s_putN {o : Int} {A : sh_Mem → Prop} (hT : TpOk T) (ht : TK T t) (hs : RSt n0 m0 m T t D) (hn : n0 ≤ 1000) (hl : D.length < 1000) (h : ∀ m', RSt n0 m0 m' T (nx T t) (D ++ [o]) → m' 109 = m 109 → m' 110 = m 110 → A m') :
    sh_Cal g (d + 1) m_Mod_puts [sh_r 96, sh_i o] m (fun rv m1 => rv = none ∧ sh_Cal g (d + 1) m_Mod_nextToken [sh_r 96] m1 (fun rv m2 => rv = none ∧ A m2)) := by
  refine s_putR hs hn hl (fun m1 s1 a1 b1 => ⟨rfl, ?_⟩)
  exact s_nextR hT ht s1 (fun m2 s2 a2 b2 => ⟨rfl, h m2 s2 (a2.trans a1) (b2.trans b1)⟩)
theorem l_206 {o : Int × Int} (hT : TpOk T) (ht : TK T t) (hs : RSt n0 m0 m T t D) (hn : n0 ≤ 1000) (hl : D.length ≤ t_p t) (ho : opM t = some o ∨ opA t = some o) (h : ∀ m', RSt n0 m0 m' T (nx T t) (D ++ [o.2]) → m' 109 = m 109 → m' 110 = m 110 → X11 g d Q e 1 m') : sh_X g (d + 2) m_Mod_reads 206 [(0, sh_r 96), (1, sh_i (e : Int)), (2, sh_i ((0 : Nat) : Int))] [] m (sh_K m_Mod_reads Q) := by
  have hr := hs.2.2.1
  have c : (t_k t = 42 ∧ o = (-12, 22)) ∨ (t_k t = 43 ∧ o = (-10, 20)) ∨ (t_k t = 45 ∧ o = (-11, 21)) := by
    rcases ho with ho | ho
    · unfold opM at ho; split at ho
      · cases ho; exact Or.inl ⟨by assumption, rfl⟩
      · cases ho
    · unfold opA at ho; split at ho
      · cases ho; exact Or.inr (Or.inl ⟨by assumption, rfl⟩)
      · split at ho
        · cases ho; exact Or.inr (Or.inr ⟨by assumption, rfl⟩)
        · cases ho
  have l : D.length < 1000 := by have := (TK_1000 hT ht).2 (by omega); omega
  apply v_Mod_reads_206
  refine s_Mod_isSign hT ht hr (by omega) ⟨_, rfl, ?_⟩
  rw [i3_01]
  refine ⟨fun z => ?_, fun z => ?_⟩
  · have z := n01 z
    refine s_Mod_isSign hT ht hr (by omega) ⟨_, rfl, ?_⟩
    rw [i3_01]
    refine ⟨fun z2 => ?_, fun z2 => ?_⟩
    · have z2 := n01 z2
      rcases c with c | c | c
      · rw [c.2] at h; exact s_putN hT ht hs hn l h
      · exact absurd c.1 z
      · exact absurd c.1 z2
    · have z2 := p01 z2
      rcases c with c | c | c
      · omega
      · omega
      · rw [c.2] at h; exact s_putN hT ht hs hn l h
  · have z := p01 z
    rcases c with c | c | c
    · omega
    · rw [c.2] at h; exact s_putN hT ht hs hn l h
    · omega
theorem r_L {P : Tok → PR} {op : Tok → Option (Int × Int)} {E0 E1 : Tok → Prop} (hT : TpOk T) (hR : RdP T P) (hop : ∀ t o, op t = some o → t_k t ≠ 3) (IN : RPs g d T n0 e P E0)
    (ST : ∀ (m0 m : sh_Mem) (t : Tok) (D : List Int) (Q : Option sh_V → sh_Mem → Prop) (o : Int × Int), TK T t → RSt n0 m0 m T t D → D.length ≤ t_p t → E0 t → op t = some o → (∀ m', RSt n0 m0 m' T (nx T t) (D ++ [o.2]) → m' 109 = m 109 → m' 110 = m 110 → X11 g d Q e 1 m') → X11 g d Q e 0 m)
    (EN : ∀ t, E0 t → op t = none → E1 t) {mS : sh_Mem} (hpop : popF (mS 109) e = e) : ∀ (k i : Nat) (m : sh_Mem) (s : PS) (D : List Int), i + k = 1000 → i ≤ t_p s.1 → TK T s.1 → RSt n0 m0 m T s.1 (D ++ s.2.2) → (D ++ s.2.2).length ≤ t_p s.1 → Lv e mS m → E0 s.1 → RH0 n0 m0 Q (pLp T P op k s) → (∀ r m', pLp T P op k s = .inr r → RSt n0 m0 m' T r.1 (D ++ r.2.2) → Lv e mS m' → E1 r.1 → X11 g d Q e 0 m') → X11 g d Q e 0 m
  | 0, i, m, s, D, hi, hip, ht, hs, hl, hv, h0, hf, hq => by
    have t3 : op s.1 = none := by
      cases ho : op s.1 with
      | none => rfl
      | some o => have := (TK_1000 hT ht).2 (hop _ _ ho); omega
    rw [pLp] at hq
    exact hq s m rfl hs hv (EN _ h0 t3)
  | k + 1, i, m, s, D, hi, hip, ht, hs, hl, hv, h0, hf, hq => by
    rw [pLp] at hf hq
    cases ho : op s.1 with
    | none => simp only [ho] at hq; exact hq s m rfl hs hv (EN _ h0 ho)
    | some o =>
      simp only [ho] at hf hq
      have n := nx_lt ht (hop _ _ ho)
      refine ST m0 m s.1 _ Q o ht hs hl h0 ho (fun m1 s1 a1 b1 => ?_)
      have v1 : Lv e mS m1 := Lv_tr hv (Lv_of a1 b1)
      refine IN m0 m1 (nx T s.1) _ Q (TK_n ht) s1 (by simp only [List.length_append, List.length_cons, List.length_nil] at hl ⊢; omega) (by rw [popF_cong e (fun i hi => (v1 i hi).1)]; exact hpop) (fun f m' ee q => ?_) (fun r m' ee q v2 h02 => ?_)
      · simp only [ee] at hf; exact hf f m' rfl q
      · simp only [ee] at hf hq
        have hrd := hR _ _ (TK_n ht) ee
        have := hrd.2.2.1
        refine r_L hT hR hop IN ST EN hpop k (i + 1) m' (pJ s r o) D (by omega) (by show i + 1 ≤ t_p r.1; omega) hrd.1 ?_ ?_ (Lv_tr v1 v2) h02 hf hq
        · show RSt n0 m0 m' T r.1 (D ++ (s.2.2 ++ (o.2 :: r.2.2)))
          rw [List.append_assoc, List.append_assoc] at q; exact q
        · show (D ++ (s.2.2 ++ (o.2 :: r.2.2))).length ≤ t_p r.1
          simp only [List.length_append, List.length_cons, List.length_nil] at hl ⊢; omega
theorem r_seq {P : Tok → PR} {op : Tok → Option (Int × Int)} {E0 E1 : Tok → Prop} (hT : TpOk T) (hR : RdP T P) (hop : ∀ t o, op t = some o → t_k t ≠ 3) (IN : RPs g d T n0 e P E0)
    (ST : ∀ (m0 m : sh_Mem) (t : Tok) (D : List Int) (Q : Option sh_V → sh_Mem → Prop) (o : Int × Int), TK T t → RSt n0 m0 m T t D → D.length ≤ t_p t → E0 t → op t = some o → (∀ m', RSt n0 m0 m' T (nx T t) (D ++ [o.2]) → m' 109 = m 109 → m' 110 = m 110 → X11 g d Q e 1 m') → X11 g d Q e 0 m)
    (EN : ∀ t, E0 t → op t = none → E1 t) : RPs g d T n0 e (pSeq T P op) E1 := by
  intro m0 m t D Q ht hs hl hpop hf hq
  unfold pSeq at hf hq
  refine IN m0 m t D Q ht hs hl hpop (fun f m' ee q => ?_) (fun r m' ee q v h0 => ?_)
  · simp only [ee] at hf; exact hf f m' rfl q
  · simp only [ee] at hf hq
    have hrd := hR _ _ ht ee
    have := hrd.2.2.1
    exact r_L hT hR hop IN ST EN hpop 1000 0 m' r D (by omega) (by omega) hrd.1 q (by simp only [List.length_append]; omega) v h0 hf hq
theorem r_prod {P : Tok → PR} (hT : TpOk T) (hn : n0 ≤ 1000) (hR : RdP T P) (hP : RPa g d T n0 e P) : RPs g d T n0 e (pSeq T P opM) (fun t => t_k t ≠ 42) := by
  refine r_seq (E0 := fun _ => True) hT hR (fun t o h => (op_ok.1 t o h).1) (fun m0 m t D Q ht hs hl hpop hf hq => ?_) (fun m0 m t D Q o ht hs hl _ ho h => ?_) (fun t _ h => ?_)
  · exact hP m0 m t D Q ht hs hl hf (fun r m' ee q v => by rw [hpop]; exact hq r m' ee q v trivial)
  · have k : t_k t = 42 := by
      unfold opM at ho; split at ho
      · assumption
      · cases ho
    have q := l_206 (e := e) hT ht hs hn hl (Or.inl ho) h
    have hr := hs.2.2.1
    apply v_Mod_reads_11
    refine ⟨fun _ => ?_, fun z => absurd rfl z⟩
    refine s_Mod_isSign hT ht hr (by omega) ⟨_, rfl, ?_⟩
    rw [i3_01]
    refine ⟨fun z => q, fun _ => ?_⟩
    refine s_Mod_isSign hT ht hr (by omega) ⟨_, rfl, ?_⟩
    rw [i3_01]
    refine ⟨fun z => q, fun _ => ?_⟩
    refine s_Mod_isSign hT ht hr (by omega) ⟨_, rfl, ?_⟩
    rw [i3_01]
    exact ⟨fun z => absurd k (n01 z), fun z => q⟩
  · intro z; unfold opM at h; rw [if_pos z] at h; cases h
theorem r_sum {P : Tok → PR} (hT : TpOk T) (hn : n0 ≤ 1000) (hR : RdP T P) (hP : RPa g d T n0 e P) : RPs g d T n0 e (pSum T P) (fun t => t_k t ≠ 42 ∧ t_k t ≠ 43 ∧ t_k t ≠ 45) := by
  refine r_seq hT (RdP_seq hR op_ok.1) (fun t o h => (op_ok.2.1 t o h).1) (r_prod hT hn hR hP) (fun m0 m t D Q o ht hs hl _ ho h => ?_) (fun t h0 h => ?_)
  · have k : t_k t = 43 ∨ t_k t = 45 := by
      unfold opA at ho; split at ho
      · exact Or.inl (by assumption)
      · split at ho
        · exact Or.inr (by assumption)
        · cases ho
    have q := l_206 (e := e) hT ht hs hn hl (Or.inr ho) h
    have hr := hs.2.2.1
    apply v_Mod_reads_11
    refine ⟨fun _ => ?_, fun z => absurd rfl z⟩
    refine s_Mod_isSign hT ht hr (by omega) ⟨_, rfl, ?_⟩
    rw [i3_01]
    refine ⟨fun z => q, fun z1 => ?_⟩
    refine s_Mod_isSign hT ht hr (by omega) ⟨_, rfl, ?_⟩
    rw [i3_01]
    refine ⟨fun z => q, fun z2 => ?_⟩
    have := n01 z1; have := n01 z2
    omega
  · refine ⟨h0, fun z => ?_, fun z => ?_⟩
    · unfold opA at h; rw [if_pos z] at h; cases h
    · unfold opA at h; rw [if_neg (by omega), if_pos z] at h; cases h
theorem l_263 {o : Int × Int} (hT : TpOk T) (ht : TK T t) (hs : RSt n0 m0 m T t D) (hn : n0 ≤ 1000) (he : e ≤ 5) (hl : D.length ≤ t_p t) (h0 : m 110 e = 0) (ho : opC t = some o) (h : ∀ m', RSt n0 m0 m' T (nx T t) (D ++ [o.2]) → m' 109 = m 109 → m' 110 = ru (m 110) e 1 → X11 g d Q e 1 m') : sh_X g (d + 2) m_Mod_reads 263 [(0, sh_r 96), (1, sh_i (e : Int)), (2, sh_i ((0 : Nat) : Int))] [] m (sh_K m_Mod_reads Q) := by
  have hr := hs.2.2.1
  have c : (t_k t = 60 ∧ o = (-8, 24)) ∨ (t_k t = 61 ∧ o = (-9, 25)) := by
    unfold opC at ho; split at ho
    · cases ho; exact Or.inl ⟨by assumption, rfl⟩
    · split at ho
      · cases ho; exact Or.inr ⟨by assumption, rfl⟩
      · cases ho
  have l : D.length < 1000 := by have := (TK_1000 hT ht).2 (by omega); omega
  have go : sh_Cal g (d + 1) m_Mod_puts [sh_r 96, sh_i o.2] m (fun rv m2 => rv = none ∧ ((0 ≤ (e : Int) ∧ (e : Int) < 7) ∧ ∀ m3 : sh_Mem, m3 = ms m2 110 (ru (m2 110) e 1) → sh_Cal g (d + 1) m_Mod_nextToken [sh_r 96] m3 (fun rv m4 => rv = none ∧ X11 g d Q e 1 m4))) := by
    refine s_putR hs hn l (fun m1 s1 a1 b1 => ⟨rfl, by omega, fun m3 e3 => ?_⟩)
    subst e3
    refine s_nextR hT ht (RSt_lv s1 (Or.inr rfl)) (fun m2 s2 a2 b2 => ⟨rfl, h m2 s2 ?_ ?_⟩)
    · rw [a2, ms_n _ _ (by decide), a1]
    · rw [b2, ms_s, b1]
  apply v_Mod_reads_263
  rw [Int.toNat_natCast, h0]
  refine ⟨by omega, fun z => absurd rfl z, fun _ => ?_⟩
  refine s_Mod_isSign hT ht hr (by omega) ⟨_, rfl, ?_⟩
  rw [i3_01]
  refine ⟨fun z => ?_, fun z => ?_⟩
  · have z := n01 z
    rcases c with c | c
    · exact absurd c.1 z
    · rw [c.2] at go; exact go
  · have z := p01 z
    rcases c with c | c
    · rw [c.2] at go; exact go
    · omega
theorem r_test {P : Tok → PR} (hT : TpOk T) (hn : n0 ≤ 1000) (he : e ≤ 5) (hR : RdP T P) (hP : RPa g d T n0 e P) : RPt g d T n0 e (pTest T P) (fun _ => True) := by
  intro m0 m t D Q ht hs hl hpop h10 hf hq
  have hS := r_sum hT hn hR hP
  have hR2 := RdP_sum hR
  unfold pTest at hf hq
  refine hS m0 m t D Q ht hs hl hpop (fun f m' ee q => ?_) (fun s m1 ee q v1 e1 => ?_)
  · simp only [ee] at hf; exact hf f m' rfl q
  · simp only [ee] at hf hq
    have hrd := hR2 _ _ ht ee
    have := hrd.2.2.1
    have l1 : (D ++ s.2.2).length ≤ t_p s.1 := by simp only [List.length_append]; omega
    by_cases k : t_k s.1 = 60 ∨ t_k s.1 = 61
    · have ho : ∃ o, opC s.1 = some o := by
        unfold opC; rcases k with k | k
        · rw [if_pos k]; exact ⟨_, rfl⟩
        · rw [if_neg (by omega), if_pos k]; exact ⟨_, rfl⟩
      obtain ⟨o, ho⟩ := ho
      simp only [ho] at hf hq
      have n := nx_lt hrd.1 (op_ok.2.2.1 _ _ ho).1
      have go := l_263 (g := g) (d := d) (Q := Q) hT hrd.1 q hn he l1 (by rw [(v1 e (by omega)).2]; exact h10) ho (fun m2 s2 a2 b2 => by
        have v2 : Lv2 e m1 m2 := ⟨fun i _ => by rw [a2], fun i hi => by rw [b2, ru_n _ _ (by omega)]⟩
        refine hS m0 m2 (nx T s.1) _ Q (TK_n hrd.1) s2 (by simp only [List.length_append, List.length_cons, List.length_nil] at l1 ⊢; omega) (by rw [popF_cong e (fun i hi => (v2.1 i hi).trans (v1 i hi).1)]; exact hpop) (fun f m' ee2 q2 => ?_) (fun r m3 ee2 q2 v3 e3 => ?_)
        · simp only [ee2] at hf; exact hf f m' rfl q2
        · simp only [ee2] at hq
          have hrd2 := hR2 _ _ (TK_n hrd.1) ee2
          have x304 : X304 g d Q e 0 m3 := by
            refine hq _ m3 rfl ?_ (Lv2_tr (Lv_2 v1) (Lv2_tr v2 (Lv_2 v3))) trivial
            show RSt n0 m0 m3 T r.1 (D ++ (s.2.2 ++ (o.2 :: r.2.2)))
            rw [List.append_assoc, List.append_assoc] at q2; exact q2
          refine l_110 hT hrd2.1 q2 (fun z => by omega) (fun _ => ?_) (fun _ => x304)
          apply v_Mod_reads_263
          rw [Int.toNat_natCast, (v3 e (by omega)).2, b2, ru_s]
          exact ⟨by omega, fun _ => x304, fun z => absurd z (by decide)⟩)
      exact l_110 hT hrd.1 q (fun z => by omega) (fun _ => go) (fun z => absurd k z)
    · have ho : opC s.1 = none := by unfold opC; rw [if_neg (fun z => k (Or.inl z)), if_neg (fun z => k (Or.inr z))]
      simp only [ho] at hq
      exact l_110 hT hrd.1 q (fun z => by omega) (fun z => absurd z k) (fun _ => hq s m1 rfl q (Lv_2 v1) trivial)
end RRE
