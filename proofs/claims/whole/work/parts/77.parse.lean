/-! ===== what fences pay: read ===== -/
/-- a fault, or the token behind, the class's code, the reference's -/
abbrev PS : Type := Tok × List Int × List Int
abbrev PR : Type := Int ⊕ PS
abbrev flt (k : Int) (t : Tok) : Int := k + 16 * (t_p t : Int)
abbrev isW (t : Tok) (c : Int) : Prop := t_k t = 1 ∧ t_v t = c
def fcT (t : Tok) : Int := if isW t 271277 then 1 else if isW t 11263 then 2 else if isW t 385418 then 3 else if isW t 80006 then 4 else 0
def opM (t : Tok) : Option (Int × Int) := if t_k t = 42 then some (-12, 22) else none
def opA (t : Tok) : Option (Int × Int) := if t_k t = 43 then some (-10, 20) else if t_k t = 45 then some (-11, 21) else none
def opC (t : Tok) : Option (Int × Int) := if t_k t = 60 then some (-8, 24) else if t_k t = 61 then some (-9, 25) else none
def opL (t : Tok) : Option (Int × Int) := if isW t 1111 then some (-6, 26) else if isW t 423 then some (-7, 27) else none
def pJ (s r : PS) (o : Int × Int) : PS := (r.1, s.2.1 ++ (r.2.1 ++ [o.1]), s.2.2 ++ (o.2 :: r.2.2))
def pPart (T : Tp) (deep : Bool) (pE pP : Tok → PR) (t : Tok) : PR :=
  if fcT t = 0 ∧ ¬ isW t 10631 ∧ ¬ t_k t = 40 ∧ ¬ t_k t = 2 then .inl (flt 1 t)
  else if deep = true then .inl (flt 5 t)
  else if isW t 10631 then (match pP (nx T t) with | .inl f => .inl f | .inr r => .inr (r.1, r.2.1 ++ [-5], 30 :: r.2.2))
  else if t_k t = 40 then (match pE (nx T t) with | .inl f => .inl f | .inr r => if t_k r.1 = 41 then .inr (nx T r.1, r.2.1, 28 :: (r.2.2 ++ [29])) else .inl (flt 1 r.1))
  else if t_k t = 2 then .inr (nx T t, [t_v t], [100 + t_v t]) else .inr (nx T t, [-(fcT t)], [fcT t])
def pLp (T : Tp) (P : Tok → PR) (op : Tok → Option (Int × Int)) : Nat → PS → PR
  | 0, s => .inr s
  | k + 1, s => match op s.1 with
    | none => .inr s
    | some o => match P (nx T s.1) with
      | .inl f => .inl f
      | .inr r => pLp T P op k (pJ s r o)
def pSeq (T : Tp) (P : Tok → PR) (op : Tok → Option (Int × Int)) (t : Tok) : PR := match P t with
  | .inl f => .inl f
  | .inr s => pLp T P op 1000 s
def pSum (T : Tp) (P : Tok → PR) : Tok → PR := pSeq T (pSeq T P opM) opA
def pTest (T : Tp) (P : Tok → PR) (t : Tok) : PR := match pSum T P t with
  | .inl f => .inl f
  | .inr s => match opC s.1 with
    | none => .inr s
    | some o => match pSum T P (nx T s.1) with
      | .inl f => .inl f
      | .inr r => .inr (pJ s r o)
def pEx (T : Tp) (P : Tok → PR) : Tok → PR := pSeq T (pTest T P) opL
def pP (T : Tp) : Nat → Tok → PR
  | 0 => pPart T true (fun _ => .inl 0) (fun _ => .inl 0)
  | k + 1 => pPart T false (pEx T (pP T k)) (pP T k)
/-- what comes of reading: the token goes on, as many codes at most as signs -/
def Rd (T : Tp) (t : Tok) (r : PS) : Prop := TK T r.1 ∧ t_p t + r.2.1.length ≤ t_p r.1 ∧ t_p t + r.2.2.length ≤ t_p r.1 ∧ (∀ c ∈ r.2.1, -12 ≤ c ∧ c ≤ 9999) ∧ (∀ c ∈ r.2.2, e_okc c) ∧ 1 ≤ r.2.2.length
def RdP (T : Tp) (P : Tok → PR) : Prop := ∀ t r, TK T t → P t = .inr r → Rd T t r
theorem nx_lt {T : Tp} {t : Tok} (h : TK T t) (hk : t_k t ≠ 3) : t_p t + 1 ≤ t_p (nx T t) := by
  have := TK_q h; have := nx_p h; have := (TK_q h).2.2 hk; omega
theorem op_ok : (∀ t o, opM t = some o → (t_k t ≠ 3 ∧ -12 ≤ o.1 ∧ o.1 ≤ 9999 ∧ e_okc o.2)) ∧ (∀ t o, opA t = some o → (t_k t ≠ 3 ∧ -12 ≤ o.1 ∧ o.1 ≤ 9999 ∧ e_okc o.2)) ∧ (∀ t o, opC t = some o → (t_k t ≠ 3 ∧ -12 ≤ o.1 ∧ o.1 ≤ 9999 ∧ e_okc o.2)) ∧ ∀ t o, opL t = some o → (t_k t ≠ 3 ∧ -12 ≤ o.1 ∧ o.1 ≤ 9999 ∧ e_okc o.2) := by
  refine ⟨fun t o h => ?_, fun t o h => ?_, fun t o h => ?_, fun t o h => ?_⟩
  · unfold opM at h; split at h
    · cases h; unfold e_okc; omega
    · cases h
  · unfold opA at h; split at h
    · cases h; unfold e_okc; omega
    · split at h
      · cases h; unfold e_okc; omega
      · cases h
  · unfold opC at h; split at h
    · cases h; unfold e_okc; omega
    · split at h
      · cases h; unfold e_okc; omega
      · cases h
  · unfold opL at h; split at h
    · rename_i q; cases h; unfold e_okc; have := q.1; omega
    · split at h
      · rename_i q; cases h; unfold e_okc; have := q.1; omega
      · cases h
theorem Rd_J {T : Tp} {t : Tok} {s r : PS} {o : Int × Int} (h : Rd T t s) (hr : Rd T (nx T s.1) r) (ho : t_k s.1 ≠ 3 ∧ -12 ≤ o.1 ∧ o.1 ≤ 9999 ∧ e_okc o.2) : Rd T t (pJ s r o) := by
  obtain ⟨a1, a2, a3, a4, a5, a6⟩ := h
  obtain ⟨b1, b2, b3, b4, b5, b6⟩ := hr
  have n := nx_lt a1 ho.1
  refine ⟨b1, ?_, ?_, ?_, ?_, ?_⟩
  · unfold pJ; simp only [List.length_append, List.length_cons, List.length_nil]; omega
  · unfold pJ; simp only [List.length_append, List.length_cons]; omega
  · intro c hc
    unfold pJ at hc
    simp only [List.mem_append, List.mem_cons, List.not_mem_nil, or_false] at hc
    rcases hc with hc | hc | hc
    · exact a4 c hc
    · exact b4 c hc
    · rw [hc]; exact ⟨ho.2.1, ho.2.2.1⟩
  · intro c hc
    unfold pJ at hc
    simp only [List.mem_append, List.mem_cons] at hc
    rcases hc with hc | hc | hc
    · exact a5 c hc
    · rw [hc]; exact ho.2.2.2
    · exact b5 c hc
  · unfold pJ; simp only [List.length_append, List.length_cons]; omega
theorem Rd_L {T : Tp} {P : Tok → PR} {op : Tok → Option (Int × Int)} (hP : RdP T P) (hop : ∀ t o, op t = some o → (t_k t ≠ 3 ∧ -12 ≤ o.1 ∧ o.1 ≤ 9999 ∧ e_okc o.2)) {t : Tok} : ∀ (k : Nat) (s r : PS), Rd T t s → pLp T P op k s = .inr r → Rd T t r
  | 0, s, r, h, e => by rw [pLp] at e; cases e; exact h
  | k + 1, s, r, h, e => by
    rw [pLp] at e
    split at e
    · cases e; exact h
    · rename_i o ho
      split at e
      · cases e
      · rename_i r' hr'
        exact Rd_L hP hop k _ r (Rd_J h (hP _ _ (TK_n h.1) hr') (hop _ _ ho)) e
theorem RdP_seq {T : Tp} {P : Tok → PR} {op : Tok → Option (Int × Int)} (hP : RdP T P) (hop : ∀ t o, op t = some o → (t_k t ≠ 3 ∧ -12 ≤ o.1 ∧ o.1 ≤ 9999 ∧ e_okc o.2)) : RdP T (pSeq T P op) := by
  intro t r ht e
  unfold pSeq at e
  split at e
  · cases e
  · rename_i s hs; exact Rd_L hP hop 1000 s r (hP _ _ ht hs) e
theorem RdP_sum {T : Tp} {P : Tok → PR} (hP : RdP T P) : RdP T (pSum T P) := RdP_seq (RdP_seq hP op_ok.1) op_ok.2.1
theorem RdP_test {T : Tp} {P : Tok → PR} (hP : RdP T P) : RdP T (pTest T P) := by
  intro t r ht e
  unfold pTest at e
  split at e
  · cases e
  · rename_i s hs
    have h := RdP_sum hP _ _ ht hs
    split at e
    · cases e; exact h
    · rename_i o ho
      split at e
      · cases e
      · rename_i r' hr'; cases e; exact Rd_J h (RdP_sum hP _ _ (TK_n h.1) hr') (op_ok.2.2.1 _ _ ho)
theorem RdP_ex {T : Tp} {P : Tok → PR} (hP : RdP T P) : RdP T (pEx T P) := RdP_seq (RdP_test hP) op_ok.2.2.2
theorem RdP_part {T : Tp} (hT : TpOk T) {deep : Bool} {pE pP : Tok → PR} (hE : deep = false → RdP T pE) (hP : deep = false → RdP T pP) : RdP T (pPart T deep pE pP) := by
  intro t r ht e
  unfold pPart at e
  split at e
  · cases e
  · rename_i hs
    split at e
    · cases e
    · rename_i hd
      have hd : deep = false := by simpa using hd
      split at e
      · rename_i hw
        have n := nx_lt ht (by have := hw.1; omega)
        split at e
        · cases e
        · rename_i r' hr'
          cases e
          obtain ⟨a1, a2, a3, a4, a5, a6⟩ := hP hd _ _ (TK_n ht) hr'
          refine ⟨a1, ?_, ?_, ?_, ?_, ?_⟩
          · simp only [List.length_append, List.length_cons, List.length_nil]; omega
          · simp only [List.length_cons]; omega
          · intro c hc; simp only [List.mem_append, List.mem_cons, List.not_mem_nil, or_false] at hc
            rcases hc with hc | hc
            · exact a4 c hc
            · omega
          · intro c hc; simp only [List.mem_cons] at hc
            rcases hc with hc | hc
            · unfold e_okc; omega
            · exact a5 c hc
          · simp only [List.length_cons]; omega
      · split at e
        · rename_i hk
          have n := nx_lt ht (by omega)
          split at e
          · cases e
          · rename_i r' hr'
            split at e
            · rename_i hk2
              cases e
              obtain ⟨a1, a2, a3, a4, a5, a6⟩ := hE hd _ _ (TK_n ht) hr'
              have n2 := nx_lt a1 (by omega)
              refine ⟨TK_n a1, ?_, ?_, a4, ?_, ?_⟩
              · simp only; omega
              · simp only [List.length_append, List.length_cons, List.length_nil]; omega
              · intro c hc; simp only [List.mem_append, List.mem_cons, List.not_mem_nil, or_false] at hc
                rcases hc with hc | hc | hc
                · unfold e_okc; omega
                · exact a5 c hc
                · unfold e_okc; omega
              · simp only [List.length_append, List.length_cons]; omega
            · cases e
        · split at e
          · rename_i hk
            have n := nx_lt ht (by omega)
            have v := TK_n4 hT ht hk
            cases e
            refine ⟨TK_n ht, ?_, ?_, ?_, ?_, ?_⟩
            · simp only [List.length_cons, List.length_nil]; omega
            · simp only [List.length_cons, List.length_nil]; omega
            · intro c hc; simp only [List.mem_cons, List.not_mem_nil, or_false] at hc; omega
            · intro c hc; simp only [List.mem_cons, List.not_mem_nil, or_false] at hc; unfold e_okc; omega
            · simp only [List.length_cons]; omega
          · rename_i nw nb nn
            have fc : 1 ≤ fcT t ∧ fcT t ≤ 4 ∧ t_k t = 1 := by
              have : fcT t ≠ 0 := fun z => hs ⟨z, nw, nb, nn⟩
              unfold fcT at this ⊢
              split
              · rename_i q; exact ⟨by omega, by omega, q.1⟩
              · split
                · rename_i q; exact ⟨by omega, by omega, q.1⟩
                · split
                  · rename_i q; exact ⟨by omega, by omega, q.1⟩
                  · split
                    · rename_i q; exact ⟨by omega, by omega, q.1⟩
                    · rename_i q1 q2 q3 q4; rw [if_neg q1, if_neg q2, if_neg q3, if_neg q4] at this; exact absurd rfl this
            have n := nx_lt ht (by omega)
            cases e
            refine ⟨TK_n ht, ?_, ?_, ?_, ?_, ?_⟩
            · simp only [List.length_cons, List.length_nil]; omega
            · simp only [List.length_cons, List.length_nil]; omega
            · intro c hc; simp only [List.mem_cons, List.not_mem_nil, or_false] at hc; omega
            · intro c hc; simp only [List.mem_cons, List.not_mem_nil, or_false] at hc; unfold e_okc; omega
            · simp only [List.length_cons]; omega
theorem RdP_P {T : Tp} (hT : TpOk T) : ∀ k, RdP T (pP T k)
  | 0 => RdP_part hT (fun z => absurd z (by decide)) (fun z => absurd z (by decide))
  | k + 1 => RdP_part hT (fun _ => RdP_ex (RdP_P hT k)) (fun _ => RdP_P hT k)
/-! what it comes to -/
def smF (f : Int → Int) : List Int → List Int → List Int
  | [], l => l
  | c :: C, l => smF f C (smL f c l)
theorem smF_app (f : Int → Int) : ∀ (A C l : List Int), smF f (A ++ C) l = smF f C (smF f A l)
  | [], C, l => rfl
  | a :: A, C, l => smF_app f A C (smL f a l)
def e_rl : List Int → sh_Mem → Nat → Option (sh_Mem × Nat)
  | [], m, e => some (m, e)
  | c :: I, m, e => match e_step c m e with
    | none => none
    | some q => e_rl I q.1 q.2
theorem e_rl_app : ∀ (A I : List Int) (m : sh_Mem) (e : Nat) (q : sh_Mem × Nat), e_rl A m e = some q → e_rl (A ++ I) m e = e_rl I q.1 q.2
  | [], I, m, e, q, h => by rw [e_rl] at h; cases h; rfl
  | a :: A, I, m, e, q, h => by
    rw [e_rl] at h
    show e_rl (a :: (A ++ I)) m e = _
    rw [e_rl]
    split at h
    · cases h
    · rename_i q' hq'
      exact e_rl_app A I _ _ q h
theorem e_rl_cons {c : Int} {I : List Int} {m : sh_Mem} {e : Nat} {q : sh_Mem × Nat} (h : e_step c m e = some q) : e_rl (c :: I) m e = e_rl I q.1 q.2 := by rw [e_rl, h]
/-- all as it was but some rows at the level e, and what lies above it -/
def Kp (S : Nat → Prop) (e : Nat) (m m' : sh_Mem) : Prop := (∀ a, a < 111 ∨ 119 < a → m' a = m a) ∧ (∀ a i, i < e → m' a i = m a i) ∧ ∀ a, ¬ S a → m' a e = m a e
theorem Kp_rf (S : Nat → Prop) (e : Nat) (m : sh_Mem) : Kp S e m m := ⟨fun _ _ => rfl, fun _ _ _ => rfl, fun _ _ => rfl⟩
theorem Kp_tr {S : Nat → Prop} {e : Nat} {m m' m'' : sh_Mem} (h : Kp S e m m') (h2 : Kp S e m' m'') : Kp S e m m'' := ⟨fun a ha => (h2.1 a ha).trans (h.1 a ha), fun a i hi => (h2.2.1 a i hi).trans (h.2.1 a i hi), fun a ha => (h2.2.2 a ha).trans (h.2.2 a ha)⟩
theorem Kp_sub {S S' : Nat → Prop} {e : Nat} {m m' : sh_Mem} (h : Kp S e m m') (hs : ∀ a, S a → S' a) : Kp S' e m m' := ⟨h.1, h.2.1, fun a ha => h.2.2 a (fun z => ha (hs a z))⟩
theorem Kp_ms {S : Nat → Prop} {e a : Nat} {m m' : sh_Mem} (h : Kp S e m m') (ha : S a) (hr : 111 ≤ a ∧ a ≤ 119) (x : Int) : Kp S e m (ms m' a (ru (m' a) e x)) := by
  refine ⟨fun b hb => by rw [ms_n _ _ (by omega)]; exact h.1 b hb, fun b i hi => ?_, fun b hb => ?_⟩
  · by_cases z : b = a
    · subst z; rw [ms_s, ru_n _ _ (by omega)]; exact h.2.1 b i hi
    · rw [ms_n _ _ z]; exact h.2.1 b i hi
  · by_cases z : b = a
    · subst z; exact absurd ha hb
    · rw [ms_n _ _ z]; exact h.2.2 b hb
abbrev noS : Nat → Prop := fun _ => False
abbrev FV (F : Int → Int) (m : sh_Mem) : Prop := ∀ i : Int, 1 ≤ i → i ≤ 4 → m 120 i.toNat = F i
theorem FV_Kp {S : Nat → Prop} {e : Nat} {F : Int → Int} {m m' : sh_Mem} (h : FV F m) (hk : Kp S e m m') : FV F m' := fun i h1 h2 => by rw [hk.1 120 (by omega)]; exact h i h1 h2
abbrev FC (F f : Int → Int) : Prop := ∀ i : Int, 1 ≤ i → i ≤ 4 → f (-i) = F i
/-- the class's part of it -/
def SmC (nd : Nat) (C : List Int) (V : (Int → Int) → Int) : Prop := ∀ F f l, FC F f → l.length + nd ≤ 32 → smF f C l = V F :: l
abbrev BL (m : sh_Mem) (e : Nat) : Prop := e = 0 ∨ ¬ i3 (m 119 e) = 1
def SemPart (k : Nat) (r : PS) : Prop := ∃ V, SmC (1 + 4 * k) r.2.1 V ∧ ∀ F m e, e + k ≤ 6 → FV F m → ∃ m', Kp noS e m m' ∧ e_rl r.2.2 m e = some (e_del m' e (V F))
def SemProd (k : Nat) (r : PS) : Prop := ∃ V, SmC (2 + 4 * k) r.2.1 V ∧ ∀ F m e, e + k ≤ 6 → FV F m → BL m e → i3 (m 118 e) = 0 → ∃ m', Kp (fun a => a = 117 ∨ a = 118) e m m' ∧ e_rl r.2.2 m e = some (m', e) ∧ m' 117 e = V F
def SemSum (k : Nat) (r : PS) : Prop := ∃ V, SmC (3 + 4 * k) r.2.1 V ∧ ∀ F m e, e + k ≤ 6 → FV F m → BL m e → i3 (m 118 e) = 0 → m 115 e = 0 → m 116 e = 20 → ∃ m', Kp (fun a => 115 ≤ a ∧ a ≤ 118) e m m' ∧ e_rl r.2.2 m e = some (m', e) ∧ e_sv m' e = V F
def SemTest (k : Nat) (r : PS) : Prop := ∃ V, SmC (4 + 4 * k) r.2.1 V ∧ ∀ F m e, e + k ≤ 6 → FV F m → BL m e → i3 (m 118 e) = 0 → m 115 e = 0 → m 116 e = 20 → m 114 e = 0 → ∃ m', Kp (fun a => 113 ≤ a ∧ a ≤ 118) e m m' ∧ e_rl r.2.2 m e = some (m', e) ∧ e_cv m' e (e_sv m' e) = V F
def SemE (k : Nat) (r : PS) : Prop := ∃ V, SmC (5 + 4 * k) r.2.1 V ∧ ∀ F m e, e + k ≤ 6 → FV F m → BL m e → i3 (m 118 e) = 0 → m 115 e = 0 → m 116 e = 20 → m 114 e = 0 → m 112 e = 0 → ∃ m', Kp (fun a => 111 ≤ a ∧ a ≤ 118) e m m' ∧ e_rl r.2.2 m e = some (m', e) ∧ e_tv m' e = V F
theorem e_del_BL {m : sh_Mem} {e : Nat} {v : Int} (h : BL m e) : e_del m e v = (e_put m e v, e) := by
  cases e with
  | zero => rfl
  | succ e => unfold e_del; rw [if_neg (by rcases h with h | h; omega; exact h)]
theorem BL_Kp {S : Nat → Prop} {e : Nat} {m m' : sh_Mem} (h : BL m e) (hk : Kp S e m m') (hs : ¬ S 119) : BL m' e := by
  rcases h with h | h
  · exact Or.inl h
  · right; rw [hk.2.2 119 hs]; exact h
/-- one more code that joins two -/
theorem SmC_J {n1 n2 n : Nat} {A C : List Int} {V U : (Int → Int) → Int} {o : Int} (h1 : SmC n1 A V) (h2 : SmC n2 C U) (l1 : n1 ≤ n) (l2 : n2 + 1 ≤ n) (ho : o < -5) : SmC n (A ++ (C ++ [o])) (fun F => joinF o (V F) (U F)) := by
  intro F f l hf hl
  rw [smF_app, h1 F f l hf (by omega), smF_app, h2 F f (V F :: l) hf (by simp only [List.length_cons]; omega)]
  show smL f o (U F :: V F :: l) = _
  unfold smL
  rw [if_pos (by omega), if_neg (by omega)]
theorem SmC_mono {n1 n : Nat} {A : List Int} {V : (Int → Int) → Int} (h : SmC n1 A V) (l1 : n1 ≤ n) : SmC n A V := fun F f l hf hl => h F f l hf (by omega)
