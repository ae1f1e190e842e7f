/-! ===== what fences pay: the reference reads ===== -/
def RFr (n0 : Nat) (m0 m : sh_Mem) : Prop := (∀ a, a ≠ 96 → a ≠ 108 → a ≠ 109 → a ≠ 110 → m a = m0 a) ∧ (∀ i, i < 4 ∨ (9 < i ∧ i ≠ 21) → m 96 i = m0 96 i) ∧ ∀ i, i < n0 → m 108 i = m0 108 i
def RSt (n0 : Nat) (m0 m : sh_Mem) (T : Tp) (t : Tok) (D : List Int) : Prop := RFr n0 m0 m ∧ m 96 9 = m0 96 9 ∧ RT m T t ∧ m 96 21 = ((n0 + D.length : Nat) : Int) ∧ ∀ i, i < D.length → m 108 (n0 + i) = D.getD i 0
def RFl (n0 : Nat) (m0 m : sh_Mem) (f : Int) : Prop := RFr n0 m0 m ∧ m 96 9 = f
/-- the levels are as they were -/
def Lv (e : Nat) (m m' : sh_Mem) : Prop := ∀ i, i ≤ e → m' 109 i = m 109 i ∧ m' 110 i = m 110 i
def Lv2 (e : Nat) (m m' : sh_Mem) : Prop := (∀ i, i ≤ e → m' 109 i = m 109 i) ∧ ∀ i, i < e → m' 110 i = m 110 i
theorem Lv_rf (e : Nat) (m : sh_Mem) : Lv e m m := fun _ _ => ⟨rfl, rfl⟩
theorem Lv_tr {e : Nat} {m m' m'' : sh_Mem} (h : Lv e m m') (h2 : Lv e m' m'') : Lv e m m'' := fun i hi => ⟨(h2 i hi).1.trans (h i hi).1, (h2 i hi).2.trans (h i hi).2⟩
theorem Lv2_tr {e : Nat} {m m' m'' : sh_Mem} (h : Lv2 e m m') (h2 : Lv2 e m' m'') : Lv2 e m m'' := ⟨fun i hi => (h2.1 i hi).trans (h.1 i hi), fun i hi => (h2.2 i hi).trans (h.2 i hi)⟩
theorem Lv_2 {e : Nat} {m m' : sh_Mem} (h : Lv e m m') : Lv2 e m m' := ⟨fun i hi => (h i hi).1, fun i hi => (h i (by omega)).2⟩
theorem Lv_of {e : Nat} {m m' : sh_Mem} (h1 : m' 109 = m 109) (h2 : m' 110 = m 110) : Lv e m m' := fun i _ => ⟨by rw [h1], by rw [h2]⟩
def popF (r : Nat → Int) : Nat → Nat
  | 0 => 0
  | e + 1 => if i3 (r (e + 1)) = 1 then popF r e else e + 1
theorem popF_cong {r r' : Nat → Int} : ∀ e, (∀ i, i ≤ e → r' i = r i) → popF r' e = popF r e
  | 0, _ => rfl
  | e + 1, h => by rw [popF, popF, h (e + 1) (by omega), popF_cong e (fun i hi => h i (by omega))]
abbrev X11 (g : sh_G) (d : Nat) (Q : Option sh_V → sh_Mem → Prop) (e x2 : Nat) (m : sh_Mem) : Prop := sh_X g (d + 2) m_Mod_reads 11 [(0, sh_r 96), (1, sh_i (e : Int)), (2, sh_i (x2 : Int))] [] m (sh_K m_Mod_reads Q)
abbrev X304 (g : sh_G) (d : Nat) (Q : Option sh_V → sh_Mem → Prop) (e x2 : Nat) (m : sh_Mem) : Prop := sh_X g (d + 2) m_Mod_reads 304 [(0, sh_r 96), (1, sh_i (e : Int)), (2, sh_i (x2 : Int))] [] m (sh_K m_Mod_reads Q)
theorem rK_i (k : Int) : i3 (rK k) = rK k := by
  unfold rK; apply i3s <;> (split; omega; split; omega; split; omega; split <;> omega)
section RRE
variable {g : sh_G} {d n0 e : Nat} {T : Tp} {t : Tok} {m0 m : sh_Mem} {D : List Int} {Q : Option sh_V → sh_Mem → Prop}
theorem s_Mod_isSign {ss : Int} (hT : TpOk T) (ht : TK T t) (hr : RT m T t) (hs : isSg ss) (h : Q (some (sh_i (if t_k t = ss then 1 else 0))) m) : sh_Cal g d m_Mod_isSign [sh_r 96, sh_i ss] m Q := by
  obtain ⟨r1, r2, r3, r4, r5, r6, r7⟩ := hr
  have h1000 := hT.1
  apply v_Mod_isSign
  rw [r3, r4]
  have c := TK_c hT ht
  have k3 : i3 (rK (t_k t)) = 3 ↔ isSg (t_k t) := by
    rw [rK_i]
    constructor
    · intro z
      rcases c with c | c | c | c | c
      · rw [c] at z; exact absurd z (by decide)
      · rw [c] at z; exact absurd z (by decide)
      · rw [c] at z; exact absurd z (by decide)
      · rw [c] at z; exact absurd z (by decide)
      · exact c.1
    · intro z; unfold rK; rw [if_neg (by omega), if_neg (by omega), if_neg (by omega), if_neg (by omega)]
  rw [k3]
  refine ⟨fun z => ?_, fun z => ?_⟩
  · rw [if_neg (fun y => z (by rw [y]; exact hs))] at h; exact h
  · have c2 : T.2 (t_p t) = t_k t ∧ t_p t < T.1 := by
      rcases c with c | c | c | c | c
      · omega
      · omega
      · omega
      · omega
      · exact c.2
    rw [Int.toNat_natCast, r7 _ c2.2, c2.1, i3s (x := t_k t) (by omega) (by omega), i3s (x := ss) (by omega) (by omega)]
    refine ⟨by omega, fun y => ?_, fun y => ?_⟩
    · rw [if_neg y] at h; exact h
    · rw [if_pos y] at h; exact h
theorem rK1 (hT : TpOk T) (ht : TK T t) : (i3 (rK (t_k t)) = 1 ↔ t_k t = 1) ∧ (i3 (rK (t_k t)) = 2 ↔ t_k t = 2) ∧ (i3 (rK (t_k t)) = 0 ↔ t_k t = 3) := by
  rw [rK_i]; unfold rK
  refine ⟨?_, ?_, ?_⟩ <;> (constructor <;> intro z)
  · split at z; omega; split at z; assumption; split at z; omega; split at z <;> omega
  · rw [z]; decide
  · split at z; omega; split at z; omega; split at z; assumption; split at z <;> omega
  · rw [z]; decide
  · split at z; assumption; split at z; omega; split at z; omega; split at z <;> omega
  · rw [z]; decide
theorem s_Mod_isWord {ww : Int} (hT : TpOk T) (ht : TK T t) (hr : RT m T t) (hw : wR ww) (h : Q (some (sh_i (if isW t ww then 1 else 0))) m) : sh_Cal g d m_Mod_isWord [sh_r 96, sh_l ww] m Q := by
  obtain ⟨r1, r2, r3, r4, r5, r6, r7⟩ := hr
  apply v_Mod_isWord
  rw [r4, (rK1 hT ht).1]
  refine ⟨fun z => ?_, fun z => ?_⟩
  · rw [if_neg (fun y => z y.1)] at h; exact h
  · rw [r5 z, l_cmpW (TK_v ht z) hw]
    refine ⟨fun y => ?_, fun y => ?_⟩
    · rw [if_neg (fun w => y w.2)] at h; exact h
    · rw [if_pos ⟨z, y⟩] at h; exact h
theorem s_Mod_fact (hT : TpOk T) (ht : TK T t) (hr : RT m T t) (h : Q (some (sh_i (fcT t))) m) : sh_Cal g d m_Mod_fact [sh_r 96] m Q := by
  obtain ⟨r1, r2, r3, r4, r5, r6, r7⟩ := hr
  apply v_Mod_fact
  rw [r4, (rK1 hT ht).1]
  unfold fcT at h
  refine ⟨fun z => ?_, fun z => ?_⟩
  · rw [r5 z, l_cmpW (TK_v ht z) (by omega), l_cmpW (TK_v ht z) (by omega), l_cmpW (TK_v ht z) (by omega), l_cmpW (TK_v ht z) (by omega)]
    refine ⟨fun y => ?_, fun y => ?_⟩
    · rw [if_neg (fun w => y w.2)] at h
      refine ⟨fun y => ?_, fun y => ?_⟩
      · rw [if_neg (fun w => y w.2)] at h
        refine ⟨fun y => ?_, fun y => ?_⟩
        · rw [if_neg (fun w => y w.2)] at h
          refine ⟨fun y => ?_, fun y => ?_⟩
          · rw [if_neg (fun w => y w.2)] at h; exact h
          · rw [if_pos ⟨z, y⟩] at h; exact h
        · rw [if_pos ⟨z, y⟩] at h; exact h
      · rw [if_pos ⟨z, y⟩] at h; exact h
    · rw [if_pos ⟨z, y⟩] at h; exact h
  · rw [if_neg (fun w => z w.1), if_neg (fun w => z w.1), if_neg (fun w => z w.1), if_neg (fun w => z w.1)] at h; exact h
theorem RFr_Rk {m' : sh_Mem} (h : RFr n0 m0 m) (hk : Rk m m') : RFr n0 m0 m' := ⟨fun a a1 a2 a3 a4 => (hk.1 a a1).trans (h.1 a a1 a2 a3 a4), fun i hi => (hk.2 i (by omega)).trans (h.2.1 i hi), fun i hi => by rw [hk.1 108 (by decide)]; exact h.2.2 i hi⟩
theorem s_nextR (hT : TpOk T) (ht : TK T t) (hs : RSt n0 m0 m T t D) (h : ∀ m', RSt n0 m0 m' T (nx T t) D → m' 109 = m 109 → m' 110 = m 110 → Q none m') : sh_Cal g (d + 1) m_Mod_nextToken [sh_r 96] m Q := by
  obtain ⟨h1, h2, h3, h4, h5⟩ := hs
  refine s_nextToken hT h3 (TK_q ht).2.1 (fun m' hk hc => h m' ⟨RFr_Rk h1 hk, (hk.2 9 (by omega)).trans h2, hc, (hk.2 21 (by omega)).trans h4, by rw [hk.1 108 (by decide)]; exact h5⟩ (hk.1 109 (by decide)) (hk.1 110 (by decide)))
theorem s_putR {o : Int} (hs : RSt n0 m0 m T t D) (hn : n0 ≤ 1000) (hl : D.length < 1000) (h : ∀ m', RSt n0 m0 m' T t (D ++ [o]) → m' 109 = m 109 → m' 110 = m 110 → Q none m') : sh_Cal g d m_Mod_puts [sh_r 96, sh_i o] m Q := by
  obtain ⟨h1, h2, h3, h4, h5⟩ := hs
  apply v_Mod_puts
  rw [h4, Int.toNat_natCast]
  refine ⟨by omega, fun m1 e1 m2 e2 => ?_⟩
  subst e1; subst e2
  refine h _ ⟨⟨fun a a1 a2 a3 a4 => by rw [ms_n _ _ a1, ms_n _ _ a2]; exact h1.1 a a1 a2 a3 a4, fun i hi => by rw [ms_s, ru_n _ _ (by omega), ms_n _ _ (by decide)]; exact h1.2.1 i hi, fun i hi => by rw [ms_n _ _ (by decide), ms_s, ru_n _ _ (by omega)]; exact h1.2.2 i hi⟩, ?_, ?_, ?_, fun i hi => ?_⟩ (by rw [ms_n _ _ (by decide), ms_n _ _ (by decide)]) (by rw [ms_n _ _ (by decide), ms_n _ _ (by decide)])
  · rw [ms_s, ru_n _ _ (by omega), ms_n _ _ (by decide)]; exact h2
  · unfold RT
    rw [ms_s, ru_n _ _ (by omega), ru_n _ _ (by omega), ru_n _ _ (by omega), ru_n _ _ (by omega), ru_n _ _ (by omega), ru_n _ _ (by omega), ms_n _ _ (by decide), ms_n _ _ (by decide), ms_n _ _ (by decide)]; exact h3
  · rw [ms_s, ru_s, ms_n _ _ (by decide), h4]; simp only [List.length_append, List.length_cons, List.length_nil]; omega
  · rw [ms_n _ _ (by decide), ms_s]
    simp only [List.length_append, List.length_cons, List.length_nil] at hi
    by_cases e : i = D.length
    · subst e; rw [ru_s]; simp [List.getD]
    · rw [ru_n _ _ (by omega), h5 i (by omega)]; simp [List.getD, List.getElem?_append_left (show i < D.length by omega)]
theorem s_failsR {k : Nat} (hs : RSt n0 m0 m T t D) (h : ∀ m', RFl n0 m0 m' (flt (k : Int) t) → Q (some (sh_i 0)) m') : sh_Cal g d m_Mod_fails [sh_r 96, sh_i (k : Int)] m Q := by
  obtain ⟨h1, h2, h3, h4, h5⟩ := hs
  apply v_Mod_fails
  intro m1 e1
  subst e1
  refine h _ ⟨⟨fun a a1 a2 a3 a4 => by rw [ms_n _ _ a1]; exact h1.1 a a1 a2 a3 a4, fun i hi => by rw [ms_s, ru_n _ _ (by omega)]; exact h1.2.1 i hi, fun i hi => by rw [ms_n _ _ (by decide)]; exact h1.2.2 i hi⟩, ?_⟩
  rw [ms_s, ru_s, h3.2.2.1]
theorem RSt_lv {a j : Nat} {x : Int} (hs : RSt n0 m0 m T t D) (ha : a = 109 ∨ a = 110) : RSt n0 m0 (ms m a (ru (m a) j x)) T t D := by
  obtain ⟨h1, h2, h3, h4, h5⟩ := hs
  refine ⟨⟨fun b a1 a2 a3 a4 => by rw [ms_n _ _ (by omega)]; exact h1.1 b a1 a2 a3 a4, fun i hi => by rw [ms_n _ _ (by omega)]; exact h1.2.1 i hi, fun i hi => by rw [ms_n _ _ (by omega)]; exact h1.2.2 i hi⟩, by rw [ms_n _ _ (by omega)]; exact h2, ?_, by rw [ms_n _ _ (by omega)]; exact h4, fun i hi => by rw [ms_n _ _ (by omega)]; exact h5 i hi⟩
  unfold RT; rw [ms_n _ _ (by omega), ms_n _ _ (by omega)]; exact h3
end RRE
