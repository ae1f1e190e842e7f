/-! ===== what fences pay: the class reads ===== -/
theorem n01 {c : Prop} [Decidable c] (z : (if c then (1 : Int) else 0) = 0) : ¬ c := fun y => by rw [if_pos y] at z; exact absurd z (by decide)
theorem p01 {c : Prop} [Decidable c] (z : ¬ (if c then (1 : Int) else 0) = 0) : c := by
  by_cases y : c
  · exact y
  · rw [if_neg y] at z; exact absurd rfl z
def Frm (L : Nat) (m0 m : sh_Mem) : Prop := (∀ a, a ≠ 2 → a ≠ 4 → a ≠ L → a ≠ L + 1 → m a = m0 a) ∧ m 2 1 = m0 2 1
def LSt (L : Nat) (m0 m : sh_Mem) (T : Tp) (t : Tok) (C : List Int) : Prop := Frm L m0 m ∧ m 4 = m0 4 ∧ CT m T t ∧ m L 2 = (C.length : Int) ∧ ∀ i, i < C.length → m (L + 1) i = C.getD i 0
def LFt (L : Nat) (m0 m : sh_Mem) (f : Int) : Prop := Frm L m0 m ∧ m 4 1 = f ∧ ∃ n : Nat, m L 2 = (n : Int) ∧ n ≤ 1000
abbrev RdPo (L : Nat) (m0 : sh_Mem) (T : Tp) (C : List Int) (o : PR) (Q : Option sh_V → sh_Mem → Prop) : Prop := (∀ f m', o = .inl f → LFt L m0 m' f → Q (some (sh_i 0)) m') ∧ ∀ r m', o = .inr r → LSt L m0 m' T r.1 (C ++ r.2.1) → Q (some (sh_i 1)) m'
def CRd (g : sh_G) (M : sh_M) (av : List sh_V) (dd L : Nat) (T : Tp) (P : Tok → PR) : Prop := ∀ (m0 m : sh_Mem) (t : Tok) (C : List Int) (Q : Option sh_V → sh_Mem → Prop), TK T t → LSt L m0 m T t C → C.length ≤ t_p t → RdPo L m0 T C (P t) Q → sh_Cal g dd M av m Q
theorem ob2_c {L : Nat} (h : ob2 L) : L = 30 ∨ L = 41 := by unfold ob2 at h; simpa using h
section CRE
variable {g : sh_G} {d L : Nat} {T : Tp} {t : Tok} {m0 m : sh_Mem} {C : List Int} {Q : Option sh_V → sh_Mem → Prop}
theorem LS_step {t' : Tok} {m' : sh_Mem} (hL : ob2 L) (h : LSt L m0 m T t C) (hk : Ck m m') (hc : CT m' T t') : LSt L m0 m' T t' C := by
  have l := ob2_c hL
  obtain ⟨h1, h2, h3, h4, h5⟩ := h
  exact ⟨⟨fun a a1 a2 a3 a4 => (hk.1 a a1).trans (h1.1 a a1 a2 a3 a4), hk.2.trans h1.2⟩, (hk.1 4 (by decide)).trans h2, hc, by rw [hk.1 L (by omega)]; exact h4, by rw [hk.1 (L + 1) (by omega)]; exact h5⟩
theorem s_stepL (hJ : JD g) (hT : TpOk T) (hL : ob2 L) (ht : TK T t) (hs : LSt L m0 m T t C) (h : ∀ m', LSt L m0 m' T (nx T t) C → Q none m') : sh_Cal g (d + 9) m_Tape_step [sh_r 2] m Q :=
  s_step hJ hT hs.2.2.1 (TK_q ht).2.1 (fun m' hk hc => h m' (LS_step hL hs hk hc))
theorem TK_1000 (hT : TpOk T) (ht : TK T t) : t_p t ≤ 1000 ∧ (t_k t ≠ 3 → t_p t < 1000) := by
  have q := TK_q ht
  have := hT.1
  exact ⟨by omega, fun z => by have := q.2.2 z; omega⟩
theorem s_refuseL {k : Int} (hT : TpOk T) (hL : ob2 L) (ht : TK T t) (hs : LSt L m0 m T t C) (hl : C.length ≤ t_p t) (h : ∀ m', LFt L m0 m' (flt k t) → Q (some (sh_i 0)) m') : sh_Cal g d m_Read_refuse [sh_r 4, sh_i k] m Q := by
  have l := ob2_c hL
  have := (TK_1000 hT ht).1
  obtain ⟨h1, h2, h3, h4, h5⟩ := hs
  apply v_Read_refuse
  intro m1 e
  subst e
  refine h _ ⟨⟨fun a a1 a2 a3 a4 => by rw [ms_n _ _ a2]; exact h1.1 a a1 a2 a3 a4, by rw [ms_n _ _ (by decide)]; exact h1.2⟩, ?_, C.length, ?_, by omega⟩
  · rw [ms_s, ru_s, h3.2.1]
  · rw [ms_n _ _ (by omega)]; exact h4
theorem s_putL {o : Int} (hL : ob2 L) (hs : LSt L m0 m T t C) (hl : C.length < 1000) (h : ∀ m', LSt L m0 m' T t (C ++ [o]) → Q none m') : sh_Cal g d m_Law_put [sh_r L, sh_i o] m Q := by
  have l := ob2_c hL
  obtain ⟨h1, h2, h3, h4, h5⟩ := hs
  apply v_Law_put hL
  rw [h4, i3n (x := C.length) (by omega)]
  refine ⟨fun z => by omega, fun _ => ⟨by omega, fun m1 e1 m2 e2 => ?_⟩⟩
  subst e1; subst e2
  rw [Int.toNat_natCast]
  apply h
  refine ⟨⟨fun a a1 a2 a3 a4 => by rw [ms_n _ _ a3, ms_n _ _ a4]; exact h1.1 a a1 a2 a3 a4, by rw [ms_n _ _ (by omega), ms_n _ _ (by omega)]; exact h1.2⟩, by rw [ms_n _ _ (by omega), ms_n _ _ (by omega)]; exact h2, ?_, ?_, fun i hi => ?_⟩
  · unfold CT; rw [ms_n _ _ (by omega), ms_n _ _ (by omega), ms_n _ _ (by omega), ms_n _ _ (by omega)]; exact h3
  · rw [ms_s, ru_s, ms_n _ _ (by omega), h4]; simp
  · rw [ms_n _ _ (by omega), ms_s]
    simp only [List.length_append, List.length_cons, List.length_nil] at hi
    by_cases e : i = C.length
    · subst e; rw [ru_s]; simp [List.getD]
    · rw [ru_n _ _ e, h5 i (by omega)]; simp [List.getD, List.getElem?_append_left (show i < C.length by omega)]
theorem s_putF {o f : Int} (hL : ob2 L) (hs : LFt L m0 m f) (h : ∀ m', LFt L m0 m' f → Q none m') : sh_Cal g d m_Law_put [sh_r L, sh_i o] m Q := by
  have l := ob2_c hL
  obtain ⟨h1, h2, n, h4, h5⟩ := hs
  apply v_Law_put hL
  rw [h4, i3n (x := n) (by omega)]
  refine ⟨fun z => h _ ⟨h1, h2, n, h4, h5⟩, fun z => ⟨by omega, fun m1 e1 m2 e2 => ?_⟩⟩
  subst e1; subst e2
  apply h
  refine ⟨⟨fun a a1 a2 a3 a4 => by rw [ms_n _ _ a3, ms_n _ _ a4]; exact h1.1 a a1 a2 a3 a4, by rw [ms_n _ _ (by omega), ms_n _ _ (by omega)]; exact h1.2⟩, by rw [ms_n _ _ (by omega), ms_n _ _ (by omega)]; exact h2, n + 1, ?_, by omega⟩
  rw [ms_s, ru_s, ms_n _ _ (by omega), h4]; simp
theorem s_signL {k : Int} (hJ : JD g) (hT : TpOk T) (hL : ob2 L) (ht : TK T t) (hs : LSt L m0 m T t C) (hl : C.length ≤ t_p t) (hk : -1000000 ≤ k ∧ k ≤ 1000000) (h1 : t_k t = k → ∀ m', LSt L m0 m' T (nx T t) C → Q (some (sh_i 1)) m') (h0 : ¬ t_k t = k → ∀ m', LFt L m0 m' (flt 1 t) → Q (some (sh_i 0)) m') : sh_Cal g (d + 10) m_Read_takeSign [sh_r 4, sh_i k] m Q := by
  have k6 := TK_k hT ht
  apply v_Read_takeSign
  rw [hs.2.2.1.2.2.2.1, i3s k6.1 k6.2, i3s hk.1 hk.2]
  refine ⟨fun z => ?_, fun z => ?_⟩
  · exact s_stepL hJ hT hL ht hs (fun m' q => ⟨rfl, h1 z m' q⟩)
  · exact s_refuseL hT hL ht hs hl (fun m' q => ⟨_, rfl, Or.inl rfl, h0 z m' q⟩)
/-- an operand, and behind it its code -/
theorem s_opnd {M : sh_M} {av : List sh_V} {o : Int} {P : Tok → PR} {A : Int → sh_Mem → Prop} (hJ : JD g) (hT : TpOk T) (hL : ob2 L) (hR : RdP T P) (hM : CRd g M av (d + 9) L T P) (ht : TK T t) (hk : t_k t ≠ 3) (hs : LSt L m0 m T t C) (hl : C.length ≤ t_p t)
    (h0 : ∀ f m', P (nx T t) = .inl f → LFt L m0 m' f → A 0 m') (h1 : ∀ r m', P (nx T t) = .inr r → LSt L m0 m' T r.1 (C ++ (r.2.1 ++ [o])) → A 1 m') :
    sh_Cal g (d + 9) m_Tape_step [sh_r 2] m (fun rv m1 => rv = none ∧ sh_Cal g (d + 9) M av m1 (fun rv m2 => ∃ r1 : Int, rv = some (sh_i r1) ∧ sh_Cal g (d + 9) m_Law_put [sh_r L, sh_i o] m2 (fun rv m3 => rv = none ∧ A r1 m3))) := by
  have n := nx_lt ht hk
  refine s_stepL hJ hT hL ht hs (fun m1 s1 => ⟨rfl, hM m0 m1 (nx T t) C _ (TK_n ht) s1 (by omega) ⟨fun f m' e hf => ⟨_, rfl, s_putF hL hf (fun m2 q => ⟨rfl, h0 f m2 e q⟩)⟩, fun r m' e hq => ⟨_, rfl, ?_⟩⟩⟩)
  have hrd := hR _ _ (TK_n ht) e
  have := (TK_1000 hT hrd.1).1
  have := hrd.2.1
  refine s_putL hL hq (by simp only [List.length_append]; omega) (fun m2 q => ⟨rfl, h1 r m2 e ?_⟩)
  rw [List.append_assoc] at q; exact q
end CRE
/-! keys and facts -/
theorem ky_i {t : Tok} (k : Int) {C : Int} (h : resL[k.toNat]? = some C) (h0 : 0 ≤ k) : kyT t = k ↔ isW t C := by
  have q := ky_at (t := t) k.toNat h
  rw [Int.toNat_of_nonneg h0] at q
  exact q
theorem fk_i {t : Tok} (k : Int) {C : Int} (h : fcL[k.toNat]? = some C) (h0 : 0 ≤ k) : fkT t = k ↔ isW t C := by
  have q := fk_at (t := t) k.toNat h
  rw [Int.toNat_of_nonneg h0] at q
  exact q
theorem fc_fk (t : Tok) : fcT t = fkT t + 1 := by
  have c := fkT_c t
  have f0 := fk_i (t := t) 0 (C := 271277) rfl (by decide)
  have f1 := fk_i (t := t) 1 (C := 11263) rfl (by decide)
  have f2 := fk_i (t := t) 2 (C := 385418) rfl (by decide)
  have f3 := fk_i (t := t) 3 (C := 80006) rfl (by decide)
  unfold fcT
  split
  · rename_i h; have := f0.mpr h; omega
  · rename_i h0
    split
    · rename_i h; have := f1.mpr h; omega
    · rename_i h1
      split
      · rename_i h; have := f2.mpr h; omega
      · rename_i h2
        split
        · rename_i h; have := f3.mpr h; omega
        · rename_i h3
          have a0 : ¬ fkT t = 0 := fun z => h0 (f0.mp z)
          have a1 : ¬ fkT t = 1 := fun z => h1 (f1.mp z)
          have a2 : ¬ fkT t = 2 := fun z => h2 (f2.mp z)
          have a3 : ¬ fkT t = 3 := fun z => h3 (f3.mp z)
          omega
/-- the operations of a level: 0 an E, 1 a TEST, 2 a SUM, 3 a PRODUCT -/
def opV (lv : Nat) (t : Tok) : Option (Int × Int) := if lv = 0 then opL t else if lv = 1 then opC t else if lv = 2 then opA t else opM t
def opc (o : Option (Int × Int)) : Int := match o with
  | none => 0
  | some q => q.1
theorem opV_0 : opV 0 = opL := by funext t; unfold opV; rw [if_pos rfl]
theorem opV_1 : opV 1 = opC := by funext t; unfold opV; rw [if_neg (by decide), if_pos rfl]
theorem opV_2 : opV 2 = opA := by funext t; unfold opV; rw [if_neg (by decide), if_neg (by decide), if_pos rfl]
theorem opV_3 : opV 3 = opM := by funext t; unfold opV; rw [if_neg (by decide), if_neg (by decide), if_neg (by decide)]
theorem opV_ok {lv : Nat} {t : Tok} {o : Int × Int} (h : opV lv t = some o) : t_k t ≠ 3 ∧ -12 ≤ o.1 ∧ o.1 ≤ -6 := by
  unfold opV at h
  split at h
  · unfold opL at h
    split at h
    · rename_i q; cases h; have := q.1; omega
    · split at h
      · rename_i q; cases h; have := q.1; omega
      · cases h
  · split at h
    · unfold opC at h
      split at h
      · cases h; omega
      · split at h
        · cases h; omega
        · cases h
    · split at h
      · unfold opA at h
        split at h
        · cases h; omega
        · split at h
          · cases h; omega
          · cases h
      · unfold opM at h
        split at h
        · cases h; omega
        · cases h
theorem opc_c (lv : Nat) (t : Tok) : (opV lv t = none ∧ opc (opV lv t) = 0) ∨ ∃ o, opV lv t = some o ∧ opc (opV lv t) = o.1 ∧ -12 ≤ o.1 ∧ o.1 ≤ -6 := by
  cases h : opV lv t with
  | none => exact Or.inl ⟨rfl, rfl⟩
  | some o => exact Or.inr ⟨o, rfl, rfl, (opV_ok h).2⟩
section CRE
variable {g : sh_G} {d L : Nat} {T : Tp} {t : Tok} {m0 m : sh_Mem} {C : List Int} {Q : Option sh_V → sh_Mem → Prop}
theorem s_opTold {lv : Nat} (hlv : lv ≤ 3) (hT : TpOk T) (ht : TK T t) (hr : CT m T t) (h : Q (some (sh_i (opc (opV lv t)))) m) : sh_Cal g d m_Read_operationTold [sh_r 4, sh_i (lv : Int)] m Q := by
  have k6 := TK_k hT ht
  have b17 := ky_i (t := t) 17 (C := 1111) rfl (by decide)
  have b18 := ky_i (t := t) 18 (C := 423) rfl (by decide)
  unfold opV at h
  apply v_Read_operationTold
  rw [i3n (x := lv) (by omega), hr.2.2.2.1, i3s k6.1 k6.2, CT_ky hr]
  refine ⟨fun e => ?_, fun e => ?_, fun e => ?_, fun e => ?_⟩
  · rw [if_pos (by omega)] at h
    unfold opL at h
    refine ⟨fun z => ⟨fun z2 => ?_, fun z2 => ?_⟩, fun z => ?_⟩
    · rw [if_neg (fun y => z (b17.mpr y)), if_neg (fun y => z2 (b18.mpr y))] at h; exact h
    · rw [if_neg (fun y => z (b17.mpr y)), if_pos (b18.mp z2)] at h; exact h
    · rw [if_pos (b17.mp z)] at h; exact h
  · rw [if_neg (by omega), if_pos (by omega)] at h
    unfold opC at h
    refine ⟨fun z => ⟨fun z2 => ?_, fun z2 => ?_⟩, fun z => ?_⟩
    · rw [if_neg z, if_neg z2] at h; exact h
    · rw [if_neg z, if_pos z2] at h; exact h
    · rw [if_pos z] at h; exact h
  · rw [if_neg (by omega), if_neg (by omega), if_pos (by omega)] at h
    unfold opA at h
    refine ⟨fun z => ⟨fun z2 => ?_, fun z2 => ?_⟩, fun z => ?_⟩
    · rw [if_neg z, if_neg z2] at h; exact h
    · rw [if_neg z, if_pos z2] at h; exact h
    · rw [if_pos z] at h; exact h
  · rw [if_neg (by omega), if_neg (by omega), if_neg (by omega)] at h
    unfold opM at h
    refine ⟨fun z => ?_, fun z => ?_⟩
    · rw [if_neg z] at h; exact h
    · rw [if_pos z] at h; exact h
theorem s_opAny {lv : Int} (h : ∀ r : Int, Q (some (sh_i r)) m) : sh_Cal g d m_Read_operationTold [sh_r 4, sh_i lv] m Q := by
  apply v_Read_operationTold
  exact ⟨fun _ => ⟨fun _ => ⟨fun _ => h _, fun _ => h _⟩, fun _ => h _⟩, fun _ => ⟨fun _ => ⟨fun _ => h _, fun _ => h _⟩, fun _ => h _⟩, fun _ => ⟨fun _ => ⟨fun _ => h _, fun _ => h _⟩, fun _ => h _⟩, fun _ => ⟨fun _ => h _, fun _ => h _⟩⟩
/-- a row of at most n joinings -/
def pSqN (T : Tp) (P : Tok → PR) (op : Tok → Option (Int × Int)) (n : Nat) (t : Tok) : PR := match P t with
  | .inl f => .inl f
  | .inr s => pLp T P op n s
theorem pSq_1 (T : Tp) (P : Tok → PR) : pSqN T (pSum T P) opC 1 = pTest T P := by
  funext t
  unfold pTest pSqN
  cases pSum T P t with
  | inl f => rfl
  | inr s =>
    dsimp only
    show pLp T (pSum T P) opC (0 + 1) s = _
    rw [pLp]
    cases opC s.1 with
    | none => rfl
    | some o =>
      cases pSum T P (nx T s.1) with
      | inl f => rfl
      | inr r => rfl
theorem l_join {lv M : Nat} {l1 dp : Int} {P : Tok → PR} (hJ : JD g) (hT : TpOk T) (hL : ob2 L) (hlv : lv ≤ 3) (h1 : l1 = (lv : Int) + 1) (hM : M ≤ 1000) (hR : RdP T P) (hP : CRd g m_Read_readJoined [sh_r 4, sh_r L, sh_i l1, sh_i dp] (d + 9) L T P) : ∀ (k i : Nat) (m : sh_Mem) (s : PS) (C : List Int), i + k = M → TK T s.1 → LSt L m0 m T s.1 (C ++ s.2.1) → (C ++ s.2.1).length ≤ t_p s.1 → RdPo L m0 T C (pLp T P (opV lv) k s) Q →
    sh_X g (d + 10) m_Read_readJoined 47 [(0, sh_r 4), (1, sh_r L), (2, sh_i (lv : Int)), (3, sh_i dp), (4, sh_i 1), (5, sh_i (M : Int)), (6, sh_i (opc (opV lv s.1))), (7, sh_i (i : Int))] [] m (sh_K m_Read_readJoined Q)
  | 0, i, m, s, C, hi, ht, hs, hl, hq => by
    apply v_Read_readJoined_47 hL
    rw [i3n (x := M) (by omega), i3n (x := i) (by omega)]
    rw [pLp] at hq
    exact ⟨fun _ => ⟨Or.inr rfl, hq.2 s m rfl hs⟩, fun z => by omega⟩
  | k + 1, i, m, s, C, hi, ht, hs, hl, hq => by
    rw [pLp] at hq
    apply v_Read_readJoined_47 hL
    rw [i3n (x := M) (by omega), i3n (x := i) (by omega)]
    refine ⟨fun z => by omega, fun _ => ⟨fun z => absurd z (by decide), fun _ => ?_⟩⟩
    rcases opc_c lv s.1 with ⟨ho, eo⟩ | ⟨o, ho, eo, b1, b2⟩
    · rw [eo]
      simp only [ho] at hq
      exact ⟨fun _ => ⟨Or.inr rfl, hq.2 s m rfl hs⟩, fun z => absurd rfl z⟩
    · rw [eo, i3s (x := o.1) (by omega) (by omega), ← h1]
      refine ⟨fun z => by omega, fun _ => ?_⟩
      simp only [ho] at hq
      have t3 := (opV_ok ho).1
      have n := nx_lt ht t3
      refine s_opnd hJ hT hL hR hP ht t3 hs hl (fun f m' e q => ?_) (fun r m' e q => ?_)
      · simp only [e] at hq
        refine s_opAny (fun r2 => ⟨_, rfl, ?_⟩)
        apply v_Read_readJoined_47 hL
        exact ⟨fun _ => ⟨Or.inl rfl, hq.1 f m' rfl q⟩, fun _ => ⟨fun _ => ⟨Or.inl rfl, hq.1 f m' rfl q⟩, fun z => absurd rfl z⟩⟩
      · simp only [e] at hq
        have hrd := hR _ _ (TK_n ht) e
        have := hrd.2.1
        refine s_opTold hlv hT hrd.1 q.2.2.1 ⟨_, rfl, ?_⟩
        refine l_join hJ hT hL hlv h1 hM hR hP k (i + 1) m' (pJ s r o) C (by omega) hrd.1 ?_ ?_ hq
        · show LSt L m0 m' T r.1 (C ++ (s.2.1 ++ (r.2.1 ++ [o.1])))
          rw [← List.append_assoc]; exact q
        · show (C ++ (s.2.1 ++ (r.2.1 ++ [o.1]))).length ≤ t_p r.1
          simp only [List.length_append, List.length_cons, List.length_nil] at hl ⊢; omega
theorem s_joined {lv M : Nat} {l0 l1 dp : Int} {P : Tok → PR} (hJ : JD g) (hT : TpOk T) (hL : ob2 L) (hlv : lv ≤ 3) (h0 : l0 = (lv : Int)) (h1 : l1 = (lv : Int) + 1) (hM : M = if lv = 1 then 1 else 1000) (hR : RdP T P) (hP : CRd g m_Read_readJoined [sh_r 4, sh_r L, sh_i l1, sh_i dp] (d + 9) L T P) : CRd g m_Read_readJoined [sh_r 4, sh_r L, sh_i l0, sh_i dp] (d + 10) L T (pSqN T P (opV lv) M) := by
  intro m0 m t C Q ht hs hl hq
  rw [h0]
  have M3 : M ≤ 1000 := by rw [hM]; split <;> omega
  unfold pSqN at hq
  apply v_Read_readJoined hL
  rw [i3n (x := lv) (by omega), ← h1]
  refine ⟨fun _ => ?_, fun z => by omega⟩
  refine hP m0 m t C _ ht hs hl ⟨fun f m' e q => ⟨_, rfl, ?_⟩, fun r m' e q => ⟨_, rfl, ?_⟩⟩
  · simp only [e] at hq
    have bad : ∀ (x5 : Nat) (r2 : Int), sh_X g (d + 10) m_Read_readJoined 47 [(0, sh_r 4), (1, sh_r L), (2, sh_i (lv : Int)), (3, sh_i dp), (4, sh_i 0), (5, sh_i (x5 : Int)), (6, sh_i r2), (7, sh_i ((0 : Nat) : Int))] [] m' (sh_K m_Read_readJoined Q) := by
      intro x5 r2
      apply v_Read_readJoined_47 hL
      exact ⟨fun _ => ⟨Or.inl rfl, hq.1 f m' rfl q⟩, fun _ => ⟨fun _ => ⟨Or.inl rfl, hq.1 f m' rfl q⟩, fun z => absurd rfl z⟩⟩
    exact ⟨fun _ => s_opAny (fun r2 => ⟨_, rfl, bad 1000 r2⟩), fun _ => s_opAny (fun r2 => ⟨_, rfl, bad 1 r2⟩)⟩
  · simp only [e] at hq
    have hrd := hR _ _ ht e
    have := hrd.2.1
    have go := l_join hJ hT hL hlv h1 M3 hR hP M 0 m' r C (by omega) hrd.1 q (by simp only [List.length_append]; omega) hq
    refine ⟨fun z => s_opTold hlv hT hrd.1 q.2.2.1 ⟨_, rfl, ?_⟩, fun z => s_opTold hlv hT hrd.1 q.2.2.1 ⟨_, rfl, ?_⟩⟩
    · have e1 : M = 1000 := by rw [hM, if_neg (by omega)]
      rw [e1] at go; exact go
    · have e1 : M = 1 := by rw [hM, if_pos (by omega)]
      rw [e1] at go; exact go
theorem s_join4 {dp : Int} {P : Tok → PR} (hL : ob2 L) (hM : CRd g m_Read_readPart [sh_r 4, sh_r L, sh_i dp] d L T P) : CRd g m_Read_readJoined [sh_r 4, sh_r L, sh_i 4, sh_i dp] (d + 1) L T P := by
  intro m0 m t C Q ht hs hl hq
  apply v_Read_readJoined hL
  refine ⟨fun z => absurd z (by decide), fun _ => ?_⟩
  exact hM m0 m t C _ ht hs hl ⟨fun f m' e q => ⟨_, rfl, Or.inl rfl, hq.1 f m' e q⟩, fun r m' e q => ⟨_, rfl, Or.inr rfl, hq.2 r m' e q⟩⟩
/-- an E of such parts -/
theorem s_readEx {dp : Int} {P : Tok → PR} (hJ : JD g) (hT : TpOk T) (hL : ob2 L) (hR : RdP T P) (hM : CRd g m_Read_readPart [sh_r 4, sh_r L, sh_i dp] (d + 11) L T P) : CRd g m_Read_readJoined [sh_r 4, sh_r L, sh_i 0, sh_i dp] (d + 16) L T (pEx T P) := by
  have j4 := s_join4 hL hM
  have j3 := s_joined (d := d + 3) (lv := 3) (M := 1000) (l0 := 3) (l1 := 4) hJ hT hL (by omega) (by decide) (by decide) (by decide) hR j4
  have e3 : pSqN T P (opV 3) 1000 = pSeq T P opM := by rw [opV_3]; rfl
  rw [e3] at j3
  have r3 : RdP T (pSeq T P opM) := RdP_seq hR op_ok.1
  have j2 := s_joined (d := d + 4) (lv := 2) (M := 1000) (l0 := 2) (l1 := 3) hJ hT hL (by omega) (by decide) (by decide) (by decide) r3 j3
  have e2 : pSqN T (pSeq T P opM) (opV 2) 1000 = pSum T P := by rw [opV_2]; rfl
  rw [e2] at j2
  have j1 := s_joined (d := d + 5) (lv := 1) (M := 1) (l0 := 1) (l1 := 2) hJ hT hL (by omega) (by decide) (by decide) (by decide) (RdP_sum hR) j2
  have e1 : pSqN T (pSum T P) (opV 1) 1 = pTest T P := by rw [opV_1]; exact pSq_1 T P
  rw [e1] at j1
  have j0 := s_joined (d := d + 6) (lv := 0) (M := 1000) (l0 := 0) (l1 := 1) hJ hT hL (by omega) (by decide) (by decide) (by decide) (RdP_test hR) j1
  have e0 : pSqN T (pTest T P) (opV 0) 1000 = pEx T P := by rw [opV_0]; rfl
  rw [e0] at j0
  exact j0
end CRE
