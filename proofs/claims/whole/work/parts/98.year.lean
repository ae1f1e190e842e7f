/-! ===== a year: what is read, and the class's little steps ===== -/
def doT (t : Tok) : Int := if isW t 7622660 then 0 else if isW t 10494723 then 1 else if isW t 377958 then 2 else if isW t 10416334 then 3 else if isW t 390787 then 4 else -1
theorem doT_c (t : Tok) : -1 ≤ doT t ∧ doT t ≤ 4 := by unfold doT; split; omega; split; omega; split; omega; split; omega; split <;> omega
abbrev NR : Type := Int ⊕ (Tok × Int)
/-- a name that is told: the token behind it, its number -/
def pNm (T : Tp) (f : Nat → Int) (n : Nat) (t : Tok) : NR := if isNm t then (if nmF f (t_v t) n 0 = -1 then .inl (flt 2 t) else .inr (nx T t, nmF f (t_v t) n 0)) else .inl (flt 1 t)
def pOth (T : Tp) (f : Nat → Int) (n : Nat) (a : Int) (t : Tok) : NR := if isNm t ∧ nmF f (t_v t) n 0 = a then .inl (flt 3 t) else pNm T f n t
section YEA
variable {g : sh_G} {d B n : Nat} {T : Tp} {t : Tok} {m : sh_Mem} {f : Nat → Int} {Q : Option sh_V → sh_Mem → Prop}
theorem s_doingTold (hJ : JD g) (hT : TpOk T) (ht : TK T t) (hr : CT m T t) (h : Q (some (sh_i (doT t))) m) : sh_Cal g (d + 11) m_Read_doingTold [sh_r 4] m Q := by
  apply v_Read_doingTold
  unfold doT at h
  refine s_isWord (ww := 20) hJ hT ht hr (by omega) (by omega) (by omega) (C := 7622660) (by decide +kernel) ⟨_, rfl, ?_⟩
  rw [i3_01]
  refine ⟨fun z => ?_, fun z => (by rw [if_pos (p01 z)] at h; exact h)⟩
  rw [if_neg (n01 z)] at h
  refine s_isWord (ww := 21) hJ hT ht hr (by omega) (by omega) (by omega) (C := 10494723) (by decide +kernel) ⟨_, rfl, ?_⟩
  rw [i3_01]
  refine ⟨fun z => ?_, fun z => (by rw [if_pos (p01 z)] at h; exact h)⟩
  rw [if_neg (n01 z)] at h
  refine s_isWord (ww := 22) hJ hT ht hr (by omega) (by omega) (by omega) (C := 377958) (by decide +kernel) ⟨_, rfl, ?_⟩
  rw [i3_01]
  refine ⟨fun z => ?_, fun z => (by rw [if_pos (p01 z)] at h; exact h)⟩
  rw [if_neg (n01 z)] at h
  refine s_isWord (ww := 23) hJ hT ht hr (by omega) (by omega) (by omega) (C := 10416334) (by decide +kernel) ⟨_, rfl, ?_⟩
  rw [i3_01]
  refine ⟨fun z => ?_, fun z => (by rw [if_pos (p01 z)] at h; exact h)⟩
  rw [if_neg (n01 z)] at h
  refine s_isWord (ww := 24) hJ hT ht hr (by omega) (by omega) (by omega) (C := 390787) (by decide +kernel) ⟨_, rfl, ?_⟩
  rw [i3_01]
  refine ⟨fun z => (by rw [if_neg (n01 z)] at h; exact h), fun z => (by rw [if_pos (p01 z)] at h; exact h)⟩
theorem CT_4 {r : Nat → Int} (hr : CT m T t) : CT (ms m 4 r) T t := CT_w hr (by omega)
theorem s_takeThief (hJ : JD g) (hT : TpOk T) (hB : ob0 B) (hn : n ≤ 4) (h0 : m B 1 = (n : Int)) (hf : ∀ i, i < n → m (B + 5) i = f i ∧ wR (f i)) (ht : TK T t) (hr : CT m T t) (he : ∀ e m', pNm T f n t = .inl e → Kf m m' e → Q (some (sh_i 0)) m') (h1 : ∀ q m', pNm T f n t = .inr q → TK T q.1 → Kc m m' → m' 4 2 = q.2 → CT m' T q.1 → Q (some (sh_i 1)) m') : sh_Cal g (d + 11) m_Read_takeThief [sh_r 4, sh_r B] m Q := by
  unfold pNm at he h1
  apply v_Read_takeThief hB
  refine s_isName (d := d) hJ hT ht hr (TK_k hT ht) ⟨_, rfl, ?_⟩
  rw [i3_01]
  refine ⟨fun z => ?_, fun z => ?_⟩
  · have nm := p01 z
    rw [if_pos nm] at he h1
    rw [hr.2.2.2.2.1 nm.1]
    have q1 := nmF_rng f (t_v t) n 0
    refine s_thiefNamed hB hn h0 (TK_v ht nm.1) hf ⟨_, rfl, fun m3 e3 => ?_⟩
    have v3 : m3 4 2 = nmF f (t_v t) n 0 := by rw [e3, ms_s, ru_s]
    have k3 : ∀ a, a ≠ 4 → m3 a = m a := fun a ha => by rw [e3, ms_n _ _ ha]
    have f3 : m3 4 1 = m 4 1 := by rw [e3, ms_s, ru_n _ _ (by decide)]
    have c3 : CT m3 T t := by rw [e3]; exact CT_4 hr
    rw [v3, i3s (x := nmF f (t_v t) n 0) (by omega) (by omega)]
    refine ⟨fun y => ?_, fun y => ?_⟩
    · rw [if_neg y] at h1
      exact s_stepK (d := d + 1) hJ hT ht c3 (fun m' k k4 c => ⟨rfl, h1 _ m' rfl (TK_n ht) ⟨fun a a1 a2 => (k.1 a a1 a2).trans (k3 a a2), k.2.1.trans (by rw [k3 2 (by decide)]), k.2.2.trans f3⟩ (by rw [k4]; exact v3) c⟩)
    · rw [if_pos y] at he
      exact s_refuseK c3 (fun m' k => ⟨_, rfl, Or.inl rfl, he _ m' rfl ⟨fun a a1 a2 => (k.1 a a1 a2).trans (k3 a a2), k.2.1.trans (by rw [k3 2 (by decide)]), k.2.2⟩⟩)
  · rw [if_neg (n01 z)] at he
    exact s_refuseK hr (fun m' k => ⟨_, rfl, Or.inl rfl, he _ m' rfl k⟩)
theorem s_takeDay (hJ : JD g) (hT : TpOk T) (hB : ob0 B) (hn : n ≤ 8) (h0 : m B 0 = (n : Int)) (hf : ∀ i, i < n → m (B + 1) i = f i ∧ wR (f i)) (ht : TK T t) (hr : CT m T t) (he : ∀ e m', pNm T f n t = .inl e → Kf m m' e → Q (some (sh_i 0)) m') (h1 : ∀ q m', pNm T f n t = .inr q → TK T q.1 → Kc m m' → m' 4 2 = q.2 → CT m' T q.1 → Q (some (sh_i 1)) m') : sh_Cal g (d + 11) m_Read_takeDay [sh_r 4, sh_r B] m Q := by
  unfold pNm at he h1
  apply v_Read_takeDay hB
  refine s_isName (d := d) hJ hT ht hr (TK_k hT ht) ⟨_, rfl, ?_⟩
  rw [i3_01]
  refine ⟨fun z => ?_, fun z => ?_⟩
  · have nm := p01 z
    rw [if_pos nm] at he h1
    rw [hr.2.2.2.2.1 nm.1]
    have q1 := nmF_rng f (t_v t) n 0
    refine s_dayNamed hB hn h0 (TK_v ht nm.1) hf ⟨_, rfl, fun m3 e3 => ?_⟩
    have v3 : m3 4 2 = nmF f (t_v t) n 0 := by rw [e3, ms_s, ru_s]
    have k3 : ∀ a, a ≠ 4 → m3 a = m a := fun a ha => by rw [e3, ms_n _ _ ha]
    have f3 : m3 4 1 = m 4 1 := by rw [e3, ms_s, ru_n _ _ (by decide)]
    have c3 : CT m3 T t := by rw [e3]; exact CT_4 hr
    rw [v3, i3s (x := nmF f (t_v t) n 0) (by omega) (by omega)]
    refine ⟨fun y => ?_, fun y => ?_⟩
    · rw [if_neg y] at h1
      exact s_stepK (d := d + 1) hJ hT ht c3 (fun m' k k4 c => ⟨rfl, h1 _ m' rfl (TK_n ht) ⟨fun a a1 a2 => (k.1 a a1 a2).trans (k3 a a2), k.2.1.trans (by rw [k3 2 (by decide)]), k.2.2.trans f3⟩ (by rw [k4]; exact v3) c⟩)
    · rw [if_pos y] at he
      exact s_refuseK c3 (fun m' k => ⟨_, rfl, Or.inl rfl, he _ m' rfl ⟨fun a a1 a2 => (k.1 a a1 a2).trans (k3 a a2), k.2.1.trans (by rw [k3 2 (by decide)]), k.2.2⟩⟩)
  · rw [if_neg (n01 z)] at he
    exact s_refuseK hr (fun m' k => ⟨_, rfl, Or.inl rfl, he _ m' rfl k⟩)
theorem s_takeOther {a : Int} (hJ : JD g) (hT : TpOk T) (hB : ob0 B) (hn : n ≤ 4) (ha : -1 ≤ a ∧ a ≤ 4) (h0 : m B 1 = (n : Int)) (hf : ∀ i, i < n → m (B + 5) i = f i ∧ wR (f i)) (ht : TK T t) (hr : CT m T t) (he : ∀ e m', pOth T f n a t = .inl e → Kf m m' e → Q (some (sh_i 0)) m') (h1 : ∀ q m', pOth T f n a t = .inr q → TK T q.1 → Kc m m' → m' 4 2 = q.2 → CT m' T q.1 → Q (some (sh_i 1)) m') : sh_Cal g (d + 12) m_Read_takeOtherThief [sh_r 4, sh_r B, sh_i a] m Q := by
  unfold pOth at he h1
  apply v_Read_takeOtherThief hB
  refine s_isName (d := d + 1) hJ hT ht hr (TK_k hT ht) ⟨_, rfl, ?_⟩
  rw [i3_01]
  have rest : ¬ (isNm t ∧ nmF f (t_v t) n 0 = a) → sh_Cal g (d + 11) m_Read_takeThief [sh_r 4, sh_r B] m (fun rv m2 => ∃ r2 : Int, rv = some (sh_i r2) ∧ ((r2 = 0 ∨ r2 = 1) ∧ Q (some (sh_i r2)) m2)) := by
    intro y
    rw [if_neg y] at he h1
    exact s_takeThief (d := d) hJ hT hB hn h0 hf ht hr (fun e m' q k => ⟨_, rfl, Or.inl rfl, he e m' q k⟩) (fun q m' q2 tk k v c => ⟨_, rfl, Or.inr rfl, h1 q m' q2 tk k v c⟩)
  refine ⟨fun z => rest (fun y => n01 z y.1), fun z => ?_⟩
  have nm := p01 z
  rw [hr.2.2.2.2.1 nm.1]
  have q1 := nmF_rng f (t_v t) n 0
  refine s_thiefNamed hB hn h0 (TK_v ht nm.1) hf ⟨_, rfl, ?_⟩
  rw [i3s (x := nmF f (t_v t) n 0) (by omega) (by omega), i3s (x := a) (by omega) (by omega)]
  refine ⟨fun y => rest (fun w => y w.2), fun y => ?_⟩
  rw [if_pos ⟨nm, y⟩] at he
  exact s_refuseK hr (fun m' k => ⟨_, rfl, Or.inl rfl, he _ m' rfl k⟩)
end YEA
