/-! ===== a year: what is read, and the class's little steps ===== -/
def doT (t : Tok) : Int := if isW t 7622660 then 0 else if isW t 10494723 then 1 else if isW t 377958 then 2 else if isW t 10416334 then 3 else if isW t 390787 then 4 else -1
theorem doT_c (t : Tok) : -1 ≤ doT t ∧ doT t ≤ 4 := by unfold doT; split; omega; split; omega; split; omega; split; omega; split <;> omega
abbrev NR : Type := Int ⊕ (Tok × Int)
/-- a name that is told: the token behind it, its number -/
def pNm (T : Tp) (f : Nat → Int) (n : Nat) (t : Tok) : NR := if isNm t then (if nmF f (t_v t) n 0 = -1 then .inl (flt 2 t) else .inr (nx T t, nmF f (t_v t) n 0)) else .inl (flt 1 t)
def pOth (T : Tp) (f : Nat → Int) (n : Nat) (a : Int) (t : Tok) : NR := if isNm t ∧ nmF f (t_v t) n 0 = a then .inl (flt 3 t) else pNm T f n t
section YEA
variable {g : sh_G} {d B n : Nat} {T : Tp} {t : Tok} {m : sh_Mem} {f : Nat → Int} {Q : Option sh_V → sh_Mem → Prop}
theorem do_ky (t : Tok) : (0 ≤ kyT t - 7 ∧ kyT t - 7 ≤ 4 → doT t = kyT t - 7) ∧ (¬ (0 ≤ kyT t - 7 ∧ kyT t - 7 ≤ 4) → doT t = -1) := by
  have f0 := ky_i (t := t) 7 (C := 7622660) rfl (by decide)
  have f1 := ky_i (t := t) 8 (C := 10494723) rfl (by decide)
  have f2 := ky_i (t := t) 9 (C := 377958) rfl (by decide)
  have f3 := ky_i (t := t) 10 (C := 10416334) rfl (by decide)
  have f4 := ky_i (t := t) 11 (C := 390787) rfl (by decide)
  unfold doT
  split
  · rename_i h; have := f0.mpr h; exact ⟨fun _ => by omega, fun _ => by omega⟩
  · rename_i h0
    split
    · rename_i h; have := f1.mpr h; exact ⟨fun _ => by omega, fun _ => by omega⟩
    · rename_i h1
      split
      · rename_i h; have := f2.mpr h; exact ⟨fun _ => by omega, fun _ => by omega⟩
      · rename_i h2
        split
        · rename_i h; have := f3.mpr h; exact ⟨fun _ => by omega, fun _ => by omega⟩
        · rename_i h3
          split
          · rename_i h; have := f4.mpr h; exact ⟨fun _ => by omega, fun _ => by omega⟩
          · rename_i h4
            have a0 : ¬ kyT t = 7 := fun z => h0 (f0.mp z)
            have a1 : ¬ kyT t = 8 := fun z => h1 (f1.mp z)
            have a2 : ¬ kyT t = 9 := fun z => h2 (f2.mp z)
            have a3 : ¬ kyT t = 10 := fun z => h3 (f3.mp z)
            have a4 : ¬ kyT t = 11 := fun z => h4 (f4.mp z)
            exact ⟨fun _ => by omega, fun _ => rfl⟩
theorem CT_4 {r : Nat → Int} (hr : CT m T t) : CT (ms m 4 r) T t := CT_w hr (by omega)
theorem s_takeThiefA {a : Int} (hJ : JD g) (hT : TpOk T) (hB : ob0 B) (hn : n ≤ 4) (har : -1 ≤ a ∧ a ≤ 4) (h0 : m B 1 = (n : Int)) (hf : ∀ i, i < n → m (B + 5) i = f i ∧ wR (f i)) (ht : TK T t) (hr : CT m T t) (he : ∀ e m', pNm T f n t = .inl e → Kf m m' e → Q (some (sh_i 0)) m') (ha : ∀ q m', pNm T f n t = .inr q → q.2 = a → Kf m m' (flt 3 t) → Q (some (sh_i 0)) m') (h1 : ∀ q m', pNm T f n t = .inr q → ¬ q.2 = a → TK T q.1 → Kc m m' → m' 4 2 = q.2 → CT m' T q.1 → Q (some (sh_i 1)) m') : sh_Cal g (d + 11) m_Read_takeThief [sh_r 4, sh_r B, sh_i a] m Q := by
  unfold pNm at he ha h1
  apply v_Read_takeThief hB
  refine s_isName (d := d) hJ hT ht hr (TK_k hT ht) ⟨_, rfl, ?_⟩
  rw [i3_01]
  refine ⟨fun z => ?_, fun z => ?_⟩
  · have nm := p01 z
    rw [if_pos nm] at he ha h1
    rw [hr.2.2.2.2.1 nm.1]
    have q1 := nmF_rng f (t_v t) n 0
    refine s_thiefNamed hB hn h0 (TK_v ht nm.1) hf ⟨_, rfl, fun m3 e3 => ?_⟩
    have v3 : m3 4 2 = nmF f (t_v t) n 0 := by rw [e3, ms_s, ru_s]
    have k3 : ∀ a, a ≠ 4 → m3 a = m a := fun a ha => by rw [e3, ms_n _ _ ha]
    have f3 : m3 4 1 = m 4 1 := by rw [e3, ms_s, ru_n _ _ (by decide)]
    have c3 : CT m3 T t := by rw [e3]; exact CT_4 hr
    have cf : ∀ (m' : sh_Mem) (e : Int), Kf m3 m' e → Kf m m' e := fun m' e k => ⟨fun a a1 a2 => (k.1 a a1 a2).trans (k3 a a2), k.2.1.trans (by rw [k3 2 (by decide)]), k.2.2⟩
    rw [v3, i3s (x := nmF f (t_v t) n 0) (by omega) (by omega), i3s (x := a) (by omega) (by omega)]
    refine ⟨fun y => ⟨fun y2 => ?_, fun y2 => ?_⟩, fun y => ?_⟩
    · rw [if_neg y] at h1
      exact s_stepK (d := d + 1) hJ hT ht c3 (fun m' k k4 c => ⟨rfl, h1 _ m' rfl y2 (TK_n ht) ⟨fun a a1 a2 => (k.1 a a1 a2).trans (k3 a a2), k.2.1.trans (by rw [k3 2 (by decide)]), k.2.2.trans f3⟩ (by rw [k4]; exact v3) c⟩)
    · rw [if_neg y] at ha
      exact s_refuseK c3 (fun m' k => ⟨_, rfl, Or.inl rfl, ha _ m' rfl y2 (cf m' _ k)⟩)
    · rw [if_pos y] at he
      exact s_refuseK c3 (fun m' k => ⟨_, rfl, Or.inl rfl, he _ m' rfl (cf m' _ k)⟩)
  · rw [if_neg (n01 z)] at he
    exact s_refuseK hr (fun m' k => ⟨_, rfl, Or.inl rfl, he _ m' rfl k⟩)
theorem pNm_0 {q : Tok × Int} (h : pNm T f n t = .inr q) : 0 ≤ q.2 ∧ q.2 < (n : Int) ∧ isNm t ∧ q.2 = nmF f (t_v t) n 0 := by
  unfold pNm at h
  split at h
  · rename_i nm
    split at h
    · cases h
    · rename_i y
      cases h
      have q1 := nmF_rng f (t_v t) n 0
      refine ⟨?_, ?_, nm, rfl⟩
      · show 0 ≤ nmF f (t_v t) n 0; omega
      · show nmF f (t_v t) n 0 < (n : Int); omega
  · cases h
theorem s_takeThief (hJ : JD g) (hT : TpOk T) (hB : ob0 B) (hn : n ≤ 4) (h0 : m B 1 = (n : Int)) (hf : ∀ i, i < n → m (B + 5) i = f i ∧ wR (f i)) (ht : TK T t) (hr : CT m T t) (he : ∀ e m', pNm T f n t = .inl e → Kf m m' e → Q (some (sh_i 0)) m') (h1 : ∀ q m', pNm T f n t = .inr q → TK T q.1 → Kc m m' → m' 4 2 = q.2 → CT m' T q.1 → Q (some (sh_i 1)) m') : sh_Cal g (d + 11) m_Read_takeThief [sh_r 4, sh_r B, sh_i (-1)] m Q :=
  s_takeThiefA hJ hT hB hn (by omega) h0 hf ht hr he (fun q m' e y _ => by have := (pNm_0 e).1; omega) (fun q m' e _ tk k v c => h1 q m' e tk k v c)
theorem s_takeDay (hJ : JD g) (hT : TpOk T) (hB : ob0 B) (hn : n ≤ 8) (h0 : m B 0 = (n : Int)) (hf : ∀ i, i < n → m (B + 1) i = f i ∧ wR (f i)) (ht : TK T t) (hr : CT m T t) (he : ∀ e m', pNm T f n t = .inl e → Kf m m' e → Q (some (sh_i 0)) m') (h1 : ∀ q m', pNm T f n t = .inr q → TK T q.1 → Kc m m' → m' 4 2 = q.2 → CT m' T q.1 → Q (some (sh_i 1)) m') : sh_Cal g (d + 11) m_Read_takeDay [sh_r 4, sh_r B] m Q := by
  unfold pNm at he h1
  apply v_Read_takeDay hB
  refine s_isName (d := d) hJ hT ht hr (TK_k hT ht) ⟨_, rfl, ?_⟩
  rw [i3_01]
  refine ⟨fun z => ?_, fun z => ?_⟩
  · have nm := p01 z
    rw [if_pos nm] at he h1
    rw [hr.2.2.2.2.1 nm.1]
    have q1 := nmF_rng f (t_v t) n 0
    refine s_dayNamed hB hn h0 (TK_v ht nm.1) hf ⟨_, rfl, fun m3 e3 => ?_⟩
    have v3 : m3 4 2 = nmF f (t_v t) n 0 := by rw [e3, ms_s, ru_s]
    have k3 : ∀ a, a ≠ 4 → m3 a = m a := fun a ha => by rw [e3, ms_n _ _ ha]
    have f3 : m3 4 1 = m 4 1 := by rw [e3, ms_s, ru_n _ _ (by decide)]
    have c3 : CT m3 T t := by rw [e3]; exact CT_4 hr
    rw [v3, i3s (x := nmF f (t_v t) n 0) (by omega) (by omega)]
    refine ⟨fun y => ?_, fun y => ?_⟩
    · rw [if_neg y] at h1
      exact s_stepK (d := d + 1) hJ hT ht c3 (fun m' k k4 c => ⟨rfl, h1 _ m' rfl (TK_n ht) ⟨fun a a1 a2 => (k.1 a a1 a2).trans (k3 a a2), k.2.1.trans (by rw [k3 2 (by decide)]), k.2.2.trans f3⟩ (by rw [k4]; exact v3) c⟩)
    · rw [if_pos y] at he
      exact s_refuseK c3 (fun m' k => ⟨_, rfl, Or.inl rfl, he _ m' rfl ⟨fun a a1 a2 => (k.1 a a1 a2).trans (k3 a a2), k.2.1.trans (by rw [k3 2 (by decide)]), k.2.2⟩⟩)
  · rw [if_neg (n01 z)] at he
    exact s_refuseK hr (fun m' k => ⟨_, rfl, Or.inl rfl, he _ m' rfl k⟩)
theorem s_takeOther {a : Int} (hJ : JD g) (hT : TpOk T) (hB : ob0 B) (hn : n ≤ 4) (ha : 0 ≤ a ∧ a ≤ 4) (h0 : m B 1 = (n : Int)) (hf : ∀ i, i < n → m (B + 5) i = f i ∧ wR (f i)) (ht : TK T t) (hr : CT m T t) (he : ∀ e m', pOth T f n a t = .inl e → Kf m m' e → Q (some (sh_i 0)) m') (h1 : ∀ q m', pOth T f n a t = .inr q → TK T q.1 → Kc m m' → m' 4 2 = q.2 → CT m' T q.1 → Q (some (sh_i 1)) m') : sh_Cal g (d + 11) m_Read_takeThief [sh_r 4, sh_r B, sh_i a] m Q := by
  refine s_takeThiefA hJ hT hB hn (by omega) h0 hf ht hr (fun e m' q k => he e m' ?_ k) (fun q m' e y k => he _ m' ?_ k) (fun q m' e y tk k v c => h1 q m' ?_ tk k v c)
  · unfold pOth
    rw [if_neg (fun w => ?_)]
    · exact q
    · unfold pNm at q
      rw [if_pos w.1, if_neg (by have := w.2; omega)] at q
      cases q
  · obtain ⟨_, _, nm, e2⟩ := pNm_0 e
    unfold pOth
    rw [if_pos ⟨nm, by rw [← e2]; exact y⟩]
  · obtain ⟨_, _, nm, e2⟩ := pNm_0 e
    unfold pOth
    rw [if_neg (fun w => y (by rw [e2]; exact w.2))]
    exact e
end YEA
