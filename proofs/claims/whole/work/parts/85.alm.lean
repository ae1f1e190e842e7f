/-! ===== an almanac: what is read, and the class's little steps ===== -/
def nmF (f : Nat → Int) (v : Int) : Nat → Nat → Int
  | 0, _ => -1
  | k + 1, i => if f i = v then (i : Int) else nmF f v k (i + 1)
theorem nmF_rng (f : Nat → Int) (v : Int) : ∀ k i, nmF f v k i = -1 ∨ ((i : Int) ≤ nmF f v k i ∧ nmF f v k i < ((i + k : Nat) : Int))
  | 0, _ => Or.inl rfl
  | k + 1, i => by
    rw [nmF]; split
    · right; omega
    · rcases nmF_rng f v k (i + 1) with h | h
      · exact Or.inl h
      · right; omega
theorem nmF_cong {f h : Nat → Int} {v : Int} : ∀ k i, (∀ j, i ≤ j → j < i + k → f j = h j) → nmF f v k i = nmF h v k i
  | 0, _, _ => rfl
  | k + 1, i, e => by rw [nmF, nmF, e i (by omega) (by omega), nmF_cong k (i + 1) (fun j h1 h2 => e j (by omega) (by omega))]
def kdT (t : Tok) : Int := if isW t 8740238 then 0 else if isW t 284068024 then 1 else if isW t 16922 then 2 else if isW t 3288323 then 3 else -1
theorem kdT_c (t : Tok) : -1 ≤ kdT t ∧ kdT t ≤ 3 := by unfold kdT; split; omega; split; omega; split; omega; split <;> omega
/-- a draft: days (name, kind, worth, guard), thieves (name, skill, sack), the law -/
abbrev Dr : Type := (Nat × (Nat → Int) × (Nat → Int) × (Nat → Int) × (Nat → Int)) × (Nat × (Nat → Int) × (Nat → Int) × (Nat → Int)) × Option (Tok × PS)
abbrev r_nd (x : Dr) : Nat := x.1.1
abbrev r_dn (x : Dr) : Nat → Int := x.1.2.1
abbrev r_ki (x : Dr) : Nat → Int := x.1.2.2.1
abbrev r_wo (x : Dr) : Nat → Int := x.1.2.2.2.1
abbrev r_gu (x : Dr) : Nat → Int := x.1.2.2.2.2
abbrev r_nt (x : Dr) : Nat := x.2.1.1
abbrev r_tn (x : Dr) : Nat → Int := x.2.1.2.1
abbrev r_sk (x : Dr) : Nat → Int := x.2.1.2.2.1
abbrev r_sa (x : Dr) : Nat → Int := x.2.1.2.2.2
abbrev r_lw (x : Dr) : Option (Tok × PS) := x.2.2
abbrev r_C (x : Dr) : List Int := match r_lw x with | none => [-1] | some q => q.2.2.1
abbrev ALR : Type := Int ⊕ (Tok × Dr)
abbrev TR : Type := Int ⊕ Tok
def pW (T : Tp) (c : Int) (t : Tok) : TR := if isW t c then .inr (nx T t) else .inl (flt 1 t)
def pN (T : Tp) (lo hi : Int) (t : Tok) : TR := if t_k t = 2 then (if lo ≤ t_v t ∧ t_v t ≤ hi then .inr (nx T t) else .inl (flt 4 t)) else .inl (flt 1 t)
def pSg (T : Tp) (c : Int) (t : Tok) : TR := if t_k t = c then .inr (nx T t) else .inl (flt 1 t)
def pNew (x : Dr) (t : Tok) : Option Int := if isNm t then (if nmF (r_dn x) (t_v t) (r_nd x) 0 = -1 ∧ nmF (r_tn x) (t_v t) (r_nt x) 0 = -1 then none else some (flt 3 t)) else some (flt 1 t)
def pDay (T : Tp) (x : Dr) (t : Tok) : ALR :=
  if r_nd x = 8 then .inl (flt 5 t) else match pNew x (nx T t) with
  | some f => .inl f
  | none => if kdT (nx T (nx T t)) = -1 then .inl (flt 1 (nx T (nx T t))) else match pW T 12532058 (nx T (nx T (nx T t))) with
    | .inl f => .inl f
    | .inr t4 => match pN T 1 24 t4 with
      | .inl f => .inl f
      | .inr t5 => match pW T 4134649 t5 with
        | .inl f => .inl f
        | .inr t6 => match pN T 0 9 t6 with
          | .inl f => .inl f
          | .inr t7 => match pSg T 59 t7 with
            | .inl f => .inl f
            | .inr t8 => .inr (t8, (r_nd x + 1, ru (r_dn x) (r_nd x) (t_v (nx T t)), ru (r_ki x) (r_nd x) (kdT (nx T (nx T t))), ru (r_wo x) (r_nd x) (t_v t4), ru (r_gu x) (r_nd x) (t_v t6)), x.2)
def pThief (T : Tp) (x : Dr) (t : Tok) : ALR :=
  if r_nt x = 4 then .inl (flt 5 t) else match pNew x (nx T t) with
  | some f => .inl f
  | none => match pW T 10320789 (nx T (nx T t)) with
    | .inl f => .inl f
    | .inr t4 => match pN T 0 9 t4 with
      | .inl f => .inl f
      | .inr t5 => match pW T 374798 t5 with
        | .inl f => .inl f
        | .inr t6 => match pN T 1 12 t6 with
          | .inl f => .inl f
          | .inr t7 => match pSg T 59 t7 with
            | .inl f => .inl f
            | .inr t8 => .inr (t8, x.1, (r_nt x + 1, ru (r_tn x) (r_nt x) (t_v (nx T t)), ru (r_sk x) (r_nt x) (t_v t4), ru (r_sa x) (r_nt x) (t_v t6)), r_lw x)
def pPays (T : Tp) (x : Dr) (t : Tok) : ALR := match r_lw x with
  | some _ => .inl (flt 3 t)
  | none => match pEx T (pP T 5) (nx T t) with
    | .inl f => .inl f
    | .inr r => match pSg T 59 r.1 with
      | .inl f => .inl f
      | .inr t2 => .inr (t2, x.1, x.2.1, some (nx T t, r))
def pLine (T : Tp) (x : Dr) (t : Tok) : ALR := if isW t 2968 then pDay T x t else if isW t 10792986 then pThief T x t else if isW t 316351 then pPays T x t else .inl (flt 1 t)
def pAll (T : Tp) : Nat → Tok → Dr → Int ⊕ Dr
  | 0, _, x => .inr x
  | k + 1, t, x => if t_k t = 3 then .inr x else match pLine T x t with
    | .inl f => .inl f
    | .inr q => pAll T k q.1 q.2
abbrev dr0 : Dr := ((0, fun _ => 0, fun _ => 0, fun _ => 0, fun _ => 0), (0, fun _ => 0, fun _ => 0, fun _ => 0), none)
def pAlm (T : Tp) : Int ⊕ Dr := pAll T 1000 (tok T 0) dr0
/-! the class's little steps: cells 2 and 4 alone -/
def Kc (m m' : sh_Mem) : Prop := (∀ a, a ≠ 2 → a ≠ 4 → m' a = m a) ∧ m' 2 1 = m 2 1 ∧ m' 4 1 = m 4 1
def Kf (m m' : sh_Mem) (f : Int) : Prop := (∀ a, a ≠ 2 → a ≠ 4 → m' a = m a) ∧ m' 2 1 = m 2 1 ∧ m' 4 1 = f
section ALM
variable {g : sh_G} {d : Nat} {T : Tp} {t : Tok} {m : sh_Mem} {Q : Option sh_V → sh_Mem → Prop}
theorem s_stepK (hJ : JD g) (hT : TpOk T) (ht : TK T t) (hr : CT m T t) (h : ∀ m', Kc m m' → m' 4 = m 4 → CT m' T (nx T t) → Q none m') : sh_Cal g (d + 9) m_Tape_step [sh_r 2] m Q :=
  s_step hJ hT hr (TK_q ht).2.1 (fun m' hk hc => h m' ⟨fun a a1 _ => hk.1 a a1, hk.2, by rw [hk.1 4 (by decide)]⟩ (hk.1 4 (by decide)) hc)
theorem s_refuseK {k : Int} (hr : CT m T t) (h : ∀ m', Kf m m' (flt k t) → Q (some (sh_i 0)) m') : sh_Cal g d m_Read_refuse [sh_r 4, sh_i k] m Q := by
  apply v_Read_refuse
  intro m1 e
  subst e
  refine h _ ⟨fun a _ a2 => by rw [ms_n _ _ a2], by rw [ms_n _ _ (by decide)], ?_⟩
  rw [ms_s, ru_s, hr.2.1]
theorem s_takeSignK {c : Int} (hJ : JD g) (hT : TpOk T) (ht : TK T t) (hr : CT m T t) (hc : -1000000 ≤ c ∧ c ≤ 1000000) (hf : ∀ f m', pSg T c t = .inl f → Kf m m' f → Q (some (sh_i 0)) m') (h1 : ∀ t' m', pSg T c t = .inr t' → TK T t' → Kc m m' → CT m' T t' → Q (some (sh_i 1)) m') : sh_Cal g (d + 10) m_Read_takeSign [sh_r 4, sh_i c] m Q := by
  have k6 := TK_k hT ht
  unfold pSg at hf h1
  apply v_Read_takeSign
  rw [hr.2.2.2.1, i3s k6.1 k6.2, i3s hc.1 hc.2]
  refine ⟨fun z => ?_, fun z => ?_⟩
  · rw [if_pos z] at h1
    exact s_stepK hJ hT ht hr (fun m' k _ c => ⟨rfl, h1 _ m' rfl (TK_n ht) k c⟩)
  · rw [if_neg z] at hf
    exact s_refuseK hr (fun m' k => ⟨_, rfl, Or.inl rfl, hf _ m' rfl k⟩)
theorem s_withinK {x lo hi : Int} (hx : -1000000 ≤ x ∧ x ≤ 1000000) (hlo : -1000000 ≤ lo ∧ lo ≤ 1000000) (hhi : -1000000 ≤ hi ∧ hi ≤ 1000000) (h1 : lo ≤ x ∧ x ≤ hi → Q (some (sh_i 1)) m) (h0 : ¬ (lo ≤ x ∧ x ≤ hi) → Q (some (sh_i 0)) m) : sh_Cal g d m_Sto_isWithin [sh_i x, sh_i lo, sh_i hi] m Q := by
  apply v_Sto_isWithin
  rw [i3s hx.1 hx.2, i3s hlo.1 hlo.2, i3s hhi.1 hhi.2]
  exact ⟨fun y => h0 (by omega), fun y => ⟨fun y2 => h0 (by omega), fun y2 => h1 (by omega)⟩⟩
/-- a reserved word, and a number behind it -/
theorem s_takeKN {kk c lo hi : Int} (hJ : JD g) (hT : TpOk T) (ht : TK T t) (hr : CT m T t) (hk : kyT t = kk ↔ isW t c) (hkk : -1000 ≤ kk ∧ kk ≤ 1000) (hlo : -1000 ≤ lo ∧ lo ≤ 1000) (hhi : -1000 ≤ hi ∧ hi ≤ 1000)
    (hf1 : ∀ f m', pW T c t = .inl f → Kf m m' f → Q (some (sh_i 0)) m') (hf2 : ∀ f t4 m', pW T c t = .inr t4 → pN T lo hi t4 = .inl f → Kf m m' f → Q (some (sh_i 0)) m')
    (h1 : ∀ t4 t' m', pW T c t = .inr t4 → pN T lo hi t4 = .inr t' → TK T t' → (lo ≤ t_v t4 ∧ t_v t4 ≤ hi) → Kc m m' → m' 4 2 = t_v t4 → CT m' T t' → Q (some (sh_i 1)) m') : sh_Cal g (d + 10) m_Read_takeNumber [sh_r 4, sh_i kk, sh_i lo, sh_i hi] m Q := by
  unfold pW at hf1 hf2 h1
  apply v_Read_takeNumber
  rw [CT_ky hr, i3s (x := kk) (by omega) (by omega)]
  refine ⟨fun z => ?_, fun z => ?_⟩
  · rw [if_pos (hk.mp z)] at hf2 h1
    have tk1 := TK_n ht
    have k6 := TK_k hT tk1
    refine s_stepK hJ hT ht hr (fun m1 k1 k14 c1 => ⟨rfl, ?_⟩)
    rw [c1.2.2.2.1, i3s k6.1 k6.2]
    have cf : ∀ (m' : sh_Mem) (f : Int), Kf m1 m' f → Kf m m' f := fun m' f q => ⟨fun a a1 a2 => (q.1 a a1 a2).trans (k1.1 a a1 a2), q.2.1.trans k1.2.1, q.2.2⟩
    refine ⟨fun z2 => ?_, fun z2 => ?_⟩
    · have v4 := TK_n4 hT tk1 z2
      have e6 := c1.2.2.2.2.2.1 z2
      rw [e6]
      refine s_withinK (by omega) (by omega) (by omega) (fun y => ⟨1, rfl, fun _ m3 e3 => ?_, fun z => absurd z (by decide)⟩) (fun y => ⟨0, rfl, fun z => absurd rfl z, fun _ => ?_⟩)
      · have c3 : CT m3 T (nx T t) := by rw [e3]; unfold CT; rw [ms_n _ _ (by decide), ms_n _ _ (by decide)]; exact c1
        refine s_stepK hJ hT tk1 c3 (fun m' k k4 c => ⟨rfl, h1 (nx T t) (nx T (nx T t)) m' rfl ?_ (TK_n tk1) y ⟨fun a a1 a2 => (k.1 a a1 a2).trans ?_, k.2.1.trans ?_, k.2.2.trans ?_⟩ ?_ c⟩)
        · unfold pN; rw [if_pos z2, if_pos y]
        · rw [e3, ms_n _ _ a2]; exact k1.1 a a1 a2
        · rw [e3, ms_n _ _ (by decide)]; exact k1.2.1
        · rw [e3, ms_s, ru_n _ _ (by decide)]; exact k1.2.2
        · rw [k4, e3, ms_s, ru_s, e6]
      · exact s_refuseK c1 (fun m' k => ⟨_, rfl, Or.inl rfl, hf2 _ _ m' rfl (by unfold pN; rw [if_pos z2, if_neg y]) (cf m' _ k)⟩)
    · exact s_refuseK c1 (fun m' k => ⟨_, rfl, Or.inl rfl, hf2 _ _ m' rfl (by unfold pN; rw [if_neg z2]) (cf m' _ k)⟩)
  · rw [if_neg (fun y => z (hk.mpr y))] at hf1
    exact s_refuseK hr (fun m' k => ⟨_, rfl, Or.inl rfl, hf1 _ m' rfl k⟩)
theorem kd_ky (t : Tok) : (0 ≤ kyT t - 12 ∧ kyT t - 12 ≤ 3 → kdT t = kyT t - 12) ∧ (¬ (0 ≤ kyT t - 12 ∧ kyT t - 12 ≤ 3) → kdT t = -1) := by
  have f0 := ky_i (t := t) 12 (C := 8740238) rfl (by decide)
  have f1 := ky_i (t := t) 13 (C := 284068024) rfl (by decide)
  have f2 := ky_i (t := t) 14 (C := 16922) rfl (by decide)
  have f3 := ky_i (t := t) 15 (C := 3288323) rfl (by decide)
  unfold kdT
  split
  · rename_i h; have := f0.mpr h; exact ⟨fun _ => by omega, fun _ => by omega⟩
  · rename_i h0
    split
    · rename_i h; have := f1.mpr h; exact ⟨fun _ => by omega, fun _ => by omega⟩
    · rename_i h1
      split
      · rename_i h; have := f2.mpr h; exact ⟨fun _ => by omega, fun _ => by omega⟩
      · rename_i h2
        split
        · rename_i h; have := f3.mpr h; exact ⟨fun _ => by omega, fun _ => by omega⟩
        · rename_i h3
          have a0 : ¬ kyT t = 12 := fun z => h0 (f0.mp z)
          have a1 : ¬ kyT t = 13 := fun z => h1 (f1.mp z)
          have a2 : ¬ kyT t = 14 := fun z => h2 (f2.mp z)
          have a3 : ¬ kyT t = 15 := fun z => h3 (f3.mp z)
          exact ⟨fun _ => by omega, fun _ => rfl⟩
theorem l_dayNamed {B n : Nat} {v : Int} {f : Nat → Int} (hB : ob0 B) (hn : n ≤ 8) (h0 : m B 0 = (n : Int)) (hv : wR v) (hf : ∀ i, i < n → m (B + 1) i = f i ∧ wR (f i)) : ∀ (k x : Nat), x + k = n → Q (some (sh_i (nmF f v k x))) m →
    sh_X g d m_Alm_dayNamed 2 [(0, sh_r B), (1, sh_l v), (3, sh_i (x : Int))] [] m (sh_K m_Alm_dayNamed Q)
  | 0, x, hx, h => by
    apply v_Alm_dayNamed_2 hB
    rw [h0, i3n (x := n) (by omega), i3n (x := x) (by omega)]
    exact ⟨fun _ => h, fun z => by omega⟩
  | k + 1, x, hx, h => by
    rw [nmF] at h
    apply v_Alm_dayNamed_2 hB
    rw [h0, i3n (x := n) (by omega), i3n (x := x) (by omega), (hf x (by omega)).1, l_cmpW (hf x (by omega)).2 hv]
    refine ⟨fun z => by omega, fun _ => ⟨by omega, fun z => ?_, fun z => ?_⟩⟩
    · rw [if_neg z] at h; exact l_dayNamed hB hn h0 hv hf k (x + 1) (by omega) h
    · rw [if_pos z] at h; exact h
theorem s_dayNamed {B n : Nat} {v : Int} {f : Nat → Int} (hB : ob0 B) (hn : n ≤ 8) (h0 : m B 0 = (n : Int)) (hv : wR v) (hf : ∀ i, i < n → m (B + 1) i = f i ∧ wR (f i)) (h : Q (some (sh_i (nmF f v n 0))) m) : sh_Cal g d m_Alm_dayNamed [sh_r B, sh_l v] m Q := by
  apply v_Alm_dayNamed hB
  exact l_dayNamed hB hn h0 hv hf n 0 (by omega) h
theorem l_thiefNamed {B n : Nat} {v : Int} {f : Nat → Int} (hB : ob0 B) (hn : n ≤ 4) (h0 : m B 1 = (n : Int)) (hv : wR v) (hf : ∀ i, i < n → m (B + 5) i = f i ∧ wR (f i)) : ∀ (k x : Nat), x + k = n → Q (some (sh_i (nmF f v k x))) m →
    sh_X g d m_Alm_thiefNamed 2 [(0, sh_r B), (1, sh_l v), (3, sh_i (x : Int))] [] m (sh_K m_Alm_thiefNamed Q)
  | 0, x, hx, h => by
    apply v_Alm_thiefNamed_2 hB
    rw [h0, i3n (x := n) (by omega), i3n (x := x) (by omega)]
    exact ⟨fun _ => h, fun z => by omega⟩
  | k + 1, x, hx, h => by
    rw [nmF] at h
    apply v_Alm_thiefNamed_2 hB
    rw [h0, i3n (x := n) (by omega), i3n (x := x) (by omega), (hf x (by omega)).1, l_cmpW (hf x (by omega)).2 hv]
    refine ⟨fun z => by omega, fun _ => ⟨by omega, fun z => ?_, fun z => ?_⟩⟩
    · rw [if_neg z] at h; exact l_thiefNamed hB hn h0 hv hf k (x + 1) (by omega) h
    · rw [if_pos z] at h; exact h
theorem s_thiefNamed {B n : Nat} {v : Int} {f : Nat → Int} (hB : ob0 B) (hn : n ≤ 4) (h0 : m B 1 = (n : Int)) (hv : wR v) (hf : ∀ i, i < n → m (B + 5) i = f i ∧ wR (f i)) (h : Q (some (sh_i (nmF f v n 0))) m) : sh_Cal g d m_Alm_thiefNamed [sh_r B, sh_l v] m Q := by
  apply v_Alm_thiefNamed hB
  exact l_thiefNamed hB hn h0 hv hf n 0 (by omega) h
/-- the names of a draft -/
def CNm (m : sh_Mem) (B : Nat) (x : Dr) : Prop := (r_nd x ≤ 8 ∧ r_nt x ≤ 4) ∧ m B 0 = (r_nd x : Int) ∧ m B 1 = (r_nt x : Int) ∧ (∀ i, i < r_nd x → m (B + 1) i = r_dn x i ∧ wR (r_dn x i)) ∧ ∀ i, i < r_nt x → m (B + 5) i = r_tn x i ∧ wR (r_tn x i)
theorem s_isNewName {B : Nat} {x : Dr} (hJ : JD g) (hT : TpOk T) (hB : ob0 B) (hN : CNm m B x) (ht : TK T t) (hr : CT m T t) (hf : ∀ f m', pNew x t = some f → Kf m m' f → Q (some (sh_i 0)) m') (h1 : pNew x t = none → t_k t = 1 → Q (some (sh_i 1)) m) : sh_Cal g (d + 11) m_Read_isNewName [sh_r 4, sh_r B] m Q := by
  obtain ⟨⟨n1, n2⟩, n3, n4, n5, n6⟩ := hN
  unfold pNew at hf h1
  apply v_Read_isNewName hB
  refine s_isName (d := d) hJ hT ht hr (TK_k hT ht) ⟨_, rfl, ?_⟩
  rw [i3_01]
  refine ⟨fun z => ?_, fun z => ?_⟩
  · have nm := p01 z
    rw [if_pos nm] at hf h1
    have hv := TK_v ht nm.1
    rw [hr.2.2.2.2.1 nm.1]
    have q1 := nmF_rng (r_dn x) (t_v t) (r_nd x) 0
    have q2 := nmF_rng (r_tn x) (t_v t) (r_nt x) 0
    refine s_dayNamed hB n1 n3 hv n5 ⟨_, rfl, ?_⟩
    rw [i3s (x := nmF (r_dn x) (t_v t) (r_nd x) 0) (by omega) (by omega)]
    refine ⟨fun y => ?_, fun y => ?_⟩
    · rw [if_neg (fun w => y w.1)] at hf
      exact s_refuseK hr (fun m' k => ⟨_, rfl, fun _ => hf _ m' rfl k, fun z => absurd rfl z⟩)
    · rw [hr.2.2.2.2.1 nm.1]
      refine s_thiefNamed hB n2 n4 hv n6 ⟨_, rfl, ?_⟩
      rw [i3s (x := nmF (r_tn x) (t_v t) (r_nt x) 0) (by omega) (by omega)]
      refine ⟨fun y2 => ?_, fun y2 => ?_⟩
      · rw [if_pos ⟨y, y2⟩] at h1; exact h1 rfl nm.1
      · rw [if_neg (fun w => y2 w.2)] at hf
        exact s_refuseK hr (fun m' k => ⟨_, rfl, fun _ => hf _ m' rfl k, fun z => absurd rfl z⟩)
  · rw [if_neg (n01 z)] at hf
    exact s_refuseK hr (fun m' k => ⟨_, rfl, Or.inl rfl, hf _ m' rfl k⟩)
end ALM
