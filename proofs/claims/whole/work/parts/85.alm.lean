/-! ===== an almanac: what is read, and the class's little steps ===== -/
def nmF (f : Nat → Int) (v : Int) : Nat → Nat → Int
  | 0, _ => -1
  | k + 1, i => if f i = v then (i : Int) else nmF f v k (i + 1)
theorem nmF_rng (f : Nat → Int) (v : Int) : ∀ k i, nmF f v k i = -1 ∨ ((i : Int) ≤ nmF f v k i ∧ nmF f v k i < ((i + k : Nat) : Int))
  | 0, _ => Or.inl rfl
  | k + 1, i => by
    rw [nmF]; split
    · right; omega
    · rcases nmF_rng f v k (i + 1) with h | h
      · exact Or.inl h
      · right; omega
theorem nmF_cong {f h : Nat → Int} {v : Int} : ∀ k i, (∀ j, i ≤ j → j < i + k → f j = h j) → nmF f v k i = nmF h v k i
  | 0, _, _ => rfl
  | k + 1, i, e => by rw [nmF, nmF, e i (by omega) (by omega), nmF_cong k (i + 1) (fun j h1 h2 => e j (by omega) (by omega))]
def kdT (t : Tok) : Int := if isW t 8740238 then 0 else if isW t 284068024 then 1 else if isW t 16922 then 2 else if isW t 3288323 then 3 else -1
theorem kdT_c (t : Tok) : -1 ≤ kdT t ∧ kdT t ≤ 3 := by unfold kdT; split; omega; split; omega; split; omega; split <;> omega
/-- a draft: days (name, kind, worth, guard), thieves (name, skill, sack), the law -/
abbrev Dr : Type := (Nat × (Nat → Int) × (Nat → Int) × (Nat → Int) × (Nat → Int)) × (Nat × (Nat → Int) × (Nat → Int) × (Nat → Int)) × Option (Tok × PS)
abbrev r_nd (x : Dr) : Nat := x.1.1
abbrev r_dn (x : Dr) : Nat → Int := x.1.2.1
abbrev r_ki (x : Dr) : Nat → Int := x.1.2.2.1
abbrev r_wo (x : Dr) : Nat → Int := x.1.2.2.2.1
abbrev r_gu (x : Dr) : Nat → Int := x.1.2.2.2.2
abbrev r_nt (x : Dr) : Nat := x.2.1.1
abbrev r_tn (x : Dr) : Nat → Int := x.2.1.2.1
abbrev r_sk (x : Dr) : Nat → Int := x.2.1.2.2.1
abbrev r_sa (x : Dr) : Nat → Int := x.2.1.2.2.2
abbrev r_lw (x : Dr) : Option (Tok × PS) := x.2.2
abbrev r_C (x : Dr) : List Int := match r_lw x with | none => [-1] | some q => q.2.2.1
abbrev ALR : Type := Int ⊕ (Tok × Dr)
abbrev TR : Type := Int ⊕ Tok
def pW (T : Tp) (c : Int) (t : Tok) : TR := if isW t c then .inr (nx T t) else .inl (flt 1 t)
def pN (T : Tp) (lo hi : Int) (t : Tok) : TR := if t_k t = 2 then (if lo ≤ t_v t ∧ t_v t ≤ hi then .inr (nx T t) else .inl (flt 4 t)) else .inl (flt 1 t)
def pSg (T : Tp) (c : Int) (t : Tok) : TR := if t_k t = c then .inr (nx T t) else .inl (flt 1 t)
def pNew (x : Dr) (t : Tok) : Option Int := if isNm t then (if nmF (r_dn x) (t_v t) (r_nd x) 0 = -1 ∧ nmF (r_tn x) (t_v t) (r_nt x) 0 = -1 then none else some (flt 3 t)) else some (flt 1 t)
def pDay (T : Tp) (x : Dr) (t : Tok) : ALR :=
  if r_nd x = 8 then .inl (flt 5 t) else match pNew x (nx T t) with
  | some f => .inl f
  | none => if kdT (nx T (nx T t)) = -1 then .inl (flt 1 (nx T (nx T t))) else match pW T 12532058 (nx T (nx T (nx T t))) with
    | .inl f => .inl f
    | .inr t4 => match pN T 1 24 t4 with
      | .inl f => .inl f
      | .inr t5 => match pW T 4134649 t5 with
        | .inl f => .inl f
        | .inr t6 => match pN T 0 9 t6 with
          | .inl f => .inl f
          | .inr t7 => match pSg T 59 t7 with
            | .inl f => .inl f
            | .inr t8 => .inr (t8, (r_nd x + 1, ru (r_dn x) (r_nd x) (t_v (nx T t)), ru (r_ki x) (r_nd x) (kdT (nx T (nx T t))), ru (r_wo x) (r_nd x) (t_v t4), ru (r_gu x) (r_nd x) (t_v t6)), x.2)
def pThief (T : Tp) (x : Dr) (t : Tok) : ALR :=
  if r_nt x = 4 then .inl (flt 5 t) else match pNew x (nx T t) with
  | some f => .inl f
  | none => match pW T 10320789 (nx T (nx T t)) with
    | .inl f => .inl f
    | .inr t4 => match pN T 0 9 t4 with
      | .inl f => .inl f
      | .inr t5 => match pW T 374798 t5 with
        | .inl f => .inl f
        | .inr t6 => match pN T 1 12 t6 with
          | .inl f => .inl f
          | .inr t7 => match pSg T 59 t7 with
            | .inl f => .inl f
            | .inr t8 => .inr (t8, x.1, (r_nt x + 1, ru (r_tn x) (r_nt x) (t_v (nx T t)), ru (r_sk x) (r_nt x) (t_v t4), ru (r_sa x) (r_nt x) (t_v t6)), r_lw x)
def pPays (T : Tp) (x : Dr) (t : Tok) : ALR := match r_lw x with
  | some _ => .inl (flt 3 t)
  | none => match pEx T (pP T 5) (nx T t) with
    | .inl f => .inl f
    | .inr r => match pSg T 59 r.1 with
      | .inl f => .inl f
      | .inr t2 => .inr (t2, x.1, x.2.1, some (nx T t, r))
def pLine (T : Tp) (x : Dr) (t : Tok) : ALR := if isW t 2968 then pDay T x t else if isW t 10792986 then pThief T x t else if isW t 316351 then pPays T x t else .inl (flt 1 t)
def pAll (T : Tp) : Nat → Tok → Dr → Int ⊕ Dr
  | 0, _, x => .inr x
  | k + 1, t, x => if t_k t = 3 then .inr x else match pLine T x t with
    | .inl f => .inl f
    | .inr q => pAll T k q.1 q.2
abbrev dr0 : Dr := ((0, fun _ => 0, fun _ => 0, fun _ => 0, fun _ => 0), (0, fun _ => 0, fun _ => 0, fun _ => 0), none)
def pAlm (T : Tp) : Int ⊕ Dr := pAll T 1000 (tok T 0) dr0
/-! the class's little steps: cells 2 and 4 alone -/
def Kc (m m' : sh_Mem) : Prop := (∀ a, a ≠ 2 → a ≠ 4 → m' a = m a) ∧ m' 2 1 = m 2 1 ∧ m' 4 1 = m 4 1
def Kf (m m' : sh_Mem) (f : Int) : Prop := (∀ a, a ≠ 2 → a ≠ 4 → m' a = m a) ∧ m' 2 1 = m 2 1 ∧ m' 4 1 = f
section ALM
variable {g : sh_G} {d : Nat} {T : Tp} {t : Tok} {m : sh_Mem} {Q : Option sh_V → sh_Mem → Prop}
theorem s_stepK (hJ : JD g) (hT : TpOk T) (ht : TK T t) (hr : CT m T t) (h : ∀ m', Kc m m' → m' 4 = m 4 → CT m' T (nx T t) → Q none m') : sh_Cal g (d + 9) m_Tape_step [sh_r 2] m Q :=
  s_step hJ hT hr (TK_q ht).2.1 (fun m' hk hc => h m' ⟨fun a a1 _ => hk.1 a a1, hk.2, by rw [hk.1 4 (by decide)]⟩ (hk.1 4 (by decide)) hc)
theorem s_refuseK {k : Int} (hr : CT m T t) (h : ∀ m', Kf m m' (flt k t) → Q (some (sh_i 0)) m') : sh_Cal g d m_Read_refuse [sh_r 4, sh_i k] m Q := by
  apply v_Read_refuse
  intro m1 e
  subst e
  refine h _ ⟨fun a _ a2 => by rw [ms_n _ _ a2], by rw [ms_n _ _ (by decide)], ?_⟩
  rw [ms_s, ru_s, hr.2.1]
theorem s_takeWordK {ww : Nat} {c : Int} (hJ : JD g) (hT : TpOk T) (ht : TK T t) (hr : CT m T t) (hw : ww < 25) (h0 : ww ≠ 0) (h2 : ww ≠ 2) (hC : wvF (txC ww) 0 (txL ww) = c) (hf : ∀ f m', pW T c t = .inl f → Kf m m' f → Q (some (sh_i 0)) m') (h1 : ∀ t' m', pW T c t = .inr t' → TK T t' → Kc m m' → CT m' T t' → Q (some (sh_i 1)) m') : sh_Cal g (d + 11) m_Read_takeWord [sh_r 4, sh_r (ww + 1000)] m Q := by
  unfold pW at hf h1
  apply v_Read_takeWord hw
  refine s_isWord (d := d) hJ hT ht hr hw h0 h2 hC ⟨_, rfl, ?_⟩
  rw [i3_01]
  refine ⟨fun z => ?_, fun z => ?_⟩
  · rw [if_pos (p01 z)] at h1
    exact s_stepK (d := d + 1) hJ hT ht hr (fun m' k _ c => ⟨rfl, h1 _ m' rfl (TK_n ht) k c⟩)
  · rw [if_neg (n01 z)] at hf
    exact s_refuseK hr (fun m' k => ⟨_, rfl, Or.inl rfl, hf _ m' rfl k⟩)
theorem s_takeSignK {c : Int} (hJ : JD g) (hT : TpOk T) (ht : TK T t) (hr : CT m T t) (hc : -1000000 ≤ c ∧ c ≤ 1000000) (hf : ∀ f m', pSg T c t = .inl f → Kf m m' f → Q (some (sh_i 0)) m') (h1 : ∀ t' m', pSg T c t = .inr t' → TK T t' → Kc m m' → CT m' T t' → Q (some (sh_i 1)) m') : sh_Cal g (d + 10) m_Read_takeSign [sh_r 4, sh_i c] m Q := by
  have k6 := TK_k hT ht
  unfold pSg at hf h1
  apply v_Read_takeSign
  rw [hr.2.2.2.1, i3s k6.1 k6.2, i3s hc.1 hc.2]
  refine ⟨fun z => ?_, fun z => ?_⟩
  · rw [if_pos z] at h1
    exact s_stepK hJ hT ht hr (fun m' k _ c => ⟨rfl, h1 _ m' rfl (TK_n ht) k c⟩)
  · rw [if_neg z] at hf
    exact s_refuseK hr (fun m' k => ⟨_, rfl, Or.inl rfl, hf _ m' rfl k⟩)
theorem s_takeNumberK {lo hi : Int} (hJ : JD g) (hT : TpOk T) (ht : TK T t) (hr : CT m T t) (hlo : -1000 ≤ lo ∧ lo ≤ 1000) (hhi : -1000 ≤ hi ∧ hi ≤ 1000) (hf : ∀ f m', pN T lo hi t = .inl f → Kf m m' f → Q (some (sh_i 0)) m') (h1 : ∀ t' m', pN T lo hi t = .inr t' → TK T t' → (lo ≤ t_v t ∧ t_v t ≤ hi) → Kc m m' → m' 4 2 = t_v t → CT m' T t' → Q (some (sh_i 1)) m') : sh_Cal g (d + 10) m_Read_takeNumber [sh_r 4, sh_i lo, sh_i hi] m Q := by
  have k6 := TK_k hT ht
  unfold pN at hf h1
  apply v_Read_takeNumber
  rw [hr.2.2.2.1, i3s k6.1 k6.2]
  refine ⟨fun z => ?_, fun z => ?_⟩
  · rw [if_pos z] at hf h1
    have v4 := TK_n4 hT ht z
    have e6 := hr.2.2.2.2.2.1 z
    rw [e6]
    have stp : (lo ≤ t_v t ∧ t_v t ≤ hi) → ∀ m2 : sh_Mem, m2 = ms m 4 (ru (m 4) 2 (m 2 6)) → sh_Cal g (d + 9) m_Tape_step [sh_r 2] m2 (fun rv m3 => rv = none ∧ Q (some (sh_i 1)) m3) := by
      intro y m2 e2
      subst e2
      rw [if_pos y] at h1
      have hr2 : CT (ms m 4 (ru (m 4) 2 (m 2 6))) T t := by unfold CT; rw [ms_n _ _ (by decide), ms_n _ _ (by decide)]; exact hr
      refine s_stepK hJ hT ht hr2 (fun m' k k4 c => ⟨rfl, h1 _ m' rfl (TK_n ht) y ⟨fun a a1 a2 => by rw [k.1 a a1 a2, ms_n _ _ a2], by rw [k.2.1, ms_n _ _ (by decide)], by rw [k4, ms_s, ru_n _ _ (by decide)]⟩ ?_ c⟩)
      rw [k4, ms_s, ru_s, e6]
    apply v_Sto_isWithin
    rw [i3s (x := t_v t) (by omega) (by omega), i3s (x := lo) (by omega) (by omega), i3s (x := hi) (by omega) (by omega)]
    have no : ¬ (lo ≤ t_v t ∧ t_v t ≤ hi) → sh_Cal g (d + 9) m_Read_refuse [sh_r 4, sh_i 4] m (fun rv m4 => ∃ r2 : Int, rv = some (sh_i r2) ∧ ((r2 = 0 ∨ r2 = 1) ∧ Q (some (sh_i r2)) m4)) := by
      intro y
      rw [if_neg y] at hf
      exact s_refuseK hr (fun m' k => ⟨_, rfl, Or.inl rfl, hf _ m' rfl k⟩)
    refine ⟨fun y => ⟨0, rfl, fun z => absurd rfl z, fun _ => no (by omega)⟩, fun y => ⟨fun y2 => ⟨0, rfl, fun z => absurd rfl z, fun _ => no (by omega)⟩, fun y2 => ⟨1, rfl, fun _ => stp (by omega), fun z => absurd z (by decide)⟩⟩⟩
  · rw [if_neg z] at hf
    exact s_refuseK hr (fun m' k => ⟨_, rfl, Or.inl rfl, hf _ m' rfl k⟩)
theorem s_kindTold (hJ : JD g) (hT : TpOk T) (ht : TK T t) (hr : CT m T t) (h : Q (some (sh_i (kdT t))) m) : sh_Cal g (d + 11) m_Read_kindTold [sh_r 4] m Q := by
  apply v_Read_kindTold
  unfold kdT at h
  refine s_isWord (ww := 3) hJ hT ht hr (by omega) (by omega) (by omega) (C := 8740238) (by decide +kernel) ⟨_, rfl, ?_⟩
  rw [i3_01]
  refine ⟨fun z => ?_, fun z => ?_⟩
  · rw [if_neg (n01 z)] at h
    refine s_isWord (ww := 4) hJ hT ht hr (by omega) (by omega) (by omega) (C := 284068024) (by decide +kernel) ⟨_, rfl, ?_⟩
    rw [i3_01]
    refine ⟨fun z => ?_, fun z => ?_⟩
    · rw [if_neg (n01 z)] at h
      refine s_isWord (ww := 5) hJ hT ht hr (by omega) (by omega) (by omega) (C := 16922) (by decide +kernel) ⟨_, rfl, ?_⟩
      rw [i3_01]
      refine ⟨fun z => ?_, fun z => ?_⟩
      · rw [if_neg (n01 z)] at h
        refine s_isWord (ww := 6) hJ hT ht hr (by omega) (by omega) (by omega) (C := 3288323) (by decide +kernel) ⟨_, rfl, ?_⟩
        rw [i3_01]
        refine ⟨fun z => ?_, fun z => ?_⟩
        · rw [if_neg (n01 z)] at h; exact h
        · rw [if_pos (p01 z)] at h; exact h
      · rw [if_pos (p01 z)] at h; exact h
    · rw [if_pos (p01 z)] at h; exact h
  · rw [if_pos (p01 z)] at h; exact h
theorem l_dayNamed {B n : Nat} {v : Int} {f : Nat → Int} (hB : ob0 B) (hn : n ≤ 8) (h0 : m B 0 = (n : Int)) (hv : wR v) (hf : ∀ i, i < n → m (B + 1) i = f i ∧ wR (f i)) : ∀ (k x : Nat), x + k = n → Q (some (sh_i (nmF f v k x))) m →
    sh_X g d m_Alm_dayNamed 2 [(0, sh_r B), (1, sh_l v), (3, sh_i (x : Int))] [] m (sh_K m_Alm_dayNamed Q)
  | 0, x, hx, h => by
    apply v_Alm_dayNamed_2 hB
    rw [h0, i3n (x := n) (by omega), i3n (x := x) (by omega)]
    exact ⟨fun _ => h, fun z => by omega⟩
  | k + 1, x, hx, h => by
    rw [nmF] at h
    apply v_Alm_dayNamed_2 hB
    rw [h0, i3n (x := n) (by omega), i3n (x := x) (by omega), (hf x (by omega)).1, l_cmpW (hf x (by omega)).2 hv]
    refine ⟨fun z => by omega, fun _ => ⟨by omega, fun z => ?_, fun z => ?_⟩⟩
    · rw [if_neg z] at h; exact l_dayNamed hB hn h0 hv hf k (x + 1) (by omega) h
    · rw [if_pos z] at h; exact h
theorem s_dayNamed {B n : Nat} {v : Int} {f : Nat → Int} (hB : ob0 B) (hn : n ≤ 8) (h0 : m B 0 = (n : Int)) (hv : wR v) (hf : ∀ i, i < n → m (B + 1) i = f i ∧ wR (f i)) (h : Q (some (sh_i (nmF f v n 0))) m) : sh_Cal g d m_Alm_dayNamed [sh_r B, sh_l v] m Q := by
  apply v_Alm_dayNamed hB
  exact l_dayNamed hB hn h0 hv hf n 0 (by omega) h
theorem l_thiefNamed {B n : Nat} {v : Int} {f : Nat → Int} (hB : ob0 B) (hn : n ≤ 4) (h0 : m B 1 = (n : Int)) (hv : wR v) (hf : ∀ i, i < n → m (B + 5) i = f i ∧ wR (f i)) : ∀ (k x : Nat), x + k = n → Q (some (sh_i (nmF f v k x))) m →
    sh_X g d m_Alm_thiefNamed 2 [(0, sh_r B), (1, sh_l v), (3, sh_i (x : Int))] [] m (sh_K m_Alm_thiefNamed Q)
  | 0, x, hx, h => by
    apply v_Alm_thiefNamed_2 hB
    rw [h0, i3n (x := n) (by omega), i3n (x := x) (by omega)]
    exact ⟨fun _ => h, fun z => by omega⟩
  | k + 1, x, hx, h => by
    rw [nmF] at h
    apply v_Alm_thiefNamed_2 hB
    rw [h0, i3n (x := n) (by omega), i3n (x := x) (by omega), (hf x (by omega)).1, l_cmpW (hf x (by omega)).2 hv]
    refine ⟨fun z => by omega, fun _ => ⟨by omega, fun z => ?_, fun z => ?_⟩⟩
    · rw [if_neg z] at h; exact l_thiefNamed hB hn h0 hv hf k (x + 1) (by omega) h
    · rw [if_pos z] at h; exact h
theorem s_thiefNamed {B n : Nat} {v : Int} {f : Nat → Int} (hB : ob0 B) (hn : n ≤ 4) (h0 : m B 1 = (n : Int)) (hv : wR v) (hf : ∀ i, i < n → m (B + 5) i = f i ∧ wR (f i)) (h : Q (some (sh_i (nmF f v n 0))) m) : sh_Cal g d m_Alm_thiefNamed [sh_r B, sh_l v] m Q := by
  apply v_Alm_thiefNamed hB
  exact l_thiefNamed hB hn h0 hv hf n 0 (by omega) h
/-- the names of a draft -/
def CNm (m : sh_Mem) (B : Nat) (x : Dr) : Prop := (r_nd x ≤ 8 ∧ r_nt x ≤ 4) ∧ m B 0 = (r_nd x : Int) ∧ m B 1 = (r_nt x : Int) ∧ (∀ i, i < r_nd x → m (B + 1) i = r_dn x i ∧ wR (r_dn x i)) ∧ ∀ i, i < r_nt x → m (B + 5) i = r_tn x i ∧ wR (r_tn x i)
theorem s_isNewName {B : Nat} {x : Dr} (hJ : JD g) (hT : TpOk T) (hB : ob0 B) (hN : CNm m B x) (ht : TK T t) (hr : CT m T t) (hf : ∀ f m', pNew x t = some f → Kf m m' f → Q (some (sh_i 0)) m') (h1 : pNew x t = none → t_k t = 1 → Q (some (sh_i 1)) m) : sh_Cal g (d + 11) m_Read_isNewName [sh_r 4, sh_r B] m Q := by
  obtain ⟨⟨n1, n2⟩, n3, n4, n5, n6⟩ := hN
  unfold pNew at hf h1
  apply v_Read_isNewName hB
  refine s_isName (d := d) hJ hT ht hr (TK_k hT ht) ⟨_, rfl, ?_⟩
  rw [i3_01]
  refine ⟨fun z => ?_, fun z => ?_⟩
  · have nm := p01 z
    rw [if_pos nm] at hf h1
    have hv := TK_v ht nm.1
    rw [hr.2.2.2.2.1 nm.1]
    have q1 := nmF_rng (r_dn x) (t_v t) (r_nd x) 0
    have q2 := nmF_rng (r_tn x) (t_v t) (r_nt x) 0
    refine s_dayNamed hB n1 n3 hv n5 ⟨_, rfl, ?_⟩
    rw [i3s (x := nmF (r_dn x) (t_v t) (r_nd x) 0) (by omega) (by omega)]
    refine ⟨fun y => ?_, fun y => ?_⟩
    · rw [if_neg (fun w => y w.1)] at hf
      exact s_refuseK hr (fun m' k => ⟨_, rfl, fun _ => hf _ m' rfl k, fun z => absurd rfl z⟩)
    · rw [hr.2.2.2.2.1 nm.1]
      refine s_thiefNamed hB n2 n4 hv n6 ⟨_, rfl, ?_⟩
      rw [i3s (x := nmF (r_tn x) (t_v t) (r_nt x) 0) (by omega) (by omega)]
      refine ⟨fun y2 => ?_, fun y2 => ?_⟩
      · rw [if_pos ⟨y, y2⟩] at h1; exact h1 rfl nm.1
      · rw [if_neg (fun w => y2 w.2)] at hf
        exact s_refuseK hr (fun m' k => ⟨_, rfl, fun _ => hf _ m' rfl k, fun z => absurd rfl z⟩)
  · rw [if_neg (n01 z)] at hf
    exact s_refuseK hr (fun m' k => ⟨_, rfl, Or.inl rfl, hf _ m' rfl k⟩)
end ALM
