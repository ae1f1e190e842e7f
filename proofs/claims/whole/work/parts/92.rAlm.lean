/-! ===== an almanac: the reference's little steps ===== -/
def Kr (m m' : sh_Mem) : Prop := (∀ a, a ≠ 96 → m' a = m a) ∧ ∀ i, i < 4 ∨ 9 < i → i ≠ 34 → i ≠ 35 → m' 96 i = m 96 i
theorem Kr_rf (m : sh_Mem) : Kr m m := ⟨fun _ _ => rfl, fun _ _ _ _ => rfl⟩
theorem Kr_tr {m m' m'' : sh_Mem} (h : Kr m m') (h2 : Kr m' m'') : Kr m m'' := ⟨fun a ha => (h2.1 a ha).trans (h.1 a ha), fun i a b c => (h2.2 i a b c).trans (h.2 i a b c)⟩
theorem Kr_Rk {m m' : sh_Mem} (h : Rk m m') : Kr m m' := ⟨h.1, fun i a _ _ => h.2 i (by omega)⟩
theorem Kr_w {m : sh_Mem} {i : Nat} {v : Int} (hi : i = 9 ∨ i = 34 ∨ i = 35) : Kr m (ms m 96 (ru (m 96) i v)) := ⟨fun a ha => by rw [ms_n _ _ ha], fun j a b c => by rw [ms_s, ru_n _ _ (by omega)]⟩
section ALR
variable {g : sh_G} {d : Nat} {T : Tp} {t : Tok} {m : sh_Mem} {Q : Option sh_V → sh_Mem → Prop}
theorem RT_w {i : Nat} {v : Int} (hr : RT m T t) (hi : i = 9 ∨ i = 34 ∨ i = 35) : RT (ms m 96 (ru (m 96) i v)) T t := by
  unfold RT; rw [ms_s, ru_n _ _ (by omega), ru_n _ _ (by omega), ru_n _ _ (by omega), ru_n _ _ (by omega), ru_n _ _ (by omega), ru_n _ _ (by omega), ms_n _ _ (by decide)]; exact hr
theorem s_failsK {k : Nat} (hr : RT m T t) (h : ∀ m', Kr m m' → m' 96 9 = flt (k : Int) t → Q (some (sh_i 0)) m') : sh_Cal g d m_Mod_fails [sh_r 96, sh_i (k : Int)] m Q := by
  apply v_Mod_fails
  intro m1 e1
  subst e1
  refine h _ (Kr_w (Or.inl rfl)) ?_
  rw [ms_s, ru_s, hr.2.2.1]
theorem s_nextK (hT : TpOk T) (ht : TK T t) (hr : RT m T t) (h : ∀ m', Rk m m' → RT m' T (nx T t) → Q none m') : sh_Cal g (d + 1) m_Mod_nextToken [sh_r 96] m Q := s_nextToken hT hr (TK_q ht).2.1 h
theorem s_Mod_isKept (hT : TpOk T) (ht : TK T t) (hr : RT m T t) (h : Q (some (sh_i (if isNm t then 0 else 1))) m) : sh_Cal g d m_Mod_isKept [sh_r 96] m Q := by
  obtain ⟨r1, r2, r3, r4, r5, r6, r7⟩ := hr
  apply v_Mod_isKept
  rw [r4, (rK1 hT ht).1]
  refine ⟨fun z => ?_, fun z => ?_⟩
  · rw [r5 z]
    have cm : ∀ c, wR c → (l_cmp (t_v t) c = 0 ↔ t_v t = c) := fun c hc => l_cmpW (TK_v ht z) hc
    have kept : t_v t ∈ resL → sh_X g d m_Mod_isKept 219 [(0, sh_r 96)] [] m (sh_K m_Mod_isKept Q) := by
      intro y
      rw [if_neg (fun w => w.2 y)] at h
      apply v_Mod_isKept_219; exact h
    rw [cm 2968 (by omega), cm 12532058 (by omega), cm 4134649 (by omega), cm 10792986 (by omega), cm 10320789 (by omega), cm 374798 (by omega), cm 316351 (by omega), cm 7622660 (by omega), cm 10494723 (by omega), cm 377958 (by omega), cm 10416334 (by omega), cm 390787 (by omega), cm 8740238 (by omega), cm 284068024 (by omega), cm 16922 (by omega), cm 3288323 (by omega), cm 10631 (by omega), cm 1111 (by omega), cm 423 (by omega)]
    refine ⟨fun y => kept (by rw [y]; decide), fun y0 => ?_⟩
    refine ⟨fun y => kept (by rw [y]; decide), fun y1 => ?_⟩
    refine ⟨fun y => kept (by rw [y]; decide), fun y2 => ?_⟩
    refine ⟨fun y => kept (by rw [y]; decide), fun y3 => ?_⟩
    refine ⟨fun y => kept (by rw [y]; decide), fun y4 => ?_⟩
    refine ⟨fun y => kept (by rw [y]; decide), fun y5 => ?_⟩
    refine ⟨fun y => kept (by rw [y]; decide), fun y6 => ?_⟩
    refine ⟨fun y => kept (by rw [y]; decide), fun y7 => ?_⟩
    refine ⟨fun y => kept (by rw [y]; decide), fun y8 => ?_⟩
    refine ⟨fun y => kept (by rw [y]; decide), fun y9 => ?_⟩
    refine ⟨fun y => kept (by rw [y]; decide), fun y10 => ?_⟩
    refine ⟨fun y => kept (by rw [y]; decide), fun y11 => ?_⟩
    refine ⟨fun y => kept (by rw [y]; decide), fun y12 => ?_⟩
    refine ⟨fun y => kept (by rw [y]; decide), fun y13 => ?_⟩
    refine ⟨fun y => kept (by rw [y]; decide), fun y14 => ?_⟩
    refine ⟨fun y => kept (by rw [y]; decide), fun y15 => ?_⟩
    refine ⟨fun y => kept (by rw [y]; decide), fun y16 => ?_⟩
    refine ⟨fun y => kept (by rw [y]; decide), fun y17 => ?_⟩
    refine ⟨fun y18 => ?_, fun y => kept (by rw [y]; decide)⟩
    have nin : ¬ t_v t ∈ resL := by
      intro w
      simp only [List.mem_cons, List.not_mem_nil, or_false] at w
      omega
    rw [if_pos ⟨z, nin⟩] at h
    exact h
  · rw [if_neg (fun w => z w.1)] at h; exact h
theorem l_namedIn {na nn fr many : Nat} {f : Nat → Int} {v : Int} (hna : sh_shp na = some (.inr (1, nn))) (hv : wR v) (h7 : m 96 7 = v) (hs : fr + many ≤ nn) (hs2 : nn ≤ 1000) (hf : ∀ i, i < many → m na (fr + i) = f i ∧ wR (f i)) : ∀ (k i : Nat), i + k = many → Q (some (sh_i (nmF f v k i))) m →
    sh_X g d m_Mod_namedIn 3 [(0, sh_r 96), (1, sh_r na), (2, sh_i (fr : Int)), (3, sh_i (many : Int)), (4, sh_i ((fr + i : Nat) : Int))] [] m (sh_K m_Mod_namedIn Q)
  | 0, i, hi, h => by
    apply v_Mod_namedIn_3 hna
    rw [i3n (x := fr + many) (by omega), i3n (x := fr + i) (by omega)]
    exact ⟨fun _ => h, fun z => by omega⟩
  | k + 1, i, hi, h => by
    rw [nmF] at h
    apply v_Mod_namedIn_3 hna
    rw [i3n (x := fr + many) (by omega), i3n (x := fr + i) (by omega), (hf i (by omega)).1, h7, l_cmpW (hf i (by omega)).2 hv]
    refine ⟨fun z => by omega, fun _ => ⟨by omega, fun z => ?_, fun z => ?_⟩⟩
    · rw [if_neg z] at h; exact l_namedIn hna hv h7 hs hs2 hf k (i + 1) (by omega) h
    · rw [if_pos z] at h; rw [show ((fr + i : Nat) : Int) - (fr : Int) = (i : Int) by omega]; exact h
theorem s_namedIn {na nn fr many : Nat} {f : Nat → Int} {v : Int} (hna : sh_shp na = some (.inr (1, nn))) (hv : wR v) (h7 : m 96 7 = v) (hs : fr + many ≤ nn) (hs2 : nn ≤ 1000) (hf : ∀ i, i < many → m na (fr + i) = f i ∧ wR (f i)) (h : Q (some (sh_i (nmF f v many 0))) m) : sh_Cal g d m_Mod_namedIn [sh_r 96, sh_r na, sh_i (fr : Int), sh_i (many : Int)] m Q := by
  apply v_Mod_namedIn hna
  exact l_namedIn hna hv h7 hs hs2 hf many 0 (by omega) h
/-- the names of the reference's draft -/
def RN (m : sh_Mem) (x : Dr) : Prop := (r_nd x ≤ 8 ∧ r_nt x ≤ 4) ∧ m 98 2 = (r_nd x : Int) ∧ m 98 3 = (r_nt x : Int) ∧ (∀ i, i < r_nd x → m 99 (8 + i) = r_dn x i ∧ wR (r_dn x i)) ∧ ∀ i, i < r_nt x → m 100 (4 + i) = r_tn x i ∧ wR (r_tn x i)
theorem s_needsNew {x : Dr} (hT : TpOk T) (hN : RN m x) (ht : TK T t) (hr : RT m T t) (hf : ∀ f m', pNew x t = some f → Kr m m' → m' 96 9 = f → Q (some (sh_i 0)) m') (h1 : ∀ m', pNew x t = none → t_k t = 1 → Kr m m' → m' 96 35 = t_v t → RT m' T (nx T t) → Q (some (sh_i 1)) m') : sh_Cal g (d + 2) m_Mod_needsNew [sh_r 96] m Q := by
  obtain ⟨⟨n1, n2⟩, n3, n4, n5, n6⟩ := hN
  unfold pNew at hf h1
  apply v_Mod_needsNew
  refine s_Mod_isKept hT ht hr ⟨_, rfl, ?_⟩
  by_cases nm : isNm t
  · rw [if_pos nm] at hf h1
    rw [if_pos nm]
    have hv := TK_v ht nm.1
    have h7 := hr.2.2.2.2.1 nm.1
    have q1 := nmF_rng (r_dn x) (t_v t) (r_nd x) 0
    have q2 := nmF_rng (r_tn x) (t_v t) (r_nt x) 0
    refine ⟨fun _ => ?_, fun z => absurd rfl z⟩
    apply v_Mod_dayNamed (r := 1)
    rw [show 2 * 1 + 0 = 2 from rfl, n3]
    refine ⟨by omega, ?_⟩
    refine s_namedIn (fr := 8) (f := r_dn x) (by decide +kernel) hv h7 (nn := 16) (by omega) (by omega) n5 ⟨_, rfl, _, rfl, ?_⟩
    rw [i3s (x := nmF (r_dn x) (t_v t) (r_nd x) 0) (by omega) (by omega)]
    refine ⟨fun y => ?_, fun y => ?_⟩
    · rw [if_neg (fun w => by have := w.1; omega)] at hf
      exact s_failsK (k := 3) hr (fun m' k e => ⟨_, rfl, Or.inl rfl, hf _ m' rfl k e⟩)
    · apply v_Mod_thiefNamed (r := 1)
      rw [show 2 * 1 + 1 = 3 from rfl, n4]
      refine ⟨by omega, ?_⟩
      refine s_namedIn (fr := 4) (f := r_tn x) (by decide +kernel) hv h7 (nn := 8) (by omega) (by omega) n6 ⟨_, rfl, _, rfl, ?_⟩
      rw [i3s (x := nmF (r_tn x) (t_v t) (r_nt x) 0) (by omega) (by omega)]
      refine ⟨fun y2 => ?_, fun y2 => ?_⟩
      · rw [if_pos ⟨by omega, by omega⟩] at h1
        intro m5 e5
        subst e5
        refine s_nextK hT ht (RT_w hr (by omega)) (fun m6 k6 c6 => ⟨rfl, h1 m6 rfl nm.1 (Kr_tr (Kr_w (by omega)) (Kr_Rk k6)) ?_ c6⟩)
        rw [k6.2 35 (by omega), ms_s, ru_s, h7]
      · rw [if_neg (fun w => by have := w.2; omega)] at hf
        exact s_failsK (k := 3) hr (fun m' k e => ⟨_, rfl, Or.inl rfl, hf _ m' rfl k e⟩)
  · rw [if_neg nm] at hf
    rw [if_neg nm]
    refine ⟨fun z => absurd z (by decide), fun _ => ?_⟩
    exact s_failsK (k := 1) hr (fun m' k e => ⟨_, rfl, Or.inl rfl, hf _ m' rfl k e⟩)
theorem s_needsNumber {lo hi : Int} (hT : TpOk T) (ht : TK T t) (hr : RT m T t) (hlo : -1000 ≤ lo ∧ lo ≤ 1000) (hhi : -1000 ≤ hi ∧ hi ≤ 1000) (hf : ∀ f m', pN T lo hi t = .inl f → Kr m m' → m' 96 9 = f → Q (some (sh_i 0)) m') (h1 : ∀ t' m', pN T lo hi t = .inr t' → TK T t' → Kr m m' → m' 96 34 = t_v t → m' 96 35 = m 96 35 → RT m' T t' → Q (some (sh_i 1)) m') : sh_Cal g (d + 2) m_Mod_needsNumber [sh_r 96, sh_i lo, sh_i hi] m Q := by
  unfold pN at hf h1
  apply v_Mod_needsNumber
  rw [hr.2.2.2.1, (rK1 hT ht).2.1]
  refine ⟨fun z => ?_, fun z => ?_⟩
  · rw [if_pos z] at hf h1
    have v4 := TK_n4 hT ht z
    have e8 := hr.2.2.2.2.2.1 z
    rw [e8]
    have stp : (lo ≤ t_v t ∧ t_v t ≤ hi) → ∀ m2 : sh_Mem, m2 = ms m 96 (ru (m 96) 34 (m 96 8)) → sh_Cal g (d + 1) m_Mod_nextToken [sh_r 96] m2 (fun rv m3 => rv = none ∧ Q (some (sh_i 1)) m3) := by
      intro y m2 e2
      subst e2
      rw [if_pos y] at h1
      refine s_nextK hT ht (RT_w hr (by omega)) (fun m' k c => ⟨rfl, h1 _ m' rfl (TK_n ht) (Kr_tr (Kr_w (by omega)) (Kr_Rk k)) ?_ ?_ c⟩)
      · rw [k.2 34 (by omega), ms_s, ru_s, e8]
      · rw [k.2 35 (by omega), ms_s, ru_n _ _ (by decide)]
    have no : ¬ (lo ≤ t_v t ∧ t_v t ≤ hi) → sh_Cal g (d + 1) m_Mod_fails [sh_r 96, sh_i 4] m (fun rv m4 => ∃ r2 : Int, rv = some (sh_i r2) ∧ ((r2 = 0 ∨ r2 = 1) ∧ Q (some (sh_i r2)) m4)) := by
      intro y
      rw [if_neg y] at hf
      exact s_failsK (k := 4) hr (fun m' k e => ⟨_, rfl, Or.inl rfl, hf _ m' rfl k e⟩)
    apply v_Mod_within
    rw [i3s (x := t_v t) (by omega) (by omega), i3s (x := lo) (by omega) (by omega), i3s (x := hi) (by omega) (by omega)]
    refine ⟨fun y => ⟨0, rfl, fun z => absurd rfl z, fun _ => no (by omega)⟩, fun y => ⟨fun y2 => ⟨0, rfl, fun z => absurd rfl z, fun _ => no (by omega)⟩, fun y2 => ⟨1, rfl, fun _ => stp (by omega), fun z => absurd z (by decide)⟩⟩⟩
  · rw [if_neg z] at hf
    exact s_failsK (k := 1) hr (fun m' k e => ⟨_, rfl, Or.inl rfl, hf _ m' rfl k e⟩)
theorem s_needsBoth {c lo hi : Int} (hT : TpOk T) (ht : TK T t) (hr : RT m T t) (hc : wR c) (hlo : -1000 ≤ lo ∧ lo ≤ 1000) (hhi : -1000 ≤ hi ∧ hi ≤ 1000) (hf : ∀ f m', pW T c t = .inl f ∨ (∃ t4, pW T c t = .inr t4 ∧ pN T lo hi t4 = .inl f) → Kr m m' → m' 96 9 = f → Q (some (sh_i 0)) m') (h1 : ∀ t4 t5 m', pW T c t = .inr t4 → pN T lo hi t4 = .inr t5 → TK T t5 → Kr m m' → m' 96 34 = t_v t4 → m' 96 35 = m 96 35 → RT m' T t5 → Q (some (sh_i 1)) m') : sh_Cal g (d + 3) m_Mod_needsBoth [sh_r 96, sh_l c, sh_i lo, sh_i hi] m Q := by
  have e0 : pW T c t = if isW t c then .inr (nx T t) else .inl (flt 1 t) := rfl
  apply v_Mod_needsBoth
  refine s_Mod_isWord hT ht hr hc ⟨_, rfl, ?_⟩
  rw [i3_01]
  refine ⟨fun z => ?_, fun z => ?_⟩
  · rw [if_pos (p01 z)] at e0
    refine s_nextK (d := d + 1) hT ht hr (fun m2 k2 c2 => ⟨rfl, ?_⟩)
    refine s_needsNumber hT (TK_n ht) c2 hlo hhi (fun f m' e k9 e9 => ⟨_, rfl, Or.inl rfl, hf f m' (Or.inr ⟨_, e0, e⟩) (Kr_tr (Kr_Rk k2) k9) e9⟩) (fun t5 m' e tk k9 e34 e35 cc => ⟨_, rfl, Or.inr rfl, h1 _ t5 m' e0 e tk (Kr_tr (Kr_Rk k2) k9) e34 (by rw [e35, k2.2 35 (by omega)]) cc⟩)
  · rw [if_neg (n01 z)] at e0
    exact s_failsK (k := 1) hr (fun m' k e => ⟨_, rfl, Or.inl rfl, hf _ m' (Or.inl e0) k e⟩)
theorem s_closes (hT : TpOk T) (ht : TK T t) (hr : RT m T t) (hf : ∀ f m', pSg T 59 t = .inl f → Kr m m' → m' 96 9 = f → Q (some (sh_i 0)) m') (h1 : ∀ t' m', pSg T 59 t = .inr t' → TK T t' → Kr m m' → RT m' T t' → Q (some (sh_i 1)) m') : sh_Cal g (d + 2) m_Mod_closes [sh_r 96] m Q := by
  unfold pSg at hf h1
  apply v_Mod_closes
  refine s_Mod_isSign hT ht hr (by omega) ⟨_, rfl, ?_⟩
  rw [i3_01]
  refine ⟨fun z => ?_, fun z => ?_⟩
  · rw [if_pos (p01 z)] at h1
    exact s_nextK hT ht hr (fun m' k c => ⟨rfl, h1 _ m' rfl (TK_n ht) (Kr_Rk k) c⟩)
  · rw [if_neg (n01 z)] at hf
    exact s_failsK (k := 1) hr (fun m' k e => ⟨_, rfl, Or.inl rfl, hf _ m' rfl k e⟩)
end ALR
