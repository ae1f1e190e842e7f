/-! ===== a year, of the reference: its little steps ===== -/
def LnI (nd nt : Nat) (k a b : Int) : Prop := 0 ≤ k ∧ k ≤ 4 ∧ (k ≠ 0 → 0 ≤ a ∧ a < (nt : Int)) ∧ (k = 1 → 0 ≤ b ∧ b < (nd : Int)) ∧ (k = 4 → 0 ≤ b ∧ b < (nt : Int) ∧ b ≠ a)
def YgOk (nd nt : Nat) (y : Se) : Prop := y.1 ≤ 40 ∧ ∀ i, i < y.1 → LnI nd nt (y.2.1 i) (y.2.2.1 i) (y.2.2.2 i)
def lowY (a i : Nat) : Prop := (a = 121 ∧ i = 5) ∨ ((a = 122 ∨ a = 123 ∨ a = 124) ∧ 200 ≤ i) ∨ (a = 96 ∧ ((4 ≤ i ∧ i ≤ 9) ∨ i = 34 ∨ i = 35))
def RYF (m0 m : sh_Mem) : Prop := ∀ a i, ¬ lowY a i → m a i = m0 a i
def RYN (m : sh_Mem) : Prop := ∀ k, k < 240 → 0 ≤ m 123 k ∧ 0 ≤ m 124 k
def RYD (m : sh_Mem) (y : Se) : Prop := y.1 ≤ 40 ∧ m 121 5 = (y.1 : Int) ∧ RYN m ∧ ∀ i, i < y.1 → m 122 (200 + i) = y.2.1 i ∧ (y.2.1 i ≠ 0 → m 123 (200 + i) = y.2.2.1 i) ∧ (y.2.1 i = 1 ∨ y.2.1 i = 4 → m 124 (200 + i) = y.2.2.2 i)
def RYS (m0 m : sh_Mem) (T : Tp) (t : Tok) (y : Se) : Prop := RYF m0 m ∧ RT m T t ∧ RYD m y
def RYB (m0 m : sh_Mem) (f : Int) : Prop := RYF m0 m ∧ RYN m ∧ m 96 9 = f
abbrev RYPo (m0 : sh_Mem) (T : Tp) (o : YR) (Q : Option sh_V → sh_Mem → Prop) : Prop := (∀ f m', o = .inl f → RYB m0 m' f → Q (some (sh_i 0)) m') ∧ ∀ q m', o = .inr q → TK T q.1 → RYS m0 m' T q.1 q.2 → Q (some (sh_i 1)) m'
section YER
variable {g : sh_G} {d nd nt : Nat} {T : Tp} {t : Tok} {m0 m : sh_Mem} {fd ft : Nat → Int} {y : Se} {Q : Option sh_V → sh_Mem → Prop}
theorem doT_w (h : ¬ doT t = -1) : t_k t = 1 := by
  unfold doT at h
  split at h
  · rename_i z; exact z.1
  · split at h
    · rename_i z; exact z.1
    · split at h
      · rename_i z; exact z.1
      · split at h
        · rename_i z; exact z.1
        · split at h
          · rename_i z; exact z.1
          · exact absurd rfl h
theorem pNm_y {f : Nat → Int} {n : Nat} {q : Tok × Int} (ht : TK T t) (h : pNm T f n t = .inr q) : TK T q.1 ∧ t_p t ≤ t_p q.1 ∧ 0 ≤ q.2 ∧ q.2 < (n : Int) ∧ q.2 = nmF f (t_v t) n 0 := by
  have a1 := TK_q ht; have a2 := nx_p ht
  have q1 := nmF_rng f (t_v t) n 0
  unfold pNm at h
  split at h
  · split at h
    · cases h
    · rename_i z
      cases h
      refine ⟨TK_n ht, by show t_p t ≤ t_p (nx T t); omega, ?_, ?_, rfl⟩
      · show 0 ≤ nmF f (t_v t) n 0; omega
      · show nmF f (t_v t) n 0 < (n : Int); omega
  · cases h
theorem pOth_y {f : Nat → Int} {n : Nat} {a : Int} {q : Tok × Int} (ht : TK T t) (h : pOth T f n a t = .inr q) : TK T q.1 ∧ t_p t ≤ t_p q.1 ∧ 0 ≤ q.2 ∧ q.2 < (n : Int) ∧ q.2 ≠ a := by
  unfold pOth at h
  split at h
  · cases h
  · rename_i z
    have c := pNm_y ht h
    refine ⟨c.1, c.2.1, c.2.2.1, c.2.2.2.1, fun w => z ⟨?_, c.2.2.2.2.symm.trans w⟩⟩
    unfold pNm at h
    split at h
    · rename_i nm; exact nm
    · cases h
theorem pCl_y {k a b : Int} {q : Tok × Se} (hT : TpOk T) (ht : TK T t) (hy : YgOk nd nt y) (h40 : y.1 < 40) (hl : LnI nd nt k a b) (h : pCl T y k a b t = .inr q) : TK T q.1 ∧ t_p t ≤ t_p q.1 ∧ YgOk nd nt q.2 := by
  unfold pCl at h
  split at h
  · cases h
  · rename_i t2 h2
    cases h
    have c := (pSg_c hT ht).2 _ h2
    refine ⟨c.1, c.2, by show y.1 + 1 ≤ 40; omega, fun i hi => ?_⟩
    have hi : i < y.1 + 1 := hi
    show LnI nd nt (ru y.2.1 y.1 k i) (ru y.2.2.1 y.1 a i) (ru y.2.2.2 y.1 b i)
    by_cases z : i = y.1
    · rw [z, ru_s, ru_s, ru_s]; exact hl
    · rw [ru_n _ _ z, ru_n _ _ z, ru_n _ _ z]; exact hy.2 i (by omega)
theorem pYl_y {q : Tok × Se} (hT : TpOk T) (ht : TK T t) (hy : YgOk nd nt y) (h : pYl T fd nd ft nt y t = .inr q) : TK T q.1 ∧ t_p t + 1 ≤ t_p q.1 ∧ YgOk nd nt q.2 := by
  have tk1 := TK_n ht
  have dc := doT_c t
  have y40 := hy.1
  unfold pYl at h
  split at h
  · cases h
  · rename_i z0
    have n1 := nx_lt ht (show ¬ t_k t = 3 by have := doT_w z0; omega)
    split at h
    · cases h
    · rename_i z1
      split at h
      · have c := pCl_y hT tk1 hy (by omega) ⟨by omega, by omega, fun w => absurd rfl w, fun w => by omega, fun w => by omega⟩ h
        exact ⟨c.1, by omega, c.2.2⟩
      · rename_i z2
        split at h
        · cases h
        · rename_i q1 h1
          have c1 := pNm_y tk1 h1
          split at h
          · split at h
            · cases h
            · rename_i q2 h2
              have c2 := pNm_y c1.1 h2
              have c := pCl_y (nd := nd) (nt := nt) hT c2.1 hy (by omega) ⟨by omega, by omega, fun _ => ⟨c1.2.2.1, c1.2.2.2.1⟩, fun _ => ⟨c2.2.2.1, c2.2.2.2.1⟩, fun w => by omega⟩ h
              exact ⟨c.1, by omega, c.2.2⟩
          · rename_i z3
            split at h
            · split at h
              · cases h
              · rename_i q2 h2
                have c2 := pOth_y c1.1 h2
                have c := pCl_y (nd := nd) (nt := nt) hT c2.1 hy (by omega) ⟨by omega, by omega, fun _ => ⟨c1.2.2.1, c1.2.2.2.1⟩, fun w => by omega, fun _ => ⟨c2.2.2.1, c2.2.2.2.1, c2.2.2.2.2⟩⟩ h
                exact ⟨c.1, by omega, c.2.2⟩
            · rename_i z4
              have c := pCl_y (nd := nd) (nt := nt) hT c1.1 hy (by omega) ⟨by omega, by omega, fun _ => ⟨c1.2.2.1, c1.2.2.2.1⟩, fun w => by omega, fun w => by omega⟩ h
              exact ⟨c.1, by omega, c.2.2⟩
theorem RYF_K {m' : sh_Mem} (h : RYF m0 m) (k : Kr m m') : RYF m0 m' := fun a i hn => by
  by_cases y : a = 96
  · subst y; rw [k.2 i (by unfold lowY at hn; omega) (by unfold lowY at hn; omega) (by unfold lowY at hn; omega)]; exact h 96 i hn
  · rw [k.1 a y]; exact h a i hn
theorem RYF_w {a j : Nat} {v : Int} (h : RYF m0 m) (hl : lowY a j) : RYF m0 (ms m a (ru (m a) j v)) := fun b i hn => by
  by_cases y : b = a
  · subst y; rw [ms_s, ru_n _ _ (fun z => hn (by rw [z]; exact hl))]; exact h b i hn
  · rw [ms_n _ _ y]; exact h b i hn
theorem RYN_K {m' : sh_Mem} (h : RYN m) (k : Kr m m') : RYN m' := by unfold RYN; rw [k.1 123 (by decide), k.1 124 (by decide)]; exact h
theorem RYD_K {m' : sh_Mem} (h : RYD m y) (k : Kr m m') : RYD m' y := by
  obtain ⟨d1, d2, d3, d4⟩ := h
  refine ⟨d1, by rw [k.1 121 (by decide)]; exact d2, RYN_K d3 k, ?_⟩
  rw [k.1 122 (by decide), k.1 123 (by decide), k.1 124 (by decide)]; exact d4
theorem RYD_w {a j : Nat} {v : Int} (h : RYD m y) (ha : a = 122 ∨ a = 123 ∨ a = 124) (hv : 0 ≤ v) (hj : j = 200 + y.1) : RYD (ms m a (ru (m a) j v)) y := by
  obtain ⟨d1, d2, d3, d4⟩ := h
  have o : ∀ b i, i ≠ j → ms m a (ru (m a) j v) b i = m b i := by
    intro b i hi
    by_cases e : b = a
    · rw [e, ms_s, ru_n _ _ hi]
    · rw [ms_n _ _ e]
  refine ⟨d1, by rw [o 121 5 (by omega)]; exact d2, fun k hk => ?_, fun i hi => ?_⟩
  · have p : ∀ b, 0 ≤ m b k → 0 ≤ ms m a (ru (m a) j v) b k := by
      intro b hb
      by_cases e : b = a
      · rw [e] at hb
        rw [e, ms_s]
        by_cases e2 : k = j
        · rw [e2, ru_s]; exact hv
        · rw [ru_n _ _ e2]; exact hb
      · rw [ms_n _ _ e]; exact hb
    exact ⟨p 123 (d3 k hk).1, p 124 (d3 k hk).2⟩
  · rw [o 122 _ (by omega), o 123 _ (by omega), o 124 _ (by omega)]; exact d4 i hi
theorem l_namedAny {na nn fr many : Nat} (hna : sh_shp na = some (.inr (1, nn))) (hs : fr + many ≤ nn) (hs2 : nn ≤ 1000) (h : ∀ r : Int, -1 ≤ r → r < (many : Int) → Q (some (sh_i r)) m) : ∀ (k i : Nat), i + k = many →
    sh_X g d m_Mod_namedIn 3 [(0, sh_r 96), (1, sh_r na), (2, sh_i (fr : Int)), (3, sh_i (many : Int)), (4, sh_i ((fr + i : Nat) : Int))] [] m (sh_K m_Mod_namedIn Q)
  | 0, i, hi => by
    apply v_Mod_namedIn_3 hna
    rw [i3n (x := fr + many) (by omega), i3n (x := fr + i) (by omega)]
    exact ⟨fun _ => h _ (by omega) (by omega), fun z => by omega⟩
  | k + 1, i, hi => by
    apply v_Mod_namedIn_3 hna
    rw [i3n (x := fr + many) (by omega), i3n (x := fr + i) (by omega)]
    exact ⟨fun z => by omega, fun _ => ⟨by omega, fun _ => l_namedAny hna hs hs2 h k (i + 1) (by omega), fun _ => h _ (by omega) (by omega)⟩⟩
theorem s_namedAny {na nn fr many : Nat} (hna : sh_shp na = some (.inr (1, nn))) (hs : fr + many ≤ nn) (hs2 : nn ≤ 1000) (h : ∀ r : Int, -1 ≤ r → r < (many : Int) → Q (some (sh_i r)) m) : sh_Cal g d m_Mod_namedIn [sh_r 96, sh_r na, sh_i (fr : Int), sh_i (many : Int)] m Q := by
  apply v_Mod_namedIn hna
  exact l_namedAny hna hs hs2 h many 0 (by omega)
theorem s_thief0 (n4 : nt ≤ 4) (h8 : m 98 1 = (nt : Int)) (hf : ∀ i, i < nt → m 100 i = ft i ∧ wR (ft i)) (ht : TK T t) (hr : RT m T t) (h : ∀ r : Int, (isNm t → r = nmF ft (t_v t) nt 0) → -1 ≤ r → r < 8 → Q (some (sh_i r)) m) : sh_Cal g (d + 1) m_Mod_thiefNamed [sh_r 96, sh_i 0] m Q := by
  have q1 := nmF_rng ft (t_v t) nt 0
  apply v_Mod_thiefNamed (r := 0)
  rw [show 2 * 0 + 1 = 1 from rfl, h8]
  refine ⟨by omega, ?_⟩
  by_cases nm : isNm t
  · exact s_namedIn (fr := 0) (f := ft) (by decide +kernel) (TK_v ht nm.1) (hr.2.2.2.2.1 nm.1) (nn := 8) (by omega) (by omega) (fun i hi => by rw [Nat.zero_add]; exact hf i hi) ⟨_, rfl, h _ (fun _ => rfl) (by omega) (by omega)⟩
  · exact s_namedAny (fr := 0) (many := nt) (by decide +kernel) (nn := 8) (by omega) (by omega) (fun r a b => ⟨_, rfl, h _ (fun z => absurd z nm) a (by omega)⟩)
theorem s_day0 (n8 : nd ≤ 8) (h8 : m 98 0 = (nd : Int)) (hf : ∀ i, i < nd → m 99 i = fd i ∧ wR (fd i)) (ht : TK T t) (hr : RT m T t) (h : ∀ r : Int, (isNm t → r = nmF fd (t_v t) nd 0) → -1 ≤ r → r < 8 → Q (some (sh_i r)) m) : sh_Cal g (d + 1) m_Mod_dayNamed [sh_r 96, sh_i 0] m Q := by
  have q1 := nmF_rng fd (t_v t) nd 0
  apply v_Mod_dayNamed (r := 0)
  rw [show 2 * 0 + 0 = 0 from rfl, h8]
  refine ⟨by omega, ?_⟩
  by_cases nm : isNm t
  · exact s_namedIn (fr := 0) (f := fd) (by decide +kernel) (TK_v ht nm.1) (hr.2.2.2.2.1 nm.1) (nn := 16) (by omega) (by omega) (fun i hi => by rw [Nat.zero_add]; exact hf i hi) ⟨_, rfl, h _ (fun _ => rfl) (by omega) (by omega)⟩
  · exact s_namedAny (fr := 0) (many := nd) (by decide +kernel) (nn := 16) (by omega) (by omega) (fun r a b => ⟨_, rfl, h _ (fun z => absurd z nm) a (by omega)⟩)
theorem s_isFound {f : Nat → Int} {n : Nat} {r : Int} (hT : TpOk T) (ht : TK T t) (hr : RT m T t) (er : isNm t → r = nmF f (t_v t) n 0) (r1 : -1 ≤ r) (r2 : r < 8) (he : ∀ e m', pNm T f n t = .inl e → Kr m m' → m' 96 9 = e → Q (some (sh_i 0)) m') (h1 : ∀ m', isNm t → nmF f (t_v t) n 0 ≠ -1 → Kr m m' → RT m' T t → m' 96 34 = nmF f (t_v t) n 0 → Q (some (sh_i 1)) m') : sh_Cal g (d + 1) m_Mod_isFound [sh_r 96, sh_i r] m Q := by
  unfold pNm at he
  apply v_Mod_isFound
  refine s_Mod_isKept hT ht hr ⟨_, rfl, ?_⟩
  by_cases nm : isNm t
  · rw [if_pos nm] at he
    have er := er nm
    rw [if_pos nm]
    refine ⟨fun _ => fun m2 e2 => ?_, fun z => absurd rfl z⟩
    have v2 : m2 96 34 = r := by rw [e2, ms_s, ru_s]
    have k2 : Kr m m2 := by rw [e2]; exact Kr_w (by omega)
    have c2 : RT m2 T t := by rw [e2]; exact RT_w hr (by omega)
    rw [v2, i3s (x := r) (by omega) (by omega)]
    refine ⟨fun y => h1 m2 nm (by omega) k2 c2 (v2.trans er), fun y => ?_⟩
    rw [if_pos (show nmF f (t_v t) n 0 = -1 by omega)] at he
    exact s_failsK (k := 2) c2 (fun m' k e => ⟨_, rfl, fun _ => he _ m' rfl (Kr_tr k2 k) e, fun z => absurd rfl z⟩)
  · rw [if_neg nm] at he
    rw [if_neg nm]
    refine ⟨fun z => absurd z (by decide), fun _ => ?_⟩
    exact s_failsK (k := 1) hr (fun m' k e => ⟨_, rfl, Or.inl rfl, he _ m' rfl k e⟩)
theorem s_passesFound {f : Nat → Int} {n : Nat} {r : Int} (hT : TpOk T) (ht : TK T t) (hr : RT m T t) (er : isNm t → r = nmF f (t_v t) n 0) (r1 : -1 ≤ r) (r2 : r < 8) (he : ∀ e m', pNm T f n t = .inl e → Kr m m' → m' 96 9 = e → Q (some (sh_i 0)) m') (h1 : ∀ q m', pNm T f n t = .inr q → TK T q.1 → Kr m m' → m' 96 34 = q.2 → RT m' T q.1 → Q (some (sh_i 1)) m') : sh_Cal g (d + 2) m_Mod_passesFound [sh_r 96, sh_i r] m Q := by
  apply v_Mod_passesFound
  refine s_isFound (d := d) hT ht hr er r1 r2 (fun e m' q k e9 => ⟨0, rfl, fun z => absurd rfl z, fun _ => he e m' q k e9⟩) (fun m' nm ne k c v => ⟨1, rfl, fun _ => ?_, fun z => absurd z (by decide)⟩)
  exact s_nextK hT ht c (fun m2 k2 c2 => ⟨rfl, h1 (nx T t, nmF f (t_v t) n 0) m2 (by unfold pNm; rw [if_pos nm, if_neg ne]) (TK_n ht) (Kr_tr k (Kr_Rk k2)) (by rw [k2.2 34 (by omega)]; exact v) c2⟩)
theorem l_closeY {k a b : Int} (hT : TpOk T) (ht : TK T t) (hA : RYF m0 m) (hr : RT m T t) (hD : RYD m y) (h40 : y.1 < 40) (e2 : m 122 (200 + y.1) = k) (e3 : k ≠ 0 → m 123 (200 + y.1) = a) (e4 : k = 1 ∨ k = 4 → m 124 (200 + y.1) = b) (hq : RYPo m0 T (pCl T y k a b t) Q) : ∀ m1 : sh_Mem, m1 = ms m 121 (ru (m 121) 5 (m 121 5 + 1)) → sh_Cal g (d + 2) m_Mod_closes [sh_r 96] m1 (fun rv m2 => ∃ r1 : Int, rv = some (sh_i r1) ∧ ((r1 = 0 ∨ r1 = 1) ∧ Q (some (sh_i r1)) m2)) := by
  intro m1 e1
  have A1 : RYF m0 m1 := by rw [e1]; exact RYF_w hA (by unfold lowY; omega)
  have c1 : RT m1 T t := by rw [e1]; exact RT_m hr (by omega)
  have o : ∀ a, a ≠ 121 → m1 a = m a := fun a ha => by rw [e1, ms_n _ _ ha]
  have D1 : RYD m1 (addY y k a b) := by
    obtain ⟨d1, d2, d3, d4⟩ := hD
    refine ⟨by show y.1 + 1 ≤ 40; omega, ?_, ?_, fun i hi => ?_⟩
    · rw [e1, ms_s, ru_s, d2]; show (y.1 : Int) + 1 = ((y.1 + 1 : Nat) : Int); omega
    · unfold RYN; rw [o 123 (by decide), o 124 (by decide)]; exact d3
    · have hi : i < y.1 + 1 := hi
      show m1 122 (200 + i) = ru y.2.1 y.1 k i ∧ (ru y.2.1 y.1 k i ≠ 0 → m1 123 (200 + i) = ru y.2.2.1 y.1 a i) ∧ (ru y.2.1 y.1 k i = 1 ∨ ru y.2.1 y.1 k i = 4 → m1 124 (200 + i) = ru y.2.2.2 y.1 b i)
      rw [o 122 (by decide), o 123 (by decide), o 124 (by decide)]
      by_cases z : i = y.1
      · rw [z, ru_s, ru_s, ru_s]; exact ⟨e2, e3, e4⟩
      · rw [ru_n _ _ z, ru_n _ _ z, ru_n _ _ z]; exact d4 i (by omega)
  unfold pCl at hq
  refine s_closes (d := d) hT ht c1 (fun f m' e k e9 => ⟨0, rfl, Or.inl rfl, ?_⟩) (fun t2 m' e tk k c => ⟨1, rfl, Or.inr rfl, ?_⟩)
  · simp only [e] at hq; exact hq.1 f m' rfl ⟨RYF_K A1 k, RYN_K D1.2.2.1 k, e9⟩
  · simp only [e] at hq; exact hq.2 _ m' rfl tk ⟨RYF_K A1 k, c, RYD_K D1 k⟩
end YER
