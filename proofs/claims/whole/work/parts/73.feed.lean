/-! ===== signs come ===== -/
def bF (y sh : Int) : Int := l_2i (l_and (l_ushr y sh) 255)
theorem bF_i (y sh : Int) : i_and (l_2i (l_ushr y sh)) 255 = bF y sh := by
  unfold bF i_and l_2i l_and
  rw [Int64.ofInt_toInt, Int64.toInt32_and, Int32.ofInt_toInt]
  rfl
theorem bF_rng (y sh : Int) : 0 ≤ bF y sh ∧ bF y sh ≤ 255 := by
  rw [← bF_i]
  unfold i_and
  have hm : (Int32.ofInt 255).toBitVec.toNat = 2 ^ 8 - 1 := by decide
  rw [pk_and _ 8 hm]
  have := Nat.mod_lt (Int32.ofInt (l_2i (l_ushr y sh))).toBitVec.toNat (show 0 < 2 ^ 8 by decide)
  rw [nI_toInt (by omega)]
  omega
theorem i_2bP {x : Int} (h0 : -128 ≤ x) (h1 : x < 128) : i_2b x = x := by
  unfold i_2b; rw [sh_byte h0 h1]; exact i3s (by omega) (by omega)
abbrev Tp : Type := Nat × (Nat → Int)
abbrev okS (s : Int) : Prop := s = 10 ∨ (32 ≤ s ∧ s ≤ 126)
def tpS (T : Tp) (s : Int) : Tp := if T.1 < 1000 ∧ okS s then (T.1 + 1, ru T.2 T.1 s) else T
def tpW (y : Int) : Nat → Nat → Tp → Tp
  | 0, _, T => T
  | k + 1, x, T => tpW y k (x + 1) (tpS T (bF y (56 - 8 * (x : Int))))
def TpOk (T : Tp) : Prop := T.1 ≤ 1000 ∧ ∀ i, i < T.1 → okS (T.2 i)
theorem TpOk_S {T : Tp} (h : TpOk T) (s : Int) : TpOk (tpS T s) := by
  unfold tpS; split
  · rename_i q
    refine ⟨by simp only; omega, fun i hi => ?_⟩
    simp only at hi ⊢
    by_cases e : i = T.1
    · subst e; rw [ru_s]; exact q.2
    · rw [ru_n _ _ e]; exact h.2 i (by omega)
  · exact h
theorem TpOk_W (y : Int) : ∀ (k x : Nat) (T : Tp), TpOk T → TpOk (tpW y k x T)
  | 0, _, _, h => h
  | k + 1, x, T, h => TpOk_W y k (x + 1) _ (TpOk_S h _)
abbrev w_tp (w : Wd) (T : Tp) : Wd := (w_b w, w_nm w, w_c w, w_p w, w_y w, w_s w, w_m w, T)
abbrev fdT (w : Wd) (a b c : Int) : Tp := tpW c 8 0 (tpW b 8 0 (tpW a 8 0 (w_t w)))
def a_feed (w : Wd) (a b c : Int) : Wd := w_tp w (fdT w a b c)
def q_feed (w : Wd) (a b c : Int) : Int := ((fdT w a b c).1 : Int)
theorem WOk_tp {w : Wd} {T : Tp} (h : WOk w) (hT : TpOk T) : WOk (w_tp w T) := ⟨h.1, h.2.1, h.2.2.1, h.2.2.2.1, h.2.2.2.2.1, h.2.2.2.2.2.1, h.2.2.2.2.2.2.1, hT.1⟩
theorem RRel_tp {w : Wd} {m M : sh_Mem} {T : Tp} (h : RRel w m) (e : ∀ a, a ≠ 96 → a ≠ 97 → M a = m a) (e51 : M 96 51 = m 96 51) (e1 : M 96 1 = (T.1 : Int)) (e97 : ∀ i, i < T.1 → M 97 i = T.2 i) : RRel (w_tp w T) M := by
  obtain ⟨h1, h2, h3, h4, h5, h6, h7, h8, h9, h10, h11, h12⟩ := h
  refine ⟨MB_cong h1 (e 98 (by decide) (by decide)) (e 101 (by decide) (by decide)) (e 102 (by decide) (by decide)) (e 103 (by decide) (by decide)) (e 104 (by decide) (by decide)) (e 105 (by decide) (by decide)), ML_cong h2 (e 106 (by decide) (by decide)) (e 107 (by decide) (by decide)) (e 108 (by decide) (by decide)), ?_, ?_, ?_, ?_, ?_, ?_, ?_, ?_, e1, e97⟩
  · rw [e 99 (by decide) (by decide)]; exact h3
  · rw [e 100 (by decide) (by decide)]; exact h4
  · rw [e 129 (by decide) (by decide)]; exact h5
  · rw [e 134 (by decide) (by decide)]; exact RP_cong e51 h6
  · rw [e 121 (by decide) (by decide), e 122 (by decide) (by decide), e 123 (by decide) (by decide), e 124 (by decide) (by decide)]; exact h7
  · rw [e 125 (by decide) (by decide), e 126 (by decide) (by decide), e 127 (by decide) (by decide), e 128 (by decide) (by decide)]; exact h8
  · rw [e 128 (by decide) (by decide), e 123 (by decide) (by decide), e 124 (by decide) (by decide)]; exact h9
  · rw [e 135 (by decide) (by decide), e 133 (by decide) (by decide), e 121 (by decide) (by decide), e 122 (by decide) (by decide), e 123 (by decide) (by decide), e 124 (by decide) (by decide), e 125 (by decide) (by decide), e 126 (by decide) (by decide), e 127 (by decide) (by decide), e 128 (by decide) (by decide)]; exact h10
theorem and7 : ∀ x, x < 24 → i_and ((x : Nat) : Int) 7 = ((x % 8 : Nat) : Int) := by decide +kernel
/-- the reference's tape, the rest as it was -/
def Fe (m0 m : sh_Mem) (T : Tp) : Prop := (∀ a, a ≠ 96 → a ≠ 97 → m a = m0 a) ∧ m 96 51 = m0 96 51 ∧ m 96 0 = m0 96 0 ∧ m 96 1 = (T.1 : Int) ∧ ∀ i, i < T.1 → m 97 i = T.2 i
theorem Fe_S {m0 m : sh_Mem} {T : Tp} {s : Int} (h : Fe m0 m T) : Fe m0 (ms (ms m 97 (ru (m 97) T.1 s)) 96 (ru (m 96) 1 ((T.1 : Int) + 1))) (T.1 + 1, ru T.2 T.1 s) := by
  obtain ⟨h1, h2, h3, h4, h5⟩ := h
  refine ⟨fun a e1 e2 => by rw [ms_n _ _ e1, ms_n _ _ e2]; exact h1 a e1 e2, by rw [ms_s, ru_n _ _ (by decide)]; exact h2, by rw [ms_s, ru_n _ _ (by decide)]; exact h3, by rw [ms_s, ru_s]; simp only; omega, fun i hi => ?_⟩
  rw [ms_n _ _ (by decide), ms_s]
  simp only at hi ⊢
  by_cases e : i = T.1
  · subst e; rw [ru_s, ru_s]
  · rw [ru_n _ _ e, ru_n _ _ e]; exact h5 i (by omega)
theorem l_feed_39 {g : sh_G} {d x7 : Nat} {a b cc y : Int} {T : Tp} {m0 m : sh_Mem} {Q : Option sh_V → sh_Mem → Prop} (hx : x7 < 24) (hF : Fe m0 m T) (hT : TpOk T) (h : ∀ m', Fe m0 m' (tpS T (bF y (56 - 8 * ((x7 % 8 : Nat) : Int)))) → sh_X g d m_Mod_feed 8 [(0, sh_r 96), (1, sh_l a), (3, sh_l b), (5, sh_l cc), (7, sh_i ((x7 + 1 : Nat) : Int))] [] m' (sh_K m_Mod_feed Q)) :
    sh_X g d m_Mod_feed 39 [(0, sh_r 96), (1, sh_l a), (3, sh_l b), (5, sh_l cc), (7, sh_i (x7 : Int))] [sh_l y] m (sh_K m_Mod_feed Q) := by
  have t1 := hT.1
  apply v_Mod_feed_39
  rw [and7 x7 hx, hF.2.2.2.1, i3n (by omega), Int.toNat_natCast]
  have keep : ¬ (T.1 < 1000 ∧ okS (bF y (56 - 8 * ((x7 % 8 : Nat) : Int)))) → sh_X g d m_Mod_feed 8 [(0, sh_r 96), (1, sh_l a), (3, sh_l b), (5, sh_l cc), (7, sh_i ((x7 + 1 : Nat) : Int))] [] m (sh_K m_Mod_feed Q) := by
    intro q; unfold tpS at h; rw [if_neg q] at h; exact h m hF
  have put : (T.1 < 1000 ∧ okS (bF y (56 - 8 * ((x7 % 8 : Nat) : Int)))) → ∀ m1 : sh_Mem, m1 = ms m 97 (ru (m 97) T.1 (bF y (56 - 8 * ((x7 % 8 : Nat) : Int)))) → ∀ m2 : sh_Mem, m2 = ms m1 96 (ru (m1 96) 1 (m1 96 1 + 1)) → sh_X g d m_Mod_feed 8 [(0, sh_r 96), (1, sh_l a), (3, sh_l b), (5, sh_l cc), (7, sh_i ((x7 + 1 : Nat) : Int))] [] m2 (sh_K m_Mod_feed Q) := by
    rintro q _ rfl _ rfl
    unfold tpS at h; rw [if_pos q] at h
    rw [ms_n _ _ (show (96 : Nat) ≠ 97 by decide), hF.2.2.2.1]
    exact h _ (Fe_S hF)
  show (1000 ≤ (T.1 : Int) → _) ∧ (¬ 1000 ≤ (T.1 : Int) → (bF y (56 - 8 * ((x7 % 8 : Nat) : Int)) = 10 → _) ∧ (¬ bF y (56 - 8 * ((x7 % 8 : Nat) : Int)) = 10 → (bF y (56 - 8 * ((x7 % 8 : Nat) : Int)) < 32 → _) ∧ (¬ bF y (56 - 8 * ((x7 % 8 : Nat) : Int)) < 32 → (126 < bF y (56 - 8 * ((x7 % 8 : Nat) : Int)) → _) ∧ (¬ 126 < bF y (56 - 8 * ((x7 % 8 : Nat) : Int)) → _))))
  refine ⟨fun q => keep (by omega), fun q => ⟨fun q2 => ⟨by omega, put ⟨by omega, Or.inl q2⟩⟩, fun q2 => ⟨fun q3 => keep (by omega), fun q3 => ⟨fun q4 => keep (by omega), fun q4 => ⟨by omega, put ⟨by omega, Or.inr (by omega)⟩⟩⟩⟩⟩⟩
theorem l_feed_w {g : sh_G} {d : Nat} {a b cc : Int} {m0 : sh_Mem} {Q : Option sh_V → sh_Mem → Prop} (j : Nat) (hj : j < 3) (y : Int) (hy : y = if j = 0 then a else if j = 1 then b else cc) : ∀ (k x : Nat) (T : Tp) (m : sh_Mem), x + k = 8 → Fe m0 m T → TpOk T → (∀ m', Fe m0 m' (tpW y k x T) → sh_X g d m_Mod_feed 8 [(0, sh_r 96), (1, sh_l a), (3, sh_l b), (5, sh_l cc), (7, sh_i ((8 * j + 8 : Nat) : Int))] [] m' (sh_K m_Mod_feed Q)) →
    sh_X g d m_Mod_feed 8 [(0, sh_r 96), (1, sh_l a), (3, sh_l b), (5, sh_l cc), (7, sh_i ((8 * j + x : Nat) : Int))] [] m (sh_K m_Mod_feed Q) := by
  intro k
  induction k with
  | zero =>
    intro x T m hx hF hT h
    obtain rfl : x = 8 := by omega
    exact h m hF
  | succ k ih =>
    intro x T m hx hF hT h
    rw [tpW] at h
    have e8 : (8 * j + x) % 8 = x := by omega
    have nx : sh_X g d m_Mod_feed 39 [(0, sh_r 96), (1, sh_l a), (3, sh_l b), (5, sh_l cc), (7, sh_i ((8 * j + x : Nat) : Int))] [sh_l y] m (sh_K m_Mod_feed Q) := by
      refine l_feed_39 (by omega) hF hT (fun m' hF' => ?_)
      rw [e8] at hF'
      have := ih (x + 1) _ m' (by omega) hF' (TpOk_S hT _) h
      exact this
    apply v_Mod_feed_8
    rw [i3n (by omega)]
    refine ⟨fun q => absurd q (by omega), fun _ => ⟨fun q => ⟨fun q2 => ?_, fun q2 => ?_⟩, fun q => ?_⟩⟩
    · rw [if_neg (by omega), if_neg (by omega)] at hy; rw [hy] at nx; exact nx
    · rw [if_neg (by omega), if_pos (by omega)] at hy; rw [hy] at nx; exact nx
    · rw [if_pos (by omega)] at hy; rw [hy] at nx; exact nx
theorem r_feed {g : sh_G} {d : Nat} {w : Wd} {mem : sh_Mem} {a b cc : Int} {Q : Option sh_V → sh_Mem → Prop} (hT : TpOk (w_t w)) (h : RRel w mem) (hQ : ∀ m', RPost (a_feed w a b cc) mem m' → Q (some (sh_i (q_feed w a b cc))) m') : sh_Cal g d m_Mod_feed [sh_r 96, sh_l a, sh_l b, sh_l cc] mem Q := by
  have p0 := RPost_0 h
  unfold a_feed q_feed fdT at hQ
  apply v_Mod_feed
  rintro _ rfl
  generalize ms mem 96 (ru (mem 96) 0 0) = m1 at *
  have f0 : Fe m1 m1 (w_t w) := ⟨fun _ _ _ => rfl, rfl, rfl, p0.1.2.2.2.2.2.2.2.2.2.2.1, p0.1.2.2.2.2.2.2.2.2.2.2.2⟩
  have t1 := TpOk_W a 8 0 _ hT
  have t2 := TpOk_W b 8 0 _ t1
  refine l_feed_w 0 (by omega) a rfl 8 0 (w_t w) m1 (by omega) f0 hT (fun m2 f2 => ?_)
  refine l_feed_w 1 (by omega) b rfl 8 0 _ m2 (by omega) f2 t1 (fun m3 f3 => ?_)
  refine l_feed_w 2 (by omega) cc rfl 8 0 _ m3 (by omega) f3 t2 (fun m4 f4 => ?_)
  generalize tpW cc 8 0 (tpW b 8 0 (tpW a 8 0 (w_t w))) = T3 at hQ f4
  apply v_Mod_feed_8
  refine ⟨fun _ => ?_, fun q => absurd (by decide) q⟩
  rw [f4.2.2.2.1]
  refine hQ m4 ⟨RRel_tp p0.1 f4.1 f4.2.1 f4.2.2.2.1 f4.2.2.2.2, by rw [f4.2.2.1]; exact p0.2.1, fun a ha => ?_⟩
  rw [f4.1 a (by omega) (by omega)]; exact p0.2.2 a ha
theorem CR_tp {B Y : Nat} {w : Wd} {m M : sh_Mem} {T : Tp} (hB : obB B) (hY : obY Y) (h : CR B Y w m) (e : ∀ a, a < 96 → a ≠ 2 → a ≠ 3 → M a = m a) (e1 : M 2 1 = (T.1 : Int)) (e3 : ∀ i, i < T.1 → M 3 i = T.2 i) : CR B Y (w_tp w T) M := by
  obtain ⟨h1, h2, h3, h4, h5, h6', h7, h8', h9, h10, h11⟩ := h
  have eB : ∀ k, k ≤ 9 → M (B + k) = m (B + k) := fun k hk => e _ (by omega) (by omega) (by omega)
  refine ⟨?_, CB_cong h2 eB, CL_cong h3 eB, ?_, ?_, ?_, ?_, ?_, ?_, e1, e3⟩
  · rw [e 1 (by omega) (by omega) (by omega)]; exact h1
  · rw [eB 1 (by omega), eB 5 (by omega)]; exact h4
  · rw [e 6 (by omega) (by omega) (by omega), e 8 (by omega) (by omega) (by omega)]; exact h5
  · rw [e 10 (by omega) (by omega) (by omega), e 9 (by omega) (by omega) (by omega)]; exact h6'
  · exact CY_cong h7 (e _ (by omega) (by omega) (by omega)) (e _ (by omega) (by omega) (by omega)) (e _ (by omega) (by omega) (by omega)) (e _ (by omega) (by omega) (by omega))
  · exact CS_cong h8' (e _ (by omega) (by omega) (by omega)) (e _ (by omega) (by omega) (by omega)) (e _ (by omega) (by omega) (by omega)) (e _ (by omega) (by omega) (by omega))
  · intro j hj
    obtain ⟨a1, a2⟩ := h9 j hj
    refine ⟨by rw [e (52 + 11 * j) (by omega) (by omega) (by omega)]; exact a1, fun q hq => ?_⟩
    obtain ⟨b1, b2, b3⟩ := a2 q hq
    refine ⟨by rw [e (54 + 11 * j) (by omega) (by omega) (by omega)]; exact b1, ?_, ?_⟩
    · exact CY_cong b2 (e _ (by omega) (by omega) (by omega)) (e _ (by omega) (by omega) (by omega)) (e _ (by omega) (by omega) (by omega)) (e _ (by omega) (by omega) (by omega))
    · exact CS_cong b3 (e _ (by omega) (by omega) (by omega)) (e _ (by omega) (by omega) (by omega)) (e _ (by omega) (by omega) (by omega)) (e _ (by omega) (by omega) (by omega))
/-- the class's tape, the rest as it was -/
def Fc (m0 m : sh_Mem) (T : Tp) : Prop := (∀ a, a ≠ 2 → a ≠ 3 → m a = m0 a) ∧ m 2 1 = (T.1 : Int) ∧ ∀ i, i < T.1 → m 3 i = T.2 i
theorem l_put {g : sh_G} {d : Nat} {y : Int} {m0 : sh_Mem} {Q : Option sh_V → sh_Mem → Prop} : ∀ (k x : Nat) (T : Tp) (m : sh_Mem), x + k = 8 → Fc m0 m T → TpOk T → (∀ m', Fc m0 m' (tpW y k x T) → Q none m') →
    sh_X g d m_Tape_put 3 [(0, sh_r 2), (1, sh_l y), (3, sh_i (56 - 8 * (x : Int)))] [] m (sh_K m_Tape_put Q) := by
  intro k
  induction k with
  | zero =>
    intro x T m hx hF hT h
    obtain rfl : x = 8 := by omega
    apply v_Tape_put_3
    exact ⟨fun _ => h m hF, fun q => absurd (by decide) q⟩
  | succ k ih =>
    intro x T m hx hF hT h
    have t1 := hT.1
    rw [tpW] at h
    have e8 : (56 - 8 * (x : Int)) + -8 = 56 - 8 * ((x + 1 : Nat) : Int) := by omega
    have go0 : ¬ okS (bF y (56 - 8 * (x : Int))) → sh_X g d m_Tape_put 42 [(0, sh_r 2), (1, sh_l y), (3, sh_i (56 - 8 * (x : Int))), (4, sh_i (bF y (56 - 8 * (x : Int))))] [] m (sh_K m_Tape_put Q) := by
      intro q
      have e0 : tpS T (bF y (56 - 8 * (x : Int))) = T := by unfold tpS; rw [if_neg (fun z => q z.2)]
      rw [e0] at h
      apply v_Tape_put_42
      apply v_Tape_put_43
      refine ⟨fun _ => ?_, fun z => absurd rfl z⟩
      rw [e8]; exact ih (x + 1) T m (by omega) hF hT h
    have go1 : okS (bF y (56 - 8 * (x : Int))) → sh_X g d m_Tape_put 38 [(0, sh_r 2), (1, sh_l y), (3, sh_i (56 - 8 * (x : Int))), (4, sh_i (bF y (56 - 8 * (x : Int))))] [] m (sh_K m_Tape_put Q) := by
      intro q
      apply v_Tape_put_38
      apply v_Tape_put_43
      rw [hF.2.1, i3n (by omega), i_2bP (by omega) (by omega), Int.toNat_natCast, e8]
      refine ⟨fun z => absurd z (by decide), fun _ => ⟨fun z => ?_, fun z => ⟨by omega, by omega, ?_⟩⟩⟩
      · have e0 : tpS T (bF y (56 - 8 * (x : Int))) = T := by unfold tpS; rw [if_neg (fun z => by omega)]
        rw [e0] at h
        exact ih (x + 1) T m (by omega) hF hT h
      · rintro _ rfl
        rintro _ rfl
        have e0 : tpS T (bF y (56 - 8 * (x : Int))) = (T.1 + 1, ru T.2 T.1 (bF y (56 - 8 * (x : Int)))) := by unfold tpS; rw [if_pos ⟨by omega, q⟩]
        rw [ms_n _ _ (show (2 : Nat) ≠ 3 by decide), hF.2.1]
        have t2 := TpOk_S hT (bF y (56 - 8 * (x : Int)))
        rw [e0] at h t2
        refine ih (x + 1) _ _ (by omega) ⟨fun a e1 e2 => by rw [ms_n _ _ e1, ms_n _ _ e2]; exact hF.1 a e1 e2, by rw [ms_s, ru_s]; simp only; omega, fun i hi => ?_⟩ t2 h
        rw [ms_n _ _ (by decide), ms_s]
        simp only at hi ⊢
        by_cases e : i = T.1
        · subst e; rw [ru_s, ru_s]
        · rw [ru_n _ _ e, ru_n _ _ e]; exact hF.2.2 i (by omega)
    apply v_Tape_put_3
    rw [bF_i, i3s (x := 56 - 8 * (x : Int)) (by omega) (by omega)]
    exact ⟨fun q => absurd q (by omega), fun _ => ⟨fun q => go1 (Or.inl q), fun q => ⟨fun q2 => go0 (by omega), fun q2 => ⟨fun q3 => go0 (by omega), fun q3 => go1 (Or.inr (by omega))⟩⟩⟩⟩
theorem s_put {g : sh_G} {d : Nat} {y : Int} {T : Tp} {m0 m : sh_Mem} {Q : Option sh_V → sh_Mem → Prop} (hF : Fc m0 m T) (hT : TpOk T) (h : ∀ m', Fc m0 m' (tpW y 8 0 T) → Q none m') : sh_Cal g d m_Tape_put [sh_r 2, sh_l y] m Q := by
  apply v_Tape_put
  exact l_put 8 0 T m (by omega) hF hT h
theorem c_feed {g : sh_G} {d : Nat} {w : Wd} {mem : sh_Mem} {a b cc : Int} {Q : Option sh_V → sh_Mem → Prop} (hT : TpOk (w_t w)) (h : CRel w mem) (hQ : ∀ m', CPost (a_feed w a b cc) mem m' → Q (some (sh_i (q_feed w a b cc))) m') : sh_Cal g (d + 1) m_Sto_feed [sh_r 1, sh_l a, sh_l b, sh_l cc] mem Q := by
  obtain ⟨B, Y, hB, hY, hc⟩ := h
  unfold a_feed q_feed fdT at hQ
  have f0 : Fc mem mem (w_t w) := ⟨fun _ _ _ => rfl, hc.2.2.2.2.2.2.2.2.2.1, hc.2.2.2.2.2.2.2.2.2.2⟩
  have t1 := TpOk_W a 8 0 _ hT
  have t2 := TpOk_W b 8 0 _ t1
  apply v_Sto_feed
  refine s_put f0 hT (fun m2 f2 => ⟨rfl, ?_⟩)
  refine s_put f2 t1 (fun m3 f3 => ⟨rfl, ?_⟩)
  refine s_put f3 t2 (fun m4 f4 => ⟨rfl, ?_⟩)
  generalize tpW cc 8 0 (tpW b 8 0 (tpW a 8 0 (w_t w))) = T3 at hQ f4
  rw [f4.2.1]
  exact hQ m4 ⟨⟨B, Y, hB, hY, CR_tp hB hY hc (fun a _ e1 e2 => f4.1 a e1 e2) f4.2.1 f4.2.2⟩, fun a ha => f4.1 a (by omega) (by omega)⟩
