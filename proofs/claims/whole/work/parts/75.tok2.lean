/-! ===== tokens: the reference ===== -/
section NT2
variable {g : sh_G} {d : Nat} {T : Tp} {mem : sh_Mem} {Q : Option sh_V → sh_Mem → Prop}
theorem l_nt_322 (hT : TpOk T) {p : Nat} {m : sh_Mem} (hp : p < T.1) (hl : ¬ isLt (T.2 p)) (hd : ¬ isDg (T.2 p)) (hr : Rk mem m) (h3 : m 96 3 = (T.1 : Int)) (ht : ∀ i, i < T.1 → m 97 i = T.2 i) (h4 : m 96 4 = (p : Int)) (h5 : m 96 5 = (p : Int)) (h : ∀ m', Rk mem m' → RT m' T (tokA T p) → Q none m') :
    sh_X g (d + 1) m_Mod_nextToken 322 [(0, sh_r 96), (1, sh_i (T.2 p))] [] m (sh_K m_Mod_nextToken Q) := by
  have hs := hT.2 p hp
  have t1 := hT.1
  have e0 : tokA T p = (p, p + 1, if isSg (T.2 p) then T.2 p else 0, 0) := by unfold tokA; rw [if_neg (by omega), if_neg hl, if_neg hd]
  rw [e0] at h
  have ok : isSg (T.2 p) → ∀ m1 : sh_Mem, m1 = ms m 96 (ru (m 96) 4 ((p : Int) + 1)) → ∀ m2 : sh_Mem, m2 = ms m1 96 (ru (m1 96) 6 3) → Q none m2 := by
    rintro q _ rfl _ rfl
    rw [if_pos q] at h
    refine h _ (Rk_f (Rk_f hr (by omega) _) (by omega) _) ⟨?_, ?_, ?_, ?_, ?_, ?_, ?_⟩
    · rw [ms_s, ru_n _ _ (by decide), ms_s, ru_n _ _ (by decide)]; exact h3
    · rw [ms_s, ru_n _ _ (by decide), ms_s, ru_s]; dsimp only [t_q]; omega
    · rw [ms_s, ru_n _ _ (by decide), ms_s, ru_n _ _ (by decide)]; exact h5
    · rw [ms_s, ru_s]; show (3 : Int) = rK (T.2 p); unfold rK; rw [if_neg (by omega), if_neg (by omega), if_neg (by omega), if_neg (by omega)]
    · intro z; dsimp only [t_k] at z; omega
    · intro z; dsimp only [t_k] at z; omega
    · rw [ms_n _ _ (by decide), ms_n _ _ (by decide)]; exact ht
  have no : ¬ isSg (T.2 p) → ∀ m1 : sh_Mem, m1 = ms m 96 (ru (m 96) 4 ((p : Int) + 1)) → ∀ m2 : sh_Mem, m2 = ms m1 96 (ru (m1 96) 6 4) → Q none m2 := by
    rintro q _ rfl _ rfl
    rw [if_neg q] at h
    refine h _ (Rk_f (Rk_f hr (by omega) _) (by omega) _) ⟨?_, ?_, ?_, ?_, ?_, ?_, ?_⟩
    · rw [ms_s, ru_n _ _ (by decide), ms_s, ru_n _ _ (by decide)]; exact h3
    · rw [ms_s, ru_n _ _ (by decide), ms_s, ru_s]; dsimp only [t_q]; omega
    · rw [ms_s, ru_n _ _ (by decide), ms_s, ru_n _ _ (by decide)]; exact h5
    · rw [ms_s, ru_s]; rfl
    · intro z; dsimp only [t_k] at z; omega
    · intro z; dsimp only [t_k] at z; omega
    · rw [ms_n _ _ (by decide), ms_n _ _ (by decide)]; exact ht
  apply v_Mod_nextToken_322
  rw [h4, i3s (x := T.2 p) (by omega) (by omega)]
  intro m1 e1
  refine ⟨fun q => ⟨fun q2 => ok (by omega) m1 e1, fun q2 => ⟨fun q3 => no (by omega) m1 e1, fun q3 => ⟨fun q4 => no (by omega) m1 e1, fun q4 => ok (by omega) m1 e1⟩⟩⟩, fun q => ⟨fun q2 => ok (by omega) m1 e1, fun q2 => ⟨fun q3 => ok (by omega) m1 e1, fun q3 => ⟨fun q4 => no (by omega) m1 e1, fun q4 => ⟨fun q5 => no (by omega) m1 e1, fun q5 => ok (by omega) m1 e1⟩⟩⟩⟩⟩
theorem l_nt_52 (hT : TpOk T) {p : Nat} {m : sh_Mem} (hp : p ≤ T.1) (hr : Rk mem m) (h3 : m 96 3 = (T.1 : Int)) (ht : ∀ i, i < T.1 → m 97 i = T.2 i) (h4 : m 96 4 = (p : Int)) (h : ∀ m', Rk mem m' → RT m' T (tokA T p) → Q none m') :
    sh_X g (d + 1) m_Mod_nextToken 52 [(0, sh_r 96)] [] m (sh_K m_Mod_nextToken Q) := by
  have t1 := hT.1
  apply v_Mod_nextToken_52
  rintro _ rfl _ rfl _ rfl
  rw [h4]
  generalize hm3 : ms (ms (ms m 96 (ru (m 96) 5 (p : Int))) 96 (ru (ms m 96 (ru (m 96) 5 (p : Int)) 96) 7 0)) 96 (ru (ms (ms m 96 (ru (m 96) 5 (p : Int))) 96 (ru (ms m 96 (ru (m 96) 5 (p : Int)) 96) 7 0) 96) 8 0) = m3
  have hr3 : Rk mem m3 := by rw [← hm3]; exact Rk_f (Rk_f (Rk_f hr (by omega) _) (by omega) _) (by omega) _
  have a3 : m3 96 3 = (T.1 : Int) := by rw [← hm3, ms_s, ru_n _ _ (by decide), ms_s, ru_n _ _ (by decide), ms_s, ru_n _ _ (by decide)]; exact h3
  have a4 : m3 96 4 = (p : Int) := by rw [← hm3, ms_s, ru_n _ _ (by decide), ms_s, ru_n _ _ (by decide), ms_s, ru_n _ _ (by decide)]; exact h4
  have a5 : m3 96 5 = (p : Int) := by rw [← hm3, ms_s, ru_n _ _ (by decide), ms_s, ru_n _ _ (by decide), ms_s, ru_s]
  have a7 : m3 96 7 = 0 := by rw [← hm3, ms_s, ru_n _ _ (by decide), ms_s, ru_s]
  have a8 : m3 96 8 = 0 := by rw [← hm3, ms_s, ru_s]
  have at3 : ∀ i, i < T.1 → m3 97 i = T.2 i := by rw [← hm3, ms_n _ _ (by decide), ms_n _ _ (by decide), ms_n _ _ (by decide)]; exact ht
  clear hm3
  rw [a3, a4, i3n (by omega), i3n (by omega), Int.toNat_natCast]
  refine ⟨fun q => ?_, fun q => ?_⟩
  · have hs := hT.2 p (by omega)
    rw [at3 p (by omega), i3s (x := T.2 p) (by omega) (by omega)]
    have dig : ¬ isLt (T.2 p) → sh_X g (d + 1) m_Mod_nextToken 212 [(0, sh_r 96), (1, sh_i (T.2 p))] [] m3 (sh_K m_Mod_nextToken Q) := by
      intro hl
      apply v_Mod_nextToken_212
      rw [i3s (x := T.2 p) (by omega) (by omega)]
      have sg : ¬ isDg (T.2 p) → sh_X g (d + 1) m_Mod_nextToken 322 [(0, sh_r 96), (1, sh_i (T.2 p))] [] m3 (sh_K m_Mod_nextToken Q) := fun hd => l_nt_322 hT (by omega) hl hd hr3 a3 at3 a4 a5 h
      refine ⟨fun q2 => sg (by omega), fun q2 => ⟨fun q3 => sg (by omega), fun q3 => ?_⟩⟩
      have e0 : tokA T p = (p, rdF T.2 (T.1 - p) p, if rdF T.2 (T.1 - p) p - p ≤ 4 then 2 else 0, nvF T.2 p (rdF T.2 (T.1 - p) p - p)) := by unfold tokA; rw [if_neg (by omega), if_neg hl, if_pos (by omega)]
      rw [e0] at h
      exact l_nt_224 hT (T.1 - p) p m3 (by omega) (by omega) hr3 a3 at3 a4 a5 (fun _ => by rw [Nat.sub_self, nvF]; exact a8) h
    refine ⟨by omega, fun q2 => dig (by omega), fun q2 => ⟨fun q3 => dig (by omega), fun q3 => ?_⟩⟩
    have e0 : tokA T p = (p, rlF T.2 (T.1 - p) p, if rlF T.2 (T.1 - p) p - p ≤ 8 then 1 else 0, wvF T.2 p (rlF T.2 (T.1 - p) p - p)) := by unfold tokA; rw [if_neg (by omega), if_pos (by omega)]
    rw [e0] at h
    exact l_nt_109 hT (T.1 - p) p m3 (by omega) (by omega) hr3 a3 at3 a4 a5 (fun _ => by rw [Nat.sub_self, wvF]; exact a7) h
  · have e0 : tokA T p = (p, p, 3, 0) := by unfold tokA; rw [if_pos (by omega)]
    rw [e0] at h
    rintro _ rfl
    refine h _ (Rk_f hr3 (by omega) _) ⟨?_, ?_, ?_, ?_, fun z => absurd (show (3 : Int) = 1 from z) (by decide), fun z => absurd (show (3 : Int) = 2 from z) (by decide), ?_⟩
    · rw [ms_s, ru_n _ _ (by decide)]; exact a3
    · rw [ms_s, ru_n _ _ (by decide)]; exact a4
    · rw [ms_s, ru_n _ _ (by decide)]; exact a5
    · rw [ms_s, ru_s]; rfl
    · rw [ms_n _ _ (by decide)]; exact at3
theorem l_nt_0 (hT : TpOk T) : ∀ (k x : Nat) (m : sh_Mem), x + k = T.1 → Rk mem m → m 96 3 = (T.1 : Int) → (∀ i, i < T.1 → m 97 i = T.2 i) → m 96 4 = (x : Int) → (∀ m', Rk mem m' → RT m' T (tokA T (skF T.2 k x)) → Q none m') →
    sh_X g (d + 1) m_Mod_nextToken 0 [(0, sh_r 96)] [] m (sh_K m_Mod_nextToken Q) := by
  have t1 := hT.1
  intro k
  induction k with
  | zero =>
    intro x m hx hr h3 ht h4 h
    obtain rfl : x = T.1 := by omega
    rw [skF] at h
    apply v_Mod_nextToken_0
    rw [h3, h4]
    exact ⟨fun _ => l_nt_52 hT (by omega) hr h3 ht h4 h, fun q => absurd (by omega) q⟩
  | succ k ih =>
    intro x m hx hr h3 ht h4 h
    have hs := hT.2 x (by omega)
    rw [skF] at h
    apply v_Mod_nextToken_0
    rw [h3, h4, i3n (by omega), i3n (by omega), Int.toNat_natCast, ht x (by omega), i3s (x := T.2 x) (by omega) (by omega)]
    have nx : (T.2 x = 10 ∨ T.2 x = 32) → ∀ m1 : sh_Mem, m1 = ms m 96 (ru (m 96) 4 ((x : Int) + 1)) → sh_X g (d + 1) m_Mod_nextToken 0 [(0, sh_r 96)] [] m1 (sh_K m_Mod_nextToken Q) := by
      rintro q _ rfl
      rw [if_pos q] at h
      exact ih (x + 1) _ (by omega) (Rk_f hr (by omega) _) (by rw [ms_s, ru_n _ _ (by decide)]; exact h3) (by rw [ms_n _ _ (by decide)]; exact ht) (by rw [ms_s, ru_s]; omega) h
    refine ⟨fun q => absurd q (by omega), fun _ => ⟨by omega, fun q => nx (Or.inr q), fun q => ⟨by omega, fun q2 => ?_, fun q2 => nx (Or.inl q2)⟩⟩⟩
    rw [if_neg (by omega)] at h
    exact l_nt_52 hT (by omega) hr h3 ht h4 h
theorem s_nextToken (hT : TpOk T) {t : Tok} {m : sh_Mem} (hr : RT m T t) (hq : t_q t ≤ T.1) (h : ∀ m', Rk m m' → RT m' T (tok T (t_q t)) → Q none m') : sh_Cal g (d + 1) m_Mod_nextToken [sh_r 96] m Q := by
  apply v_Mod_nextToken
  exact l_nt_0 hT (T.1 - t_q t) (t_q t) m (by omega) (Rk_rf m) hr.1 hr.2.2.2.2.2.2 hr.2.1 h
end NT2
