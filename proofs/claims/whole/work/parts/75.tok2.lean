/-! ===== tokens: the reference, the class ===== -/
section NT2
variable {g : sh_G} {d : Nat} {T : Tp} {mem : sh_Mem} {Q : Option sh_V → sh_Mem → Prop}
theorem l_nt_322 (hT : TpOk T) {p : Nat} {m : sh_Mem} (hp : p < T.1) (hl : ¬ isLt (T.2 p)) (hd : ¬ isDg (T.2 p)) (hr : Rk mem m) (h3 : m 96 3 = (T.1 : Int)) (ht : ∀ i, i < T.1 → m 97 i = T.2 i) (h4 : m 96 4 = (p : Int)) (h5 : m 96 5 = (p : Int)) (h : ∀ m', Rk mem m' → RT m' T (tokA T p) → Q none m') :
    sh_X g (d + 1) m_Mod_nextToken 322 [(0, sh_r 96), (1, sh_i (T.2 p))] [] m (sh_K m_Mod_nextToken Q) := by
  have hs := hT.2 p hp
  have t1 := hT.1
  have e0 : tokA T p = (p, p + 1, if isSg (T.2 p) then T.2 p else 0, 0) := by unfold tokA; rw [if_neg (by omega), if_neg hl, if_neg hd]
  rw [e0] at h
  have ok : isSg (T.2 p) → ∀ m1 : sh_Mem, m1 = ms m 96 (ru (m 96) 4 ((p : Int) + 1)) → ∀ m2 : sh_Mem, m2 = ms m1 96 (ru (m1 96) 6 3) → Q none m2 := by
    rintro q _ rfl _ rfl
    rw [if_pos q] at h
    refine h _ (Rk_f (Rk_f hr (by omega) _) (by omega) _) ⟨?_, ?_, ?_, ?_, ?_, ?_, ?_⟩
    · rw [ms_s, ru_n _ _ (by decide), ms_s, ru_n _ _ (by decide)]; exact h3
    · rw [ms_s, ru_n _ _ (by decide), ms_s, ru_s]; dsimp only [t_q]; omega
    · rw [ms_s, ru_n _ _ (by decide), ms_s, ru_n _ _ (by decide)]; exact h5
    · rw [ms_s, ru_s]; show (3 : Int) = rK (T.2 p); unfold rK; rw [if_neg (by omega), if_neg (by omega), if_neg (by omega), if_neg (by omega)]
    · intro z; dsimp only [t_k] at z; omega
    · intro z; dsimp only [t_k] at z; omega
    · rw [ms_n _ _ (by decide), ms_n _ _ (by decide)]; exact ht
  have no : ¬ isSg (T.2 p) → ∀ m1 : sh_Mem, m1 = ms m 96 (ru (m 96) 4 ((p : Int) + 1)) → ∀ m2 : sh_Mem, m2 = ms m1 96 (ru (m1 96) 6 4) → Q none m2 := by
    rintro q _ rfl _ rfl
    rw [if_neg q] at h
    refine h _ (Rk_f (Rk_f hr (by omega) _) (by omega) _) ⟨?_, ?_, ?_, ?_, ?_, ?_, ?_⟩
    · rw [ms_s, ru_n _ _ (by decide), ms_s, ru_n _ _ (by decide)]; exact h3
    · rw [ms_s, ru_n _ _ (by decide), ms_s, ru_s]; dsimp only [t_q]; omega
    · rw [ms_s, ru_n _ _ (by decide), ms_s, ru_n _ _ (by decide)]; exact h5
    · rw [ms_s, ru_s]; rfl
    · intro z; dsimp only [t_k] at z; omega
    · intro z; dsimp only [t_k] at z; omega
    · rw [ms_n _ _ (by decide), ms_n _ _ (by decide)]; exact ht
  apply v_Mod_nextToken_322
  rw [h4, i3s (x := T.2 p) (by omega) (by omega)]
  intro m1 e1
  refine ⟨fun q => ⟨fun q2 => ok (by omega) m1 e1, fun q2 => ⟨fun q3 => no (by omega) m1 e1, fun q3 => ⟨fun q4 => no (by omega) m1 e1, fun q4 => ok (by omega) m1 e1⟩⟩⟩, fun q => ⟨fun q2 => ok (by omega) m1 e1, fun q2 => ⟨fun q3 => ok (by omega) m1 e1, fun q3 => ⟨fun q4 => no (by omega) m1 e1, fun q4 => ⟨fun q5 => no (by omega) m1 e1, fun q5 => ok (by omega) m1 e1⟩⟩⟩⟩⟩
theorem l_nt_52 (hT : TpOk T) {p : Nat} {m : sh_Mem} (hp : p ≤ T.1) (hr : Rk mem m) (h3 : m 96 3 = (T.1 : Int)) (ht : ∀ i, i < T.1 → m 97 i = T.2 i) (h4 : m 96 4 = (p : Int)) (h : ∀ m', Rk mem m' → RT m' T (tokA T p) → Q none m') :
    sh_X g (d + 1) m_Mod_nextToken 52 [(0, sh_r 96)] [] m (sh_K m_Mod_nextToken Q) := by
  have t1 := hT.1
  apply v_Mod_nextToken_52
  rintro _ rfl _ rfl _ rfl
  rw [h4]
  generalize hm3 : ms (ms (ms m 96 (ru (m 96) 5 (p : Int))) 96 (ru (ms m 96 (ru (m 96) 5 (p : Int)) 96) 7 0)) 96 (ru (ms (ms m 96 (ru (m 96) 5 (p : Int))) 96 (ru (ms m 96 (ru (m 96) 5 (p : Int)) 96) 7 0) 96) 8 0) = m3
  have hr3 : Rk mem m3 := by rw [← hm3]; exact Rk_f (Rk_f (Rk_f hr (by omega) _) (by omega) _) (by omega) _
  have a3 : m3 96 3 = (T.1 : Int) := by rw [← hm3, ms_s, ru_n _ _ (by decide), ms_s, ru_n _ _ (by decide), ms_s, ru_n _ _ (by decide)]; exact h3
  have a4 : m3 96 4 = (p : Int) := by rw [← hm3, ms_s, ru_n _ _ (by decide), ms_s, ru_n _ _ (by decide), ms_s, ru_n _ _ (by decide)]; exact h4
  have a5 : m3 96 5 = (p : Int) := by rw [← hm3, ms_s, ru_n _ _ (by decide), ms_s, ru_n _ _ (by decide), ms_s, ru_s]
  have a7 : m3 96 7 = 0 := by rw [← hm3, ms_s, ru_n _ _ (by decide), ms_s, ru_s]
  have a8 : m3 96 8 = 0 := by rw [← hm3, ms_s, ru_s]
  have at3 : ∀ i, i < T.1 → m3 97 i = T.2 i := by rw [← hm3, ms_n _ _ (by decide), ms_n _ _ (by decide), ms_n _ _ (by decide)]; exact ht
  clear hm3
  rw [a3, a4, i3n (by omega), i3n (by omega), Int.toNat_natCast]
  refine ⟨fun q => ?_, fun q => ?_⟩
  · have hs := hT.2 p (by omega)
    rw [at3 p (by omega), i3s (x := T.2 p) (by omega) (by omega)]
    have dig : ¬ isLt (T.2 p) → sh_X g (d + 1) m_Mod_nextToken 212 [(0, sh_r 96), (1, sh_i (T.2 p))] [] m3 (sh_K m_Mod_nextToken Q) := by
      intro hl
      apply v_Mod_nextToken_212
      rw [i3s (x := T.2 p) (by omega) (by omega)]
      have sg : ¬ isDg (T.2 p) → sh_X g (d + 1) m_Mod_nextToken 322 [(0, sh_r 96), (1, sh_i (T.2 p))] [] m3 (sh_K m_Mod_nextToken Q) := fun hd => l_nt_322 hT (by omega) hl hd hr3 a3 at3 a4 a5 h
      refine ⟨fun q2 => sg (by omega), fun q2 => ⟨fun q3 => sg (by omega), fun q3 => ?_⟩⟩
      have e0 : tokA T p = (p, rdF T.2 (T.1 - p) p, if rdF T.2 (T.1 - p) p - p ≤ 4 then 2 else 0, nvF T.2 p (rdF T.2 (T.1 - p) p - p)) := by unfold tokA; rw [if_neg (by omega), if_neg hl, if_pos (by omega)]
      rw [e0] at h
      exact l_nt_224 hT (T.1 - p) p m3 (by omega) (by omega) hr3 a3 at3 a4 a5 (fun _ => by rw [Nat.sub_self, nvF]; exact a8) h
    refine ⟨by omega, fun q2 => dig (by omega), fun q2 => ⟨fun q3 => dig (by omega), fun q3 => ?_⟩⟩
    have e0 : tokA T p = (p, rlF T.2 (T.1 - p) p, if rlF T.2 (T.1 - p) p - p ≤ 8 then 1 else 0, wvF T.2 p (rlF T.2 (T.1 - p) p - p)) := by unfold tokA; rw [if_neg (by omega), if_pos (by omega)]
    rw [e0] at h
    exact l_nt_109 hT (T.1 - p) p m3 (by omega) (by omega) hr3 a3 at3 a4 a5 (fun _ => by rw [Nat.sub_self, wvF]; exact a7) h
  · have e0 : tokA T p = (p, p, 3, 0) := by unfold tokA; rw [if_pos (by omega)]
    rw [e0] at h
    rintro _ rfl
    refine h _ (Rk_f hr3 (by omega) _) ⟨?_, ?_, ?_, ?_, fun z => absurd (show (3 : Int) = 1 from z) (by decide), fun z => absurd (show (3 : Int) = 2 from z) (by decide), ?_⟩
    · rw [ms_s, ru_n _ _ (by decide)]; exact a3
    · rw [ms_s, ru_n _ _ (by decide)]; exact a4
    · rw [ms_s, ru_n _ _ (by decide)]; exact a5
    · rw [ms_s, ru_s]; rfl
    · rw [ms_n _ _ (by decide)]; exact at3
theorem l_nt_0 (hT : TpOk T) : ∀ (k x : Nat) (m : sh_Mem), x + k = T.1 → Rk mem m → m 96 3 = (T.1 : Int) → (∀ i, i < T.1 → m 97 i = T.2 i) → m 96 4 = (x : Int) → (∀ m', Rk mem m' → RT m' T (tokA T (skF T.2 k x)) → Q none m') →
    sh_X g (d + 1) m_Mod_nextToken 0 [(0, sh_r 96)] [] m (sh_K m_Mod_nextToken Q) := by
  have t1 := hT.1
  intro k
  induction k with
  | zero =>
    intro x m hx hr h3 ht h4 h
    obtain rfl : x = T.1 := by omega
    rw [skF] at h
    apply v_Mod_nextToken_0
    rw [h3, h4]
    exact ⟨fun _ => l_nt_52 hT (by omega) hr h3 ht h4 h, fun q => absurd (by omega) q⟩
  | succ k ih =>
    intro x m hx hr h3 ht h4 h
    have hs := hT.2 x (by omega)
    rw [skF] at h
    apply v_Mod_nextToken_0
    rw [h3, h4, i3n (by omega), i3n (by omega), Int.toNat_natCast, ht x (by omega), i3s (x := T.2 x) (by omega) (by omega)]
    have nx : (T.2 x = 10 ∨ T.2 x = 32) → ∀ m1 : sh_Mem, m1 = ms m 96 (ru (m 96) 4 ((x : Int) + 1)) → sh_X g (d + 1) m_Mod_nextToken 0 [(0, sh_r 96)] [] m1 (sh_K m_Mod_nextToken Q) := by
      rintro q _ rfl
      rw [if_pos q] at h
      exact ih (x + 1) _ (by omega) (Rk_f hr (by omega) _) (by rw [ms_s, ru_n _ _ (by decide)]; exact h3) (by rw [ms_n _ _ (by decide)]; exact ht) (by rw [ms_s, ru_s]; omega) h
    refine ⟨fun q => absurd q (by omega), fun _ => ⟨by omega, fun q => nx (Or.inr q), fun q => ⟨by omega, fun q2 => ?_, fun q2 => nx (Or.inl q2)⟩⟩⟩
    rw [if_neg (by omega)] at h
    exact l_nt_52 hT (by omega) hr h3 ht h4 h
theorem s_nextToken (hT : TpOk T) {t : Tok} {m : sh_Mem} (hr : RT m T t) (hq : t_q t ≤ T.1) (h : ∀ m', Rk m m' → RT m' T (tok T (t_q t)) → Q none m') : sh_Cal g (d + 1) m_Mod_nextToken [sh_r 96] m Q := by
  apply v_Mod_nextToken
  exact l_nt_0 hT (T.1 - t_q t) (t_q t) m (by omega) (Rk_rf m) hr.1 hr.2.2.2.2.2.2 hr.2.1 h
/-- how the class holds a token -/
def CT (m : sh_Mem) (T : Tp) (t : Tok) : Prop := m 2 1 = (T.1 : Int) ∧ m 2 3 = (t_p t : Int) ∧ m 2 4 = (t_q t : Int) ∧ m 2 2 = t_k t ∧ (t_k t = 1 → m 2 5 = t_v t) ∧ (t_k t = 2 → m 2 6 = t_v t) ∧ ∀ i, i < T.1 → m 3 i = T.2 i
/-- fields 2 to 6 of the tape alone are otherwise -/
def Ck (m m' : sh_Mem) : Prop := (∀ a, a ≠ 2 → m' a = m a) ∧ m' 2 1 = m 2 1
theorem Ck_rf (m : sh_Mem) : Ck m m := ⟨fun _ _ => rfl, rfl⟩
theorem Ck_tr {m m' m'' : sh_Mem} (h : Ck m m') (h2 : Ck m' m'') : Ck m m'' := ⟨fun a ha => (h2.1 a ha).trans (h.1 a ha), h2.2.trans h.2⟩
theorem Ck_f {m m' : sh_Mem} (h : Ck m m') {i : Nat} (hi : i ≠ 1) (x : Int) : Ck m (ms m' 2 (ru (m' 2) i x)) := ⟨fun a ha => by rw [ms_n _ _ ha]; exact h.1 a ha, by rw [ms_s, ru_n _ _ (Ne.symm hi)]; exact h.2⟩
/-- the class's texts: their lengths and signs -/
def txL (i : Nat) : Nat := sh_len.getD i 0
def txC (i k : Nat) : Int := ((sh_byt.getD i []).getD k 0).toInt
/-- what the JDK's three members of a text do -/
def JD (g : sh_G) : Prop :=
  (∀ (d i : Nat) (m : sh_Mem) (Q : Option sh_V → sh_Mem → Prop), i < sh_nS → Q (some (sh_i (txL i : Int))) m → sh_Cal g (d + 8) m_Str_length [sh_r (i + 1000)] m Q) ∧
  (∀ (d i k : Nat) (m : sh_Mem) (Q : Option sh_V → sh_Mem → Prop), i < sh_nS → k < txL i → Q (some (sh_i (txC i k))) m → sh_Cal g (d + 8) m_Str_charAt [sh_r (i + 1000), sh_i (k : Int)] m Q) ∧
  ∀ (d : Nat) (x : Int) (m : sh_Mem) (Q : Option sh_V → sh_Mem → Prop), 0 ≤ x ∧ x ≤ 126 → (∀ r : Int, -1 ≤ r ∧ r ≤ 100 → (0 ≤ r ↔ isSg x) → Q (some (sh_i r)) m) → sh_Cal g (d + 8) m_Str_indexOf [sh_r 1000, sh_i x] m Q
theorem s_isLetter {s : Int} {m : sh_Mem} (hs : 0 ≤ s ∧ s ≤ 126) (h : Q (some (sh_i (if isLt s then 1 else 0))) m) : sh_Cal g d m_Tape_isLetter [sh_i s] m Q := by
  apply v_Tape_isLetter
  rw [i3s (x := s) (by omega) (by omega)]
  refine ⟨fun q => ?_, fun q => ⟨fun q2 => ?_, fun q2 => ?_⟩⟩
  · rw [if_neg (by omega)] at h; exact h
  · rw [if_neg (by omega)] at h; exact h
  · rw [if_pos (by omega)] at h; exact h
theorem s_isDigit {s : Int} {m : sh_Mem} (hs : 0 ≤ s ∧ s ≤ 126) (h : Q (some (sh_i (if isDg s then 1 else 0))) m) : sh_Cal g d m_Tape_isDigit [sh_i s] m Q := by
  apply v_Tape_isDigit
  rw [i3s (x := s) (by omega) (by omega)]
  refine ⟨fun q => ?_, fun q => ⟨fun q2 => ?_, fun q2 => ?_⟩⟩
  · rw [if_neg (by omega)] at h; exact h
  · rw [if_neg (by omega)] at h; exact h
  · rw [if_pos (by omega)] at h; exact h
theorem l_readWord (hT : TpOk T) {p : Nat} : ∀ (k x : Nat) (m : sh_Mem), x + k = T.1 → p ≤ x → Ck mem m → m 2 1 = (T.1 : Int) → (∀ i, i < T.1 → m 3 i = T.2 i) → m 2 4 = (x : Int) → m 2 3 = (p : Int) → m 2 5 = wvF T.2 p (x - p) →
    (∀ m', Ck mem m' → CT m' T (p, rlF T.2 k x, (if rlF T.2 k x - p ≤ 8 then 1 else 0), wvF T.2 p (rlF T.2 k x - p)) → Q none m') →
    sh_X g (d + 1) m_Tape_readWord 5 [(0, sh_r 2)] [] m (sh_K m_Tape_readWord Q) := by
  have t1 := hT.1
  intro k
  induction k with
  | zero =>
    intro x m hx hp hr h3 ht h4 h5 h7 h
    obtain rfl : x = T.1 := by omega
    rw [rlF] at h
    apply v_Tape_readWord_5
    rw [h3, h4, h5, i3s (x := ((T.1 : Nat) : Int) - (p : Int)) (by omega) (by omega)]
    refine ⟨fun _ => ⟨fun q => ?_, fun q => ?_⟩, fun q => absurd (by omega) q⟩
    · rintro _ rfl
      refine h _ (Ck_f hr (by omega) _) ⟨?_, ?_, ?_, ?_, ?_, ?_, ?_⟩
      · rw [ms_s, ru_n _ _ (by decide)]; exact h3
      · rw [ms_s, ru_n _ _ (by decide)]; exact h5
      · rw [ms_s, ru_n _ _ (by decide)]; exact h4
      · rw [ms_s, ru_s]; dsimp only [t_k]; rw [if_neg (by omega)]
      · intro z; dsimp only [t_k] at z; rw [if_neg (by omega)] at z; exact absurd z (by decide)
      · intro z; dsimp only [t_k] at z; rw [if_neg (by omega)] at z; exact absurd z (by decide)
      · rw [ms_n _ _ (by decide)]; exact ht
    · rintro _ rfl
      refine h _ (Ck_f hr (by omega) _) ⟨?_, ?_, ?_, ?_, ?_, ?_, ?_⟩
      · rw [ms_s, ru_n _ _ (by decide)]; exact h3
      · rw [ms_s, ru_n _ _ (by decide)]; exact h5
      · rw [ms_s, ru_n _ _ (by decide)]; exact h4
      · rw [ms_s, ru_s]; dsimp only [t_k]; rw [if_pos (by omega)]
      · intro _; rw [ms_s, ru_n _ _ (by decide)]; exact h7
      · intro z; dsimp only [t_k] at z; split at z <;> omega
      · rw [ms_n _ _ (by decide)]; exact ht
  | succ k ih =>
    intro x m hx hp hr h3 ht h4 h5 h7 h
    have hs := hT.2 x (by omega)
    rw [rlF] at h
    apply v_Tape_readWord_5
    rw [h3, h4, i3n (by omega), i3n (by omega), Int.toNat_natCast, ht x (by omega)]
    refine ⟨fun q => absurd q (by omega), fun _ => ⟨by omega, s_isLetter (by omega) ⟨_, rfl, ?_⟩⟩⟩
    rw [i3_01, h4, h5, i3s (x := ((x : Nat) : Int) - (p : Int)) (by omega) (by omega)]
    refine ⟨fun q => ?_, fun q => ⟨by omega, ?_⟩⟩
    · have hl : ¬ isLt (T.2 x) := fun z => by rw [if_pos z] at q; exact absurd q (by decide)
      rw [if_neg hl] at h
      refine ⟨fun q => ?_, fun q => ?_⟩
      · rintro _ rfl
        refine h _ (Ck_f hr (by omega) _) ⟨?_, ?_, ?_, ?_, ?_, ?_, ?_⟩
        · rw [ms_s, ru_n _ _ (by decide)]; exact h3
        · rw [ms_s, ru_n _ _ (by decide)]; exact h5
        · rw [ms_s, ru_n _ _ (by decide)]; exact h4
        · rw [ms_s, ru_s]; dsimp only [t_k]; rw [if_neg (by omega)]
        · intro z; dsimp only [t_k] at z; rw [if_neg (by omega)] at z; exact absurd z (by decide)
        · intro z; dsimp only [t_k] at z; rw [if_neg (by omega)] at z; exact absurd z (by decide)
        · rw [ms_n _ _ (by decide)]; exact ht
      · rintro _ rfl
        refine h _ (Ck_f hr (by omega) _) ⟨?_, ?_, ?_, ?_, ?_, ?_, ?_⟩
        · rw [ms_s, ru_n _ _ (by decide)]; exact h3
        · rw [ms_s, ru_n _ _ (by decide)]; exact h5
        · rw [ms_s, ru_n _ _ (by decide)]; exact h4
        · rw [ms_s, ru_s]; dsimp only [t_k]; rw [if_pos (by omega)]
        · intro _; rw [ms_s, ru_n _ _ (by decide)]; exact h7
        · intro z; dsimp only [t_k] at z; split at z <;> omega
        · rw [ms_n _ _ (by decide)]; exact ht
    · have hl : isLt (T.2 x) := by
        by_cases z : isLt (T.2 x)
        · exact z
        · rw [if_neg z] at q; exact absurd rfl q
      rw [if_pos hl] at h
      rw [Int.toNat_natCast, ht x (by omega), i_2lP (x := T.2 x - 97 + 1) (by omega) (by omega), h7]
      rintro _ rfl
      rintro _ rfl
      rw [ms_s, ru_n _ _ (show (4 : Nat) ≠ 5 by decide), h4]
      have hr2 := Ck_f (Ck_f hr (i := 5) (by omega) (wvF T.2 p (x - p) * 27 + (T.2 x - 97 + 1))) (i := 4) (by omega) ((x : Int) + 1)
      rw [ms_s] at hr2
      refine ih (x + 1) _ (by omega) (by omega) hr2 ?_ ?_ ?_ ?_ ?_ h
      · rw [ms_s, ru_n _ _ (by decide), ru_n _ _ (by decide)]; exact h3
      · rw [ms_n _ _ (by decide), ms_n _ _ (by decide)]; exact ht
      · rw [ms_s, ru_s]; omega
      · rw [ms_s, ru_n _ _ (by decide), ru_n _ _ (by decide)]; exact h5
      · rw [ms_s, ru_n _ _ (by decide), ru_s, show x + 1 - p = (x - p) + 1 by omega, wvF, show p + (x - p) = x by omega]; omega
theorem l_readNumber (hT : TpOk T) {p : Nat} : ∀ (k x : Nat) (m : sh_Mem), x + k = T.1 → p ≤ x → Ck mem m → m 2 1 = (T.1 : Int) → (∀ i, i < T.1 → m 3 i = T.2 i) → m 2 4 = (x : Int) → m 2 3 = (p : Int) → m 2 6 = nvF T.2 p (x - p) →
    (∀ m', Ck mem m' → CT m' T (p, rdF T.2 k x, (if rdF T.2 k x - p ≤ 4 then 2 else 0), nvF T.2 p (rdF T.2 k x - p)) → Q none m') →
    sh_X g (d + 1) m_Tape_readNumber 5 [(0, sh_r 2)] [] m (sh_K m_Tape_readNumber Q) := by
  have t1 := hT.1
  intro k
  induction k with
  | zero =>
    intro x m hx hp hr h3 ht h4 h5 h7 h
    obtain rfl : x = T.1 := by omega
    rw [rdF] at h
    apply v_Tape_readNumber_5
    rw [h3, h4, h5, i3s (x := ((T.1 : Nat) : Int) - (p : Int)) (by omega) (by omega)]
    refine ⟨fun _ => ⟨fun q => ?_, fun q => ?_⟩, fun q => absurd (by omega) q⟩
    · rintro _ rfl
      refine h _ (Ck_f hr (by omega) _) ⟨?_, ?_, ?_, ?_, ?_, ?_, ?_⟩
      · rw [ms_s, ru_n _ _ (by decide)]; exact h3
      · rw [ms_s, ru_n _ _ (by decide)]; exact h5
      · rw [ms_s, ru_n _ _ (by decide)]; exact h4
      · rw [ms_s, ru_s]; dsimp only [t_k]; rw [if_neg (by omega)]
      · intro z; dsimp only [t_k] at z; rw [if_neg (by omega)] at z; exact absurd z (by decide)
      · intro z; dsimp only [t_k] at z; rw [if_neg (by omega)] at z; exact absurd z (by decide)
      · rw [ms_n _ _ (by decide)]; exact ht
    · rintro _ rfl
      refine h _ (Ck_f hr (by omega) _) ⟨?_, ?_, ?_, ?_, ?_, ?_, ?_⟩
      · rw [ms_s, ru_n _ _ (by decide)]; exact h3
      · rw [ms_s, ru_n _ _ (by decide)]; exact h5
      · rw [ms_s, ru_n _ _ (by decide)]; exact h4
      · rw [ms_s, ru_s]; dsimp only [t_k]; rw [if_pos (by omega)]
      · intro z; dsimp only [t_k] at z; split at z <;> omega
      · intro _; rw [ms_s, ru_n _ _ (by decide)]; exact h7
      · rw [ms_n _ _ (by decide)]; exact ht
  | succ k ih =>
    intro x m hx hp hr h3 ht h4 h5 h7 h
    have hs := hT.2 x (by omega)
    rw [rdF] at h
    apply v_Tape_readNumber_5
    rw [h3, h4, i3n (by omega), i3n (by omega), Int.toNat_natCast, ht x (by omega)]
    refine ⟨fun q => absurd q (by omega), fun _ => ⟨by omega, s_isDigit (by omega) ⟨_, rfl, ?_⟩⟩⟩
    rw [i3_01, h4, h5, i3s (x := ((x : Nat) : Int) - (p : Int)) (by omega) (by omega)]
    refine ⟨fun q => ?_, fun q => ⟨by omega, ?_⟩⟩
    · have hl : ¬ isDg (T.2 x) := fun z => by rw [if_pos z] at q; exact absurd q (by decide)
      rw [if_neg hl] at h
      refine ⟨fun q => ?_, fun q => ?_⟩
      · rintro _ rfl
        refine h _ (Ck_f hr (by omega) _) ⟨?_, ?_, ?_, ?_, ?_, ?_, ?_⟩
        · rw [ms_s, ru_n _ _ (by decide)]; exact h3
        · rw [ms_s, ru_n _ _ (by decide)]; exact h5
        · rw [ms_s, ru_n _ _ (by decide)]; exact h4
        · rw [ms_s, ru_s]; dsimp only [t_k]; rw [if_neg (by omega)]
        · intro z; dsimp only [t_k] at z; rw [if_neg (by omega)] at z; exact absurd z (by decide)
        · intro z; dsimp only [t_k] at z; rw [if_neg (by omega)] at z; exact absurd z (by decide)
        · rw [ms_n _ _ (by decide)]; exact ht
      · rintro _ rfl
        refine h _ (Ck_f hr (by omega) _) ⟨?_, ?_, ?_, ?_, ?_, ?_, ?_⟩
        · rw [ms_s, ru_n _ _ (by decide)]; exact h3
        · rw [ms_s, ru_n _ _ (by decide)]; exact h5
        · rw [ms_s, ru_n _ _ (by decide)]; exact h4
        · rw [ms_s, ru_s]; dsimp only [t_k]; rw [if_pos (by omega)]
        · intro z; dsimp only [t_k] at z; split at z <;> omega
        · intro _; rw [ms_s, ru_n _ _ (by decide)]; exact h7
        · rw [ms_n _ _ (by decide)]; exact ht
    · have hl : isDg (T.2 x) := by
        by_cases z : isDg (T.2 x)
        · exact z
        · rw [if_neg z] at q; exact absurd rfl q
      rw [if_pos hl] at h
      rw [Int.toNat_natCast, ht x (by omega), h7]
      rintro _ rfl
      rintro _ rfl
      rw [ms_s, ru_n _ _ (show (4 : Nat) ≠ 6 by decide), h4]
      have hr2 := Ck_f (Ck_f hr (i := 6) (by omega) (nvF T.2 p (x - p) * 10 + (T.2 x - 48))) (i := 4) (by omega) ((x : Int) + 1)
      rw [ms_s] at hr2
      refine ih (x + 1) _ (by omega) (by omega) hr2 ?_ ?_ ?_ ?_ ?_ h
      · rw [ms_s, ru_n _ _ (by decide), ru_n _ _ (by decide)]; exact h3
      · rw [ms_n _ _ (by decide), ms_n _ _ (by decide)]; exact ht
      · rw [ms_s, ru_s]; omega
      · rw [ms_s, ru_n _ _ (by decide), ru_n _ _ (by decide)]; exact h5
      · rw [ms_s, ru_n _ _ (by decide), ru_s, show x + 1 - p = (x - p) + 1 by omega, nvF, show p + (x - p) = x by omega]
theorem i_2cP : ∀ x, x < 127 → i_2c ((x : Nat) : Int) = (x : Int) := by decide +kernel
theorem l_step_60 (hJ : JD g) (hT : TpOk T) {p : Nat} {m : sh_Mem} (hp : p ≤ T.1) (hr : Ck mem m) (h1 : m 2 1 = (T.1 : Int)) (ht : ∀ i, i < T.1 → m 3 i = T.2 i) (h3 : m 2 3 = (p : Int)) (h : ∀ m', Ck mem m' → CT m' T (tokA T p) → Q none m') :
    sh_X g (d + 9) m_Tape_step 60 [(0, sh_r 2)] [] m (sh_K m_Tape_step Q) := by
  have t1 := hT.1
  apply v_Tape_step_60
  rintro _ rfl
  rw [h3]
  generalize hm3 : ms m 2 (ru (m 2) 4 (p : Int)) = m3
  have hr3 : Ck mem m3 := by rw [← hm3]; exact Ck_f hr (by omega) _
  have a1 : m3 2 1 = (T.1 : Int) := by rw [← hm3, ms_s, ru_n _ _ (by decide)]; exact h1
  have a3 : m3 2 3 = (p : Int) := by rw [← hm3, ms_s, ru_n _ _ (by decide)]; exact h3
  have a4 : m3 2 4 = (p : Int) := by rw [← hm3, ms_s, ru_s]
  have at3 : ∀ i, i < T.1 → m3 3 i = T.2 i := by rw [← hm3, ms_n _ _ (by decide)]; exact ht
  clear hm3
  rw [a1, a3, i3n (by omega), i3n (by omega), Int.toNat_natCast]
  refine ⟨fun q => ⟨by omega, ?_⟩, fun q => ?_⟩
  · have hs := hT.2 p (by omega)
    rw [at3 p (by omega)]
    refine s_isLetter (by omega) ⟨_, rfl, ?_⟩
    rw [i3_01]
    refine ⟨fun q2 => ?_, fun q2 => ?_⟩
    · have hl : ¬ isLt (T.2 p) := fun z => by rw [if_pos z] at q2; exact absurd q2 (by decide)
      rw [a3, Int.toNat_natCast, at3 p (by omega)]
      refine ⟨by omega, s_isDigit (by omega) ⟨_, rfl, ?_⟩⟩
      rw [i3_01]
      refine ⟨fun q3 => ?_, fun q3 => ?_⟩
      · have hd : ¬ isDg (T.2 p) := fun z => by rw [if_pos z] at q3; exact absurd q3 (by decide)
        have e0 : tokA T p = (p, p + 1, if isSg (T.2 p) then T.2 p else 0, 0) := by unfold tokA; rw [if_neg (by omega), if_neg hl, if_neg hd]
        rw [e0] at h
        rw [a3]
        rintro _ rfl
        have b1 : ms m3 2 (ru (m3 2) 4 ((p : Int) + 1)) 2 3 = (p : Int) := by rw [ms_s, ru_n _ _ (by decide)]; exact a3
        rw [b1, Int.toNat_natCast, ms_n _ _ (show (3 : Nat) ≠ 2 by decide), at3 p (by omega)]
        obtain ⟨x, hx⟩ : ∃ x : Nat, T.2 p = (x : Int) := ⟨(T.2 p).toNat, by omega⟩
        rw [hx, i_2cP x (by omega), ← hx]
        refine ⟨by omega, hJ.2.2 d _ _ _ (by omega) (fun r hr0 hr1 => ⟨_, rfl, ?_⟩)⟩
        rw [i3s (x := r) (by omega) (by omega)]
        refine ⟨fun z => ?_, fun z => ⟨by omega, ?_⟩⟩
        · rintro _ rfl
          rw [if_neg (fun y => by have := hr1.mpr y; omega)] at h
          refine h _ (Ck_f (Ck_f hr3 (by omega) _) (by omega) _) ⟨?_, ?_, ?_, ?_, fun y => absurd (show (0 : Int) = 1 from y) (by decide), fun y => absurd (show (0 : Int) = 2 from y) (by decide), ?_⟩
          · rw [ms_s, ru_n _ _ (by decide), ms_s, ru_n _ _ (by decide)]; exact a1
          · rw [ms_s, ru_n _ _ (by decide), ms_s, ru_n _ _ (by decide)]; exact a3
          · rw [ms_s, ru_n _ _ (by decide), ms_s, ru_s]; dsimp only [t_q]; omega
          · rw [ms_s, ru_s]
          · rw [ms_n _ _ (by decide), ms_n _ _ (by decide)]; exact at3
        · have sg := hr1.mp (by omega)
          rintro _ rfl
          rw [if_pos sg] at h
          refine h _ (Ck_f (Ck_f hr3 (by omega) _) (by omega) _) ⟨?_, ?_, ?_, ?_, fun y => ?_, fun y => ?_, ?_⟩
          · rw [ms_s, ru_n _ _ (by decide), ms_s, ru_n _ _ (by decide)]; exact a1
          · rw [ms_s, ru_n _ _ (by decide), ms_s, ru_n _ _ (by decide)]; exact a3
          · rw [ms_s, ru_n _ _ (by decide), ms_s, ru_s]; dsimp only [t_q]; omega
          · rw [ms_s, ru_s, b1, Int.toNat_natCast, ms_n _ _ (by decide), at3 p (by omega)]
          · dsimp only [t_k] at y; omega
          · dsimp only [t_k] at y; omega
          · rw [ms_n _ _ (by decide), ms_n _ _ (by decide)]; exact at3
      · have hd : isDg (T.2 p) := by
          by_cases z : isDg (T.2 p)
          · exact z
          · rw [if_neg z] at q3; exact absurd rfl q3
        have e0 : tokA T p = (p, rdF T.2 (T.1 - p) p, if rdF T.2 (T.1 - p) p - p ≤ 4 then 2 else 0, nvF T.2 p (rdF T.2 (T.1 - p) p - p)) := by unfold tokA; rw [if_neg (by omega), if_neg hl, if_pos hd]
        rw [e0] at h
        apply v_Tape_readNumber
        rintro _ rfl
        exact l_readNumber (mem := mem) hT (T.1 - p) p _ (by omega) (by omega) (Ck_f hr3 (by omega) _) (by rw [ms_s, ru_n _ _ (by decide)]; exact a1) (by rw [ms_n _ _ (by decide)]; exact at3) (by rw [ms_s, ru_n _ _ (by decide)]; exact a4) (by rw [ms_s, ru_n _ _ (by decide)]; exact a3) (by rw [ms_s, ru_s, Nat.sub_self, nvF]) (fun m' y1 y2 => ⟨rfl, h m' y1 y2⟩)
    · have hl : isLt (T.2 p) := by
        by_cases z : isLt (T.2 p)
        · exact z
        · rw [if_neg z] at q2; exact absurd rfl q2
      have e0 : tokA T p = (p, rlF T.2 (T.1 - p) p, if rlF T.2 (T.1 - p) p - p ≤ 8 then 1 else 0, wvF T.2 p (rlF T.2 (T.1 - p) p - p)) := by unfold tokA; rw [if_neg (by omega), if_pos hl]
      rw [e0] at h
      apply v_Tape_readWord
      rintro _ rfl
      exact l_readWord (mem := mem) hT (T.1 - p) p _ (by omega) (by omega) (Ck_f hr3 (by omega) _) (by rw [ms_s, ru_n _ _ (by decide)]; exact a1) (by rw [ms_n _ _ (by decide)]; exact at3) (by rw [ms_s, ru_n _ _ (by decide)]; exact a4) (by rw [ms_s, ru_n _ _ (by decide)]; exact a3) (by rw [ms_s, ru_s, Nat.sub_self, wvF]) (fun m' y1 y2 => ⟨rfl, h m' y1 y2⟩)
  · have e0 : tokA T p = (p, p, 3, 0) := by unfold tokA; rw [if_pos (by omega)]
    rw [e0] at h
    rintro _ rfl
    refine h _ (Ck_f hr3 (by omega) _) ⟨?_, ?_, ?_, ?_, fun z => absurd (show (3 : Int) = 1 from z) (by decide), fun z => absurd (show (3 : Int) = 2 from z) (by decide), ?_⟩
    · rw [ms_s, ru_n _ _ (by decide)]; exact a1
    · rw [ms_s, ru_n _ _ (by decide)]; exact a3
    · rw [ms_s, ru_n _ _ (by decide)]; exact a4
    · rw [ms_s, ru_s]
    · rw [ms_n _ _ (by decide)]; exact at3
theorem l_step_8 (hJ : JD g) (hT : TpOk T) : ∀ (k x : Nat) (m : sh_Mem), x + k = T.1 → Ck mem m → m 2 1 = (T.1 : Int) → (∀ i, i < T.1 → m 3 i = T.2 i) → m 2 3 = (x : Int) → (∀ m', Ck mem m' → CT m' T (tokA T (skF T.2 k x)) → Q none m') →
    sh_X g (d + 9) m_Tape_step 8 [(0, sh_r 2)] [] m (sh_K m_Tape_step Q) := by
  have t1 := hT.1
  intro k
  induction k with
  | zero =>
    intro x m hx hr h3 ht h4 h
    obtain rfl : x = T.1 := by omega
    rw [skF] at h
    apply v_Tape_step_8
    rw [h3, h4]
    exact ⟨fun _ => l_step_60 hJ hT (by omega) hr h3 ht h4 h, fun q => absurd (by omega) q⟩
  | succ k ih =>
    intro x m hx hr h3 ht h4 h
    have hs := hT.2 x (by omega)
    rw [skF] at h
    apply v_Tape_step_8
    rw [h3, h4, i3n (by omega), i3n (by omega), Int.toNat_natCast, ht x (by omega), i3s (x := T.2 x) (by omega) (by omega)]
    have nx : (T.2 x = 10 ∨ T.2 x = 32) → ∀ m1 : sh_Mem, m1 = ms m 2 (ru (m 2) 3 ((x : Int) + 1)) → sh_X g (d + 9) m_Tape_step 8 [(0, sh_r 2)] [] m1 (sh_K m_Tape_step Q) := by
      rintro q _ rfl
      rw [if_pos q] at h
      exact ih (x + 1) _ (by omega) (Ck_f hr (by omega) _) (by rw [ms_s, ru_n _ _ (by decide)]; exact h3) (by rw [ms_n _ _ (by decide)]; exact ht) (by rw [ms_s, ru_s]; omega) h
    refine ⟨fun q => absurd q (by omega), fun _ => ⟨by omega, fun q => nx (Or.inl q), fun q => ⟨by omega, fun q2 => ?_, fun q2 => nx (Or.inr q2)⟩⟩⟩
    rw [if_neg (by omega)] at h
    exact l_step_60 hJ hT (by omega) hr h3 ht h4 h
theorem s_stepAt (hJ : JD g) (hT : TpOk T) {q : Nat} {m : sh_Mem} (h1 : m 2 1 = (T.1 : Int)) (ht : ∀ i, i < T.1 → m 3 i = T.2 i) (h4 : m 2 4 = (q : Int)) (hq : q ≤ T.1) (h : ∀ m', Ck m m' → CT m' T (tok T q) → Q none m') : sh_Cal g (d + 9) m_Tape_step [sh_r 2] m Q := by
  apply v_Tape_step
  rintro _ rfl
  exact l_step_8 (mem := m) hJ hT (T.1 - q) q _ (by omega) (Ck_f (Ck_rf m) (by omega) _) (by rw [ms_s, ru_n _ _ (by decide)]; exact h1) (by rw [ms_n _ _ (by decide)]; exact ht) (by rw [ms_s, ru_s]; exact h4) h
theorem s_step (hJ : JD g) (hT : TpOk T) {t : Tok} {m : sh_Mem} (hr : CT m T t) (hq : t_q t ≤ T.1) (h : ∀ m', Ck m m' → CT m' T (tok T (t_q t)) → Q none m') : sh_Cal g (d + 9) m_Tape_step [sh_r 2] m Q := s_stepAt hJ hT hr.1 hr.2.2.2.2.2.2 hr.2.2.1 hq h
end NT2
