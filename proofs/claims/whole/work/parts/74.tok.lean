/-! ===== tokens ===== -/
abbrev isLt (s : Int) : Prop := 97 ≤ s ∧ s ≤ 122
abbrev isDg (s : Int) : Prop := 48 ≤ s ∧ s ≤ 57
abbrev isSg (s : Int) : Prop := (40 ≤ s ∧ s ≤ 43) ∨ s = 45 ∨ (59 ≤ s ∧ s ≤ 61)
/-- past blanks -/
def skF (f : Nat → Int) : Nat → Nat → Nat
  | 0, p => p
  | k + 1, p => if f p = 10 ∨ f p = 32 then skF f k (p + 1) else p
/-- past letters, past digits -/
def rlF (f : Nat → Int) : Nat → Nat → Nat
  | 0, p => p
  | k + 1, p => if isLt (f p) then rlF f k (p + 1) else p
def rdF (f : Nat → Int) : Nat → Nat → Nat
  | 0, p => p
  | k + 1, p => if isDg (f p) then rdF f k (p + 1) else p
/-- a word's number, a number's -/
def wvF (f : Nat → Int) (p : Nat) : Nat → Int
  | 0 => 0
  | n + 1 => wvF f p n * 27 + (f (p + n) - 96)
def nvF (f : Nat → Int) (p : Nat) : Nat → Int
  | 0 => 0
  | n + 1 => nvF f p n * 10 + (f (p + n) - 48)
theorem skF_rng (f : Nat → Int) : ∀ k p, p ≤ skF f k p ∧ skF f k p ≤ p + k
  | 0, p => by unfold skF; omega
  | k + 1, p => by have := skF_rng f k (p + 1); rw [skF]; split <;> omega
theorem rlF_rng (f : Nat → Int) : ∀ k p, p ≤ rlF f k p ∧ rlF f k p ≤ p + k
  | 0, p => by unfold rlF; omega
  | k + 1, p => by have := rlF_rng f k (p + 1); rw [rlF]; split <;> omega
theorem rdF_rng (f : Nat → Int) : ∀ k p, p ≤ rdF f k p ∧ rdF f k p ≤ p + k
  | 0, p => by unfold rdF; omega
  | k + 1, p => by have := rdF_rng f k (p + 1); rw [rdF]; split <;> omega
theorem rlF_all (f : Nat → Int) : ∀ k p i, p ≤ i → i < rlF f k p → isLt (f i)
  | 0, p, i, h1, h2 => by unfold rlF at h2; omega
  | k + 1, p, i, h1, h2 => by
    rw [rlF] at h2
    split at h2
    · rename_i q
      by_cases e : i = p
      · subst e; exact q
      · exact rlF_all f k (p + 1) i (by omega) h2
    · omega
/-- a token: its place, the place behind it, its kind (0 none, 1 a word, 2 a number, 3 the end, else the sign), its number -/
abbrev Tok : Type := Nat × Nat × Int × Int
abbrev t_p (t : Tok) : Nat := t.1
abbrev t_q (t : Tok) : Nat := t.2.1
abbrev t_k (t : Tok) : Int := t.2.2.1
abbrev t_v (t : Tok) : Int := t.2.2.2
def tokA (T : Tp) (p : Nat) : Tok :=
  if T.1 ≤ p then (p, p, 3, 0)
  else if isLt (T.2 p) then (p, rlF T.2 (T.1 - p) p, if rlF T.2 (T.1 - p) p - p ≤ 8 then 1 else 0, wvF T.2 p (rlF T.2 (T.1 - p) p - p))
  else if isDg (T.2 p) then (p, rdF T.2 (T.1 - p) p, if rdF T.2 (T.1 - p) p - p ≤ 4 then 2 else 0, nvF T.2 p (rdF T.2 (T.1 - p) p - p))
  else (p, p + 1, if isSg (T.2 p) then T.2 p else 0, 0)
def tok (T : Tp) (q : Nat) : Tok := tokA T (skF T.2 (T.1 - q) q)
theorem tok_rng {T : Tp} {q : Nat} (hq : q ≤ T.1) : q ≤ t_p (tok T q) ∧ t_p (tok T q) ≤ t_q (tok T q) ∧ t_q (tok T q) ≤ T.1 ∧ (t_k (tok T q) ≠ 3 → t_p (tok T q) < t_q (tok T q)) := by
  have h1 := skF_rng T.2 (T.1 - q) q
  unfold tok
  generalize skF T.2 (T.1 - q) q = p at h1 ⊢
  unfold tokA
  split
  · exact ⟨h1.1, by dsimp only [t_p, t_q]; omega, by dsimp only [t_p, t_q]; omega, fun z => absurd rfl z⟩
  · rename_i hp
    split
    · rename_i hl
      have h2 := rlF_rng T.2 (T.1 - p) p
      have h3 : p + 1 ≤ rlF T.2 (T.1 - p) p := by
        obtain ⟨k, hk⟩ : ∃ k, T.1 - p = k + 1 := ⟨T.1 - p - 1, by omega⟩
        rw [hk, rlF, if_pos hl]; exact (rlF_rng T.2 k (p + 1)).1
      exact ⟨h1.1, by dsimp only [t_p, t_q]; omega, by dsimp only [t_p, t_q]; omega, fun _ => by dsimp only [t_p, t_q]; omega⟩
    · split
      · rename_i hl hd
        have h2 := rdF_rng T.2 (T.1 - p) p
        have h3 : p + 1 ≤ rdF T.2 (T.1 - p) p := by
          obtain ⟨k, hk⟩ : ∃ k, T.1 - p = k + 1 := ⟨T.1 - p - 1, by omega⟩
          rw [hk, rdF, if_pos hd]; exact (rdF_rng T.2 k (p + 1)).1
        exact ⟨h1.1, by dsimp only [t_p, t_q]; omega, by dsimp only [t_p, t_q]; omega, fun _ => by dsimp only [t_p, t_q]; omega⟩
      · exact ⟨h1.1, by dsimp only [t_p, t_q]; omega, by dsimp only [t_p, t_q]; omega, fun _ => by dsimp only [t_p, t_q]; omega⟩
theorem wvF_rng {f : Nat → Int} {p : Nat} : ∀ n, n ≤ 8 → (∀ i, i < n → isLt (f (p + i))) → 0 ≤ wvF f p n ∧ wvF f p n ≤ 282429536480 ∧ (n ≤ 7 → wvF f p n ≤ 10460353202) ∧ (n ≤ 6 → wvF f p n ≤ 387420488) ∧ (n ≤ 5 → wvF f p n ≤ 14348906) ∧ (n ≤ 4 → wvF f p n ≤ 531440) ∧ (n ≤ 3 → wvF f p n ≤ 19682) ∧ (n ≤ 2 → wvF f p n ≤ 728) ∧ (n ≤ 1 → wvF f p n ≤ 26) ∧ (n ≤ 0 → wvF f p n ≤ 0)
  | 0, _, _ => by unfold wvF; omega
  | n + 1, h, hl => by
    have ih := wvF_rng (f := f) (p := p) n (by omega) (fun i hi => hl i (by omega))
    have := hl n (by omega)
    rw [wvF]; omega
/-- words with one number are one word -/
theorem wvF_inj {f h : Nat → Int} {p q : Nat} : ∀ n m, (∀ i, i < n → isLt (f (p + i))) → (∀ i, i < m → isLt (h (q + i))) → wvF f p n = wvF h q m → 0 ≤ wvF f p n → n = m ∧ ∀ i, i < n → f (p + i) = h (q + i)
  | 0, 0, _, _, _, _ => ⟨rfl, fun i hi => absurd hi (by omega)⟩
  | 0, m + 1, _, hh, e, _ => by
    exfalso
    have h0 : ∀ m, (∀ i, i < m → isLt (h (q + i))) → 0 ≤ wvF h q m := by
      intro m; induction m with
      | zero => intro _; unfold wvF; omega
      | succ m ih => intro z; have := ih (fun i hi => z i (by omega)); have := z m (by omega); rw [wvF]; omega
    have := h0 m (fun i hi => hh i (by omega)); have := hh m (by omega)
    rw [wvF, wvF] at e; omega
  | n + 1, 0, hf, _, e, _ => by
    exfalso
    have h0 : ∀ m, (∀ i, i < m → isLt (f (p + i))) → 0 ≤ wvF f p m := by
      intro m; induction m with
      | zero => intro _; unfold wvF; omega
      | succ m ih => intro z; have := ih (fun i hi => z i (by omega)); have := z m (by omega); rw [wvF]; omega
    have := h0 n (fun i hi => hf i (by omega)); have := hf n (by omega)
    rw [wvF, wvF] at e; omega
  | n + 1, m + 1, hf, hh, e, e0 => by
    have a := hf n (by omega)
    have b := hh m (by omega)
    rw [wvF] at e e0
    rw [wvF] at e
    have ih := wvF_inj n m (fun i hi => hf i (by omega)) (fun i hi => hh i (by omega)) (by omega) (by omega)
    refine ⟨by omega, fun i hi => ?_⟩
    by_cases z : i = n
    · obtain rfl : m = n := by omega
      subst z; omega
    · exact ih.2 i (by omega)
theorem wvF_cong {f h : Nat → Int} {p q : Nat} : ∀ n, (∀ i, i < n → f (p + i) = h (q + i)) → wvF f p n = wvF h q n
  | 0, _ => rfl
  | n + 1, e => by rw [wvF, wvF, wvF_cong n (fun i hi => e i (by omega)), e n (by omega)]
theorem tok_word {T : Tp} {q : Nat} (hq : q ≤ T.1) (h : t_k (tok T q) = 1) : (∀ i, i < t_q (tok T q) - t_p (tok T q) → isLt (T.2 (t_p (tok T q) + i))) ∧ t_q (tok T q) - t_p (tok T q) ≤ 8 ∧ t_v (tok T q) = wvF T.2 (t_p (tok T q)) (t_q (tok T q) - t_p (tok T q)) := by
  unfold tok at *
  generalize skF T.2 (T.1 - q) q = p at *
  unfold tokA at *
  split at h
  · exact absurd (show (3 : Int) = 1 from h) (by decide)
  · rename_i hp
    rw [if_neg hp]
    split at h
    · rename_i hl
      rw [if_pos hl]
      refine ⟨fun i hi => ?_, ?_, rfl⟩
      · have r := rlF_rng T.2 (T.1 - p) p
        exact rlF_all T.2 (T.1 - p) p (p + i) (by omega) (by dsimp only [t_p, t_q] at hi; omega)
      · by_cases z : rlF T.2 (T.1 - p) p - p ≤ 8
        · exact z
        · rw [show t_k (p, rlF T.2 (T.1 - p) p, (if rlF T.2 (T.1 - p) p - p ≤ 8 then (1 : Int) else 0), wvF T.2 p (rlF T.2 (T.1 - p) p - p)) = (if rlF T.2 (T.1 - p) p - p ≤ 8 then (1 : Int) else 0) from rfl, if_neg z] at h
          exact absurd h (by decide)
    · exfalso
      split at h
      · dsimp only [t_k] at h; split at h <;> omega
      · dsimp only [t_k] at h; split at h <;> omega
/-- how the reference holds a token -/
abbrev rK (k : Int) : Int := if k = 3 then 0 else if k = 1 then 1 else if k = 2 then 2 else if k = 0 then 4 else 3
def RT (m : sh_Mem) (T : Tp) (t : Tok) : Prop := m 96 3 = (T.1 : Int) ∧ m 96 4 = (t_q t : Int) ∧ m 96 5 = (t_p t : Int) ∧ m 96 6 = rK (t_k t) ∧ (t_k t = 1 → m 96 7 = t_v t) ∧ (t_k t = 2 → m 96 8 = t_v t) ∧ ∀ i, i < T.1 → m 97 i = T.2 i
/-- fields 4 to 8 of the reference alone are otherwise -/
def Rk (m m' : sh_Mem) : Prop := (∀ a, a ≠ 96 → m' a = m a) ∧ ∀ i, i < 4 ∨ 8 < i → m' 96 i = m 96 i
theorem Rk_rf (m : sh_Mem) : Rk m m := ⟨fun _ _ => rfl, fun _ _ => rfl⟩
theorem Rk_tr {m m' m'' : sh_Mem} (h : Rk m m') (h2 : Rk m' m'') : Rk m m'' := ⟨fun a ha => (h2.1 a ha).trans (h.1 a ha), fun i hi => (h2.2 i hi).trans (h.2 i hi)⟩
theorem Rk_f {m m' : sh_Mem} (h : Rk m m') {i : Nat} (hi : 4 ≤ i ∧ i ≤ 8) (x : Int) : Rk m (ms m' 96 (ru (m' 96) i x)) := ⟨fun a ha => by rw [ms_n _ _ ha]; exact h.1 a ha, fun j hj => by rw [ms_s, ru_n _ _ (by omega)]; exact h.2 j hj⟩
section NT
variable {g : sh_G} {d : Nat} {T : Tp} {mem : sh_Mem} {Q : Option sh_V → sh_Mem → Prop}
theorem s_signAt {m : sh_Mem} {k : Nat} (hT : TpOk T) (h3 : m 96 3 = (T.1 : Int)) (ht : ∀ i, i < T.1 → m 97 i = T.2 i) (hk : k ≤ 1000) (h : Q (some (sh_i (if k < T.1 then T.2 k else 0))) m) : sh_Cal g d m_Mod_signAt [sh_r 96, sh_i (k : Int)] m Q := by
  have t1 := hT.1
  apply v_Mod_signAt
  rw [h3, i3n (by omega), i3n (by omega)]
  refine ⟨fun q => ?_, fun q => ⟨by omega, ?_⟩⟩
  · rw [if_neg (by omega)] at h; exact h
  · rw [if_pos (by omega)] at h; rw [ht k (by omega)]; exact h
theorem l_nt_109 (hT : TpOk T) {p : Nat} {x1 : Int} : ∀ (k x : Nat) (m : sh_Mem), x + k = T.1 → p ≤ x → Rk mem m → m 96 3 = (T.1 : Int) → (∀ i, i < T.1 → m 97 i = T.2 i) → m 96 4 = (x : Int) → m 96 5 = (p : Int) → (x - p ≤ 8 → m 96 7 = wvF T.2 p (x - p)) →
    (∀ m', Rk mem m' → RT m' T (p, rlF T.2 k x, (if rlF T.2 k x - p ≤ 8 then 1 else 0), wvF T.2 p (rlF T.2 k x - p)) → Q none m') →
    sh_X g (d + 1) m_Mod_nextToken 109 [(0, sh_r 96), (1, sh_i x1)] [] m (sh_K m_Mod_nextToken Q) := by
  have t1 := hT.1
  intro k
  induction k with
  | zero =>
    intro x m hx hp hr h3 ht h4 h5 h7 h
    obtain rfl : x = T.1 := by omega
    rw [rlF] at h
    apply v_Mod_nextToken_109
    rw [h4]
    refine s_signAt hT h3 ht (by omega) ⟨_, rfl, ?_⟩
    rw [if_neg (by omega), h4, h5, i3s (x := ((T.1 : Nat) : Int) - (p : Int)) (by omega) (by omega)]
    refine ⟨fun _ => ⟨fun q => ?_, fun q => ?_⟩, fun q => absurd (by decide) q⟩
    · rintro _ rfl
      refine h _ (Rk_f hr (by omega) _) ⟨?_, ?_, ?_, ?_, ?_, ?_, ?_⟩
      · rw [ms_s, ru_n _ _ (by decide)]; exact h3
      · rw [ms_s, ru_n _ _ (by decide)]; exact h4
      · rw [ms_s, ru_n _ _ (by decide)]; exact h5
      · rw [ms_s, ru_s]; dsimp only [t_k]; rw [if_pos (by omega)]; rfl
      · intro _; rw [ms_s, ru_n _ _ (by decide)]; exact h7 (by omega)
      · intro z; dsimp only [t_k] at z; split at z <;> omega
      · rw [ms_n _ _ (by decide)]; exact ht
    · rintro _ rfl
      refine h _ (Rk_f hr (by omega) _) ⟨?_, ?_, ?_, ?_, ?_, ?_, ?_⟩
      · rw [ms_s, ru_n _ _ (by decide)]; exact h3
      · rw [ms_s, ru_n _ _ (by decide)]; exact h4
      · rw [ms_s, ru_n _ _ (by decide)]; exact h5
      · rw [ms_s, ru_s]; dsimp only [t_k]; rw [if_neg (by omega)]; rfl
      · intro z; dsimp only [t_k] at z; rw [if_neg (by omega)] at z; exact absurd z (by decide)
      · intro z; dsimp only [t_k] at z; rw [if_neg (by omega)] at z; exact absurd z (by decide)
      · rw [ms_n _ _ (by decide)]; exact ht
  | succ k ih =>
    intro x m hx hp hr h3 ht h4 h5 h7 h
    have hs := hT.2 x (by omega)
    rw [rlF] at h
    have fin : ¬ isLt (T.2 x) → ((i3 ((m 96 4) - (m 96 5)) ≤ 8 → (∀ m2 : sh_Mem, m2 = ms m 96 (ru (m 96) 6 1) → Q none m2)) ∧ (¬ i3 ((m 96 4) - (m 96 5)) ≤ 8 → (∀ m3 : sh_Mem, m3 = ms m 96 (ru (m 96) 6 4) → Q none m3))) := by
      intro q
      rw [if_neg q] at h
      rw [h4, h5, i3s (x := ((x : Nat) : Int) - (p : Int)) (by omega) (by omega)]
      refine ⟨fun q => ?_, fun q => ?_⟩
      · rintro _ rfl
        refine h _ (Rk_f hr (by omega) _) ⟨?_, ?_, ?_, ?_, ?_, ?_, ?_⟩
        · rw [ms_s, ru_n _ _ (by decide)]; exact h3
        · rw [ms_s, ru_n _ _ (by decide)]; exact h4
        · rw [ms_s, ru_n _ _ (by decide)]; exact h5
        · rw [ms_s, ru_s]; dsimp only [t_k]; rw [if_pos (by omega)]; rfl
        · intro _; rw [ms_s, ru_n _ _ (by decide)]; exact h7 (by omega)
        · intro z; dsimp only [t_k] at z; split at z <;> omega
        · rw [ms_n _ _ (by decide)]; exact ht
      · rintro _ rfl
        refine h _ (Rk_f hr (by omega) _) ⟨?_, ?_, ?_, ?_, ?_, ?_, ?_⟩
        · rw [ms_s, ru_n _ _ (by decide)]; exact h3
        · rw [ms_s, ru_n _ _ (by decide)]; exact h4
        · rw [ms_s, ru_n _ _ (by decide)]; exact h5
        · rw [ms_s, ru_s]; dsimp only [t_k]; rw [if_neg (by omega)]; rfl
        · intro z; dsimp only [t_k] at z; rw [if_neg (by omega)] at z; exact absurd z (by decide)
        · intro z; dsimp only [t_k] at z; rw [if_neg (by omega)] at z; exact absurd z (by decide)
        · rw [ms_n _ _ (by decide)]; exact ht
    apply v_Mod_nextToken_109
    rw [h4]
    refine s_signAt hT h3 ht (by omega) ⟨_, rfl, ?_⟩
    rw [if_pos (by omega), i3s (x := T.2 x) (by omega) (by omega)]
    refine ⟨fun q => fin (by omega), fun q => ?_⟩
    rw [h4]
    refine s_signAt hT h3 ht (by omega) ⟨_, rfl, ?_⟩
    rw [if_pos (by omega), i3s (x := T.2 x) (by omega) (by omega)]
    refine ⟨fun q2 => fin (by omega), fun q2 => ?_⟩
    rw [if_pos (by omega)] at h
    rw [h4, h5, i3s (x := ((x : Nat) : Int) - (p : Int)) (by omega) (by omega)]
    refine ⟨fun q3 => ?_, fun q3 => ?_⟩
    · rintro _ rfl
      refine ih (x + 1) _ (by omega) (by omega) (Rk_f hr (by omega) _) ?_ ?_ ?_ ?_ (fun z => absurd z (by omega)) h
      · rw [ms_s, ru_n _ _ (by decide)]; exact h3
      · rw [ms_n _ _ (by decide)]; exact ht
      · rw [ms_s, ru_s]; omega
      · rw [ms_s, ru_n _ _ (by decide)]; exact h5
    · refine s_signAt hT h3 ht (by omega) ⟨_, rfl, ?_⟩
      rw [if_pos (by omega), i_2lP (x := T.2 x) (by omega) (by omega), h7 (by omega)]
      rintro _ rfl
      rintro _ rfl
      rw [ms_s, ru_n _ _ (show (4 : Nat) ≠ 7 by decide), h4]
      have hr2 := Rk_f (Rk_f hr (i := 7) (by omega) (wvF T.2 p (x - p) * 27 + T.2 x - 96)) (i := 4) (by omega) ((x : Int) + 1)
      rw [ms_s] at hr2
      refine ih (x + 1) _ (by omega) (by omega) hr2 ?_ ?_ ?_ ?_ (fun _ => ?_) h
      · rw [ms_s, ru_n _ _ (by decide), ru_n _ _ (by decide)]; exact h3
      · rw [ms_n _ _ (by decide), ms_n _ _ (by decide)]; exact ht
      · rw [ms_s, ru_s]; omega
      · rw [ms_s, ru_n _ _ (by decide), ru_n _ _ (by decide)]; exact h5
      · rw [ms_s, ru_n _ _ (by decide), ru_s, show x + 1 - p = (x - p) + 1 by omega, wvF, show p + (x - p) = x by omega]; omega
theorem l_nt_224 (hT : TpOk T) {p : Nat} {x1 : Int} : ∀ (k x : Nat) (m : sh_Mem), x + k = T.1 → p ≤ x → Rk mem m → m 96 3 = (T.1 : Int) → (∀ i, i < T.1 → m 97 i = T.2 i) → m 96 4 = (x : Int) → m 96 5 = (p : Int) → (x - p ≤ 4 → m 96 8 = nvF T.2 p (x - p)) →
    (∀ m', Rk mem m' → RT m' T (p, rdF T.2 k x, (if rdF T.2 k x - p ≤ 4 then 2 else 0), nvF T.2 p (rdF T.2 k x - p)) → Q none m') →
    sh_X g (d + 1) m_Mod_nextToken 224 [(0, sh_r 96), (1, sh_i x1)] [] m (sh_K m_Mod_nextToken Q) := by
  have t1 := hT.1
  intro k
  induction k with
  | zero =>
    intro x m hx hp hr h3 ht h4 h5 h7 h
    obtain rfl : x = T.1 := by omega
    rw [rdF] at h
    apply v_Mod_nextToken_224
    rw [h4]
    refine s_signAt hT h3 ht (by omega) ⟨_, rfl, ?_⟩
    rw [if_neg (by omega), h4, h5, i3s (x := ((T.1 : Nat) : Int) - (p : Int)) (by omega) (by omega)]
    refine ⟨fun _ => ⟨fun q => ?_, fun q => ?_⟩, fun q => absurd (by decide) q⟩
    · rintro _ rfl
      refine h _ (Rk_f hr (by omega) _) ⟨?_, ?_, ?_, ?_, ?_, ?_, ?_⟩
      · rw [ms_s, ru_n _ _ (by decide)]; exact h3
      · rw [ms_s, ru_n _ _ (by decide)]; exact h4
      · rw [ms_s, ru_n _ _ (by decide)]; exact h5
      · rw [ms_s, ru_s]; dsimp only [t_k]; rw [if_pos (by omega)]; rfl
      · intro z; dsimp only [t_k] at z; split at z <;> omega
      · intro _; rw [ms_s, ru_n _ _ (by decide)]; exact h7 (by omega)
      · rw [ms_n _ _ (by decide)]; exact ht
    · rintro _ rfl
      refine h _ (Rk_f hr (by omega) _) ⟨?_, ?_, ?_, ?_, ?_, ?_, ?_⟩
      · rw [ms_s, ru_n _ _ (by decide)]; exact h3
      · rw [ms_s, ru_n _ _ (by decide)]; exact h4
      · rw [ms_s, ru_n _ _ (by decide)]; exact h5
      · rw [ms_s, ru_s]; dsimp only [t_k]; rw [if_neg (by omega)]; rfl
      · intro z; dsimp only [t_k] at z; rw [if_neg (by omega)] at z; exact absurd z (by decide)
      · intro z; dsimp only [t_k] at z; rw [if_neg (by omega)] at z; exact absurd z (by decide)
      · rw [ms_n _ _ (by decide)]; exact ht
  | succ k ih =>
    intro x m hx hp hr h3 ht h4 h5 h7 h
    have hs := hT.2 x (by omega)
    rw [rdF] at h
    have fin : ¬ isDg (T.2 x) → ((i3 ((m 96 4) - (m 96 5)) ≤ 4 → (∀ m2 : sh_Mem, m2 = ms m 96 (ru (m 96) 6 2) → Q none m2)) ∧ (¬ i3 ((m 96 4) - (m 96 5)) ≤ 4 → (∀ m3 : sh_Mem, m3 = ms m 96 (ru (m 96) 6 4) → Q none m3))) := by
      intro q
      rw [if_neg q] at h
      rw [h4, h5, i3s (x := ((x : Nat) : Int) - (p : Int)) (by omega) (by omega)]
      refine ⟨fun q => ?_, fun q => ?_⟩
      · rintro _ rfl
        refine h _ (Rk_f hr (by omega) _) ⟨?_, ?_, ?_, ?_, ?_, ?_, ?_⟩
        · rw [ms_s, ru_n _ _ (by decide)]; exact h3
        · rw [ms_s, ru_n _ _ (by decide)]; exact h4
        · rw [ms_s, ru_n _ _ (by decide)]; exact h5
        · rw [ms_s, ru_s]; dsimp only [t_k]; rw [if_pos (by omega)]; rfl
        · intro z; dsimp only [t_k] at z; split at z <;> omega
        · intro _; rw [ms_s, ru_n _ _ (by decide)]; exact h7 (by omega)
        · rw [ms_n _ _ (by decide)]; exact ht
      · rintro _ rfl
        refine h _ (Rk_f hr (by omega) _) ⟨?_, ?_, ?_, ?_, ?_, ?_, ?_⟩
        · rw [ms_s, ru_n _ _ (by decide)]; exact h3
        · rw [ms_s, ru_n _ _ (by decide)]; exact h4
        · rw [ms_s, ru_n _ _ (by decide)]; exact h5
        · rw [ms_s, ru_s]; dsimp only [t_k]; rw [if_neg (by omega)]; rfl
        · intro z; dsimp only [t_k] at z; rw [if_neg (by omega)] at z; exact absurd z (by decide)
        · intro z; dsimp only [t_k] at z; rw [if_neg (by omega)] at z; exact absurd z (by decide)
        · rw [ms_n _ _ (by decide)]; exact ht
    apply v_Mod_nextToken_224
    rw [h4]
    refine s_signAt hT h3 ht (by omega) ⟨_, rfl, ?_⟩
    rw [if_pos (by omega), i3s (x := T.2 x) (by omega) (by omega)]
    refine ⟨fun q => fin (by omega), fun q => ?_⟩
    rw [h4]
    refine s_signAt hT h3 ht (by omega) ⟨_, rfl, ?_⟩
    rw [if_pos (by omega), i3s (x := T.2 x) (by omega) (by omega)]
    refine ⟨fun q2 => fin (by omega), fun q2 => ?_⟩
    rw [if_pos (by omega)] at h
    rw [h4, h5, i3s (x := ((x : Nat) : Int) - (p : Int)) (by omega) (by omega)]
    refine ⟨fun q3 => ?_, fun q3 => ?_⟩
    · rintro _ rfl
      refine ih (x + 1) _ (by omega) (by omega) (Rk_f hr (by omega) _) ?_ ?_ ?_ ?_ (fun z => absurd z (by omega)) h
      · rw [ms_s, ru_n _ _ (by decide)]; exact h3
      · rw [ms_n _ _ (by decide)]; exact ht
      · rw [ms_s, ru_s]; omega
      · rw [ms_s, ru_n _ _ (by decide)]; exact h5
    · refine s_signAt hT h3 ht (by omega) ⟨_, rfl, ?_⟩
      rw [if_pos (by omega), h7 (by omega)]
      rintro _ rfl
      rintro _ rfl
      rw [ms_s, ru_n _ _ (show (4 : Nat) ≠ 8 by decide), h4]
      have hr2 := Rk_f (Rk_f hr (i := 8) (by omega) (nvF T.2 p (x - p) * 10 + T.2 x - 48)) (i := 4) (by omega) ((x : Int) + 1)
      rw [ms_s] at hr2
      refine ih (x + 1) _ (by omega) (by omega) hr2 ?_ ?_ ?_ ?_ (fun _ => ?_) h
      · rw [ms_s, ru_n _ _ (by decide), ru_n _ _ (by decide)]; exact h3
      · rw [ms_n _ _ (by decide), ms_n _ _ (by decide)]; exact ht
      · rw [ms_s, ru_s]; omega
      · rw [ms_s, ru_n _ _ (by decide), ru_n _ _ (by decide)]; exact h5
      · rw [ms_s, ru_n _ _ (by decide), ru_s, show x + 1 - p = (x - p) + 1 by omega, nvF, show p + (x - p) = x by omega]; omega
end NT
