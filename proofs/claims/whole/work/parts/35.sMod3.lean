/-! ===== the reference's law, and what is simple of the rest ===== -/
def ML (mem : sh_Mem) (b : Bk) : Prop := ∃ f z : Nat, mem 106 0 = (f : Int) ∧ mem 107 0 = (z : Int) ∧ f ≤ 1000 ∧ z ≤ 1000 ∧ (z ≤ f → ∀ mu ol so da, b_pr b mu ol so da = clampN mu) ∧
  (f < z → (∀ i, f ≤ i → i < z → e_okc (mem 108 i)) ∧ ∀ m : sh_Mem, ∃ mF eF, e_run (mem 108) (z - f) f (e_open m 0) 0 = some (mF, eF) ∧ clampN (e_tv mF 0) = b_pr b (m 120 1) (m 120 2) (m 120 3) (m 120 4))
theorem ML_cong {mem m2 : sh_Mem} {b : Bk} (h : ML mem b) (h1 : m2 106 = mem 106) (h2 : m2 107 = mem 107) (h3 : m2 108 = mem 108) : ML m2 b := by
  unfold ML at *; rw [h1, h2, h3]; exact h
theorem MB_cong {mem m2 : sh_Mem} {b : Bk} (h : MB mem b) (h1 : m2 98 = mem 98) (h2 : m2 101 = mem 101) (h3 : m2 102 = mem 102) (h4 : m2 103 = mem 103) (h5 : m2 104 = mem 104) (h6 : m2 105 = mem 105) : MB m2 b := by
  unfold MB at *; rw [h1, h2, h3, h4, h5, h6]; exact h
/-- nothing but rows 109 to 120 is another -/
def Ew (m m' : sh_Mem) : Prop := ∀ a, a < 109 ∨ 120 < a → m' a = m a
theorem Ew_rf (m : sh_Mem) : Ew m m := fun _ _ => rfl
theorem Ew_tr {m m' m'' : sh_Mem} (h : Ew m m') (h2 : Ew m' m'') : Ew m m'' := fun a ha => (h2 a ha).trans (h a ha)
theorem Ew_ms {m m' : sh_Mem} (h : Ew m m') {a : Nat} (h1 : 109 ≤ a) (h2 : a ≤ 120) (r : Nat → Int) : Ew m (ms m' a r) := fun b hb => by rw [ms_n _ _ (by omega)]; exact h b hb
theorem Ew_Ev {m m' : sh_Mem} (h : Ev m m') : Ew m m' := fun a ha => h a (by omega)
theorem s_Mod_worked {g : sh_G} {d : Nat} {mem : sh_Mem} {Q : Option sh_V → sh_Mem → Prop} {f z eF : Nat} {mF : sh_Mem} (hf : mem 106 0 = (f : Int)) (hz : mem 107 0 = (z : Int)) (hz2 : z ≤ 1000) (hfz : f < z) (hc : ∀ i, f ≤ i → i < z → e_okc (mem 108 i)) (hr : e_run (mem 108) (z - f) f (e_open mem 0) 0 = some (mF, eF)) (h : ∀ m', Ev mem m' → Q (some (sh_i (e_tv mF 0))) m') : sh_Cal g (d + 2) m_Mod_worked [sh_r 96, sh_i ((0 : Nat) : Int)] mem Q := by
  apply v_Mod_worked
  refine s_Mod_openings (e := 0) (by omega) ⟨rfl, by omega, ?_⟩
  have e1 : (e_open mem 0) 106 = mem 106 := Ev_open (Ev_rf mem) 0 106 (by omega)
  rw [e1, hf]
  exact l_Mod_worked (mem0 := mem) (f0 := f) (z := z) hz hz2 hc (h _ (Ev_tests (Ev_run _ _ _ _ _ _ (Ev_open (Ev_rf mem) 0) hr) 0)) (z - f) f 0 _ (by omega) (by omega) (by omega) (Ev_open (Ev_rf mem) 0) hr
def prV (b : Bk) (c : Nat → Int) (t : Nat) : Int := if 0 < c (16 + t) then b_pr b (c (16 + t)) (c (24 + t)) (c (20 + t)) (c 44) else 0
theorem s_Mod_priceOf {g : sh_G} {d : Nat} {mem : sh_Mem} {Q : Option sh_V → sh_Mem → Prop} {t : Nat} {b : Bk} {c : Nat → Int} (hR : EQ (mem 129) c) (hI3 : InvT c t) (hl : ML mem b) (ht : t < 4) (h : ∀ m', Ew mem m' → Q (some (sh_i (prV b c t))) m') : sh_Cal g (d + 3) m_Mod_priceOf [sh_r 96, sh_i t] mem Q := by
  obtain ⟨f, z, l1, l2, l3, l4, l5, l6⟩ := hl
  have hr := hR.2.2 t ht
  apply v_Mod_priceOf
  refine s_Mod_hasPiece hR hI3 ht ⟨_, rfl, ?_⟩
  rw [i3s (by split <;> omega) (by split <;> omega), l1, l2, i3n (x := f) (by omega), i3n (x := z) (by omega)]
  unfold prV at h
  by_cases hp : 0 < c (16 + t)
  · simp only [if_pos hp] at h hr ⊢
    refine ⟨fun _ => ⟨by omega, fun q => s_Mod_between ⟨_, rfl, ?_⟩, fun q => ⟨by omega, ?_⟩⟩, fun q => absurd q (by omega)⟩
    · rw [hr.1, ← l5 (by omega) _ (c (24 + t)) (c (20 + t)) (c 44)]; exact h _ (Ew_rf mem)
    · rintro _ rfl
      refine ⟨by omega, ?_⟩
      rintro _ rfl
      refine ⟨by omega, ?_⟩
      rintro _ rfl
      rintro _ rfl
      simp only [ms_ms, ms_s, ms_n _ _ (show (129 : Nat) ≠ 120 by decide), hr.1, hr.2.1, hr.2.2.1, hR.1]
      generalize hm2 : ms mem 120 _ = m2
      have ew : Ew mem m2 := by rw [← hm2]; exact Ew_ms (Ew_rf mem) (by omega) (by omega) _
      obtain ⟨l7, l8⟩ := l6 (by omega)
      obtain ⟨mF, eF, l9, l10⟩ := l8 m2
      have a6 := ew 106 (by omega)
      have a7 := ew 107 (by omega)
      have a8 := ew 108 (by omega)
      have b1 : m2 120 1 = c (16 + t) ∧ m2 120 2 = c (24 + t) ∧ m2 120 3 = c (20 + t) ∧ m2 120 4 = c 44 := by
        rw [← hm2, ms_s]; simp (disch := omega) only [ru_s, ru_n, and_self]
      rw [b1.1, b1.2.1, b1.2.2.1, b1.2.2.2] at l10
      refine s_Mod_worked (f := f) (z := z) (mF := mF) (eF := eF) (by rw [a6]; exact l1) (by rw [a7]; exact l2) l4 (by omega) (by rw [a8]; exact l7) (by rw [a8]; exact l9) (fun m' hm' => ⟨_, rfl, s_Mod_between ⟨_, rfl, ?_⟩⟩)
      rw [l10]
      exact h m' (Ew_tr ew (Ew_Ev hm'))
  · simp only [if_neg hp] at h ⊢
    exact ⟨fun q => absurd trivial q, fun _ => h _ (Ew_rf mem)⟩
theorem s_Mod_sellsIt {g : sh_G} {d : Nat} {mem : sh_Mem} {Q : Option sh_V → sh_Mem → Prop} {t : Nat} {b : Bk} {c : Nat → Int} (hR : EQ (mem 129) c) (hI3 : InvT c t) (hl : ML mem b) (ht : t < 4) (hp : 0 < c (16 + t)) (h : ∀ m' r, Ew mem m' → EQ r (cashR c t (prV b c t)) → Q (some (sh_i (prV b c t))) (ms m' 129 r)) : sh_Cal g (d + 4) m_Mod_sellsIt [sh_r 96, sh_i t] mem Q := by
  apply v_Mod_sellsIt
  refine s_Mod_priceOf hR hI3 hl ht (fun m' hm' => ⟨_, rfl, by omega, by omega, ?_⟩)
  rintro _ rfl
  refine s_Mod_takesAway ht ⟨rfl, ?_⟩
  rw [ms_ms, ms_s, hm' 129 (by omega)]
  refine h _ _ hm' ?_
  have e1 := (hR.2.2 t ht).2.2.2.2.2.1
  rw [e1]
  exact EQ_o (EQ_x (j := 36 + t) hR (by omega) (by omega) _ |> fun q => by rw [show 37 + t = 36 + t + 1 by omega]; exact q) ht
theorem cpy_0 (f r : Nat → Int) (a b : Nat) : cpy f r a b 0 = r := by funext k; unfold cpy; rw [if_neg (by omega)]
theorem cpy_s (f r : Nat → Int) (a b n : Nat) : ru (cpy f r a b n) (b + n) (f (a + n)) = cpy f r a b (n + 1) := by
  funext k; unfold cpy ru
  by_cases h : k = b + n
  · subst h; rw [if_pos rfl, if_pos (by omega)]; congr 1; omega
  · rw [if_neg h]; show (if b ≤ k ∧ k < b + n then f (a + (k - b)) else r k) = _; by_cases h2 : b ≤ k ∧ k < b + n
    · rw [if_pos h2, if_pos (by omega)]
    · rw [if_neg h2, if_neg (by omega)]
theorem l_Mod_copies {g : sh_G} {d A B n n2 a b : Nat} {mem : sh_Mem} {Q : Option sh_V → sh_Mem → Prop} (hA : sh_shp A = some (.inr (0, n))) (hB : sh_shp B = some (.inr (0, n2))) (hAB : A ≠ B) (h1 : a + 45 ≤ n) (h2 : b + 45 ≤ n2) (h : Q none (ms mem B (cpy (mem A) (mem B) a b 45))) : ∀ k x : Nat, x + k = 45 →
    sh_X g d m_Mod_copies 3 [(0, sh_r A), (1, sh_i (a : Int)), (2, sh_r B), (3, sh_i (b : Int)), (4, sh_i (x : Int))] [] (ms mem B (cpy (mem A) (mem B) a b x)) (sh_K m_Mod_copies Q) := by
  intro k
  induction k with
  | zero =>
    intro x hx
    obtain rfl : x = 45 := by omega
    apply v_Mod_copies_3 hA hB
    exact ⟨fun _ => h, fun q => absurd (by decide) q⟩
  | succ k ih =>
    intro x hx
    apply v_Mod_copies_3 hA hB
    rw [i3n (by omega)]
    refine ⟨fun q => absurd q (by omega), fun _ => ⟨by omega, by omega, ?_⟩⟩
    rintro _ rfl
    rw [ms_ms, ms_s, ms_n _ _ hAB, cpy_s]
    exact ih (x + 1) (by omega)
theorem s_Mod_copies {g : sh_G} {d : Nat} {mem : sh_Mem} {Q : Option sh_V → sh_Mem → Prop} {A B n n2 a b : Nat} (hA : sh_shp A = some (.inr (0, n))) (hB : sh_shp B = some (.inr (0, n2))) (hAB : A ≠ B) (h1 : a + 45 ≤ n) (h2 : b + 45 ≤ n2) (h : Q (none) (ms mem B (cpy (mem A) (mem B) a b 45))) : sh_Cal g d m_Mod_copies [sh_r A, sh_i a, sh_r B, sh_i b] mem Q := by
  apply v_Mod_copies hA hB
  have q := l_Mod_copies (g := g) (d := d) hA hB hAB h1 h2 h 45 0 (by omega)
  rw [cpy_0, ms_id] at q
  exact q
