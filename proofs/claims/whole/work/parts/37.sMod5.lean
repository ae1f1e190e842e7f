/-! ===== the reference: what a call may leave otherwise, what is kept, nights tried ===== -/
abbrev scr (a : Nat) : Prop := a = 96 ∨ (109 ≤ a ∧ a ≤ 120) ∨ (129 ≤ a ∧ a ≤ 132) ∨ (136 ≤ a ∧ a ≤ 138)
theorem ru_ru (r : Nat → Int) (i : Nat) (x y : Int) : ru (ru r i x) i y = ru r i y := by funext j; unfold ru; grind
def Sr (m m' : sh_Mem) : Prop := (∀ a, ¬ scr a → m' a = m a) ∧ m' 96 1 = m 96 1 ∧ m' 96 51 = m 96 51 ∧ m' 96 0 = m 96 0
theorem Sr_rf (m : sh_Mem) : Sr m m := ⟨fun _ _ => rfl, rfl, rfl, rfl⟩
theorem Sr_tr {m m' m'' : sh_Mem} (h : Sr m m') (h2 : Sr m' m'') : Sr m m'' := ⟨fun a ha => (h2.1 a ha).trans (h.1 a ha), h2.2.1.trans h.2.1, h2.2.2.1.trans h.2.2.1, h2.2.2.2.trans h.2.2.2⟩
theorem Sr_ms {m m' : sh_Mem} (h : Sr m m') {a : Nat} (h1 : scr a) (h2 : a ≠ 96) (r : Nat → Int) : Sr m (ms m' a r) :=
  ⟨fun b hb => by rw [ms_n _ _ (fun e : b = a => hb (by rw [e]; exact h1))]; exact h.1 b hb, by rw [ms_n _ _ (Ne.symm h2)]; exact h.2.1, by rw [ms_n _ _ (Ne.symm h2)]; exact h.2.2.1, by rw [ms_n _ _ (Ne.symm h2)]; exact h.2.2.2⟩
theorem Sr_96 {m m' : sh_Mem} (h : Sr m m') {i : Nat} (h1 : i ≠ 1) (h2 : i ≠ 51) (h3 : i ≠ 0) (x : Int) : Sr m (ms m' 96 (ru (m' 96) i x)) :=
  ⟨fun b hb => by rw [ms_n _ _ (fun e => hb (Or.inl e))]; exact h.1 b hb, by rw [ms_s, ru_n _ _ (Ne.symm h1)]; exact h.2.1, by rw [ms_s, ru_n _ _ (Ne.symm h2)]; exact h.2.2.1, by rw [ms_s, ru_n _ _ (Ne.symm h3)]; exact h.2.2.2⟩
theorem Sr_Ew {m m' m'' : sh_Mem} (h : Sr m m') (h2 : Ew m' m'') : Sr m m'' :=
  ⟨fun a ha => (h2 a (by unfold scr at ha; omega)).trans (h.1 a ha), by rw [h2 96 (by omega)]; exact h.2.1, by rw [h2 96 (by omega)]; exact h.2.2.1, by rw [h2 96 (by omega)]; exact h.2.2.2⟩
theorem MB_Sr {m m' : sh_Mem} {b : Bk} (h : Sr m m') (hb : MB m b) : MB m' b := MB_cong hb (h.1 98 (by decide)) (h.1 101 (by decide)) (h.1 102 (by decide)) (h.1 103 (by decide)) (h.1 104 (by decide)) (h.1 105 (by decide))
theorem ML_Sr {m m' : sh_Mem} {b : Bk} (h : Sr m m') (hb : ML m b) : ML m' b := ML_cong hb (h.1 106 (by decide)) (h.1 107 (by decide)) (h.1 108 (by decide))
theorem EQ_cp {f r c : Nat → Int} (h : EQ f c) : EQ (cpy f r 0 0 45) c := EQ_cong (r := f) (c := c) (fun k hk => by unfold cpy; rw [if_pos (by omega)]; congr 1; omega) (fun _ _ => rfl) h
/-- what is kept, the newest first -/
def RP (u f : Nat → Int) (L : List (Nat → Int)) : Prop := f 51 = (L.length : Int) ∧ L.length ≤ 16 ∧ ∀ i, i < L.length → EQ (fun k => u (45 * (L.length - 1 - i) + k)) (L.getD i (fun _ => 0))
theorem l_keeps_49 {g : sh_G} {d : Nat} {c : Nat → Int} {L : List (Nat → Int)} {m : sh_Mem} {Q : Option sh_V → sh_Mem → Prop} (hR : EQ (m 129) c) (hP : RP (m 134) (m 96) L) (hL : L.length ≤ 15) (h : ∀ r n, RP r (ru (m 96) 51 n) (c :: L) → Q none (ms (ms m 134 r) 96 (ru (m 96) 51 n))) :
    sh_X g (d + 1) m_Mod_keepsIt 49 [(0, sh_r 96)] [] m (sh_K m_Mod_keepsIt Q) := by
  obtain ⟨p1, p2, p3⟩ := hP
  apply v_Mod_keepsIt_49
  rw [p1, show (45 : Int) * (L.length : Int) = ((45 * L.length : Nat) : Int) by omega, show (0 : Int) = ((0 : Nat) : Int) from rfl]
  refine s_Mod_copies (A := 129) (B := 134) (n := 45) (n2 := 720) rfl rfl (by decide) (by omega) (by omega) ⟨rfl, ?_⟩
  rintro _ rfl
  rw [ms_n _ _ (show (96 : Nat) ≠ 134 by decide), p1]
  refine h _ _ ⟨by rw [ru_s]; simp, by simp; omega, fun i hi => ?_⟩
  simp only [List.length_cons] at hi ⊢
  cases i with
  | zero =>
    refine EQ_cong (fun k hk => ?_) (fun _ _ => rfl) hR
    unfold cpy; rw [if_pos (by omega)]; congr 1; omega
  | succ i =>
    rw [List.getD_cons_succ]
    refine EQ_cong (fun k hk => ?_) (fun _ _ => rfl) (p3 i (by omega))
    unfold cpy; rw [if_neg (by omega)]; congr 1; omega
def shF (u : Nat → Int) (x : Nat) : Nat → Int := fun k => if k < x then u (k + 45) else u k
theorem l_keeps_11 {g : sh_G} {d : Nat} {m : sh_Mem} {Q : Option sh_V → sh_Mem → Prop} (h : sh_X g (d + 1) m_Mod_keepsIt 49 [(0, sh_r 96)] [] (ms (ms m 134 (shF (m 134) 675)) 96 (ru (m 96) 51 (m 96 51 - 1))) (sh_K m_Mod_keepsIt Q)) : ∀ (k x : Nat), x + k = 675 →
    sh_X g (d + 1) m_Mod_keepsIt 11 [(0, sh_r 96), (1, sh_i (x : Int))] [] (ms m 134 (shF (m 134) x)) (sh_K m_Mod_keepsIt Q) := by
  intro k
  induction k with
  | zero =>
    intro x hx
    obtain rfl : x = 675 := by omega
    apply v_Mod_keepsIt_11
    refine ⟨fun _ => ?_, fun q => absurd (by decide) q⟩
    rintro _ rfl
    exact h
  | succ k ih =>
    intro x hx
    apply v_Mod_keepsIt_11
    rw [i3n (by omega)]
    refine ⟨fun q => absurd q (by omega), fun _ => ⟨by omega, by omega, ?_⟩⟩
    rintro _ rfl
    rw [ms_ms, ms_s]
    have e : ru (shF (m 134) x) x (shF (m 134) x (x + 45)) = shF (m 134) (x + 1) := by
      funext j; unfold ru shF
      by_cases e1 : j = x
      · subst e1; rw [if_pos rfl, if_neg (by omega), if_pos (by omega)]
      · rw [if_neg e1]
        by_cases e2 : j < x
        · rw [if_pos e2, if_pos (by omega)]
        · rw [if_neg e2, if_neg (by omega)]
    rw [e]
    exact ih (x + 1) (by omega)
theorem s_Mod_keepsIt {g : sh_G} {d : Nat} {mem : sh_Mem} {Q : Option sh_V → sh_Mem → Prop} {c : Nat → Int} {L : List (Nat → Int)} (hR : EQ (mem 129) c) (hP : RP (mem 134) (mem 96) L) (h : ∀ r n, RP r (ru (mem 96) 51 n) ((c :: L).take 16) → Q none (ms (ms mem 134 r) 96 (ru (mem 96) 51 n))) : sh_Cal g (d + 1) m_Mod_keepsIt [sh_r 96] mem Q := by
  obtain ⟨p1, p2, p3⟩ := id hP
  apply v_Mod_keepsIt
  rw [p1, i3n (by omega)]
  refine ⟨fun q => l_keeps_49 hR hP (by omega) (fun r n hr => h r n ?_), fun q => ?_⟩
  · rw [List.take_of_length_le (by simp; omega)]; exact hr
  · have q2 : L.length = 16 := by omega
    have w := l_keeps_11 (g := g) (d := d) (m := mem) (Q := Q) (l_keeps_49 (c := c) (L := L.take 15) (by rw [ms_n _ _ (by decide), ms_n _ _ (by decide)]; exact hR) ?_ (by simp; omega) (fun r n hr => ?_)) 675 0 (by omega)
    · have e : shF (mem 134) 0 = mem 134 := by funext k; unfold shF; rw [if_neg (by omega)]
      rw [e, ms_id] at w
      exact w
    · rw [ms_s, ms_n _ _ (by decide), ms_s]
      refine ⟨by rw [ru_s, p1]; simp [q2], by simp; omega, fun i hi => ?_⟩
      simp only [List.length_take, q2] at hi ⊢
      have e : (L.take 15).getD i (fun _ => 0) = L.getD i (fun _ => 0) := by
        simp only [List.getD_eq_getElem?_getD]; rw [List.getElem?_take_of_lt (by omega)]
      rw [e]
      refine EQ_cong (fun k hk => ?_) (fun _ _ => rfl) (p3 i (by omega))
      show shF (mem 134) 675 (45 * (min 15 16 - 1 - i) + k) = mem 134 (45 * (L.length - 1 - i) + k)
      unfold shF; rw [if_pos (by omega), q2]; congr 1; omega
    · have := h r n (by
        rw [ms_s, ru_ru] at hr
        rw [List.take_succ_cons]; exact hr)
      rw [ms_s, ru_ru]
      have e : ∀ A B C : Nat → Int, ms (ms (ms (ms mem 134 A) 96 B) 134 r) 96 C = ms (ms mem 134 r) 96 C := by intro A B C; funext a; unfold ms; grind
      rw [e]
      exact this
theorem l_laterAt {g : sh_G} {d a n : Nat} {b : Bk} {c : Nat → Int} {mem : sh_Mem} {Q : Option sh_V → sh_Mem → Prop} (hn : n ≤ 100000) (ha : a < 45) (hI : Inv b c) (hb : MB mem b) (h : ∀ r' m', EQ r' (nightsR b c n) → Sr mem m' → EQ (m' 129) c → Q (some (sh_i (r' a))) m') : ∀ (k x : Nat) (m : sh_Mem), x + k = n → Sr mem m → EQ (m 129) (nightsR b c x) → EQ (m 131) c →
    sh_X g (d + 3) m_Mod_laterAt 15 [(0, sh_r 96), (1, sh_i (a : Int)), (2, sh_i (n : Int)), (3, sh_i (x : Int))] [] m (sh_K m_Mod_laterAt Q) := by
  intro k
  induction k with
  | zero =>
    intro x m hx hs h1 h2
    obtain rfl : x = n := by omega
    apply v_Mod_laterAt_15
    refine ⟨fun _ => ⟨ha, ?_⟩, fun q => absurd (by omega) q⟩
    rw [show (0 : Int) = ((0 : Nat) : Int) from rfl]
    refine s_Mod_copies (A := 131) (B := 129) (n := 45) (n2 := 45) rfl rfl (by decide) (by omega) (by omega) ⟨rfl, ?_⟩
    exact h _ _ h1 (Sr_ms hs (by decide) (by decide) _) (by rw [ms_s]; exact EQ_cp h2)
  | succ k ih =>
    intro x m hx hs h1 h2
    apply v_Mod_laterAt_15
    rw [i3n (by omega), i3n (by omega)]
    refine ⟨fun q => absurd q (by omega), fun _ => s_Mod_passes h1 (Inv_nights hb.1 x c hI) (MB_Sr hs hb) (fun r hr => ⟨rfl, ?_⟩)⟩
    have := ih (x + 1) (ms m 129 r) (by omega) (Sr_ms hs (by decide) (by decide) _) (by rw [ms_s, nightsR_s]; exact hr) (by rw [ms_n _ _ (by decide)]; exact h2)
    exact this
theorem s_Mod_laterAt {g : sh_G} {d : Nat} {mem : sh_Mem} {Q : Option sh_V → sh_Mem → Prop} {a n : Nat} {b : Bk} {c : Nat → Int} (hn : n ≤ 100000) (ha : a < 45) (hR : EQ (mem 129) c) (hI : Inv b c) (hb : MB mem b) (h : ∀ r' m', EQ r' (nightsR b c n) → Sr mem m' → EQ (m' 129) c → Q (some (sh_i (r' a))) m') : sh_Cal g (d + 3) m_Mod_laterAt [sh_r 96, sh_i a, sh_i (n : Int)] mem Q := by
  apply v_Mod_laterAt
  rw [show (0 : Int) = ((0 : Nat) : Int) from rfl]
  refine s_Mod_copies (A := 129) (B := 131) (n := 45) (n2 := 45) rfl rfl (by decide) (by omega) (by omega) ⟨rfl, ?_⟩
  exact l_laterAt hn ha hI hb h n 0 _ (by omega) (Sr_ms (Sr_rf mem) (by decide) (by decide) _) (by rw [ms_n _ _ (by decide)]; exact hR) (by rw [ms_s]; exact EQ_cp hR)
