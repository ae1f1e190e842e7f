/-! ===== what both know, and how the reference holds it ===== -/
/-- how many, and three columns: a year (what, first, second), or what was seen (day, night, free) -/
abbrev Se : Type := Nat × (Nat → Int) × (Nat → Int) × (Nat → Int)
abbrev Mk : Type := Option ((Nat → Int) × Se × Se)
/-- book, names of days and of thieves, row, past, year, seen, marks, tape -/
abbrev Wd : Type := Bk × ((Nat → Int) × (Nat → Int)) × (Nat → Int) × List (Nat → Int) × Se × Se × (Nat → Mk) × (Nat × (Nat → Int))
abbrev w_b (w : Wd) : Bk := w.1
abbrev w_nm (w : Wd) : (Nat → Int) × (Nat → Int) := w.2.1
abbrev w_c (w : Wd) : Nat → Int := w.2.2.1
abbrev w_p (w : Wd) : List (Nat → Int) := w.2.2.2.1
abbrev w_y (w : Wd) : Se := w.2.2.2.2.1
abbrev w_s (w : Wd) : Se := w.2.2.2.2.2.1
abbrev w_m (w : Wd) : Nat → Mk := w.2.2.2.2.2.2.1
abbrev w_t (w : Wd) : Nat × (Nat → Int) := w.2.2.2.2.2.2.2
def SeOk (b : Bk) (s : Se) : Prop := s.1 ≤ 8 ∧ ∀ i, i < s.1 → 0 ≤ s.2.1 i ∧ s.2.1 i < b_nd b ∧ 0 ≤ s.2.2.1 i ∧ s.2.2.1 i ≤ 30 ∧ (s.2.2.2 i = 0 ∨ s.2.2.2 i = 1)
def YeOk (b : Bk) (y : Se) : Prop := y.1 ≤ 40 ∧ ∀ i, i < y.1 → ∃ a x : Nat, y.2.2.1 i = (a : Int) ∧ y.2.2.2 i = (x : Int) ∧ LnOk b (y.2.1 i) a x
def WOk (w : Wd) : Prop := BkOk (w_b w) ∧ Inv (w_b w) (w_c w) ∧ (w_p w).length ≤ 16 ∧ (∀ p ∈ w_p w, Inv (w_b w) p) ∧ YeOk (w_b w) (w_y w) ∧ SeOk (w_b w) (w_s w) ∧ (∀ j, j < 4 → ∀ q, w_m w j = some q → Inv (w_b w) q.1 ∧ YeOk (w_b w) q.2.1 ∧ SeOk (w_b w) q.2.2) ∧ (w_t w).1 ≤ 1000
/-- three columns from a place on -/
def Col (n : Int) (x y z : Nat → Int) (o : Nat) (s : Se) : Prop := n = (s.1 : Int) ∧ ∀ i, i < s.1 → x (o + i) = s.2.1 i ∧ y (o + i) = s.2.2.1 i ∧ z (o + i) = s.2.2.2 i
def RRel (w : Wd) (mem : sh_Mem) : Prop := MB mem (w_b w) ∧ ML mem (w_b w) ∧ (∀ i, i < b_nd (w_b w) → mem 99 i = (w_nm w).1 i) ∧ (∀ t, t < b_nt (w_b w) → mem 100 t = (w_nm w).2 t) ∧ EQ (mem 129) (w_c w) ∧ RP (mem 134) (mem 96) (w_p w) ∧
  Col (mem 121 0) (mem 122) (mem 123) (mem 124) 0 (w_y w) ∧ Col (mem 125 0) (mem 126) (mem 127) (mem 128) 0 (w_s w) ∧ ((∀ k, k < 40 → mem 128 k = 0 ∨ mem 128 k = 1) ∧ ∀ k, k < 240 → 0 ≤ mem 123 k ∧ 0 ≤ mem 124 k) ∧
  (∀ j, j < 4 → mem 135 j = (if (w_m w j).isSome then 1 else 0) ∧ ∀ q, w_m w j = some q → EQ (fun k => mem 133 (45 * j + k)) q.1 ∧ Col (mem 121 (1 + j)) (mem 122) (mem 123) (mem 124) (40 * (1 + j)) q.2.1 ∧ Col (mem 125 (1 + j)) (mem 126) (mem 127) (mem 128) (8 * (1 + j)) q.2.2) ∧
  mem 96 1 = ((w_t w).1 : Int) ∧ ∀ i, i < (w_t w).1 → mem 97 i = (w_t w).2 i
/-- the class's cells are as they were -/
def Lo (m m' : sh_Mem) : Prop := ∀ a, a < 96 → m' a = m a
theorem Lo_rf (m : sh_Mem) : Lo m m := fun _ _ => rfl
theorem Lo_tr {m m' m'' : sh_Mem} (h : Lo m m') (h2 : Lo m' m'') : Lo m m'' := fun a ha => (h2 a ha).trans (h a ha)
theorem Lo_ms {m m' : sh_Mem} (h : Lo m m') {a : Nat} (h1 : 96 ≤ a) (r : Nat → Int) : Lo m (ms m' a r) := fun b hb => by rw [ms_n _ _ (by omega)]; exact h b hb
theorem Lo_Sr {m m' : sh_Mem} (h : Sr m m') : Lo m m' := fun a ha => h.1 a (by unfold scr; omega)
theorem RP_cong {u f f' : Nat → Int} {L : List (Nat → Int)} (h : f' 51 = f 51) (hp : RP u f L) : RP u f' L := ⟨h.trans hp.1, hp.2⟩
/-- another row, what is scratch otherwise -/
theorem RRel_Sr {w : Wd} {c' : Nat → Int} {m m' : sh_Mem} (h : RRel w m) (hs : Sr m m') (he : EQ (m' 129) c') : RRel (w_b w, w_nm w, c', w.2.2.2) m' := by
  obtain ⟨h1, h2, h3, h4, h5, h6, h7, h8, h9, h10, h11, h12⟩ := h
  refine ⟨MB_Sr hs h1, ML_Sr hs h2, ?_, ?_, he, ?_, ?_, ?_, ?_, ?_, ?_, ?_⟩
  · rw [hs.1 99 (by decide)]; exact h3
  · rw [hs.1 100 (by decide)]; exact h4
  · rw [hs.1 134 (by decide)]; exact RP_cong hs.2.2.1 h6
  · rw [hs.1 121 (by decide), hs.1 122 (by decide), hs.1 123 (by decide), hs.1 124 (by decide)]; exact h7
  · rw [hs.1 125 (by decide), hs.1 126 (by decide), hs.1 127 (by decide), hs.1 128 (by decide)]; exact h8
  · rw [hs.1 128 (by decide), hs.1 123 (by decide), hs.1 124 (by decide)]; exact h9
  · rw [hs.1 135 (by decide), hs.1 133 (by decide), hs.1 121 (by decide), hs.1 122 (by decide), hs.1 123 (by decide), hs.1 124 (by decide), hs.1 125 (by decide), hs.1 126 (by decide), hs.1 127 (by decide), hs.1 128 (by decide)]; exact h10
  · rw [hs.2.1]; exact h11
  · rw [hs.1 97 (by decide)]; exact h12
theorem RRel_0 {w : Wd} {m : sh_Mem} (h : RRel w m) (x : Int) : RRel w (ms m 96 (ru (m 96) 0 x)) := by
  obtain ⟨h1, h2, h3, h4, h5, h6, h7, h8, h9, h10, h11, h12⟩ := h
  refine ⟨MB_ms h1 (by decide) (by decide) (by decide) (by decide) (by decide) (by decide), ML_cong h2 (ms_n _ _ (by decide)) (ms_n _ _ (by decide)) (ms_n _ _ (by decide)), ?_, ?_, ?_, ?_, ?_, ?_, ?_, ?_, ?_, ?_⟩
  · rw [ms_n _ _ (by decide)]; exact h3
  · rw [ms_n _ _ (by decide)]; exact h4
  · rw [ms_n _ _ (by decide)]; exact h5
  · rw [ms_n _ _ (by decide), ms_s]; exact RP_cong (ru_n _ _ (by decide)) h6
  · simp only [ms_n _ _ (show (121 : Nat) ≠ 96 by decide), ms_n _ _ (show (122 : Nat) ≠ 96 by decide), ms_n _ _ (show (123 : Nat) ≠ 96 by decide), ms_n _ _ (show (124 : Nat) ≠ 96 by decide)]; exact h7
  · simp only [ms_n _ _ (show (125 : Nat) ≠ 96 by decide), ms_n _ _ (show (126 : Nat) ≠ 96 by decide), ms_n _ _ (show (127 : Nat) ≠ 96 by decide), ms_n _ _ (show (128 : Nat) ≠ 96 by decide)]; exact h8
  · simp only [ms_n _ _ (show (128 : Nat) ≠ 96 by decide), ms_n _ _ (show (123 : Nat) ≠ 96 by decide), ms_n _ _ (show (124 : Nat) ≠ 96 by decide)]; exact h9
  · simp only [ms_n _ _ (show (135 : Nat) ≠ 96 by decide), ms_n _ _ (show (133 : Nat) ≠ 96 by decide), ms_n _ _ (show (121 : Nat) ≠ 96 by decide), ms_n _ _ (show (122 : Nat) ≠ 96 by decide), ms_n _ _ (show (123 : Nat) ≠ 96 by decide), ms_n _ _ (show (124 : Nat) ≠ 96 by decide), ms_n _ _ (show (125 : Nat) ≠ 96 by decide), ms_n _ _ (show (126 : Nat) ≠ 96 by decide), ms_n _ _ (show (127 : Nat) ≠ 96 by decide), ms_n _ _ (show (128 : Nat) ≠ 96 by decide)]; exact h10
  · rw [ms_s, ru_n _ _ (by decide)]; exact h11
  · rw [ms_n _ _ (by decide)]; exact h12
/-- what a call of the reference leaves: it holds w, has thrown nothing, and the class's cells are as they were -/
def RPost (w : Wd) (m m' : sh_Mem) : Prop := RRel w m' ∧ m' 96 0 = 0 ∧ Lo m m'
theorem RPost_0 {w : Wd} {m : sh_Mem} (h : RRel w m) : RPost w m (ms m 96 (ru (m 96) 0 0)) := ⟨RRel_0 h 0, by rw [ms_s, ru_s], Lo_ms (Lo_rf m) (by omega) _⟩
theorem RPost_Sr {w : Wd} {c' : Nat → Int} {m m1 m' : sh_Mem} (h : RPost w m m1) (hs : Sr m1 m') (he : EQ (m' 129) c') : RPost (w_b w, w_nm w, c', w.2.2.2) m m' := ⟨RRel_Sr h.1 hs he, by rw [hs.2.2.2]; exact h.2.1, Lo_tr h.2.2 (Lo_Sr hs)⟩
