/-! ===== year, of the class ===== -/
def pYs (T : Tp) (fd : Nat → Int) (nd : Nat) (ft : Nat → Int) (nt : Nat) : Nat → Tok → Se → Int ⊕ Se
  | 0, _, y => .inr y
  | k + 1, t, y => if t_k t = 3 then .inr y else match pYl T fd nd ft nt y t with
    | .inl f => .inl f
    | .inr q => pYs T fd nd ft nt k q.1 q.2
def pYear (T : Tp) (fd : Nat → Int) (nd : Nat) (ft : Nat → Int) (nt : Nat) : Int ⊕ Se := pYs T fd nd ft nt 1000 (tok T 0) z3
def YEn (Y : Nat) (m0 m : sh_Mem) : Prop := (∀ a, a ≠ 2 → a ≠ 4 → (a < Y ∨ Y + 3 < a) → m a = m0 a) ∧ m 2 1 = 0
section YEA
variable {g : sh_G} {d B Y nd nt : Nat} {T : Tp} {t : Tok} {m0 m : sh_Mem} {fd ft : Nat → Int} {y : Se} {Q : Option sh_V → sh_Mem → Prop}
theorem pNm_c {f : Nat → Int} {n : Nat} (hT : TpOk T) (ht : TK T t) : (∀ e, pNm T f n t = .inl e → fOk e) ∧ ∀ q, pNm T f n t = .inr q → TK T q.1 := by
  unfold pNm
  refine ⟨fun e h => ?_, fun q h => ?_⟩
  · split at h
    · split at h
      · cases h; exact flt_ok hT ht (by omega)
      · cases h
    · cases h; exact flt_ok hT ht (by omega)
  · split at h
    · split at h
      · cases h
      · cases h; exact TK_n ht
    · cases h
theorem pOth_c {f : Nat → Int} {n : Nat} {a : Int} (hT : TpOk T) (ht : TK T t) : (∀ e, pOth T f n a t = .inl e → fOk e) ∧ ∀ q, pOth T f n a t = .inr q → TK T q.1 := by
  unfold pOth
  split
  · exact ⟨fun e h => (by cases h; exact flt_ok hT ht (by omega)), fun q h => (by cases h)⟩
  · exact pNm_c hT ht
theorem pCl_c {k a b : Int} (hT : TpOk T) (ht : TK T t) : (∀ e, pCl T y k a b t = .inl e → fOk e) ∧ ∀ q, pCl T y k a b t = .inr q → TK T q.1 := by
  unfold pCl
  split
  · rename_i f hf; exact ⟨fun e h => (by cases h; exact (pSg_c hT ht).1 _ hf), fun q h => (by cases h)⟩
  · rename_i t2 h2; exact ⟨fun e h => (by cases h), fun q h => (by cases h; exact ((pSg_c hT ht).2 _ h2).1)⟩
theorem pYl_c (hT : TpOk T) (ht : TK T t) : (∀ e, pYl T fd nd ft nt y t = .inl e → fOk e) ∧ ∀ q, pYl T fd nd ft nt y t = .inr q → TK T q.1 := by
  have tk1 := TK_n ht
  unfold pYl
  split
  · exact ⟨fun e h => (by cases h; exact flt_ok hT ht (by omega)), fun q h => (by cases h)⟩
  · split
    · exact ⟨fun e h => (by cases h; exact flt_ok hT ht (by omega)), fun q h => (by cases h)⟩
    · split
      · exact pCl_c hT tk1
      · split
        · rename_i f hf; exact ⟨fun e h => (by cases h; exact (pNm_c hT tk1).1 _ hf), fun q h => (by cases h)⟩
        · rename_i q1 h1
          have tk2 := (pNm_c hT tk1).2 _ h1
          split
          · split
            · rename_i f hf; exact ⟨fun e h => (by cases h; exact (pNm_c hT tk2).1 _ hf), fun q h => (by cases h)⟩
            · rename_i q2 h2; exact pCl_c hT ((pNm_c hT tk2).2 _ h2)
          · split
            · split
              · rename_i f hf; exact ⟨fun e h => (by cases h; exact (pOth_c hT tk2).1 _ hf), fun q h => (by cases h)⟩
              · rename_i q2 h2; exact pCl_c hT ((pOth_c hT tk2).2 _ h2)
            · exact pCl_c hT tk2
theorem pYs_c (hT : TpOk T) : ∀ (k : Nat) (t : Tok) (y : Se), TK T t → ∀ e, pYs T fd nd ft nt k t y = .inl e → fOk e
  | 0, t, y, _, e, h => by rw [pYs] at h; cases h
  | k + 1, t, y, ht, e, h => by
    rw [pYs] at h
    split at h
    · cases h
    · split at h
      · rename_i f hf; cases h; exact (pYl_c hT ht).1 _ hf
      · rename_i q hq; exact pYs_c hT k q.1 q.2 ((pYl_c hT ht).2 _ hq) e h
theorem l_readYear (hJ : JD g) (hT : TpOk T) (hY : ob10 Y) (hB : ob0 B) (hBY : B + 10 < Y) (b0 : m0 B 0 = (nd : Int)) (b1 : m0 B 1 = (nt : Int)) (n8 : nd ≤ 8) (n4 : nt ≤ 4) (hfd : ∀ i, i < nd → m0 (B + 1) i = fd i ∧ wR (fd i)) (hft : ∀ i, i < nt → m0 (B + 5) i = ft i ∧ wR (ft i)) (hf : ∀ f m', pYear T fd nd ft nt = .inl f → YEn Y m0 m' → Q (some (sh_i f)) m') (h0 : ∀ y m', pYear T fd nd ft nt = .inr y → YEn Y m0 m' → CY m' Y y → Q (some (sh_i 0)) m') : ∀ (k i : Nat) (m : sh_Mem) (t : Tok) (y : Se), i + k = 1000 → TK T t → YSt Y m0 m T t y → pYear T fd nd ft nt = pYs T fd nd ft nt k t y →
    sh_X g (d + 14) m_Read_readYear 22 [(0, sh_r 4), (1, sh_r Y), (2, sh_r B), (3, sh_i 1), (4, sh_i (i : Int))] [] m (sh_K m_Read_readYear Q) := by
  have l := ob10_c hY
  have fin : ∀ (m : sh_Mem) (t : Tok) (y : Se), YSt Y m0 m T t y → pYear T fd nd ft nt = .inr y → sh_Cal g (d + 13) m_Tape_clear [sh_r 2] m (fun rv m1 => rv = none ∧ Q (some (sh_i (m1 4 1))) m1) := by
    intro m t y hs e
    apply v_Tape_clear
    intro m1 e1
    refine ⟨rfl, ?_⟩
    have e41 : m1 4 1 = 0 := by rw [e1, ms_n _ _ (by decide)]; exact hs.2.1
    rw [e41]
    exact h0 y m1 e ⟨fun a h2 h4 h5 => by rw [e1, ms_n _ _ h2]; exact hs.1.1 a h2 h4 h5, by rw [e1, ms_s, ru_s]⟩ (CY_cong hs.2.2.2.1 (by rw [e1, ms_n _ _ (by omega)]) (by rw [e1, ms_n _ _ (by omega)]) (by rw [e1, ms_n _ _ (by omega)]) (by rw [e1, ms_n _ _ (by omega)]))
  have bad : ∀ (m : sh_Mem) (f : Int), YFl Y m0 m f → pYear T fd nd ft nt = .inl f → sh_Cal g (d + 13) m_Tape_clear [sh_r 2] m (fun rv m1 => rv = none ∧ Q (some (sh_i (m1 4 1))) m1) := by
    intro m f hs e
    apply v_Tape_clear
    intro m1 e1
    refine ⟨rfl, ?_⟩
    have e41 : m1 4 1 = f := by rw [e1, ms_n _ _ (by decide)]; exact hs.2
    rw [e41]
    exact hf f m1 e ⟨fun a h2 h4 h5 => by rw [e1, ms_n _ _ h2]; exact hs.1.1 a h2 h4 h5, by rw [e1, ms_s, ru_s]⟩
  intro k
  induction k with
  | zero =>
    intro i m t y hi ht hs e
    rw [pYs] at e
    apply v_Read_readYear_22 hY hB
    rw [i3n (x := i) (by omega)]
    exact ⟨fun _ => fin m t y hs e, fun z => by omega⟩
  | succ k ih =>
    intro i m t y hi ht hs e
    have k6 := TK_k hT ht
    rw [pYs] at e
    apply v_Read_readYear_22 hY hB
    rw [i3n (x := i) (by omega), hs.2.2.1.2.2.2.1, i3s k6.1 k6.2]
    refine ⟨fun z => by omega, fun _ => ⟨fun z => absurd z (by decide), fun _ => ⟨fun z => ?_, fun z => ?_⟩⟩⟩
    · rw [if_pos z] at e; exact fin m t y hs e
    · rw [if_neg z] at e
      refine s_readYearLine (d := d) hJ hT hY hB hBY b0 b1 n8 n4 hfd hft ht hs ⟨fun f m' e2 k2 => ⟨0, rfl, ?_⟩, fun q m' e2 tk k2 => ⟨1, rfl, ?_⟩⟩
      · simp only [e2] at e
        apply v_Read_readYear_22 hY hB
        exact ⟨fun _ => bad m' f k2 e, fun _ => ⟨fun _ => bad m' f k2 e, fun z => absurd rfl z⟩⟩
      · simp only [e2] at e
        exact ih (i + 1) m' q.1 q.2 (by omega) tk k2 e
end YEA
