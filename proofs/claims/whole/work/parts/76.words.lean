/-! ===== words ===== -/
theorem l_cmp0 (a b : Int) : l_cmp a b = 0 ↔ i6 a = i6 b := by
  unfold l_cmp lg_cmp
  have e : Int64.ofInt a = Int64.ofInt b ↔ i6 a = i6 b := Int64.toInt_inj.symm
  rw [← e]
  by_cases h : Int64.ofInt a = Int64.ofInt b
  · rw [h, if_neg (Int64.lt_irrefl), if_pos rfl]; exact ⟨fun _ => rfl, fun _ => rfl⟩
  · by_cases h2 : Int64.ofInt a > Int64.ofInt b
    · rw [if_pos h2]; exact ⟨fun q => absurd q (by decide), fun q => absurd q h⟩
    · rw [if_neg h2, if_neg h]; exact ⟨fun q => absurd q (by decide), fun q => absurd q h⟩
/-- such as words' numbers are -/
abbrev wR (x : Int) : Prop := -1000000000000 ≤ x ∧ x ≤ 1000000000000
theorem l_cmpW {a b : Int} (ha : wR a) (hb : wR b) : l_cmp a b = 0 ↔ a = b := by rw [l_cmp0, i6_id (by omega) (by omega), i6_id (by omega) (by omega)]
/-- t is a token of T -/
def TK (T : Tp) (t : Tok) : Prop := ∃ q, q ≤ T.1 ∧ t = tok T q
theorem TK_q {T : Tp} {t : Tok} (h : TK T t) : t_p t ≤ t_q t ∧ t_q t ≤ T.1 ∧ (t_k t ≠ 3 → t_p t < t_q t) := by
  obtain ⟨q, hq, rfl⟩ := h; exact ⟨(tok_rng hq).2.1, (tok_rng hq).2.2.1, (tok_rng hq).2.2.2⟩
abbrev nx (T : Tp) (t : Tok) : Tok := tok T (t_q t)
theorem TK_n {T : Tp} {t : Tok} (h : TK T t) : TK T (nx T t) := ⟨t_q t, (TK_q h).2.1, rfl⟩
theorem nx_p {T : Tp} {t : Tok} (h : TK T t) : t_q t ≤ t_p (nx T t) := (tok_rng (TK_q h).2.1).1
theorem TK_w {T : Tp} {t : Tok} (h : TK T t) (hk : t_k t = 1) : (∀ i, i < t_q t - t_p t → isLt (T.2 (t_p t + i))) ∧ t_q t - t_p t ≤ 8 ∧ t_v t = wvF T.2 (t_p t) (t_q t - t_p t) := by
  obtain ⟨q, hq, rfl⟩ := h; exact tok_word hq hk
theorem TK_v {T : Tp} {t : Tok} (h : TK T t) (hk : t_k t = 1) : wR (t_v t) := by
  obtain ⟨a, b, c⟩ := TK_w h hk
  have := wvF_rng (f := T.2) (p := t_p t) _ b a
  rw [c]; omega
theorem tx_let : ∀ w, w < 25 → w ≠ 0 → w ≠ 2 → (txL w ≤ 8 ∧ ∀ k, k < txL w → isLt (txC w k)) := by decide +kernel
theorem tx_res : ∀ k, k < 100 → txC 2 k = 32 ∨ isLt (txC 2 k) := by decide +kernel
theorem tx_L2 : txL 2 = 100 := by decide
theorem tx_b : ∀ w, w < 25 → ∀ k, k < txL w → 0 ≤ txC w k ∧ txC w k ≤ 127 := by decide +kernel
theorem tx_l : ∀ w, w < 25 → txL w ≤ 100 := by decide +kernel
section WD
variable {g : sh_G} {d : Nat} {T : Tp} {t : Tok} {m : sh_Mem} {Q : Option sh_V → sh_Mem → Prop}
theorem l_spells {ww a b : Nat} (hJ : JD g) (hT : TpOk T) (ht : TK T t) (hr : CT m T t) (hw : ww < 25) (hab : a ≤ b) (hb : b ≤ txL ww) (hl : b - a = t_q t - t_p t) : ∀ (k x : Nat), x + k = b - a → (∀ i, i < x → txC ww (a + i) = T.2 (t_p t + i)) → Q (some (sh_i (if ∀ i, i < b - a → txC ww (a + i) = T.2 (t_p t + i) then 1 else 0))) m →
    sh_X g (d + 9) m_Tape_spells 20 [(0, sh_r 2), (1, sh_r (ww + 1000)), (2, sh_i (a : Int)), (3, sh_i (b : Int)), (4, sh_i (x : Int))] [] m (sh_K m_Tape_spells Q) := by
  have tq := TK_q ht
  have t1 := hT.1
  have bl := tx_l ww hw
  intro k
  induction k with
  | zero =>
    intro x hx hi h
    obtain rfl : x = b - a := by omega
    rw [if_pos hi] at h
    apply v_Tape_spells_20 hw
    rw [i3s (x := (b : Int) - (a : Int)) (by omega) (by omega), i3n (by omega)]
    exact ⟨fun _ => h, fun q => absurd (by omega) q⟩
  | succ k ih =>
    intro x hx hi h
    have hs := hT.2 (t_p t + x) (by omega)
    have tb := tx_b ww hw (a + x) (by omega)
    apply v_Tape_spells_20 hw
    rw [i3s (x := (b : Int) - (a : Int)) (by omega) (by omega), i3n (by omega), show ((a : Int) + (x : Int)) = ((a + x : Nat) : Int) by omega]
    refine ⟨fun q => absurd q (by omega), fun _ => hJ.2.1 d ww (a + x) m _ hw (by omega) ⟨_, rfl, ?_⟩⟩
    rw [hr.2.1, show (((t_p t : Nat) : Int) + (x : Int)).toNat = t_p t + x by omega, hr.2.2.2.2.2.2 _ (by omega), i3s (x := T.2 (t_p t + x)) (by omega) (by omega), i3s (x := txC ww (a + x)) (by omega) (by omega)]
    refine ⟨by omega, fun q => ih (x + 1) (by omega) (fun i h2 => ?_) h, fun q => ?_⟩
    · by_cases e : i = x
      · subst e; exact q
      · exact hi i (by omega)
    · rw [if_neg (fun z => q (z x (by omega)))] at h; exact h
theorem s_spells {ww a b : Nat} (hJ : JD g) (hT : TpOk T) (ht : TK T t) (hk : t_k t = 1) (hr : CT m T t) (hw : ww < 25) (hab : a ≤ b) (hb : b ≤ txL ww) (hlt : ∀ i, a ≤ i → i < b → isLt (txC ww i)) (h : Q (some (sh_i (if t_v t = wvF (txC ww) a (b - a) then 1 else 0))) m) : sh_Cal g (d + 9) m_Tape_spells [sh_r 2, sh_r (ww + 1000), sh_i (a : Int), sh_i (b : Int)] m Q := by
  have tq := TK_q ht
  have t1 := hT.1
  have bl := tx_l ww hw
  obtain ⟨w1, w2, w3⟩ := TK_w ht hk
  have w0 : 0 ≤ t_v t := by rw [w3]; exact (wvF_rng _ w2 w1).1
  apply v_Tape_spells hw
  rw [hr.2.1, hr.2.2.1, i3s (x := (b : Int) - (a : Int)) (by omega) (by omega), i3s (x := ((t_q t : Nat) : Int) - ((t_p t : Nat) : Int)) (by omega) (by omega)]
  refine ⟨fun q => ?_, fun q => ?_⟩
  · refine l_spells hJ hT ht hr hw hab hb (by omega) (b - a) 0 (by omega) (fun i hi => absurd hi (by omega)) ?_
    by_cases z : t_v t = wvF (txC ww) a (b - a)
    · rw [if_pos z] at h
      rw [w3] at z
      have := wvF_inj _ _ w1 (fun i hi => hlt (a + i) (by omega) (by omega)) z (by rw [← w3]; exact w0)
      rw [if_pos (fun i hi => (this.2 i (by omega)).symm)]; exact h
    · rw [if_neg z] at h
      rw [if_neg (fun y => z (by rw [w3, show t_q t - t_p t = b - a by omega]; exact wvF_cong _ (fun i hi => (y i hi).symm)))]; exact h
  · rw [if_neg (fun z => ?_)] at h
    · exact h
    · rw [w3] at z
      have := wvF_inj _ _ w1 (fun i hi => hlt (a + i) (by omega) (by omega)) z (by rw [← w3]; exact w0)
      omega
theorem s_isWord {ww : Nat} (hJ : JD g) (hT : TpOk T) (ht : TK T t) (hr : CT m T t) (hw : ww < 25) (h0 : ww ≠ 0) (h2 : ww ≠ 2) {C : Int} (hC : wvF (txC ww) 0 (txL ww) = C) (h : Q (some (sh_i (if t_k t = 1 ∧ t_v t = C then 1 else 0))) m) : sh_Cal g (d + 10) m_Tape_isWord [sh_r 2, sh_r (ww + 1000)] m Q := by
  have k6 : -1000000 ≤ t_k t ∧ t_k t ≤ 1000000 := by
    obtain ⟨q, hq, rfl⟩ := ht
    unfold tok
    generalize skF T.2 (T.1 - q) q = p
    unfold tokA
    split
    · dsimp only [t_k]; omega
    · rename_i hp
      have hs := hT.2 p (by omega)
      split
      · dsimp only [t_k]; split <;> omega
      · split
        · dsimp only [t_k]; split <;> omega
        · dsimp only [t_k]; split <;> omega
  apply v_Tape_isWord hw
  rw [hr.2.2.2.1, i3s k6.1 k6.2]
  refine ⟨fun q => ?_, fun q => ?_⟩
  · rw [if_neg (fun z => q z.1)] at h; exact h
  · refine hJ.1 (d + 1) ww m _ hw ⟨_, rfl, ?_⟩
    refine s_spells (a := 0) (b := txL ww) hJ hT ht q hr hw (by omega) (by omega) (fun i _ hi => (tx_let ww hw h0 h2).2 i hi) ⟨_, rfl, ?_⟩
    rw [i3_01, Nat.sub_zero, hC]
    refine ⟨fun z => ?_, fun z => ?_⟩
    · rw [if_neg (fun y => by rw [if_pos y.2] at z; exact absurd z (by decide))] at h; exact h
    · rw [if_pos ⟨q, by by_cases y : t_v t = C; exact y; rw [if_neg y] at z; exact absurd rfl z⟩] at h; exact h
/-- the words that are no names -/
def wlF : Nat → Nat → Nat → List Int
  | 0, _, _ => []
  | k + 1, x1, x2 => if txC 2 x2 = 32 then wvF (txC 2) x1 (x2 - x1) :: wlF k (x2 + 1) (x2 + 1) else wlF k x1 (x2 + 1)
abbrev resL : List Int := [2968, 12532058, 4134649, 10792986, 10320789, 374798, 316351, 7622660, 10494723, 377958, 10416334, 390787, 8740238, 284068024, 16922, 3288323, 10631, 1111, 423]
theorem wl_res : wlF 100 0 0 = resL := by decide +kernel
theorem l_isName (hJ : JD g) (hT : TpOk T) (ht : TK T t) (hk : t_k t = 1) (hr : CT m T t) : ∀ (k x1 x2 : Nat), x2 + k = 100 → x1 ≤ x2 → (∀ i, x1 ≤ i → i < x2 → isLt (txC 2 i)) → Q (some (sh_i (if t_v t ∈ wlF k x1 x2 then 0 else 1))) m →
    sh_X g (d + 10) m_Tape_isName 14 [(0, sh_r 2), (1, sh_i (x1 : Int)), (2, sh_i (x2 : Int))] [] m (sh_K m_Tape_isName Q) := by
  intro k
  induction k with
  | zero =>
    intro x1 x2 hx h12 hl h
    obtain rfl : x2 = 100 := by omega
    rw [wlF, if_neg (by simp)] at h
    apply v_Tape_isName_14
    refine hJ.1 (d + 1) 2 m _ (by decide) ⟨_, rfl, ?_⟩
    rw [tx_L2]
    exact ⟨fun _ => h, fun q => absurd (by decide) q⟩
  | succ k ih =>
    intro x1 x2 hx h12 hl h
    have tr := tx_res x2 (by omega)
    rw [wlF] at h
    apply v_Tape_isName_14
    refine hJ.1 (d + 1) 2 m _ (by decide) ⟨_, rfl, ?_⟩
    rw [tx_L2, i3n (by omega), i3n (by omega)]
    refine ⟨fun q => absurd q (by omega), fun _ => hJ.2.1 (d + 1) 2 x2 m _ (by decide) (by rw [tx_L2]; omega) ⟨_, rfl, ?_⟩⟩
    rw [i3s (x := txC 2 x2) (by omega) (by omega)]
    refine ⟨fun q => ?_, fun q => ?_⟩
    · rw [if_neg q] at h
      refine ih x1 (x2 + 1) (by omega) (by omega) (fun i h1 h2 => ?_) h
      by_cases e : i = x2
      · subst e; omega
      · exact hl i h1 (by omega)
    · rw [if_pos q] at h
      refine s_spells (ww := 2) (a := x1) (b := x2) hJ hT ht hk hr (by decide) h12 (by rw [tx_L2]; omega) hl ⟨_, rfl, ?_⟩
      rw [i3_01]
      refine ⟨fun z => ?_, fun z => ?_⟩
      · have z2 : ¬ t_v t = wvF (txC 2) x1 (x2 - x1) := fun y => by rw [if_pos y] at z; exact absurd z (by decide)
        refine ih (x2 + 1) (x2 + 1) (by omega) (by omega) (fun i h1 h2 => absurd h2 (by omega)) ?_
        by_cases y : t_v t ∈ wlF k (x2 + 1) (x2 + 1)
        · rw [if_pos y]; rw [if_pos (List.mem_cons_of_mem _ y)] at h; exact h
        · rw [if_neg y]; rw [if_neg (fun u => by rcases List.mem_cons.mp u with u | u; exact z2 u; exact y u)] at h; exact h
      · have z2 : t_v t = wvF (txC 2) x1 (x2 - x1) := by
          by_cases y : t_v t = wvF (txC 2) x1 (x2 - x1)
          · exact y
          · rw [if_neg y] at z; exact absurd rfl z
        rw [if_pos (by rw [z2]; exact List.mem_cons_self)] at h; exact h
abbrev isNm (t : Tok) : Prop := t_k t = 1 ∧ ¬ t_v t ∈ resL
theorem s_isName (hJ : JD g) (hT : TpOk T) (ht : TK T t) (hr : CT m T t) (hk6 : -1000000 ≤ t_k t ∧ t_k t ≤ 1000000) (h : Q (some (sh_i (if isNm t then 1 else 0))) m) : sh_Cal g (d + 10) m_Tape_isName [sh_r 2] m Q := by
  apply v_Tape_isName
  rw [hr.2.2.2.1, i3s hk6.1 hk6.2]
  refine ⟨fun q => ?_, fun q => ?_⟩
  · refine l_isName hJ hT ht q hr 100 0 0 (by omega) (by omega) (fun i _ h2 => absurd h2 (by omega)) ?_
    rw [wl_res]
    by_cases y : t_v t ∈ resL
    · rw [if_pos y]; rw [if_neg (fun z => z.2 y)] at h; exact h
    · rw [if_neg y]; rw [if_pos ⟨q, y⟩] at h; exact h
  · rw [if_neg (fun z => q z.1)] at h; exact h
end WD
theorem TK_k {T : Tp} {t : Tok} (hT : TpOk T) (ht : TK T t) : -1000000 ≤ t_k t ∧ t_k t ≤ 1000000 := by
  obtain ⟨q, hq, rfl⟩ := ht
  unfold tok
  generalize skF T.2 (T.1 - q) q = p
  unfold tokA
  split
  · dsimp only [t_k]; omega
  · rename_i hp
    have hs := hT.2 p (by omega)
    split
    · dsimp only [t_k]; split <;> omega
    · split
      · dsimp only [t_k]; split <;> omega
      · dsimp only [t_k]; split <;> omega
theorem TK_c {T : Tp} {t : Tok} (hT : TpOk T) (ht : TK T t) : t_k t = 0 ∨ t_k t = 1 ∨ t_k t = 2 ∨ t_k t = 3 ∨ (isSg (t_k t) ∧ T.2 (t_p t) = t_k t ∧ t_p t < T.1) := by
  obtain ⟨q, hq, rfl⟩ := ht
  unfold tok
  generalize skF T.2 (T.1 - q) q = p
  unfold tokA
  split
  · exact Or.inr (Or.inr (Or.inr (Or.inl rfl)))
  · rename_i hp
    split
    · dsimp only [t_k]; split
      · exact Or.inr (Or.inl rfl)
      · exact Or.inl rfl
    · split
      · dsimp only [t_k]; split
        · exact Or.inr (Or.inr (Or.inl rfl))
        · exact Or.inl rfl
      · dsimp only [t_k, t_p]; split
        · rename_i hs; exact Or.inr (Or.inr (Or.inr (Or.inr ⟨hs, rfl, by omega⟩)))
        · exact Or.inl rfl
theorem TK_n4 {T : Tp} {t : Tok} (hT : TpOk T) (ht : TK T t) (hk : t_k t = 2) : 0 ≤ t_v t ∧ t_v t ≤ 9999 := by
  have rdA : ∀ (f : Nat → Int) k p i, p ≤ i → i < rdF f k p → isDg (f i) := by
    intro f k
    induction k with
    | zero => intro p i h1 h2; unfold rdF at h2; omega
    | succ k ih =>
      intro p i h1 h2
      rw [rdF] at h2
      split at h2
      · rename_i q
        by_cases e : i = p
        · subst e; exact q
        · exact ih (p + 1) i (by omega) h2
      · omega
  have nv : ∀ (f : Nat → Int) (p n : Nat), n ≤ 4 → (∀ i, i < n → isDg (f (p + i))) → 0 ≤ nvF f p n ∧ nvF f p n ≤ 9999 ∧ (n ≤ 3 → nvF f p n ≤ 999) ∧ (n ≤ 2 → nvF f p n ≤ 99) ∧ (n ≤ 1 → nvF f p n ≤ 9) ∧ (n ≤ 0 → nvF f p n ≤ 0) := by
    intro f p n
    induction n with
    | zero => intro _ _; unfold nvF; omega
    | succ n ih => intro h1 h2; have := ih (by omega) (fun i hi => h2 i (by omega)); have := h2 n (by omega); rw [nvF]; omega
  obtain ⟨q, hq, rfl⟩ := ht
  unfold tok at *
  generalize skF T.2 (T.1 - q) q = p at *
  unfold tokA at *
  split at hk
  · exact absurd (show (3 : Int) = 2 from hk) (by decide)
  · rename_i hp
    rw [if_neg hp]
    split at hk
    · exfalso; dsimp only [t_k] at hk; split at hk <;> omega
    · rename_i hl
      rw [if_neg hl]
      split at hk
      · rename_i hd
        rw [if_pos hd]
        have r := rdF_rng T.2 (T.1 - p) p
        have l4 : rdF T.2 (T.1 - p) p - p ≤ 4 := by
          dsimp only [t_k] at hk; split at hk
          · assumption
          · omega
        have := nv T.2 p _ l4 (fun i hi => rdA T.2 (T.1 - p) p (p + i) (by omega) (by omega))
        exact ⟨this.1, this.2.1⟩
      · exfalso; dsimp only [t_k] at hk; split at hk <;> omega
