/-! ===== words, and the class's tokens ===== -/
theorem l_cmp0 (a b : Int) : l_cmp a b = 0 ↔ i6 a = i6 b := by
  unfold l_cmp lg_cmp
  have e : Int64.ofInt a = Int64.ofInt b ↔ i6 a = i6 b := Int64.toInt_inj.symm
  rw [← e]
  by_cases h : Int64.ofInt a = Int64.ofInt b
  · rw [h, if_neg (Int64.lt_irrefl), if_pos rfl]; exact ⟨fun _ => rfl, fun _ => rfl⟩
  · by_cases h2 : Int64.ofInt a > Int64.ofInt b
    · rw [if_pos h2]; exact ⟨fun q => absurd q (by decide), fun q => absurd q h⟩
    · rw [if_neg h2, if_neg h]; exact ⟨fun q => absurd q (by decide), fun q => absurd q h⟩
/-- such as words' numbers are -/
abbrev wR (x : Int) : Prop := -1000000000000 ≤ x ∧ x ≤ 1000000000000
theorem l_cmpW {a b : Int} (ha : wR a) (hb : wR b) : l_cmp a b = 0 ↔ a = b := by rw [l_cmp0, i6_id (by omega) (by omega), i6_id (by omega) (by omega)]
/-- the place of v in a list, counted from k on; -1: none -/
def ixL (v : Int) : List Int → Nat → Int
  | [], _ => -1
  | c :: l, k => if c = v then (k : Int) else ixL v l (k + 1)
theorem ixL_rng (v : Int) : ∀ (l : List Int) (k : Nat), ixL v l k = -1 ∨ ((k : Int) ≤ ixL v l k ∧ ixL v l k < ((k + l.length : Nat) : Int))
  | [], _ => Or.inl rfl
  | c :: l, k => by
    rw [ixL]
    split
    · right; rw [List.length_cons]; omega
    · rcases ixL_rng v l (k + 1) with h | h
      · exact Or.inl h
      · right; rw [List.length_cons]; omega
theorem ixL_none (v : Int) : ∀ (l : List Int) (k : Nat), ixL v l k = -1 ↔ ¬ v ∈ l
  | [], _ => ⟨fun _ => List.not_mem_nil, fun _ => rfl⟩
  | c :: l, k => by
    rw [ixL]
    by_cases e : c = v
    · rw [if_pos e]
      exact ⟨fun z => by omega, fun z => absurd (by rw [e]; exact List.mem_cons_self) z⟩
    · rw [if_neg e, ixL_none v l (k + 1)]
      exact ⟨fun z y => by rcases List.mem_cons.mp y with y | y; exact e y.symm; exact z y, fun z y => z (List.mem_cons_of_mem _ y)⟩
theorem ixL_at (v : Int) : ∀ (l : List Int) (k j : Nat), l.Nodup → (ixL v l k = ((k + j : Nat) : Int) ↔ l[j]? = some v)
  | [], k, j, _ => by
    rw [ixL]
    exact ⟨fun z => by omega, fun z => by simp at z⟩
  | c :: l, k, j, hn => by
    have hc := List.nodup_cons.mp hn
    rw [ixL]
    by_cases e : c = v
    · rw [if_pos e]
      cases j with
      | zero => exact ⟨fun _ => by rw [e]; rfl, fun _ => by omega⟩
      | succ j =>
        refine ⟨fun z => by omega, fun z => ?_⟩
        rw [List.getElem?_cons_succ] at z
        exact absurd (List.mem_of_getElem? z) (by rw [← e]; exact hc.1)
    · rw [if_neg e]
      cases j with
      | zero =>
        have r := ixL_rng v l (k + 1)
        refine ⟨fun z => by omega, fun z => ?_⟩
        rw [List.getElem?_cons_zero] at z
        exact absurd (Option.some.inj z) e
      | succ j =>
        have ih := ixL_at v l (k + 1) j hc.2
        rw [List.getElem?_cons_succ, ← ih, show k + 1 + j = k + (j + 1) by omega]
/-- the reserved words, in the order of their keys; the facts -/
abbrev resL : List Int := [2968, 10792986, 316351, 12532058, 4134649, 10320789, 374798, 7622660, 10494723, 377958, 10416334, 390787, 8740238, 284068024, 16922, 3288323, 10631, 1111, 423]
abbrev fcL : List Int := [271277, 11263, 385418, 80006]
def kyT (t : Tok) : Int := if t_k t = 1 then ixL (t_v t) resL 0 else -1
def fkT (t : Tok) : Int := if t_k t = 1 then ixL (t_v t) fcL 0 else -1
theorem kyT_c (t : Tok) : -1 ≤ kyT t ∧ kyT t ≤ 18 := by
  unfold kyT; split
  · have := ixL_rng (t_v t) resL 0
    have e : (0 + resL.length : Nat) = 19 := rfl
    rw [e] at this; omega
  · omega
theorem fkT_c (t : Tok) : -1 ≤ fkT t ∧ fkT t ≤ 3 := by
  unfold fkT; split
  · have := ixL_rng (t_v t) fcL 0
    have e : (0 + fcL.length : Nat) = 4 := rfl
    rw [e] at this; omega
  · omega
theorem ky_at {t : Tok} (j : Nat) {C : Int} (h : resL[j]? = some C) : kyT t = (j : Int) ↔ (t_k t = 1 ∧ t_v t = C) := by
  have q := ixL_at (t_v t) resL 0 j (by decide)
  rw [h, Nat.zero_add] at q
  unfold kyT
  by_cases e : t_k t = 1
  · rw [if_pos e, q]
    exact ⟨fun z => ⟨e, (Option.some.inj z).symm⟩, fun z => by rw [z.2]⟩
  · rw [if_neg e]
    exact ⟨fun z => by omega, fun z => absurd z.1 e⟩
theorem fk_at {t : Tok} (j : Nat) {C : Int} (h : fcL[j]? = some C) : fkT t = (j : Int) ↔ (t_k t = 1 ∧ t_v t = C) := by
  have q := ixL_at (t_v t) fcL 0 j (by decide)
  rw [h, Nat.zero_add] at q
  unfold fkT
  by_cases e : t_k t = 1
  · rw [if_pos e, q]
    exact ⟨fun z => ⟨e, (Option.some.inj z).symm⟩, fun z => by rw [z.2]⟩
  · rw [if_neg e]
    exact ⟨fun z => by omega, fun z => absurd z.1 e⟩
abbrev isNm (t : Tok) : Prop := t_k t = 1 ∧ ¬ t_v t ∈ resL
theorem ky_nm {t : Tok} (h : t_k t = 1) : kyT t = -1 ↔ ¬ t_v t ∈ resL := by
  unfold kyT; rw [if_pos h]; exact ixL_none _ _ _
/-- how the class holds a token: but for its key and fact, and with them -/
def CT0 (m : sh_Mem) (T : Tp) (t : Tok) : Prop := m 2 1 = (T.1 : Int) ∧ m 2 3 = (t_p t : Int) ∧ m 2 4 = (t_q t : Int) ∧ m 2 2 = t_k t ∧ (t_k t = 1 → m 2 7 = t_v t) ∧ (t_k t = 2 → m 2 8 = t_v t) ∧ ∀ i, i < T.1 → m 3 i = T.2 i
def CT (m : sh_Mem) (T : Tp) (t : Tok) : Prop := m 2 1 = (T.1 : Int) ∧ m 2 3 = (t_p t : Int) ∧ m 2 4 = (t_q t : Int) ∧ m 2 2 = t_k t ∧ (t_k t = 1 → m 2 7 = t_v t) ∧ (t_k t = 2 → m 2 8 = t_v t) ∧ (∀ i, i < T.1 → m 3 i = T.2 i) ∧ m 2 5 = kyT t ∧ m 2 6 = fkT t
/-- of the tape's fields all but the first two may be otherwise -/
def Ck (m m' : sh_Mem) : Prop := (∀ a, a ≠ 2 → m' a = m a) ∧ m' 2 1 = m 2 1
theorem Ck_rf (m : sh_Mem) : Ck m m := ⟨fun _ _ => rfl, rfl⟩
theorem Ck_tr {m m' m'' : sh_Mem} (h : Ck m m') (h2 : Ck m' m'') : Ck m m'' := ⟨fun a ha => (h2.1 a ha).trans (h.1 a ha), h2.2.trans h.2⟩
theorem Ck_f {m m' : sh_Mem} (h : Ck m m') {i : Nat} (hi : i ≠ 1) (x : Int) : Ck m (ms m' 2 (ru (m' 2) i x)) := ⟨fun a ha => by rw [ms_n _ _ ha]; exact h.1 a ha, by rw [ms_s, ru_n _ _ (Ne.symm hi)]; exact h.2⟩
/-- one field of the tape alone is otherwise -/
def Kt (j : Nat) (m m' : sh_Mem) : Prop := (∀ a, a ≠ 2 → m' a = m a) ∧ ∀ i, i ≠ j → m' 2 i = m 2 i
theorem Kt_f {m m' : sh_Mem} {j : Nat} (h : Kt j m m') (x : Int) : Kt j m (ms m' 2 (ru (m' 2) j x)) := ⟨fun a ha => by rw [ms_n _ _ ha]; exact h.1 a ha, fun i hi => by rw [ms_s, ru_n _ _ hi]; exact h.2 i hi⟩
/-- the class's texts: their lengths and signs -/
def txL (i : Nat) : Nat := sh_len.getD i 0
def txC (i k : Nat) : Int := ((sh_byt.getD i []).getD k 0).toInt
/-- what the JDK's three members of a text do -/
def JD (g : sh_G) : Prop :=
  (∀ (d i : Nat) (m : sh_Mem) (Q : Option sh_V → sh_Mem → Prop), i < sh_nS → Q (some (sh_i (txL i : Int))) m → sh_Cal g (d + 7) m_Str_length [sh_r (i + 1000)] m Q) ∧
  (∀ (d i k : Nat) (m : sh_Mem) (Q : Option sh_V → sh_Mem → Prop), i < sh_nS → k < txL i → Q (some (sh_i (txC i k))) m → sh_Cal g (d + 7) m_Str_charAt [sh_r (i + 1000), sh_i (k : Int)] m Q) ∧
  ∀ (d : Nat) (x : Int) (m : sh_Mem) (Q : Option sh_V → sh_Mem → Prop), 0 ≤ x ∧ x ≤ 126 → (∀ r : Int, -1 ≤ r ∧ r ≤ 100 → (0 ≤ r ↔ isSg x) → Q (some (sh_i r)) m) → sh_Cal g (d + 7) m_Str_indexOf [sh_r 1000, sh_i x] m Q
theorem tx_b : ∀ w, w < 3 → ∀ k, k < txL w → 0 ≤ txC w k ∧ txC w k ≤ 127 := by decide +kernel
theorem tx_l : ∀ w, w < 3 → txL w ≤ 100 := by decide +kernel
/-- the numbers of the words of a text -/
def nlF (ww : Nat) : Nat → Nat → Int → List Int
  | 0, _, _ => []
  | k + 1, i, o => if txC ww i = 32 then o :: nlF ww k (i + 1) 0 else nlF ww k (i + 1) (o * 27 + (txC ww i - 96))
theorem nl_res : nlF 1 (txL 1) 0 0 = resL := by decide +kernel
theorem nl_fc : nlF 2 (txL 2) 0 0 = fcL := by decide +kernel
theorem res_R : ∀ x ∈ resL, wR x := by decide +kernel
theorem fc_R : ∀ x ∈ fcL, wR x := by decide +kernel
section NT3
variable {g : sh_G} {d : Nat} {T : Tp} {mem m : sh_Mem} {Q : Option sh_V → sh_Mem → Prop}
theorem l_na {ww : Nat} {v : Int} (hJ : JD g) (hw : ww < 3) (hv : wR v) (h7 : m 2 7 = v) : ∀ (k a i : Nat) (o : Int), i + k = txL ww → (∀ x ∈ nlF ww k i o, wR x) → Q (some (sh_i (ixL v (nlF ww k i o) a))) m →
    sh_X g (d + 8) m_Tape_numberAmong 7 [(0, sh_r 2), (1, sh_r (ww + 1000)), (2, sh_i (a : Int)), (3, sh_l o), (5, sh_i (i : Int))] [] m (sh_K m_Tape_numberAmong Q) := by
  have bl := tx_l ww hw
  intro k
  induction k with
  | zero =>
    intro a i o hi hb h
    rw [nlF, ixL] at h
    apply v_Tape_numberAmong_7 hw
    refine hJ.1 d ww m _ hw ⟨_, rfl, ?_⟩
    rw [i3n (x := txL ww) (by omega), i3n (x := i) (by omega)]
    exact ⟨fun _ => h, fun q => absurd (by omega) q⟩
  | succ k ih =>
    intro a i o hi hb h
    have tb := tx_b ww hw i (by omega)
    rw [nlF] at h hb
    apply v_Tape_numberAmong_7 hw
    refine hJ.1 d ww m _ hw ⟨_, rfl, ?_⟩
    rw [i3n (x := txL ww) (by omega), i3n (x := i) (by omega)]
    refine ⟨fun q => absurd q (by omega), fun _ => hJ.2.1 d ww i m _ hw (by omega) ⟨_, rfl, ?_⟩⟩
    rw [i3s (x := txC ww i) (by omega) (by omega)]
    refine ⟨fun q => ?_, fun q => ?_⟩
    · rw [if_pos q] at h hb
      rw [h7, l_cmpW (hb o List.mem_cons_self) hv]
      rw [ixL] at h
      refine ⟨fun z => ?_, fun z => ?_⟩
      · rw [if_neg z] at h; exact ih (a + 1) (i + 1) 0 (by omega) (fun x hx => hb x (List.mem_cons_of_mem _ hx)) h
      · rw [if_pos z] at h; exact h
    · rw [if_neg q] at h hb
      rw [i_2lP (x := txC ww i - 97 + 1) (by omega) (by omega), show txC ww i - 97 + 1 = txC ww i - 96 by omega]
      exact ih a (i + 1) _ (by omega) hb h
theorem s_numberAmong {ww : Nat} {l : List Int} {v : Int} (hJ : JD g) (hw : ww < 3) (hl : nlF ww (txL ww) 0 0 = l) (hb : ∀ x ∈ l, wR x) (hv : wR v) (h7 : m 2 7 = v) (h : Q (some (sh_i (ixL v l 0))) m) : sh_Cal g (d + 8) m_Tape_numberAmong [sh_r 2, sh_r (ww + 1000)] m Q := by
  rw [← hl] at hb h
  apply v_Tape_numberAmong hw
  exact l_na hJ hw hv h7 (txL ww) 0 0 0 (by omega) hb h
/-- past signs of a kind -/
def rgF (lo hi : Int) (f : Nat → Int) : Nat → Nat → Nat
  | 0, p => p
  | k + 1, p => if lo ≤ f p ∧ f p ≤ hi then rgF lo hi f k (p + 1) else p
theorem rg_l (f : Nat → Int) : ∀ k p, rgF 97 122 f k p = rlF f k p
  | 0, _ => rfl
  | k + 1, p => by rw [rgF, rlF, rg_l f k (p + 1)]
theorem rg_d (f : Nat → Int) : ∀ k p, rgF 48 57 f k p = rdF f k p
  | 0, _ => rfl
  | k + 1, p => by rw [rgF, rdF, rg_d f k (p + 1)]
theorem l_sw {p : Nat} {lo hi : Int} (hT : TpOk T) (hlo : 0 ≤ lo ∧ lo ≤ 127) (hhi : 0 ≤ hi ∧ hi ≤ 127) (h1 : m 2 1 = (T.1 : Int)) (h3 : m 2 3 = (p : Int)) (ht : ∀ i, i < T.1 → m 3 i = T.2 i) : ∀ (k x : Nat), x + k = T.1 → Q (some (sh_i (((rgF lo hi T.2 k x : Nat) : Int) - (p : Int)))) m →
    sh_X g d m_Tape_signsWithin 5 [(0, sh_r 2), (1, sh_i lo), (2, sh_i hi), (3, sh_i (x : Int))] [] m (sh_K m_Tape_signsWithin Q) := by
  have t1 := hT.1
  intro k
  induction k with
  | zero =>
    intro x hx h
    rw [rgF] at h
    apply v_Tape_signsWithin_5
    rw [h1, h3, i3n (x := T.1) (by omega), i3n (x := x) (by omega)]
    exact ⟨fun _ => h, fun q => absurd (by omega) q⟩
  | succ k ih =>
    intro x hx h
    have hs := hT.2 x (by omega)
    rw [rgF] at h
    apply v_Tape_signsWithin_5
    rw [h1, h3, i3n (x := T.1) (by omega), i3n (x := x) (by omega), Int.toNat_natCast, ht x (by omega), i3s (x := T.2 x) (by omega) (by omega), i3s (x := lo) (by omega) (by omega), i3s (x := hi) (by omega) (by omega)]
    refine ⟨fun q => absurd q (by omega), fun _ => ⟨by omega, fun q => ?_, fun q => ⟨by omega, fun q2 => ?_, fun q2 => ?_⟩⟩⟩
    · rw [if_neg (by omega)] at h; exact h
    · rw [if_neg (by omega)] at h; exact h
    · rw [if_pos (by omega)] at h
      exact ih (x + 1) (by omega) h
theorem s_signsWithin {p : Nat} {lo hi : Int} (hT : TpOk T) (hlo : 0 ≤ lo ∧ lo ≤ 127) (hhi : 0 ≤ hi ∧ hi ≤ 127) (hp : p ≤ T.1) (h1 : m 2 1 = (T.1 : Int)) (h3 : m 2 3 = (p : Int)) (ht : ∀ i, i < T.1 → m 3 i = T.2 i) (h : Q (some (sh_i (((rgF lo hi T.2 (T.1 - p) p : Nat) : Int) - (p : Int)))) m) : sh_Cal g d m_Tape_signsWithin [sh_r 2, sh_i lo, sh_i hi] m Q := by
  apply v_Tape_signsWithin
  rw [h3]
  exact l_sw hT hlo hhi h1 h3 ht (T.1 - p) p (by omega) h
theorem l_rw {p q : Nat} {m0 : sh_Mem} {lt : Int} (hT : TpOk T) (hq : q ≤ T.1) (h4 : m0 2 4 = (q : Int)) (ht : ∀ i, i < T.1 → m0 3 i = T.2 i) (hl : ∀ i, p ≤ i → i < q → isLt (T.2 i)) (h : ∀ m', Kt 7 m0 m' → m' 2 7 = wvF T.2 p (q - p) → Q none m') : ∀ (k x : Nat) (m : sh_Mem), x + k = q → p ≤ x → Kt 7 m0 m → m 2 7 = wvF T.2 p (x - p) →
    sh_X g d m_Tape_readWord 37 [(0, sh_r 2), (1, sh_i lt), (2, sh_i (x : Int))] [] m (sh_K m_Tape_readWord Q) := by
  have t1 := hT.1
  intro k
  induction k with
  | zero =>
    intro x m hx hp hk h7
    have e : x = q := by omega
    rw [e] at h7 ⊢
    apply v_Tape_readWord_37
    rw [hk.2 4 (by decide), h4]
    exact ⟨fun _ => h m hk h7, fun z => absurd (Int.le_refl _) z⟩
  | succ k ih =>
    intro x m hx hp hk h7
    have hs := hl x hp (by omega)
    apply v_Tape_readWord_37
    rw [hk.2 4 (by decide), h4, i3n (x := q) (by omega), i3n (x := x) (by omega), Int.toNat_natCast, hk.1 3 (by decide), ht x (by omega), h7, i_2lP (x := T.2 x - 97 + 1) (by omega) (by omega)]
    refine ⟨fun z => absurd z (by omega), fun _ => ⟨by omega, ?_⟩⟩
    rintro _ rfl
    refine ih (x + 1) _ (by omega) (by omega) (Kt_f hk _) ?_
    rw [ms_s, ru_s, show x + 1 - p = (x - p) + 1 by omega, wvF, show p + (x - p) = x by omega]; omega
theorem l_rn {p q : Nat} {m0 : sh_Mem} {lt : Int} (hT : TpOk T) (hq : q ≤ T.1) (h4 : m0 2 4 = (q : Int)) (ht : ∀ i, i < T.1 → m0 3 i = T.2 i) (h : ∀ m', Kt 8 m0 m' → m' 2 8 = nvF T.2 p (q - p) → Q none m') : ∀ (k x : Nat) (m : sh_Mem), x + k = q → p ≤ x → Kt 8 m0 m → m 2 8 = nvF T.2 p (x - p) →
    sh_X g d m_Tape_readNumber 36 [(0, sh_r 2), (1, sh_i lt), (2, sh_i (x : Int))] [] m (sh_K m_Tape_readNumber Q) := by
  have t1 := hT.1
  intro k
  induction k with
  | zero =>
    intro x m hx hp hk h7
    have e : x = q := by omega
    rw [e] at h7 ⊢
    apply v_Tape_readNumber_36
    rw [hk.2 4 (by decide), h4]
    exact ⟨fun _ => h m hk h7, fun z => absurd (Int.le_refl _) z⟩
  | succ k ih =>
    intro x m hx hp hk h7
    apply v_Tape_readNumber_36
    rw [hk.2 4 (by decide), h4, i3n (x := q) (by omega), i3n (x := x) (by omega), Int.toNat_natCast, hk.1 3 (by decide), ht x (by omega), h7]
    refine ⟨fun z => absurd z (by omega), fun _ => ⟨by omega, ?_⟩⟩
    rintro _ rfl
    refine ih (x + 1) _ (by omega) (by omega) (Kt_f hk _) ?_
    rw [ms_s, ru_s, show x + 1 - p = (x - p) + 1 by omega, nvF, show p + (x - p) = x by omega]
/-- what a token's first reading leaves: its place, its end, its kind -/
abbrev rdK (m m' : sh_Mem) (p q : Nat) (k : Int) : Prop := (∀ a, a ≠ 2 → m' a = m a) ∧ m' 2 1 = m 2 1 ∧ m' 2 3 = (p : Int) ∧ m' 2 4 = (q : Int) ∧ m' 2 2 = k
theorem s_readWord {p q : Nat} (hT : TpOk T) (hp : p ≤ q) (hq : q ≤ T.1) (h3 : m 2 3 = (p : Int)) (ht : ∀ i, i < T.1 → m 3 i = T.2 i) (hl : ∀ i, p ≤ i → i < q → isLt (T.2 i)) (h : ∀ m', rdK m m' p q (if q - p ≤ 8 then 1 else 0) → (q - p ≤ 8 → m' 2 7 = wvF T.2 p (q - p)) → Q none m') : sh_Cal g d m_Tape_readWord [sh_r 2, sh_i ((q : Int) - (p : Int))] m Q := by
  have t1 := hT.1
  apply v_Tape_readWord
  rw [h3, i3s (x := (q : Int) - (p : Int)) (by omega) (by omega), show (p : Int) + ((q : Int) - (p : Int)) = (q : Int) by omega]
  intro m1 e1
  refine ⟨fun z m2 e2 m3 e3 => ?_, fun z m4 e4 => ?_⟩
  · have o3 : ∀ a, a ≠ 2 → m3 a = m a := fun a ha => by rw [e3, ms_n _ _ ha, e2, ms_n _ _ ha, e1, ms_n _ _ ha]
    have r3 : m3 2 = ru (ru (ru (m 2) 4 (q : Int)) 2 1) 7 0 := by rw [e3, ms_s, e2, ms_s, e1, ms_s]
    have p3 : m3 2 3 = (p : Int) := by rw [r3, ru_n _ _ (by decide), ru_n _ _ (by decide), ru_n _ _ (by decide)]; exact h3
    have p4 : m3 2 4 = (q : Int) := by rw [r3, ru_n _ _ (by decide), ru_n _ _ (by decide), ru_s]
    have p2 : m3 2 2 = 1 := by rw [r3, ru_n _ _ (by decide), ru_s]
    have p1 : m3 2 1 = m 2 1 := by rw [r3, ru_n _ _ (by decide), ru_n _ _ (by decide), ru_n _ _ (by decide)]
    rw [p3]
    refine l_rw (m0 := m3) hT hq p4 (by rw [o3 3 (by decide)]; exact ht) hl (fun m' k7 v7 => h m' ⟨fun a ha => (k7.1 a ha).trans (o3 a ha), (k7.2 1 (by decide)).trans p1, (k7.2 3 (by decide)).trans p3, (k7.2 4 (by decide)).trans p4, ?_⟩ (fun _ => v7)) (q - p) p m3 (by omega) (by omega) ⟨fun _ _ => rfl, fun _ _ => rfl⟩ ?_
    · rw [k7.2 2 (by decide), p2, if_pos (by omega)]
    · rw [r3, ru_s, Nat.sub_self, wvF]
  · refine h m4 ⟨fun a ha => by rw [e4, ms_n _ _ ha, e1, ms_n _ _ ha], ?_, ?_, ?_, ?_⟩ (fun y => absurd y (by omega))
    · rw [e4, ms_s, ru_n _ _ (by decide), e1, ms_s, ru_n _ _ (by decide)]
    · rw [e4, ms_s, ru_n _ _ (by decide), e1, ms_s, ru_n _ _ (by decide)]; exact h3
    · rw [e4, ms_s, ru_n _ _ (by decide), e1, ms_s, ru_s]
    · rw [e4, ms_s, ru_s, if_neg (by omega)]
theorem s_readNumber {p q : Nat} (hT : TpOk T) (hp : p ≤ q) (hq : q ≤ T.1) (h3 : m 2 3 = (p : Int)) (ht : ∀ i, i < T.1 → m 3 i = T.2 i) (h : ∀ m', rdK m m' p q (if q - p ≤ 4 then 2 else 0) → (q - p ≤ 4 → m' 2 8 = nvF T.2 p (q - p)) → Q none m') : sh_Cal g d m_Tape_readNumber [sh_r 2, sh_i ((q : Int) - (p : Int))] m Q := by
  have t1 := hT.1
  apply v_Tape_readNumber
  rw [h3, i3s (x := (q : Int) - (p : Int)) (by omega) (by omega), show (p : Int) + ((q : Int) - (p : Int)) = (q : Int) by omega]
  intro m1 e1
  refine ⟨fun z m2 e2 m3 e3 => ?_, fun z m4 e4 => ?_⟩
  · have o3 : ∀ a, a ≠ 2 → m3 a = m a := fun a ha => by rw [e3, ms_n _ _ ha, e2, ms_n _ _ ha, e1, ms_n _ _ ha]
    have r3 : m3 2 = ru (ru (ru (m 2) 4 (q : Int)) 2 2) 8 0 := by rw [e3, ms_s, e2, ms_s, e1, ms_s]
    have p3 : m3 2 3 = (p : Int) := by rw [r3, ru_n _ _ (by decide), ru_n _ _ (by decide), ru_n _ _ (by decide)]; exact h3
    have p4 : m3 2 4 = (q : Int) := by rw [r3, ru_n _ _ (by decide), ru_n _ _ (by decide), ru_s]
    have p2 : m3 2 2 = 2 := by rw [r3, ru_n _ _ (by decide), ru_s]
    have p1 : m3 2 1 = m 2 1 := by rw [r3, ru_n _ _ (by decide), ru_n _ _ (by decide), ru_n _ _ (by decide)]
    rw [p3]
    refine l_rn (m0 := m3) hT hq p4 (by rw [o3 3 (by decide)]; exact ht) (fun m' k7 v7 => h m' ⟨fun a ha => (k7.1 a ha).trans (o3 a ha), (k7.2 1 (by decide)).trans p1, (k7.2 3 (by decide)).trans p3, (k7.2 4 (by decide)).trans p4, ?_⟩ (fun _ => v7)) (q - p) p m3 (by omega) (by omega) ⟨fun _ _ => rfl, fun _ _ => rfl⟩ ?_
    · rw [k7.2 2 (by decide), p2, if_pos (by omega)]
    · rw [r3, ru_s, Nat.sub_self, nvF]
  · refine h m4 ⟨fun a ha => by rw [e4, ms_n _ _ ha, e1, ms_n _ _ ha], ?_, ?_, ?_, ?_⟩ (fun y => absurd y (by omega))
    · rw [e4, ms_s, ru_n _ _ (by decide), e1, ms_s, ru_n _ _ (by decide)]
    · rw [e4, ms_s, ru_n _ _ (by decide), e1, ms_s, ru_n _ _ (by decide)]; exact h3
    · rw [e4, ms_s, ru_n _ _ (by decide), e1, ms_s, ru_s]
    · rw [e4, ms_s, ru_s, if_neg (by omega)]
theorem i_2cP : ∀ x, x < 127 → i_2c ((x : Nat) : Int) = (x : Int) := by decide +kernel
theorem s_readSign {p : Nat} (hJ : JD g) (hT : TpOk T) (hp : p ≤ T.1) (h1 : m 2 1 = (T.1 : Int)) (h3 : m 2 3 = (p : Int)) (ht : ∀ i, i < T.1 → m 3 i = T.2 i) (hE : T.1 ≤ p → ∀ m', rdK m m' p p 3 → Q none m') (hS : ¬ T.1 ≤ p → ∀ m', rdK m m' p (p + 1) (if isSg (T.2 p) then T.2 p else 0) → Q none m') : sh_Cal g (d + 8) m_Tape_readSign [sh_r 2] m Q := by
  have t1 := hT.1
  apply v_Tape_readSign
  rw [h1, h3, i3n (x := T.1) (by omega), i3n (x := p) (by omega)]
  refine ⟨fun z m1 e1 => ?_, fun z m5 e5 m6 e6 => ?_⟩
  · have hs := hT.2 p (by omega)
    have hS := hS (by omega)
    have o1 : ∀ a, a ≠ 2 → m1 a = m a := fun a ha => by rw [e1, ms_n _ _ ha]
    have b3 : m1 2 3 = (p : Int) := by rw [e1, ms_s, ru_n _ _ (by decide)]; exact h3
    have b4 : m1 2 4 = ((p + 1 : Nat) : Int) := by rw [e1, ms_s, ru_s]; omega
    have b1 : m1 2 1 = m 2 1 := by rw [e1, ms_s, ru_n _ _ (by decide)]
    rw [b3, Int.toNat_natCast, o1 3 (by decide), ht p (by omega)]
    obtain ⟨x, hx⟩ : ∃ x : Nat, T.2 p = (x : Int) := ⟨(T.2 p).toNat, by omega⟩
    rw [hx, i_2cP x (by omega), ← hx]
    refine ⟨by omega, hJ.2.2 d _ _ _ (by omega) (fun r hr0 hr1 => ⟨_, rfl, ?_⟩)⟩
    rw [i3s (x := r) (by omega) (by omega), b3, Int.toNat_natCast, o1 3 (by decide), ht p (by omega)]
    refine ⟨fun y m3 e3 => ?_, fun y => ⟨by omega, fun m4 e4 => ?_⟩⟩
    · refine hS m3 ⟨fun a ha => by rw [e3, ms_n _ _ ha]; exact o1 a ha, ?_, ?_, ?_, ?_⟩
      · rw [e3, ms_s, ru_n _ _ (by decide)]; exact b1
      · rw [e3, ms_s, ru_n _ _ (by decide)]; exact b3
      · rw [e3, ms_s, ru_n _ _ (by decide)]; exact b4
      · rw [e3, ms_s, ru_s, if_neg (fun w => by have := hr1.mpr w; omega)]
    · refine hS m4 ⟨fun a ha => by rw [e4, ms_n _ _ ha]; exact o1 a ha, ?_, ?_, ?_, ?_⟩
      · rw [e4, ms_s, ru_n _ _ (by decide)]; exact b1
      · rw [e4, ms_s, ru_n _ _ (by decide)]; exact b3
      · rw [e4, ms_s, ru_n _ _ (by decide)]; exact b4
      · rw [e4, ms_s, ru_s, if_pos (hr1.mp (by omega))]
  · refine hE (by omega) m6 ⟨fun a ha => by rw [e6, ms_n _ _ ha, e5, ms_n _ _ ha], ?_, ?_, ?_, ?_⟩
    · rw [e6, ms_s, ru_n _ _ (by decide), e5, ms_s, ru_n _ _ (by decide)]
    · rw [e6, ms_s, ru_n _ _ (by decide), e5, ms_s, ru_n _ _ (by decide)]; exact h3
    · rw [e6, ms_s, ru_n _ _ (by decide), e5, ms_s, ru_s]
    · rw [e6, ms_s, ru_s]
end NT3
theorem tokA_v {T : Tp} {p : Nat} (h : t_k (tokA T p) = 1) : wR (t_v (tokA T p)) := by
  unfold tokA at *
  split at h
  · exact absurd (show (3 : Int) = 1 from h) (by decide)
  · rename_i hp
    rw [if_neg hp]
    split at h
    · rename_i hl
      rw [if_pos hl]
      have r := rlF_rng T.2 (T.1 - p) p
      have l8 : rlF T.2 (T.1 - p) p - p ≤ 8 := by
        dsimp only [t_k] at h; split at h
        · assumption
        · omega
      have q := wvF_rng (f := T.2) (p := p) _ l8 (fun i hi => rlF_all T.2 (T.1 - p) p (p + i) (by omega) (by omega))
      show wR (wvF T.2 p (rlF T.2 (T.1 - p) p - p))
      exact ⟨by omega, by omega⟩
    · exfalso
      split at h
      · dsimp only [t_k] at h; split at h <;> omega
      · dsimp only [t_k] at h; split at h <;> omega
theorem tokA_k {T : Tp} {p : Nat} (hT : TpOk T) : -1000000 ≤ t_k (tokA T p) ∧ t_k (tokA T p) ≤ 1000000 := by
  unfold tokA
  split
  · dsimp only [t_k]; omega
  · rename_i hp
    have hs := hT.2 p (by omega)
    split
    · dsimp only [t_k]; split <;> omega
    · split
      · dsimp only [t_k]; split <;> omega
      · dsimp only [t_k]; split <;> omega
theorem rl_0 {T : Tp} {p : Nat} : (rlF T.2 (T.1 - p) p = p ∧ ¬ (p < T.1 ∧ isLt (T.2 p))) ∨ (p < rlF T.2 (T.1 - p) p ∧ p < T.1 ∧ isLt (T.2 p)) := by
  by_cases e : p < T.1
  · obtain ⟨k, hk⟩ : ∃ k, T.1 - p = k + 1 := ⟨T.1 - p - 1, by omega⟩
    rw [hk, rlF]
    by_cases l : isLt (T.2 p)
    · rw [if_pos l]; have := (rlF_rng T.2 k (p + 1)).1; exact Or.inr ⟨by omega, e, l⟩
    · rw [if_neg l]; exact Or.inl ⟨rfl, fun z => l z.2⟩
  · rw [show T.1 - p = 0 by omega, rlF]; exact Or.inl ⟨rfl, fun z => e z.1⟩
theorem rd_0 {T : Tp} {p : Nat} : (rdF T.2 (T.1 - p) p = p ∧ ¬ (p < T.1 ∧ isDg (T.2 p))) ∨ (p < rdF T.2 (T.1 - p) p ∧ p < T.1 ∧ isDg (T.2 p)) := by
  by_cases e : p < T.1
  · obtain ⟨k, hk⟩ : ∃ k, T.1 - p = k + 1 := ⟨T.1 - p - 1, by omega⟩
    rw [hk, rdF]
    by_cases l : isDg (T.2 p)
    · rw [if_pos l]; have := (rdF_rng T.2 k (p + 1)).1; exact Or.inr ⟨by omega, e, l⟩
    · rw [if_neg l]; exact Or.inl ⟨rfl, fun z => l z.2⟩
  · rw [show T.1 - p = 0 by omega, rdF]; exact Or.inl ⟨rfl, fun z => e z.1⟩
section NT4
variable {g : sh_G} {d : Nat} {T : Tp} {mem m : sh_Mem} {Q : Option sh_V → sh_Mem → Prop}
theorem l_step_106 {t : Tok} {x1 x2 : Int} (hJ : JD g) (hk1 : t_k t = 1 → wR (t_v t)) (hk6 : -1000000 ≤ t_k t ∧ t_k t ≤ 1000000) (hr : Ck mem m) (hc : CT0 m T t) (h : ∀ m', Ck mem m' → CT m' T t → Q none m') :
    sh_X g (d + 9) m_Tape_step 106 [(0, sh_r 2), (1, sh_i x1), (2, sh_i x2)] [] m (sh_K m_Tape_step Q) := by
  have fin : ∀ m1 m2 : sh_Mem, m1 = ms m 2 (ru (m 2) 5 (kyT t)) → m2 = ms m1 2 (ru (m1 2) 6 (fkT t)) → Q none m2 := by
    intro m1 m2 e1 e2
    have r2 : m2 2 = ru (ru (m 2) 5 (kyT t)) 6 (fkT t) := by rw [e2, ms_s, e1, ms_s]
    have o2 : ∀ a, a ≠ 2 → m2 a = m a := fun a ha => by rw [e2, ms_n _ _ ha, e1, ms_n _ _ ha]
    have gf : ∀ i, i ≠ 5 → i ≠ 6 → m2 2 i = m 2 i := fun i h5 h6 => by rw [r2, ru_n _ _ h6, ru_n _ _ h5]
    refine h m2 ⟨fun a ha => (o2 a ha).trans (hr.1 a ha), (gf 1 (by decide) (by decide)).trans hr.2⟩ ⟨(gf 1 (by decide) (by decide)).trans hc.1, (gf 3 (by decide) (by decide)).trans hc.2.1, (gf 4 (by decide) (by decide)).trans hc.2.2.1, (gf 2 (by decide) (by decide)).trans hc.2.2.2.1, fun z => (gf 7 (by decide) (by decide)).trans (hc.2.2.2.2.1 z), fun z => (gf 8 (by decide) (by decide)).trans (hc.2.2.2.2.2.1 z), by rw [o2 3 (by decide)]; exact hc.2.2.2.2.2.2, ?_, ?_⟩
    · rw [r2, ru_n _ _ (by decide), ru_s]
    · rw [r2, ru_s]
  apply v_Tape_step_106
  rw [hc.2.2.2.1, i3s hk6.1 hk6.2]
  refine ⟨fun z => ?_, fun z => ?_⟩
  · apply v_Tape_step_119
    exact ⟨fun _ m1 e1 => ⟨fun _ m2 e2 => fin m1 m2 (by rw [e1]; unfold kyT; rw [if_neg z]) (by rw [e2]; unfold fkT; rw [if_neg z]), fun y => absurd rfl y⟩, fun y => absurd rfl y⟩
  · apply v_Tape_step_119
    refine ⟨fun y => absurd y (by decide), fun _ => ?_⟩
    have v := hc.2.2.2.2.1 z
    refine s_numberAmong (ww := 1) hJ (by decide) nl_res res_R (hk1 z) v ⟨_, rfl, fun m6 e6 => ⟨fun y => absurd y (by decide), fun _ => ?_⟩⟩
    exact s_numberAmong (ww := 2) hJ (by decide) nl_fc fc_R (hk1 z) (by rw [e6, ms_s, ru_n _ _ (by decide)]; exact v) ⟨_, rfl, fun m9 e9 => fin m6 m9 (by rw [e6]; unfold kyT; rw [if_pos z]) (by rw [e9]; unfold fkT; rw [if_pos z])⟩
theorem l_step_60 {p : Nat} (hJ : JD g) (hT : TpOk T) (hp : p ≤ T.1) (hr : Ck mem m) (h1 : m 2 1 = (T.1 : Int)) (ht : ∀ i, i < T.1 → m 3 i = T.2 i) (h3 : m 2 3 = (p : Int)) (h : ∀ m', Ck mem m' → CT m' T (tokA T p) → Q none m') :
    sh_X g (d + 9) m_Tape_step 60 [(0, sh_r 2)] [] m (sh_K m_Tape_step Q) := by
  have t1 := hT.1
  have rl := rlF_rng T.2 (T.1 - p) p
  have rd := rdF_rng T.2 (T.1 - p) p
  have cl := rl_0 (T := T) (p := p)
  have cd := rd_0 (T := T) (p := p)
  have go : ∀ (x1 x2 : Int) (m1 : sh_Mem) (q : Nat) (kk v : Int), tokA T p = (p, q, kk, v) → rdK m m1 p q kk → (kk = 1 → m1 2 7 = v) → (kk = 2 → m1 2 8 = v) → sh_X g (d + 9) m_Tape_step 106 [(0, sh_r 2), (1, sh_i x1), (2, sh_i x2)] [] m1 (sh_K m_Tape_step Q) := by
    intro x1 x2 m1 q kk v e k h7 h8
    rw [e] at h
    refine l_step_106 (t := (p, q, kk, v)) hJ (fun z => ?_) ?_ ⟨fun a ha => (k.1 a ha).trans (hr.1 a ha), k.2.1.trans hr.2⟩ ⟨k.2.1.trans h1, k.2.2.1, k.2.2.2.1, k.2.2.2.2, h7, h8, by rw [k.1 3 (by decide)]; exact ht⟩ h
    · have w := tokA_v (T := T) (p := p); rw [e] at w; exact w z
    · have w := tokA_k (p := p) hT; rw [e] at w; exact w
  apply v_Tape_step_60
  refine s_signsWithin (p := p) hT (by omega) (by omega) hp h1 h3 ht ⟨_, rfl, ?_⟩
  refine s_signsWithin (p := p) hT (by omega) (by omega) hp h1 h3 ht ⟨_, rfl, ?_⟩
  rw [rg_l, rg_d, i3s (x := ((rlF T.2 (T.1 - p) p : Nat) : Int) - (p : Int)) (by omega) (by omega), i3s (x := ((rdF T.2 (T.1 - p) p : Nat) : Int) - (p : Int)) (by omega) (by omega)]
  refine ⟨fun z => ⟨fun z2 => ?_, fun z2 => ?_⟩, fun z => ?_⟩
  · refine s_readSign hJ hT hp h1 h3 ht (fun y m3 k3 => ⟨rfl, ?_⟩) (fun y m3 k3 => ⟨rfl, ?_⟩)
    · exact go _ _ m3 p 3 0 (by unfold tokA; rw [if_pos y]) k3 (fun w => absurd w (by decide)) (fun w => absurd w (by decide))
    · have hs := hT.2 p (by omega)
      refine go _ _ m3 (p + 1) _ 0 (by unfold tokA; rw [if_neg y, if_neg (by omega), if_neg (by omega)]) k3 (fun w => ?_) (fun w => ?_)
      · exfalso; split at w <;> omega
      · exfalso; split at w <;> omega
  · have e0 : tokA T p = (p, rdF T.2 (T.1 - p) p, if rdF T.2 (T.1 - p) p - p ≤ 4 then 2 else 0, nvF T.2 p (rdF T.2 (T.1 - p) p - p)) := by unfold tokA; rw [if_neg (by omega), if_neg (by omega), if_pos (by omega)]
    refine s_readNumber hT (by omega) (by omega) h3 ht (fun m4 k4 v4 => ⟨rfl, go _ _ m4 _ _ _ e0 k4 (fun y => ?_) (fun y => v4 ?_)⟩)
    · exfalso; split at y <;> omega
    · split at y
      · assumption
      · omega
  · have e0 : tokA T p = (p, rlF T.2 (T.1 - p) p, if rlF T.2 (T.1 - p) p - p ≤ 8 then 1 else 0, wvF T.2 p (rlF T.2 (T.1 - p) p - p)) := by unfold tokA; rw [if_neg (by omega), if_pos (by omega)]
    refine s_readWord hT (by omega) (by omega) h3 ht (fun i i1 i2 => rlF_all T.2 (T.1 - p) p i i1 i2) (fun m4 k4 v4 => ⟨rfl, go _ _ m4 _ _ _ e0 k4 (fun y => v4 ?_) (fun y => ?_)⟩)
    · split at y
      · assumption
      · omega
    · exfalso; split at y <;> omega
theorem l_step_8 (hJ : JD g) (hT : TpOk T) : ∀ (k x : Nat) (m : sh_Mem), x + k = T.1 → Ck mem m → m 2 1 = (T.1 : Int) → (∀ i, i < T.1 → m 3 i = T.2 i) → m 2 3 = (x : Int) → (∀ m', Ck mem m' → CT m' T (tokA T (skF T.2 k x)) → Q none m') →
    sh_X g (d + 9) m_Tape_step 8 [(0, sh_r 2)] [] m (sh_K m_Tape_step Q) := by
  have t1 := hT.1
  intro k
  induction k with
  | zero =>
    intro x m hx hr h3 ht h4 h
    obtain rfl : x = T.1 := by omega
    rw [skF] at h
    apply v_Tape_step_8
    rw [h3, h4]
    exact ⟨fun _ => l_step_60 hJ hT (by omega) hr h3 ht h4 h, fun q => absurd (by omega) q⟩
  | succ k ih =>
    intro x m hx hr h3 ht h4 h
    have hs := hT.2 x (by omega)
    rw [skF] at h
    apply v_Tape_step_8
    rw [h3, h4, i3n (by omega), i3n (by omega), Int.toNat_natCast, ht x (by omega), i3s (x := T.2 x) (by omega) (by omega)]
    have nx : (T.2 x = 10 ∨ T.2 x = 32) → ∀ m1 : sh_Mem, m1 = ms m 2 (ru (m 2) 3 ((x : Int) + 1)) → sh_X g (d + 9) m_Tape_step 8 [(0, sh_r 2)] [] m1 (sh_K m_Tape_step Q) := by
      rintro q _ rfl
      rw [if_pos q] at h
      exact ih (x + 1) _ (by omega) (Ck_f hr (by omega) _) (by rw [ms_s, ru_n _ _ (by decide)]; exact h3) (by rw [ms_n _ _ (by decide)]; exact ht) (by rw [ms_s, ru_s]; omega) h
    refine ⟨fun q => absurd q (by omega), fun _ => ⟨by omega, fun q => nx (Or.inl q), fun q => ⟨by omega, fun q2 => ?_, fun q2 => nx (Or.inr q2)⟩⟩⟩
    rw [if_neg (by omega)] at h
    exact l_step_60 hJ hT (by omega) hr h3 ht h4 h
theorem s_stepAt (hJ : JD g) (hT : TpOk T) {q : Nat} {m : sh_Mem} (h1 : m 2 1 = (T.1 : Int)) (ht : ∀ i, i < T.1 → m 3 i = T.2 i) (h4 : m 2 4 = (q : Int)) (hq : q ≤ T.1) (h : ∀ m', Ck m m' → CT m' T (tok T q) → Q none m') : sh_Cal g (d + 9) m_Tape_step [sh_r 2] m Q := by
  apply v_Tape_step
  rintro _ rfl
  exact l_step_8 (mem := m) hJ hT (T.1 - q) q _ (by omega) (Ck_f (Ck_rf m) (by omega) _) (by rw [ms_s, ru_n _ _ (by decide)]; exact h1) (by rw [ms_n _ _ (by decide)]; exact ht) (by rw [ms_s, ru_s]; exact h4) h
theorem s_step (hJ : JD g) (hT : TpOk T) {t : Tok} {m : sh_Mem} (hr : CT m T t) (hq : t_q t ≤ T.1) (h : ∀ m', Ck m m' → CT m' T (tok T (t_q t)) → Q none m') : sh_Cal g (d + 9) m_Tape_step [sh_r 2] m Q := s_stepAt hJ hT hr.1 hr.2.2.2.2.2.2.1 hr.2.2.1 hq h
end NT4
/-- t is a token of T -/
def TK (T : Tp) (t : Tok) : Prop := ∃ q, q ≤ T.1 ∧ t = tok T q
theorem TK_q {T : Tp} {t : Tok} (h : TK T t) : t_p t ≤ t_q t ∧ t_q t ≤ T.1 ∧ (t_k t ≠ 3 → t_p t < t_q t) := by
  obtain ⟨q, hq, rfl⟩ := h; exact ⟨(tok_rng hq).2.1, (tok_rng hq).2.2.1, (tok_rng hq).2.2.2⟩
abbrev nx (T : Tp) (t : Tok) : Tok := tok T (t_q t)
theorem TK_n {T : Tp} {t : Tok} (h : TK T t) : TK T (nx T t) := ⟨t_q t, (TK_q h).2.1, rfl⟩
theorem nx_p {T : Tp} {t : Tok} (h : TK T t) : t_q t ≤ t_p (nx T t) := (tok_rng (TK_q h).2.1).1
theorem TK_w {T : Tp} {t : Tok} (h : TK T t) (hk : t_k t = 1) : (∀ i, i < t_q t - t_p t → isLt (T.2 (t_p t + i))) ∧ t_q t - t_p t ≤ 8 ∧ t_v t = wvF T.2 (t_p t) (t_q t - t_p t) := by
  obtain ⟨q, hq, rfl⟩ := h; exact tok_word hq hk
theorem TK_v {T : Tp} {t : Tok} (h : TK T t) (hk : t_k t = 1) : wR (t_v t) := by
  obtain ⟨a, b, c⟩ := TK_w h hk
  have := wvF_rng (f := T.2) (p := t_p t) _ b a
  rw [c]; omega
section WD
variable {g : sh_G} {d : Nat} {T : Tp} {t : Tok} {m : sh_Mem} {Q : Option sh_V → sh_Mem → Prop}
theorem CT_ky (hr : CT m T t) : i3 (m 2 5) = kyT t := by
  have c := kyT_c t
  rw [hr.2.2.2.2.2.2.2.1, i3s (x := kyT t) (by omega) (by omega)]
theorem CT_fk (hr : CT m T t) : i3 (m 2 6) = fkT t := by
  have c := fkT_c t
  rw [hr.2.2.2.2.2.2.2.2, i3s (x := fkT t) (by omega) (by omega)]
theorem s_isName (hJ : JD g) (hT : TpOk T) (ht : TK T t) (hr : CT m T t) (hk6 : -1000000 ≤ t_k t ∧ t_k t ≤ 1000000) (h : Q (some (sh_i (if isNm t then 1 else 0))) m) : sh_Cal g (d + 10) m_Tape_isName [sh_r 2] m Q := by
  apply v_Tape_isName
  rw [hr.2.2.2.1, i3s hk6.1 hk6.2, CT_ky hr]
  refine ⟨fun q => ?_, fun q => ⟨fun z => ?_, fun z => ?_⟩⟩
  · rw [if_neg (fun y => q y.1)] at h; exact h
  · rw [if_neg (fun y => z ((ky_nm q).mpr y.2))] at h; exact h
  · rw [if_pos ⟨q, (ky_nm q).mp z⟩] at h; exact h
end WD
theorem TK_k {T : Tp} {t : Tok} (hT : TpOk T) (ht : TK T t) : -1000000 ≤ t_k t ∧ t_k t ≤ 1000000 := by
  obtain ⟨q, hq, rfl⟩ := ht
  unfold tok
  generalize skF T.2 (T.1 - q) q = p
  unfold tokA
  split
  · dsimp only [t_k]; omega
  · rename_i hp
    have hs := hT.2 p (by omega)
    split
    · dsimp only [t_k]; split <;> omega
    · split
      · dsimp only [t_k]; split <;> omega
      · dsimp only [t_k]; split <;> omega
theorem TK_c {T : Tp} {t : Tok} (hT : TpOk T) (ht : TK T t) : t_k t = 0 ∨ t_k t = 1 ∨ t_k t = 2 ∨ t_k t = 3 ∨ (isSg (t_k t) ∧ T.2 (t_p t) = t_k t ∧ t_p t < T.1) := by
  obtain ⟨q, hq, rfl⟩ := ht
  unfold tok
  generalize skF T.2 (T.1 - q) q = p
  unfold tokA
  split
  · exact Or.inr (Or.inr (Or.inr (Or.inl rfl)))
  · rename_i hp
    split
    · dsimp only [t_k]; split
      · exact Or.inr (Or.inl rfl)
      · exact Or.inl rfl
    · split
      · dsimp only [t_k]; split
        · exact Or.inr (Or.inr (Or.inl rfl))
        · exact Or.inl rfl
      · dsimp only [t_k, t_p]; split
        · rename_i hs; exact Or.inr (Or.inr (Or.inr (Or.inr ⟨hs, rfl, by omega⟩)))
        · exact Or.inl rfl
theorem TK_n4 {T : Tp} {t : Tok} (hT : TpOk T) (ht : TK T t) (hk : t_k t = 2) : 0 ≤ t_v t ∧ t_v t ≤ 9999 := by
  have rdA : ∀ (f : Nat → Int) k p i, p ≤ i → i < rdF f k p → isDg (f i) := by
    intro f k
    induction k with
    | zero => intro p i h1 h2; unfold rdF at h2; omega
    | succ k ih =>
      intro p i h1 h2
      rw [rdF] at h2
      split at h2
      · rename_i q
        by_cases e : i = p
        · subst e; exact q
        · exact ih (p + 1) i (by omega) h2
      · omega
  have nv : ∀ (f : Nat → Int) (p n : Nat), n ≤ 4 → (∀ i, i < n → isDg (f (p + i))) → 0 ≤ nvF f p n ∧ nvF f p n ≤ 9999 ∧ (n ≤ 3 → nvF f p n ≤ 999) ∧ (n ≤ 2 → nvF f p n ≤ 99) ∧ (n ≤ 1 → nvF f p n ≤ 9) ∧ (n ≤ 0 → nvF f p n ≤ 0) := by
    intro f p n
    induction n with
    | zero => intro _ _; unfold nvF; omega
    | succ n ih => intro h1 h2; have := ih (by omega) (fun i hi => h2 i (by omega)); have := h2 n (by omega); rw [nvF]; omega
  obtain ⟨q, hq, rfl⟩ := ht
  unfold tok at *
  generalize skF T.2 (T.1 - q) q = p at *
  unfold tokA at *
  split at hk
  · exact absurd (show (3 : Int) = 2 from hk) (by decide)
  · rename_i hp
    rw [if_neg hp]
    split at hk
    · exfalso; dsimp only [t_k] at hk; split at hk <;> omega
    · rename_i hl
      rw [if_neg hl]
      split at hk
      · rename_i hd
        rw [if_pos hd]
        have r := rdF_rng T.2 (T.1 - p) p
        have l4 : rdF T.2 (T.1 - p) p - p ≤ 4 := by
          dsimp only [t_k] at hk; split at hk
          · assumption
          · omega
        have := nv T.2 p _ l4 (fun i hi => rdA T.2 (T.1 - p) p (p + i) (by omega) (by omega))
        exact ⟨this.1, this.2.1⟩
      · exfalso; dsimp only [t_k] at hk; split at hk <;> omega
