/-! ===== almanac, of the class ===== -/
abbrev z3 : Se := (0, fun _ => 0, fun _ => 0, fun _ => 0)
def w_new (x : Dr) (tt : Nat → Int) : Wd := (bkOf x, (r_dn x, r_tn x), freshR (bkOf x), [], z3, z3, fun _ => none, (0, tt))
def a_almanac (w : Wd) : Wd := match pAlm (w_t w) with
  | .inl _ => w_tp w (0, (w_t w).2)
  | .inr x => w_new x (w_t w).2
def q_almanac (w : Wd) : Int := match pAlm (w_t w) with
  | .inl f => f
  | .inr _ => 0
theorem CR_dr {B Y : Nat} {w : Wd} {m M : sh_Mem} {tt : Nat → Int} (hB : obB B) (hY : obY Y) (h : CR B Y w m) (e : ∀ a, a < 96 → a ≠ 2 → a ≠ 4 → (a < 55 - B ∨ 55 - B + 10 < a) → M a = m a) (e1 : M 2 1 = 0) : CR B Y (w_tp w (0, tt)) M := by
  obtain ⟨h1, h2, h3, h4, h5, h6', h7, h8', h9, h10, h11⟩ := h
  have eB : ∀ k, k ≤ 9 → M (B + k) = m (B + k) := fun k hk => e _ (by omega) (by omega) (by omega) (by omega)
  refine ⟨?_, CB_cong h2 eB, CL_cong h3 eB, ?_, ?_, ?_, ?_, ?_, ?_, e1, fun i hi => absurd hi (Nat.not_lt_zero i)⟩
  · rw [e 1 (by omega) (by omega) (by omega) (by omega)]; exact h1
  · rw [eB 1 (by omega), eB 5 (by omega)]; exact h4
  · rw [e 6 (by omega) (by omega) (by omega) (by omega), e 8 (by omega) (by omega) (by omega) (by omega)]; exact h5
  · rw [e 10 (by omega) (by omega) (by omega) (by omega), e 9 (by omega) (by omega) (by omega) (by omega)]; exact h6'
  · exact CY_cong h7 (e _ (by omega) (by omega) (by omega) (by omega)) (e _ (by omega) (by omega) (by omega) (by omega)) (e _ (by omega) (by omega) (by omega) (by omega)) (e _ (by omega) (by omega) (by omega) (by omega))
  · exact CS_cong h8' (e _ (by omega) (by omega) (by omega) (by omega)) (e _ (by omega) (by omega) (by omega) (by omega)) (e _ (by omega) (by omega) (by omega) (by omega)) (e _ (by omega) (by omega) (by omega) (by omega))
  · intro j hj
    obtain ⟨a1, a2⟩ := h9 j hj
    refine ⟨by rw [e (52 + 11 * j) (by omega) (by omega) (by omega) (by omega)]; exact a1, fun q hq => ?_⟩
    obtain ⟨b1, b2, b3⟩ := a2 q hq
    refine ⟨by rw [e (54 + 11 * j) (by omega) (by omega) (by omega) (by omega)]; exact b1, ?_, ?_⟩
    · exact CY_cong b2 (e _ (by omega) (by omega) (by omega) (by omega)) (e _ (by omega) (by omega) (by omega) (by omega)) (e _ (by omega) (by omega) (by omega) (by omega)) (e _ (by omega) (by omega) (by omega) (by omega))
    · exact CS_cong b3 (e _ (by omega) (by omega) (by omega) (by omega)) (e _ (by omega) (by omega) (by omega) (by omega)) (e _ (by omega) (by omega) (by omega) (by omega)) (e _ (by omega) (by omega) (by omega) (by omega))
theorem CD_CB {m : sh_Mem} {D : Nat} {x : Dr} {T : Tp} (h : CD m D x) (hx : DrOk T x) : CB m D (bkOf x) := ⟨bkOf_ok hx, h.1.2.1, h.1.2.2.1, h.2.1, h.2.2.1⟩
theorem C_ok {T : Tp} (hT : TpOk T) {x : Dr} (hx : DrOk T x) : (r_C x).length ≤ 1000 ∧ ∀ c ∈ r_C x, -12 ≤ c ∧ c ≤ 9999 := by
  have h := hx.2.2.2
  unfold r_C
  cases hw : r_lw x with
  | none => exact ⟨by simp, fun c hc => by simp at hc; omega⟩
  | some q =>
    obtain ⟨h1, h2⟩ := h q hw
    have hrd := RdP_ex (RdP_P hT 5) _ _ h1 h2
    have := (TK_1000 hT hrd.1).1
    have := hrd.2.1
    exact ⟨by show q.2.2.1.length ≤ 1000; omega, hrd.2.2.2.1⟩
theorem CD_CL {m : sh_Mem} {D : Nat} {x : Dr} {T : Tp} (hT : TpOk T) (h : CD m D x) (hx : DrOk T x) : CL m D (bkOf x) :=
  CL_of h.2.2.2.2.1 (C_ok hT hx).1 h.2.2.2.2.2 (C_ok hT hx).2 (fun _ _ _ _ _ => rfl)
theorem l_alm71 {g : sh_G} {d B D Y : Nat} {m7 : sh_Mem} {x1 : Int} {Q : Option sh_V → sh_Mem → Prop} (hD : ob0 D) (hB : ob0 B) (hY : ob10 Y) (h : ∀ m', (∀ j, j < 4 → m' (52 + 11 * j) 0 = 0) → (∀ a, (∀ j, j < 4 → a ≠ 52 + 11 * j) → m' a = m7 a) → Q (some (sh_i 0)) m') : ∀ (k i : Nat) (m : sh_Mem), i + k = 4 → (∀ j, j < i → m (52 + 11 * j) 0 = 0) → (∀ a, (∀ j, j < 4 → a ≠ 52 + 11 * j) → m a = m7 a) →
    sh_X g (d + 1) m_Sto_almanac 71 [(0, sh_r 1), (1, sh_i x1), (3, sh_i (i : Int))] [] m (sh_K m_Sto_almanac Q)
  | 0, i, m, hi, h1, h2 => by
    apply v_Sto_almanac_71 hD hB hY
    rw [i3n (x := i) (by omega)]
    exact ⟨fun _ => h m (fun j hj => h1 j (by omega)) h2, fun z => by omega⟩
  | k + 1, i, m, hi, h1, h2 => by
    apply v_Sto_almanac_71 hD hB hY
    rw [i3n (x := i) (by omega)]
    refine ⟨fun z => by omega, fun _ => ⟨by omega, fun m1 e1 => ?_⟩⟩
    refine l_alm71 hD hB hY h k (i + 1) m1 (by omega) (fun j hj => ?_) (fun a ha => ?_)
    · by_cases y : j = i
      · subst y; rw [e1, ms_s, ru_s]
      · rw [e1, ms_n _ _ (by omega)]; exact h1 j (by omega)
    · rw [e1, ms_n _ _ (ha i (by omega))]; exact h2 a ha
theorem c_almanac {g : sh_G} {d : Nat} {w : Wd} {mem : sh_Mem} {Q : Option sh_V → sh_Mem → Prop} (hJ : JD g) (hT : TpOk (w_t w)) (h : CRel w mem) (hQ : ∀ m', CPost (a_almanac w) mem m' → Q (some (sh_i (q_almanac w))) m') : sh_Cal g (d + 49) m_Sto_almanac [sh_r 1] mem Q := by
  obtain ⟨B, Y, hB, hY, hc⟩ := h
  have hD : obB (55 - B) := by omega
  have c := pAlm_c hT
  unfold a_almanac q_almanac at hQ
  have hc' := hc
  obtain ⟨h1, h2, h3, h4, h5, h6', h7, h8', h9, h10, h11⟩ := hc'
  apply w_Sto_almanac (B := B) (obB_0 hD) (obB_0 hB) (obY_10 hY)
  refine ⟨h1.2.1, ?_⟩
  refine s_readAlmanac (d := d) (T := w_t w) hJ hT (obB_0 hD) h10 h11 (fun f m1 e a => ⟨f, rfl, fun z => ?_, fun _ => ?_⟩) (fun x m1 e a hcd => ⟨0, rfl, fun _ => ?_, fun z => absurd rfl z⟩)
  · have := c.1 f e
    rw [i3s (by omega) (by omega)] at z; omega
  · simp only [e] at hQ
    exact hQ m1 ⟨⟨B, Y, hB, hY, CR_dr hB hY hc (fun b _ h2 h4 h5 => a.1 b h2 h4 h5) a.2⟩, fun b hb => a.1 b (by omega) (by omega) (by omega)⟩
  · simp only [e] at hQ
    have hx := c.2 x e
    have r1 : m1 1 = mem 1 := a.1 1 (by omega) (by omega) (by omega)
    rw [r1]
    refine ⟨h1.1, h1.2.1, fun m2 e2 m3 e3 => ?_⟩
    have m31 : m3 1 = ru (ru (mem 1) 9 ((55 - B : Nat) : Int)) 10 (B : Int) := by rw [e3, ms_s, e2, ms_s]
    have o3 : ∀ b, b ≠ 1 → m3 b = m1 b := fun b hb => by rw [e3, ms_n _ _ hb, e2, ms_n _ _ hb]
    refine ⟨by rw [m31, ru_n _ _ (by decide), ru_s], ?_⟩
    have cd3 : CD m3 (55 - B) x := CD_e hcd (fun b hb => o3 b (by omega))
    refine s_State_begin (S := 5) o5 (obB_0 hD) (b := bkOf x) (CD_CB cd3 hx) ⟨rfl, ?_⟩
    have z6 : m3 6 = w_c w := by rw [o3 6 (by decide), a.1 6 (by omega) (by omega) (by omega)]; exact h5.1
    have zz : beginR (bkOf x) (m3 (5 + 1)) = freshR (bkOf x) := Z_begin (by show Z (m3 6); rw [z6]; exact h5.2.1)
    rw [zz]
    apply v_Past_clear
    intro m5 e5
    refine ⟨rfl, ?_⟩
    apply v_Seen_clear o11
    intro m6 e6
    have o6 : ∀ b, b ≠ 1 → b ≠ 6 → b ≠ 9 → b ≠ 11 → m6 b = m1 b := fun b y1 y6 y9 y11 => by rw [e6, ms_n _ _ y11, e5, ms_n _ _ y9, ms_n _ _ y6, o3 b y1]
    have m61 : m6 1 = m3 1 := by rw [e6, ms_n _ _ (by decide), e5, ms_n _ _ (by decide), ms_n _ _ (by decide)]
    refine ⟨rfl, by rw [m61, m31, ru_n _ _ (by decide), ru_n _ _ (by decide)]; exact h1.2.2.1, fun m7 e7 => ?_⟩
    refine l_alm71 (obB_0 hD) (obB_0 hB) (obY_10 hY) (fun M hm ho => ?_) 4 0 m7 (by omega) (fun j hj => absurd hj (Nat.not_lt_zero j)) (fun _ _ => rfl)
    have oM : ∀ b, b < 52 → b ≠ Y → M b = m6 b := fun b hb hbY => by rw [ho b (fun j hj => by omega), e7, ms_n _ _ hbY]
    have cdM : CD M (55 - B) x := by
      have q : ∀ b, 55 - B ≤ b → b ≤ 55 - B + 9 → M b = m1 b := fun b y1 y2 => by rw [oM b (by omega) (by omega), o6 b (by omega) (by omega) (by omega) (by omega)]
      unfold CD CNm
      rw [q (55 - B) (by omega) (by omega), q (55 - B + 1) (by omega) (by omega), q (55 - B + 2) (by omega) (by omega), q (55 - B + 3) (by omega) (by omega), q (55 - B + 4) (by omega) (by omega), q (55 - B + 5) (by omega) (by omega), q (55 - B + 6) (by omega) (by omega), q (55 - B + 7) (by omega) (by omega), q (55 - B + 8) (by omega) (by omega), q (55 - B + 9) (by omega) (by omega)]
      exact hcd
    obtain ⟨n, u1, u2, u3⟩ := h6'
    have M1 : M 1 = m3 1 := by rw [oM 1 (by omega) (by omega), m61]
    have M9 : M 9 = ru (mem 9) 2 0 := by rw [oM 9 (by omega) (by omega), e6, ms_n _ _ (by decide), e5, ms_s, ms_n _ _ (by decide), o3 9 (by decide), a.1 9 (by omega) (by omega) (by omega)]
    refine hQ M ⟨⟨55 - B, Y, hD, hY, ?_, CD_CB cdM hx, CD_CL hT cdM hx, ⟨fun i hi => (cdM.1.2.2.2.1 i hi).1, fun i hi => (cdM.1.2.2.2.2 i hi).1⟩, ⟨?_, Z_fresh _, ?_, fun p hp => absurd hp (List.not_mem_nil), fun j _ q hq => by cases hq⟩, ?_, ?_, ?_, fun j hj => ⟨hm j hj, fun q hq => by cases hq⟩, ?_, fun i hi => absurd hi (Nat.not_lt_zero i)⟩, fun b hb => ?_⟩
    · rw [M1, m31]
      refine ⟨by rw [ru_n _ _ (by decide), ru_s], by rw [ru_s]; omega, by rw [ru_n _ _ (by decide), ru_n _ _ (by decide)]; exact h1.2.2.1, by rw [ru_n _ _ (by decide), ru_n _ _ (by decide)]; exact h1.2.2.2⟩
    · rw [oM 6 (by omega) (by omega), e6, ms_n _ _ (by decide), e5, ms_n _ _ (by decide)]; exact ms_s _ _ _
    · rw [oM 8 (by omega) (by omega), o6 8 (by omega) (by omega) (by omega) (by omega), a.1 8 (by omega) (by omega) (by omega)]; exact h5.2.2.1
    · refine ⟨n, u1, ?_, ?_, by show 0 ≤ 16; omega, fun i hi => absurd hi (Nat.not_lt_zero i)⟩
      · rw [M9, ru_n _ _ (by decide)]; exact u2
      · rw [M9, ru_s]; rfl
    · refine ⟨?_, fun i hi => absurd hi (Nat.not_lt_zero i)⟩
      rw [ho Y (fun j hj => by omega), e7, ms_s, ru_s]; rfl
    · refine ⟨?_, fun i hi => absurd hi (Nat.not_lt_zero i)⟩
      rw [oM 11 (by omega) (by omega), e6, ms_s, ru_s]; rfl
    · rw [oM 2 (by omega) (by omega), o6 2 (by omega) (by omega) (by omega) (by omega), a.2]; rfl
    · rw [ho b (fun j hj => by omega), e7, ms_n _ _ (by omega), o6 b (by omega) (by omega) (by omega) (by omega), a.1 b (by omega) (by omega) (by omega)]
