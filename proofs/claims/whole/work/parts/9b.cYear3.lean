section YEA
variable {g : sh_G} {d B Y nd nt : Nat} {T : Tp} {t : Tok} {m0 m : sh_Mem} {fd ft : Nat → Int} {y : Se} {Q : Option sh_V → sh_Mem → Prop}
theorem s_readYear (hJ : JD g) (hT : TpOk T) (hY : ob10 Y) (hB : ob0 B) (hBY : B + 10 < Y) (b0 : m B 0 = (nd : Int)) (b1 : m B 1 = (nt : Int)) (n8 : nd ≤ 8) (n4 : nt ≤ 4) (hfd : ∀ i, i < nd → m (B + 1) i = fd i ∧ wR (fd i)) (hft : ∀ i, i < nt → m (B + 5) i = ft i ∧ wR (ft i)) (h1 : m 2 1 = (T.1 : Int)) (h3 : ∀ i, i < T.1 → m 3 i = T.2 i) (hf : ∀ f m', pYear T fd nd ft nt = .inl f → YEn Y m m' → Q (some (sh_i f)) m') (h0 : ∀ y m', pYear T fd nd ft nt = .inr y → YEn Y m m' → CY m' Y y → Q (some (sh_i 0)) m') : sh_Cal g (d + 14) m_Read_readYear [sh_r 4, sh_r Y, sh_r B] m Q := by
  have l := ob10_c hY
  apply v_Read_readYear hY hB
  intro m1 e1 m2 e2
  apply v_Tape_rewind
  intro m8 e8
  have o : ∀ a, a ≠ 2 → a ≠ 4 → a ≠ Y → m8 a = m a := fun a y1 y2 y3 => by rw [e8, ms_n _ _ y1, e2, ms_n _ _ y2, e1, ms_n _ _ y3]
  have t1 : m8 2 1 = (T.1 : Int) := by rw [e8, ms_s, ru_n _ _ (by decide), e2, ms_n _ _ (by decide), e1, ms_n _ _ (by omega)]; exact h1
  refine s_stepAt (d := d + 3) (q := 0) hJ hT t1 (by rw [o 3 (by decide) (by decide) (by omega)]; exact h3) (by rw [e8, ms_s, ru_s]; rfl) (by omega) (fun m9 k9 c9 => ⟨rfl, rfl, ?_⟩)
  refine l_readYear (m0 := m) (d := d) hJ hT hY hB hBY b0 b1 n8 n4 hfd hft hf h0 1000 0 m9 (tok T 0) z3 (by omega) ⟨0, by omega, rfl⟩ ⟨⟨fun a a1 a2 a3 => by rw [k9.1 a a1]; exact o a a1 a2 (by omega), by rw [k9.2, t1, h1]⟩, ?_, c9, ⟨?_, fun i hi => absurd hi (Nat.not_lt_zero i)⟩, by decide⟩ rfl
  · rw [k9.1 4 (by decide), e8, ms_n _ _ (by decide), e2, ms_s, ru_s]
  · rw [k9.1 Y (by omega), e8, ms_n _ _ (by omega), e2, ms_n _ _ (by omega), e1, ms_s, ru_s]; rfl
end YEA
abbrev w_yr (w : Wd) (y : Se) : Wd := (w_b w, w_nm w, w_c w, w_p w, y, w_s w, w_m w, (0, (w_t w).2))
abbrev yrOf (w : Wd) : Int ⊕ Se := pYear (w_t w) (w_nm w).1 (b_nd (w_b w)) (w_nm w).2 (b_nt (w_b w))
def NmOk (w : Wd) : Prop := (∀ i, i < b_nd (w_b w) → wR ((w_nm w).1 i)) ∧ ∀ i, i < b_nt (w_b w) → wR ((w_nm w).2 i)
/-- the year's cell Y2 comes in -/
theorem CR_yr {B Y Z : Nat} {w : Wd} {m M : sh_Mem} {y : Se} (hB : obB B) (hY : obY Y) (hZ : obY Z) (h : CR B Y w m) (e : ∀ a, 1 < a → a < 96 → a ≠ 2 → a ≠ 4 → (a < 92 - Y ∨ 92 - Y + 3 < a) → M a = m a) (e1 : M 2 1 = 0) (h1 : M 1 9 = (B : Int) ∧ M 1 10 = ((55 - B : Nat) : Int) ∧ M 1 11 = (Z : Int) ∧ M 1 12 = ((92 - Z : Nat) : Int)) (hC : CY M Z y) : CR B Z (w_yr w y) M := by
  obtain ⟨h0, h2, h3, h4, h5, h6', h7, h8', h9, h10, h11⟩ := h
  have eB : ∀ k, k ≤ 9 → M (B + k) = m (B + k) := fun k hk => e _ (by omega) (by omega) (by omega) (by omega) (by omega)
  refine ⟨h1, CB_cong h2 eB, CL_cong h3 eB, ?_, ?_, ?_, hC, ?_, ?_, e1, fun i hi => absurd hi (Nat.not_lt_zero i)⟩
  · rw [eB 1 (by omega), eB 5 (by omega)]; exact h4
  · rw [e 6 (by omega) (by omega) (by omega) (by omega) (by omega), e 8 (by omega) (by omega) (by omega) (by omega) (by omega)]; exact h5
  · rw [e 10 (by omega) (by omega) (by omega) (by omega) (by omega), e 9 (by omega) (by omega) (by omega) (by omega) (by omega)]; exact h6'
  · exact CS_cong h8' (e _ (by omega) (by omega) (by omega) (by omega) (by omega)) (e _ (by omega) (by omega) (by omega) (by omega) (by omega)) (e _ (by omega) (by omega) (by omega) (by omega) (by omega)) (e _ (by omega) (by omega) (by omega) (by omega) (by omega))
  · intro j hj
    obtain ⟨a1, a2⟩ := h9 j hj
    refine ⟨by rw [e (52 + 11 * j) (by omega) (by omega) (by omega) (by omega) (by omega)]; exact a1, fun q hq => ?_⟩
    obtain ⟨b1, b2, b3⟩ := a2 q hq
    refine ⟨by rw [e (54 + 11 * j) (by omega) (by omega) (by omega) (by omega) (by omega)]; exact b1, ?_, ?_⟩
    · exact CY_cong b2 (e _ (by omega) (by omega) (by omega) (by omega) (by omega)) (e _ (by omega) (by omega) (by omega) (by omega) (by omega)) (e _ (by omega) (by omega) (by omega) (by omega) (by omega)) (e _ (by omega) (by omega) (by omega) (by omega) (by omega))
    · exact CS_cong b3 (e _ (by omega) (by omega) (by omega) (by omega) (by omega)) (e _ (by omega) (by omega) (by omega) (by omega) (by omega)) (e _ (by omega) (by omega) (by omega) (by omega) (by omega)) (e _ (by omega) (by omega) (by omega) (by omega) (by omega))
theorem c_year {g : sh_G} {d : Nat} {w : Wd} {mem : sh_Mem} {Q : Option sh_V → sh_Mem → Prop} (hJ : JD g) (hT : TpOk (w_t w)) (hN : NmOk w) (h : CRel w mem) (hf : ∀ f m', yrOf w = .inl f → CPost (w_tp w (0, (w_t w).2)) mem m' → Q (some (sh_i f)) m') (h1 : ∀ y m', yrOf w = .inr y → CPost (w_yr w y) mem m' → Q (some (sh_i 0)) m') : sh_Cal g (d + 15) m_Sto_year [sh_r 1] mem Q := by
  obtain ⟨B, Y, hB, hY, hc⟩ := h
  have hc' := hc
  obtain ⟨k1, k2, k3, k4, k5, k6, k7, k8, k9, k10, k11⟩ := hc'
  have hZ : obY (92 - Y) := by omega
  apply v_Sto_year (Y := Y) (obY_10 hZ) (obB_0 hB) (obY_10 hY)
  refine ⟨k1.2.2.2, k1.1, ?_⟩
  refine s_readYear (d := d) (T := w_t w) hJ hT (obY_10 hZ) (obB_0 hB) (by omega) k2.2.1 k2.2.2.1 k2.1.1 k2.1.2.1 (fun i hi => ⟨k4.1 i hi, hN.1 i hi⟩) (fun i hi => ⟨k4.2 i hi, hN.2 i hi⟩) k10 k11 (fun f m1 e a => ⟨f, rfl, fun z => ?_, fun _ => ?_⟩) (fun y m1 e a hcy => ⟨0, rfl, fun _ => ?_, fun z => absurd rfl z⟩)
  · have := pYs_c hT 1000 (tok (w_t w) 0) z3 ⟨0, by omega, rfl⟩ f e
    rw [i3s (by omega) (by omega)] at z; omega
  · have r1 : m1 1 = mem 1 := a.1 1 (by omega) (by omega) (by omega)
    have q := CR_yr (M := m1) (y := w_y w) hB hY hY hc (fun b _ _ h2 h4 h5 => a.1 b h2 h4 h5) a.2 (by rw [r1]; exact k1) (CY_cong k7 (a.1 _ (by omega) (by omega) (by omega)) (a.1 _ (by omega) (by omega) (by omega)) (a.1 _ (by omega) (by omega) (by omega)) (a.1 _ (by omega) (by omega) (by omega)))
    exact hf f m1 e ⟨⟨B, Y, hB, hY, q⟩, fun b hb => a.1 b (by omega) (by omega) (by omega)⟩
  · have r1 : m1 1 = mem 1 := a.1 1 (by omega) (by omega) (by omega)
    rw [r1]
    refine ⟨k1.2.2.1, k1.2.2.2, fun m2 e2 m3 e3 => ?_⟩
    have m31 : m3 1 = ru (ru (mem 1) 11 ((92 - Y : Nat) : Int)) 12 (Y : Int) := by rw [e3, ms_s, e2, ms_s]
    have o3 : ∀ b, b ≠ 1 → m3 b = m1 b := fun b hb => by rw [e3, ms_n _ _ hb, e2, ms_n _ _ hb]
    have q := CR_yr (M := m3) (y := y) hB hY hZ hc (fun b b1 _ h2 h4 h5 => by rw [o3 b (by omega)]; exact a.1 b h2 h4 h5) (by rw [o3 2 (by decide)]; exact a.2) ⟨by rw [m31, ru_n _ _ (by decide), ru_n _ _ (by decide)]; exact k1.1, by rw [m31, ru_n _ _ (by decide), ru_n _ _ (by decide)]; exact k1.2.1, by rw [m31, ru_n _ _ (by decide), ru_s], by rw [m31, ru_s]; omega⟩ (CY_cong hcy (o3 _ (by omega)) (o3 _ (by omega)) (o3 _ (by omega)) (o3 _ (by omega)))
    exact h1 y m3 e ⟨⟨B, 92 - Y, hB, hZ, q⟩, fun b hb => by rw [o3 b (by omega)]; exact a.1 b (by omega) (by omega) (by omega)⟩
