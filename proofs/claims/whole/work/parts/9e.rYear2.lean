/-! ===== a year, of the reference: a line, and all ===== -/
section YER
variable {g : sh_G} {d nd nt : Nat} {T : Tp} {t : Tok} {m0 m : sh_Mem} {fd ft : Nat → Int} {y : Se} {Q : Option sh_V → sh_Mem → Prop}
def RYnm (m : sh_Mem) (fd : Nat → Int) (nd : Nat) (ft : Nat → Int) (nt : Nat) : Prop := (nd ≤ 8 ∧ nt ≤ 4) ∧ m 98 0 = (nd : Int) ∧ m 98 1 = (nt : Int) ∧ (∀ i, i < nd → m 99 i = fd i ∧ wR (fd i)) ∧ ∀ i, i < nt → m 100 i = ft i ∧ wR (ft i)
theorem RYnm_F {m' : sh_Mem} (h : RYnm m0 fd nd ft nt) (k : RYF m0 m') : RYnm m' fd nd ft nt := ⟨h.1, (k 98 0 (by unfold lowY; omega)).trans h.2.1, (k 98 1 (by unfold lowY; omega)).trans h.2.2.1, fun i hi => by rw [k 99 i (by unfold lowY; omega)]; exact h.2.2.2.1 i hi, fun i hi => by rw [k 100 i (by unfold lowY; omega)]; exact h.2.2.2.2 i hi⟩
theorem l_rl178 {k a b : Int} (hT : TpOk T) (hN : RYnm m0 fd nd ft nt) (ht : TK T t) (hA : RYF m0 m) (hr : RT m T t) (hD : RYD m y) (h40 : y.1 < 40) (k5 : 0 ≤ k ∧ k ≤ 4) (e2 : m 122 (200 + y.1) = k) (e3 : k ≠ 0 → m 123 (200 + y.1) = a) (e4 : k = 1 → m 124 (200 + y.1) = b) (a4 : k = 4 → 0 ≤ a ∧ a ≤ 4) (hq : k ≠ 4 → RYPo m0 T (pCl T y k a b t) Q) (hq4 : k = 4 → RYPo m0 T (match pOth T ft nt a t with | .inl f => .inl f | .inr q2 => pCl T y 4 a q2.2 q2.1) Q) :
    sh_X g (d + 3) m_Mod_readsLine 178 [(0, sh_r 96), (1, sh_i k), (2, sh_i ((200 + y.1 : Nat) : Int))] [] m (sh_K m_Mod_readsLine Q) := by
  apply v_Mod_readsLine_178
  rw [i3s (x := k) (by omega) (by omega), Int.toNat_natCast]
  refine ⟨fun z => ?_, fun z => ?_⟩
  · exact l_closeY hT ht hA hr hD h40 e2 e3 (fun w => e4 (by omega)) (hq z)
  · have hq4 := hq4 z
    have a4 := a4 z
    obtain ⟨n0, n1, n2, n3, n4⟩ := RYnm_F hN hA
    refine s_thief0 (d := d + 1) (T := T) (t := t) n0.2 n2 n4 ht hr (fun r er r1 r2 => ⟨r, rfl, ?_⟩)
    refine s_isFound (d := d + 1) hT ht hr er r1 r2 (fun e m' q k e9 => ⟨0, rfl, fun z => absurd rfl z, fun _ => ?_⟩) (fun m4 nm ne k4 c4 v4 => ⟨1, rfl, fun _ => ?_, fun z => absurd z (by decide)⟩)
    · have po : pOth T ft nt a t = .inl e := by
        unfold pOth
        by_cases w : isNm t ∧ nmF ft (t_v t) nt 0 = a
        · unfold pNm at q
          rw [if_pos w.1, if_neg (by omega)] at q
          cases q
        · rw [if_neg w]; exact q
      simp only [po] at hq4
      exact hq4.1 e m' rfl ⟨RYF_K hA k, RYN_K hD.2.2.1 k, e9⟩
    · have q1 := nmF_rng ft (t_v t) nt 0
      have v3 : m4 123 (200 + y.1) = a := by rw [k4.1 123 (by decide)]; exact e3 (by omega)
      have n44 := n0.2
      rw [v4, v3, i3s (x := nmF ft (t_v t) nt 0) (by omega) (by omega), i3s (x := a) (by omega) (by omega)]
      have A4 := RYF_K hA k4
      have D4 := RYD_K hD k4
      refine ⟨by omega, fun w => ⟨by omega, fun m5 e5 => ?_⟩, fun w => ?_⟩
      · have po : pOth T ft nt a t = .inr (nx T t, nmF ft (t_v t) nt 0) := by
          unfold pOth pNm
          rw [if_neg (fun u => w u.2), if_pos nm, if_neg ne]
        simp only [po] at hq4
        have A5 : RYF m0 m5 := by rw [e5]; exact RYF_w A4 (by unfold lowY; omega)
        have D5 : RYD m5 y := by rw [e5]; exact RYD_w D4 (by omega) (by omega) rfl
        have c5 : RT m5 T t := by rw [e5]; exact RT_m c4 (by omega)
        refine s_nextK (d := d + 1) hT ht c5 (fun m6 k6 c6 => ⟨rfl, ?_⟩)
        have k6' := Kr_Rk k6
        refine l_closeY hT (TK_n ht) (RYF_K A5 k6') c6 (RYD_K D5 k6') h40 ?_ (fun _ => ?_) (fun _ => ?_) hq4
        · rw [k6.1 122 (by decide), e5, ms_n _ _ (by decide), k4.1 122 (by decide), e2, z]
        · rw [k6.1 123 (by decide), e5, ms_n _ _ (by decide)]; exact v3
        · rw [k6.1 124 (by decide), e5, ms_s, ru_s]
      · have po : pOth T ft nt a t = .inl (flt 3 t) := by
          unfold pOth
          rw [if_pos ⟨nm, w⟩]
        simp only [po] at hq4
        exact s_failsK (k := 3) c4 (fun m' k e9 => ⟨_, rfl, Or.inl rfl, hq4.1 _ m' rfl ⟨RYF_K A4 k, RYN_K D4.2.2.1 k, e9⟩⟩)
theorem l_rl149 {k a : Int} (hT : TpOk T) (hN : RYnm m0 fd nd ft nt) (ht : TK T t) (hA : RYF m0 m) (hr : RT m T t) (hD : RYD m y) (h40 : y.1 < 40) (k5 : 0 ≤ k ∧ k ≤ 4) (e2 : m 122 (200 + y.1) = k) (e3 : k ≠ 0 → m 123 (200 + y.1) = a) (a4 : k ≠ 0 → 0 ≤ a ∧ a ≤ 4) (hq0 : k ≠ 1 → k ≠ 4 → RYPo m0 T (pCl T y k a 0 t) Q) (hq1 : k = 1 → RYPo m0 T (match pNm T fd nd t with | .inl f => .inl f | .inr q2 => pCl T y 1 a q2.2 q2.1) Q) (hq4 : k = 4 → RYPo m0 T (match pOth T ft nt a t with | .inl f => .inl f | .inr q2 => pCl T y 4 a q2.2 q2.1) Q) :
    sh_X g (d + 3) m_Mod_readsLine 149 [(0, sh_r 96), (1, sh_i k), (2, sh_i ((200 + y.1 : Nat) : Int))] [] m (sh_K m_Mod_readsLine Q) := by
  apply v_Mod_readsLine_149
  rw [i3s (x := k) (by omega) (by omega), Int.toNat_natCast]
  refine ⟨fun z => ?_, fun z => ?_⟩
  · exact l_rl178 (b := 0) hT hN ht hA hr hD h40 k5 e2 e3 (fun w => absurd w z) (fun w => a4 (by omega)) (fun w => hq0 z w) hq4
  · have hq1 := hq1 z
    obtain ⟨n0, n1, n2, n3, n4⟩ := RYnm_F hN hA
    refine s_day0 (d := d + 1) (T := T) (t := t) n0.1 n1 n3 ht hr (fun r er r1 r2 => ⟨r, rfl, ?_⟩)
    refine s_passesFound (d := d) hT ht hr er r1 r2 (fun e m' q k e9 => ⟨0, rfl, fun z => absurd rfl z, fun _ => ?_⟩) (fun q2 m3 q tk k3 v c3 => ⟨1, rfl, fun _ => ⟨by omega, fun m4 e4 => ?_⟩, fun z => absurd z (by decide)⟩)
    · simp only [q] at hq1
      exact hq1.1 e m' rfl ⟨RYF_K hA k, RYN_K hD.2.2.1 k, e9⟩
    · simp only [q] at hq1
      have y2 := pNm_y ht q
      have A4 : RYF m0 m4 := by rw [e4]; exact RYF_w (RYF_K hA k3) (by unfold lowY; omega)
      have D4 : RYD m4 y := by rw [e4]; exact RYD_w (RYD_K hD k3) (by omega) (by omega) rfl
      have c4 : RT m4 T q2.1 := by rw [e4]; exact RT_m c3 (by omega)
      refine l_rl178 (a := a) (b := q2.2) hT hN tk A4 c4 D4 h40 k5 ?_ (fun w => ?_) (fun _ => ?_) (fun w => a4 (by omega)) (fun w => by rw [z]; exact hq1) (fun w => by omega)
      · rw [e4, ms_n _ _ (by decide), k3.1 122 (by decide)]; exact e2
      · rw [e4, ms_n _ _ (by decide), k3.1 123 (by decide)]; exact e3 w
      · rw [e4, ms_s, ru_s, v]
theorem s_readsLine (hT : TpOk T) (hN : RYnm m0 fd nd ft nt) (ht : TK T t) (hs : RYS m0 m T t y) (hq : RYPo m0 T (pYl T fd nd ft nt y t) Q) : sh_Cal g (d + 3) m_Mod_readsLine [sh_r 96] m Q := by
  obtain ⟨hA, hr, hD⟩ := hs
  have h40 := hD.1
  have dc := doT_c t
  unfold pYl at hq
  have go : ∀ y0, y0 = doT t → sh_X g (d + 3) m_Mod_readsLine 71 [(0, sh_r 96)] [sh_i y0] m (sh_K m_Mod_readsLine Q) := by
    intro y0 ey
    apply v_Mod_readsLine_71
    rw [ey, i3s (x := doT t) (by omega) (by omega), hD.2.1, i3n (x := y.1) (by omega)]
    refine ⟨fun z => ⟨fun z2 => ?_, fun z2 => ?_⟩, fun z => ?_⟩
    · rw [if_neg (show ¬ doT t = -1 by omega), if_neg (show ¬ y.1 = 40 by omega)] at hq
      have tk1 := TK_n ht
      refine s_nextK (d := d + 1) hT ht hr (fun m1 k1 c1 => ⟨rfl, ?_⟩)
      have k1' := Kr_Rk k1
      have A1 := RYF_K hA k1'
      have D1 := RYD_K hD k1'
      rw [D1.2.1, show (200 : Int) + (y.1 : Int) = ((200 + y.1 : Nat) : Int) by omega, Int.toNat_natCast]
      refine ⟨by omega, fun m2 e2 => ?_⟩
      have A2 : RYF m0 m2 := by rw [e2]; exact RYF_w A1 (by unfold lowY; omega)
      have D2 : RYD m2 y := by rw [e2]; exact RYD_w D1 (by omega) (by omega) rfl
      have c2 : RT m2 T (nx T t) := by rw [e2]; exact RT_m c1 (by omega)
      have v2 : m2 122 (200 + y.1) = doT t := by rw [e2, ms_s, ru_s]
      refine ⟨fun y0 => ?_, fun y0 => ?_⟩
      · rw [if_pos y0] at hq
        exact l_rl149 (a := 0) (d := d) hT hN tk1 A2 c2 D2 (by omega) (by omega) v2 (fun w => absurd y0 w) (fun w => absurd y0 w) (fun _ _ => by rw [y0]; exact hq) (fun w => by omega) (fun w => by omega)
      · rw [if_neg y0] at hq
        obtain ⟨n0, n1, n2, n3, n4⟩ := RYnm_F hN A2
        refine s_thief0 (d := d + 1) (T := T) (t := nx T t) n0.2 n2 n4 tk1 c2 (fun r er r1 r2 => ⟨r, rfl, ?_⟩)
        refine s_passesFound (d := d) hT tk1 c2 er r1 r2 (fun e m' q k e9 => ⟨0, rfl, fun z => absurd rfl z, fun _ => ?_⟩) (fun q1 m4 q tk4 k4 v c4 => ⟨1, rfl, fun _ => ⟨by omega, fun m5 e5 => ?_⟩, fun z => absurd z (by decide)⟩)
        · simp only [q] at hq
          exact hq.1 e m' rfl ⟨RYF_K A2 k, RYN_K D2.2.2.1 k, e9⟩
        · simp only [q] at hq
          have y1 := pNm_y tk1 q
          have n44 := n0.2
          have A5 : RYF m0 m5 := by rw [e5]; exact RYF_w (RYF_K A2 k4) (by unfold lowY; omega)
          have D5 : RYD m5 y := by rw [e5]; exact RYD_w (RYD_K D2 k4) (by omega) (by omega) rfl
          have c5 : RT m5 T q1.1 := by rw [e5]; exact RT_m c4 (by omega)
          refine l_rl149 (a := q1.2) (d := d) hT hN tk4 A5 c5 D5 (by omega) (by omega) ?_ (fun w => ?_) (fun w => by omega) (fun w1 w4 => ?_) (fun w => ?_) (fun w => ?_)
          · rw [e5, ms_n _ _ (by decide), k4.1 122 (by decide)]; exact v2
          · rw [e5, ms_s, ru_s, v]
          · rw [if_neg w1, if_neg w4] at hq; exact hq
          · rw [if_pos w] at hq; exact hq
          · rw [if_neg (by omega), if_pos w] at hq; exact hq
    · rw [if_neg (show ¬ doT t = -1 by omega), if_pos (show y.1 = 40 by omega)] at hq
      exact s_failsK (k := 5) hr (fun m' k e9 => ⟨_, rfl, Or.inl rfl, hq.1 _ m' rfl ⟨RYF_K hA k, RYN_K hD.2.2.1 k, e9⟩⟩)
    · rw [if_pos (show doT t = -1 by omega)] at hq
      exact s_failsK (k := 1) hr (fun m' k e9 => ⟨_, rfl, Or.inl rfl, hq.1 _ m' rfl ⟨RYF_K hA k, RYN_K hD.2.2.1 k, e9⟩⟩)
  have kd : doT t = (if isW t 7622660 then 0 else if isW t 10494723 then 1 else if isW t 377958 then 2 else if isW t 10416334 then 3 else if isW t 390787 then 4 else -1) := rfl
  apply v_Mod_readsLine
  refine s_Mod_isWord hT ht hr (by omega) ⟨_, rfl, ?_⟩
  rw [i3_01]
  refine ⟨fun z1 => ?_, fun z1 => go 0 (by rw [kd, if_pos (p01 z1)])⟩
  refine s_Mod_isWord hT ht hr (by omega) ⟨_, rfl, ?_⟩
  rw [i3_01]
  refine ⟨fun z2 => ?_, fun z2 => go 1 (by rw [kd, if_neg (n01 z1), if_pos (p01 z2)])⟩
  refine s_Mod_isWord hT ht hr (by omega) ⟨_, rfl, ?_⟩
  rw [i3_01]
  refine ⟨fun z3 => ?_, fun z3 => go 2 (by rw [kd, if_neg (n01 z1), if_neg (n01 z2), if_pos (p01 z3)])⟩
  refine s_Mod_isWord hT ht hr (by omega) ⟨_, rfl, ?_⟩
  rw [i3_01]
  refine ⟨fun z4 => ?_, fun z4 => go 3 (by rw [kd, if_neg (n01 z1), if_neg (n01 z2), if_neg (n01 z3), if_pos (p01 z4)])⟩
  refine s_Mod_isWord hT ht hr (by omega) ⟨_, rfl, ?_⟩
  rw [i3_01]
  exact ⟨fun z5 => go (-1) (by rw [kd, if_neg (n01 z1), if_neg (n01 z2), if_neg (n01 z3), if_neg (n01 z4), if_neg (n01 z5)]), fun z5 => go 4 (by rw [kd, if_neg (n01 z1), if_neg (n01 z2), if_neg (n01 z3), if_neg (n01 z4), if_pos (p01 z5)])⟩
theorem l_year16 (hT : TpOk T) (hN : RYnm m0 fd nd ft nt) (hf : ∀ f m', pYear T fd nd ft nt = .inl f → RYB m0 m' f → Q (some (sh_i f)) m') (h1 : ∀ y m', pYear T fd nd ft nt = .inr y → RYF m0 m' → RYD m' y → YgOk nd nt y → sh_Cal g (d + 3) m_Mod_laysLines [sh_r 96, sh_i 5, sh_i 0] m' (fun rv m1 => rv = none ∧ Q (some (sh_i 0)) m1)) : ∀ (k i : Nat) (m : sh_Mem) (t : Tok) (y : Se), i + k = 1000 → i ≤ t_p t → TK T t → YgOk nd nt y → RYS m0 m T t y → pYear T fd nd ft nt = pYs T fd nd ft nt k t y →
    sh_X g (d + 4) m_Mod_year 16 [(0, sh_r 96)] [] m (sh_K m_Mod_year Q) := by
  intro k
  induction k with
  | zero =>
    intro i m t y hi hip ht hy hs e
    rw [pYs] at e
    have k3 : t_k t = 3 := by
      by_cases u : t_k t = 3
      · exact u
      · have := (TK_1000 hT ht).2 u; omega
    apply v_Mod_year_16
    rw [hs.2.1.2.2.2.1, (rK1 hT ht).2.2]
    exact ⟨fun _ => h1 y m e hs.1 hs.2.2 hy, fun z => absurd k3 z⟩
  | succ k ih =>
    intro i m t y hi hip ht hy hs e
    rw [pYs] at e
    apply v_Mod_year_16
    rw [hs.2.1.2.2.2.1, (rK1 hT ht).2.2]
    refine ⟨fun z => ?_, fun z => ?_⟩
    · rw [if_pos z] at e; exact h1 y m e hs.1 hs.2.2 hy
    · rw [if_neg z] at e
      refine s_readsLine (d := d) hT hN ht hs ⟨fun f m' e2 k2 => ⟨0, rfl, fun z => absurd rfl z, fun _ => ?_⟩, fun q m' e2 tk k2 => ⟨1, rfl, fun _ => ?_, fun z => absurd z (by decide)⟩⟩
      · simp only [e2] at e
        rw [k2.2.2]
        exact hf f m' e k2
      · simp only [e2] at e
        have c2 := pYl_y hT ht hy e2
        exact ih (i + 1) m' q.1 q.2 (by omega) (by omega) tk c2.2.2 k2 e
end YER
/-- what was read, and what the reference has of it -/
def YAg (y y' : Se) : Prop := y'.1 = y.1 ∧ ∀ i, i < y.1 → y'.2.1 i = y.2.1 i ∧ (y.2.1 i ≠ 0 → y'.2.2.1 i = y.2.2.1 i) ∧ (y.2.1 i = 1 ∨ y.2.1 i = 4 → y'.2.2.2 i = y.2.2.2 i) ∧ 0 ≤ y'.2.2.1 i ∧ 0 ≤ y'.2.2.2 i
theorem YeOk_Ag {b : Bk} {y y' : Se} (h : YgOk (b_nd b) (b_nt b) y) (a : YAg y y') : YeOk b y' := by
  obtain ⟨a0, a1⟩ := a
  refine ⟨by rw [a0]; exact h.1, fun i hi => ?_⟩
  rw [a0] at hi
  obtain ⟨b1, b2, b3, b4, b5⟩ := a1 i hi
  obtain ⟨l1, l2, l3, l4, l5⟩ := h.2 i hi
  refine ⟨(y'.2.2.1 i).toNat, (y'.2.2.2 i).toNat, by omega, by omega, ?_⟩
  rw [b1]
  refine ⟨l1, l2, fun w => ?_, fun w => ?_, fun w => ?_, fun w => ?_⟩
  · have p := l3 (by omega); have p2 := l4 w; have p3 := b2 (by omega); have p4 := b3 (by omega); omega
  · have p := l3 (by omega); have p3 := b2 (by omega); omega
  · have p := l3 (by omega); have p3 := b2 (by omega); omega
  · have p := l3 (by omega); have p2 := l5 w; have p3 := b2 (by omega); have p4 := b3 (by omega); omega
theorem CY_Ag {m : sh_Mem} {Y : Nat} {y y' : Se} (h : CY m Y y) (a : YAg y y') : CY m Y y' := by
  obtain ⟨a0, a1⟩ := a
  refine ⟨by rw [a0]; exact h.1, fun i hi => ?_⟩
  rw [a0] at hi
  obtain ⟨b1, b2, b3, b4, b5⟩ := a1 i hi
  obtain ⟨c1, c2, c3⟩ := h.2 i hi
  rw [b1]
  exact ⟨c1, fun w => by rw [b2 w]; exact c2 w, fun w => by rw [b3 w]; exact c3 w⟩
theorem CRel_Ag {w : Wd} {m : sh_Mem} {y y' : Se} (h : CRel (w_yr w y) m) (a : YAg y y') : CRel (w_yr w y') m := by
  obtain ⟨B, Y, hB, hY, h0, h2, h3, h4, h5, h6, h7, h8⟩ := h
  exact ⟨B, Y, hB, hY, h0, h2, h3, h4, h5, h6, CY_Ag h7 a, h8⟩
theorem RRel_yr {w : Wd} {m M : sh_Mem} {y' : Se} (hW : WOk w) (h : RRel w m) (e : ∀ a, (a < 121 ∧ a ≠ 96) ∨ 124 < a → M a = m a) (e2 : ∀ a i, 121 ≤ a → a ≤ 124 → (a = 121 ∧ 1 ≤ i ∧ i < 5) ∨ (a ≠ 121 ∧ 40 ≤ i ∧ i < 200) → M a i = m a i) (e51 : M 96 51 = m 96 51) (e1 : M 96 1 = 0) (hC : Col (M 121 0) (M 122) (M 123) (M 124) 0 y') (hn : ∀ k, k < 240 → 0 ≤ M 123 k ∧ 0 ≤ M 124 k) : RRel (w_yr w y') M := by
  have hm := hW.2.2.2.2.2.2.1
  obtain ⟨h1, h2, h3, h4, h5, h6, h7, h8, h9, h10, h11, h12⟩ := h
  refine ⟨MB_cong h1 (e 98 (by omega)) (e 101 (by omega)) (e 102 (by omega)) (e 103 (by omega)) (e 104 (by omega)) (e 105 (by omega)), ML_cong h2 (e 106 (by omega)) (e 107 (by omega)) (e 108 (by omega)), ?_, ?_, ?_, ?_, hC, ?_, ⟨?_, hn⟩, ?_, e1, fun i hi => absurd hi (Nat.not_lt_zero i)⟩
  · rw [e 99 (by omega)]; exact h3
  · rw [e 100 (by omega)]; exact h4
  · rw [e 129 (by omega)]; exact h5
  · rw [e 134 (by omega)]; exact RP_cong e51 h6
  · rw [e 125 (by omega), e 126 (by omega), e 127 (by omega), e 128 (by omega)]; exact h8
  · rw [e 128 (by omega)]; exact h9.1
  · intro j hj
    obtain ⟨a1, a2⟩ := h10 j hj
    rw [e 135 (by omega), e 133 (by omega), e 125 (by omega), e 126 (by omega), e 127 (by omega), e 128 (by omega)]
    refine ⟨a1, fun q hq => ?_⟩
    obtain ⟨b1, b2, b3⟩ := a2 q hq
    have q40 := (hm j hj q hq).2.1.1
    refine ⟨b1, ⟨?_, fun i hi => ?_⟩, b3⟩
    · rw [e2 121 (1 + j) (by omega) (by omega) (by omega)]; exact b2.1
    · rw [e2 122 _ (by omega) (by omega) (by omega), e2 123 _ (by omega) (by omega) (by omega), e2 124 _ (by omega) (by omega) (by omega)]; exact b2.2 i hi
theorem r_year {g : sh_G} {d : Nat} {w : Wd} {mem : sh_Mem} {Q : Option sh_V → sh_Mem → Prop} (hW : WOk w) (hT : TpOk (w_t w)) (hN : NmOk w) (h : RRel w mem) (hf : ∀ f m', yrOf w = .inl f → RPost (w_tp w (0, (w_t w).2)) mem m' → Q (some (sh_i f)) m') (h1 : ∀ y y' m', yrOf w = .inr y → YAg y y' → YeOk (w_b w) y' → RPost (w_yr w y') mem m' → Q (some (sh_i 0)) m') : sh_Cal g (d + 4) m_Mod_year [sh_r 96] mem Q := by
  have p0 := RPost_0 h
  have y40 := hW.2.2.2.2.1.1
  apply v_Mod_year
  intro m1 em1
  rw [← em1] at p0
  intro m2 e2
  apply v_Mod_begins
  intro b1 f1 b2 f2 b3 f3
  obtain ⟨r1, r2, r3, r4, r5, r6, r7, r8, r9, r10, r11, r12⟩ := p0.1
  have b96 : ∀ i, i ≠ 3 → i ≠ 1 → i ≠ 4 → b3 96 i = m1 96 i := fun i y2 y3 y4 => by rw [f3, ms_s, ru_n _ _ y4, f2, ms_s, ru_n _ _ y3, f1, ms_s, ru_n _ _ y2, e2, ms_n _ _ (by decide)]
  have ob : ∀ a, a ≠ 96 → b3 a = m2 a := fun a ha => by rw [f3, ms_n _ _ ha, f2, ms_n _ _ ha, f1, ms_n _ _ ha]
  have oa : ∀ a, a ≠ 96 → a ≠ 121 → b3 a = m1 a := fun a y1 y2 => by rw [ob a y1, e2, ms_n _ _ y2]
  have b33 : b3 96 3 = ((w_t w).1 : Int) := by rw [f3, ms_s, ru_n _ _ (by decide), f2, ms_s, ru_n _ _ (by decide), f1, ms_s, ru_s, e2, ms_n _ _ (by decide)]; exact r11
  have b31 : b3 96 1 = 0 := by rw [f3, ms_s, ru_n _ _ (by decide), f2, ms_s, ru_s]
  have b34 : b3 96 4 = ((0 : Nat) : Int) := by rw [f3, ms_s, ru_s]; rfl
  have b121 : b3 121 = ru (m1 121) 5 0 := by rw [ob 121 (by decide), e2, ms_s]
  refine s_nextAt (d := d + 1) (q := 0) (T := w_t w) hT b33 (by rw [oa 97 (by decide) (by decide)]; exact r12) b34 (by omega) (fun m4 k4 c4 => ⟨rfl, rfl, ?_⟩)
  have nm3 : RYnm b3 (w_nm w).1 (b_nd (w_b w)) (w_nm w).2 (b_nt (w_b w)) := by
    refine ⟨⟨r1.1.1, r1.1.2.1⟩, ?_, ?_, fun i hi => ?_, fun i hi => ?_⟩
    · rw [oa 98 (by decide) (by decide)]; exact r1.2.1
    · rw [oa 98 (by decide) (by decide)]; exact r1.2.2.1
    · rw [oa 99 (by decide) (by decide)]; exact ⟨r3 i hi, hN.1 i hi⟩
    · rw [oa 100 (by decide) (by decide)]; exact ⟨r4 i hi, hN.2 i hi⟩
  have A4 : RYF b3 m4 := fun a i hn => by
    by_cases y : a = 96
    · subst y; exact k4.2 i (by unfold lowY at hn; omega)
    · rw [k4.1 a y]
  have fr : ∀ m', RYF b3 m' → (∀ a, (a < 121 ∧ a ≠ 96) ∨ 124 < a → m' a = m1 a) ∧ (∀ i, i ≠ 5 → m' 121 i = m1 121 i) ∧ (∀ a i, 121 < a → a ≤ 124 → i < 200 → m' a i = m1 a i) ∧ m' 96 51 = m1 96 51 ∧ m' 96 1 = 0 ∧ m' 96 0 = 0 := by
    intro m' hA
    refine ⟨fun a ha => ?_, fun i hi => ?_, fun a i h1 h2 h3 => ?_, ?_, ?_, ?_⟩
    · rw [← oa a (by omega) (by omega)]; funext i; exact hA a i (by unfold lowY; omega)
    · rw [hA 121 i (by unfold lowY; omega), b121, ru_n _ _ hi]
    · rw [hA a i (by unfold lowY; omega), oa a (by omega) (by omega)]
    · rw [hA 96 51 (by unfold lowY; omega)]; exact b96 51 (by decide) (by decide) (by decide)
    · rw [hA 96 1 (by unfold lowY; omega)]; exact b31
    · rw [hA 96 0 (by unfold lowY; omega), b96 0 (by decide) (by decide) (by decide)]; exact p0.2.1
  refine l_year16 (d := d) (m0 := b3) (T := w_t w) hT nm3 (fun f m' e k => ?_) (fun y m' e k kd hy => ?_) 1000 0 m4 (tok (w_t w) 0) z3 (by omega) (by omega) ⟨0, by omega, rfl⟩ ⟨by decide, fun i hi => absurd hi (Nat.not_lt_zero i)⟩ ⟨A4, c4, by decide, ?_, ?_, fun i hi => absurd hi (Nat.not_lt_zero i)⟩ rfl
  · obtain ⟨u1, u2, u3, u4, u5, u6⟩ := fr m' k.1
    refine hf f m' e ⟨RRel_yr (y' := w_y w) hW p0.1 u1 (fun a i q1 q2 q3 => ?_) u4 u5 ?_ k.2.1, u6, fun a ha => ?_⟩
    · by_cases y : a = 121
      · subst y; exact u2 i (by omega)
      · exact u3 a i (by omega) q2 (by omega)
    · refine ⟨by rw [u2 0 (by decide)]; exact r7.1, fun i hi => ?_⟩
      rw [u3 122 _ (by omega) (by omega) (by omega), u3 123 _ (by omega) (by omega) (by omega), u3 124 _ (by omega) (by omega) (by omega)]; exact r7.2 i hi
    · rw [u1 a (by omega)]; exact p0.2.2 a ha
  · obtain ⟨u1, u2, u3, u4, u5, u6⟩ := fr m' k
    obtain ⟨d1, d2, d3, d4⟩ := kd
    have ag : YAg y (y.1, (fun i => m' 122 (200 + i)), (fun i => m' 123 (200 + i)), (fun i => m' 124 (200 + i))) := by
      refine ⟨rfl, fun i hi => ?_⟩
      have q := d4 i hi
      have n := d3 (200 + i) (by omega)
      exact ⟨q.1, q.2.1, q.2.2, n.1, n.2⟩
    refine s_Mod_laysLines (fr := 5) (tt := 0) (by omega) (by omega) (by omega) ⟨rfl, ?_⟩
    refine h1 y _ _ e ag (YeOk_Ag hy ag) ⟨RRel_yr hW p0.1 (fun a ha => ?_) (fun a i q1 q2 q3 => ?_) ?_ ?_ ?_ (fun j hj => ?_), ?_, fun a ha => ?_⟩
    · rw [ms_n _ _ (by omega), ms_n _ _ (by omega), ms_n _ _ (by omega), ms_n _ _ (by omega)]; exact u1 a ha
    · by_cases y1 : a = 121
      · subst y1
        rw [ms_n _ _ (by omega), ms_n _ _ (by omega), ms_n _ _ (by omega), ms_s, ru_n _ _ (by omega)]; exact u2 i (by omega)
      · by_cases y2 : a = 122
        · subst y2
          rw [ms_n _ _ (by omega), ms_n _ _ (by omega), ms_s]; unfold cpy; rw [if_neg (by omega)]; exact u3 122 i (by omega) q2 (by omega)
        · by_cases y3 : a = 123
          · subst y3
            rw [ms_n _ _ (by omega), ms_s]; unfold cpy; rw [if_neg (by omega)]; exact u3 123 i (by omega) q2 (by omega)
          · have y4 : a = 124 := by omega
            subst y4
            rw [ms_s]; unfold cpy; rw [if_neg (by omega)]; exact u3 124 i (by omega) q2 (by omega)
    · rw [ms_n _ _ (by decide), ms_n _ _ (by decide), ms_n _ _ (by decide), ms_n _ _ (by decide)]; exact u4
    · rw [ms_n _ _ (by decide), ms_n _ _ (by decide), ms_n _ _ (by decide), ms_n _ _ (by decide)]; exact u5
    · have c0 : Col (m' 121 5) (m' 122) (m' 123) (m' 124) (40 * 5) (y.1, (fun i => m' 122 (200 + i)), (fun i => m' 123 (200 + i)), (fun i => m' 124 (200 + i))) := ⟨d2, fun i _ => ⟨rfl, rfl, rfl⟩⟩
      have c1 := Col_to (o' := 40 * 0) c0 (show y.1 ≤ 40 from d1)
      simp only [ms_s, ms_n _ _ (show (121 : Nat) ≠ 122 by decide), ms_n _ _ (show (121 : Nat) ≠ 123 by decide), ms_n _ _ (show (121 : Nat) ≠ 124 by decide), ms_n _ _ (show (122 : Nat) ≠ 123 by decide), ms_n _ _ (show (122 : Nat) ≠ 124 by decide), ms_n _ _ (show (123 : Nat) ≠ 124 by decide), ru_s]
      exact c1
    · simp only [ms_s, ms_n _ _ (show (123 : Nat) ≠ 124 by decide)]
      unfold cpy
      split
      · exact d3 _ (by omega)
      · exact d3 _ hj
    · rw [ms_n _ _ (by decide), ms_n _ _ (by decide), ms_n _ _ (by decide), ms_n _ _ (by decide)]; exact u6
    · rw [ms_n _ _ (by omega), ms_n _ _ (by omega), ms_n _ _ (by omega), ms_n _ _ (by omega), u1 a (by omega)]; exact p0.2.2 a ha
  · rw [k4.1 121 (by decide), b121, ru_s]; rfl
  · unfold RYN; rw [k4.1 123 (by decide), k4.1 124 (by decide), oa 123 (by decide) (by decide), oa 124 (by decide) (by decide)]; exact r9.2
