/-! ===== a year: the class reads a line ===== -/
abbrev YR : Type := Int ⊕ (Tok × Se)
def addY (y : Se) (k a b : Int) : Se := (y.1 + 1, ru y.2.1 y.1 k, ru y.2.2.1 y.1 a, ru y.2.2.2 y.1 b)
def pCl (T : Tp) (y : Se) (k a b : Int) (t : Tok) : YR := match pSg T 59 t with
  | .inl f => .inl f
  | .inr t2 => .inr (t2, addY y k a b)
def pYl (T : Tp) (fd : Nat → Int) (nd : Nat) (ft : Nat → Int) (nt : Nat) (y : Se) (t : Tok) : YR :=
  if doT t = -1 then .inl (flt 1 t) else if y.1 = 40 then .inl (flt 5 t) else if doT t = 0 then pCl T y 0 0 0 (nx T t) else match pNm T ft nt (nx T t) with
  | .inl f => .inl f
  | .inr q1 => if doT t = 1 then (match pNm T fd nd q1.1 with | .inl f => .inl f | .inr q2 => pCl T y 1 q1.2 q2.2 q2.1)
    else if doT t = 4 then (match pOth T ft nt q1.2 q1.1 with | .inl f => .inl f | .inr q2 => pCl T y 4 q1.2 q2.2 q2.1)
    else pCl T y (doT t) q1.2 0 q1.1
def YFr (Y : Nat) (m0 m : sh_Mem) : Prop := (∀ a, a ≠ 2 → a ≠ 4 → (a < Y ∨ Y + 3 < a) → m a = m0 a) ∧ m 2 1 = m0 2 1
def YSt (Y : Nat) (m0 m : sh_Mem) (T : Tp) (t : Tok) (y : Se) : Prop := YFr Y m0 m ∧ m 4 1 = 0 ∧ CT m T t ∧ CY m Y y ∧ y.1 ≤ 40
def YFl (Y : Nat) (m0 m : sh_Mem) (f : Int) : Prop := YFr Y m0 m ∧ m 4 1 = f
abbrev YPo (Y : Nat) (m0 : sh_Mem) (T : Tp) (o : YR) (Q : Option sh_V → sh_Mem → Prop) : Prop := (∀ f m', o = .inl f → YFl Y m0 m' f → Q (some (sh_i 0)) m') ∧ ∀ q m', o = .inr q → TK T q.1 → YSt Y m0 m' T q.1 q.2 → Q (some (sh_i 1)) m'
section YEA
variable {g : sh_G} {d B Y nd nt : Nat} {T : Tp} {t : Tok} {m0 m : sh_Mem} {fd ft : Nat → Int} {y : Se} {Q : Option sh_V → sh_Mem → Prop}
theorem ob10_c (h : ob10 Y) : Y = 44 ∨ Y = 48 ∨ (55 ≤ Y ∧ Y ≤ 91) := by unfold ob10 at h; simp at h; omega
theorem YFr_K {m' : sh_Mem} (h : YFr Y m0 m) (k : Kc m m') : YFr Y m0 m' := ⟨fun a a1 a2 a3 => (k.1 a a1 a2).trans (h.1 a a1 a2 a3), k.2.1.trans h.2⟩
theorem YFl_K {m' : sh_Mem} {f : Int} (h : YFr Y m0 m) (k : Kf m m' f) : YFl Y m0 m' f := ⟨⟨fun a a1 a2 a3 => (k.1 a a1 a2).trans (h.1 a a1 a2 a3), k.2.1.trans h.2⟩, k.2.2⟩
theorem CY_K {m' : sh_Mem} (hY : 10 < Y) (h : CY m Y y) (k : Kc m m') : CY m' Y y := CY_cong h (k.1 _ (by omega) (by omega)) (k.1 _ (by omega) (by omega)) (k.1 _ (by omega) (by omega)) (k.1 _ (by omega) (by omega))
theorem l_addClose {k a b x4 x5 : Int} (hJ : JD g) (hT : TpOk T) (hY : ob10 Y) (ht : TK T t) (hA : YFr Y m0 m) (h41 : m 4 1 = 0) (hr : CT m T t) (hC : CY m Y y) (h40 : y.1 < 40) (e4 : k ≠ 0 → x4 = a) (e5 : k = 1 ∨ k = 4 → x5 = b) (hq : YPo Y m0 T (pCl T y k a b t) Q) :
    sh_Cal g (d + 10) m_Year_add [sh_r Y, sh_i k, sh_i x4, sh_i x5] m (fun rv m1 => rv = none ∧ sh_Cal g (d + 10) m_Read_takeSign [sh_r 4, sh_i 59] m1 (fun rv m2 => ∃ r1 : Int, rv = some (sh_i r1) ∧ ((r1 = 0 ∨ r1 = 1) ∧ Q (some (sh_i r1)) m2))) := by
  have l := ob10_c hY
  obtain ⟨c0, c1⟩ := hC
  unfold pCl at hq
  apply v_Year_add hY
  rw [c0, i3n (x := y.1) (by omega), Int.toNat_natCast]
  refine ⟨fun z => by omega, fun _ => ⟨by omega, fun m1 e1 => ?_⟩⟩
  have v1 : m1 Y 0 = (y.1 : Int) := by rw [e1, ms_n _ _ (by omega)]; exact c0
  rw [v1, Int.toNat_natCast]
  refine ⟨by omega, fun m2 e2 => ?_⟩
  have v2 : m2 Y 0 = (y.1 : Int) := by rw [e2, ms_n _ _ (by omega)]; exact v1
  rw [v2, Int.toNat_natCast]
  refine ⟨by omega, fun m3 e3 m4 e4' => ⟨rfl, ?_⟩⟩
  have o : ∀ a, (a < Y ∨ Y + 3 < a) → m4 a = m a := fun a ha => by rw [e4', ms_n _ _ (by omega), e3, ms_n _ _ (by omega), e2, ms_n _ _ (by omega), e1, ms_n _ _ (by omega)]
  have A4 : YFr Y m0 m4 := ⟨fun a a1 a2 a3 => (o a a3).trans (hA.1 a a1 a2 a3), by rw [o 2 (by omega)]; exact hA.2⟩
  have r4 : CT m4 T t := by unfold CT; rw [o 2 (by omega), o 3 (by omega)]; exact hr
  have p0 : m4 Y 0 = ((y.1 + 1 : Nat) : Int) := by rw [e4', ms_s, ru_s, e3, ms_n _ _ (by omega), v2]; omega
  have p1 : m4 (Y + 1) = ru (m (Y + 1)) y.1 k := by rw [e4', ms_n _ _ (by omega), e3, ms_n _ _ (by omega), e2, ms_n _ _ (by omega), e1, ms_s]
  have p2 : m4 (Y + 2) = ru (m (Y + 2)) y.1 x4 := by rw [e4', ms_n _ _ (by omega), e3, ms_n _ _ (by omega), e2, ms_s, e1, ms_n _ _ (by omega)]
  have p3 : m4 (Y + 3) = ru (m (Y + 3)) y.1 x5 := by rw [e4', ms_n _ _ (by omega), e3, ms_s, e2, ms_n _ _ (by omega), e1, ms_n _ _ (by omega)]
  have C4 : CY m4 Y (addY y k a b) := by
    refine ⟨p0, fun i hi => ?_⟩
    have hi : i < y.1 + 1 := hi
    show m4 (Y + 1) i = ru y.2.1 y.1 k i ∧ (ru y.2.1 y.1 k i ≠ 0 → m4 (Y + 2) i = ru y.2.2.1 y.1 a i) ∧ (ru y.2.1 y.1 k i = 1 ∨ ru y.2.1 y.1 k i = 4 → m4 (Y + 3) i = ru y.2.2.2 y.1 b i)
    rw [p1, p2, p3]
    by_cases z : i = y.1
    · rw [z, ru_s, ru_s, ru_s, ru_s, ru_s, ru_s]; exact ⟨rfl, e4, e5⟩
    · rw [ru_n _ _ z, ru_n _ _ z, ru_n _ _ z, ru_n _ _ z, ru_n _ _ z, ru_n _ _ z]; exact c1 i (by omega)
  refine s_takeSignK hJ hT ht r4 (by omega) (fun f m' e k => ⟨0, rfl, Or.inl rfl, ?_⟩) (fun t2 m5 e tk k5 c5 => ⟨1, rfl, Or.inr rfl, ?_⟩)
  · simp only [e] at hq; exact hq.1 f m' rfl (YFl_K A4 k)
  · simp only [e] at hq
    refine hq.2 _ m5 rfl tk ⟨YFr_K A4 k5, ?_, c5, CY_K (by omega) C4 k5, by show y.1 + 1 ≤ 40; omega⟩
    rw [k5.2.2, o 4 (by omega)]; exact h41
theorem s_readYearLine (hJ : JD g) (hT : TpOk T) (hY : ob10 Y) (hB : ob0 B) (hBY : B + 10 < Y) (b0 : m0 B 0 = (nd : Int)) (b1 : m0 B 1 = (nt : Int)) (n8 : nd ≤ 8) (n4 : nt ≤ 4) (hfd : ∀ i, i < nd → m0 (B + 1) i = fd i ∧ wR (fd i)) (hft : ∀ i, i < nt → m0 (B + 5) i = ft i ∧ wR (ft i)) (ht : TK T t) (hs : YSt Y m0 m T t y) (hq : YPo Y m0 T (pYl T fd nd ft nt y t) Q) : sh_Cal g (d + 13) m_Read_readLine [sh_r 4, sh_r Y, sh_r B] m Q := by
  have l := ob10_c hY
  have lb := ob0_c hB
  obtain ⟨hA, h41, hr, hC, h40⟩ := hs
  have dc := doT_c t
  unfold pYl at hq
  have nB : ∀ m', YFr Y m0 m' → m' B = m0 B ∧ m' (B + 1) = m0 (B + 1) ∧ m' (B + 5) = m0 (B + 5) := fun m' h => ⟨h.1 _ (by omega) (by omega) (by omega), h.1 _ (by omega) (by omega) (by omega), h.1 _ (by omega) (by omega) (by omega)⟩
  apply v_Read_readLine hY hB
  have kc := kyT_c t
  have dk := do_ky t
  rw [hr.2.2.2.2.2.2.2.1]
  refine s_withinK (by omega) (by omega) (by omega) (fun wi => ⟨1, rfl, fun _ => ?_, fun z => absurd z (by decide)⟩) (fun wi => ⟨0, rfl, fun z => absurd rfl z, fun _ => ?_⟩)
  · have de := dk.1 wi
    have z : ¬ doT t = -1 := by omega
    rw [← de, i3s (x := doT t) (by omega) (by omega), hC.1, i3n (x := y.1) (by omega)]
    rw [if_neg z] at hq
    refine ⟨fun z2 => ?_, fun z2 => ?_⟩
    · rw [if_neg (show ¬ y.1 = 40 by omega)] at hq
      have tk1 := TK_n ht
      refine s_stepK (d := d + 3) hJ hT ht hr (fun m2 k2 _ c2 => ⟨rfl, ?_⟩)
      have A2 := YFr_K hA k2
      have C2 := CY_K (by omega) hC k2
      have f2 : m2 4 1 = 0 := k2.2.2.trans h41
      refine ⟨fun y0 => ?_, fun y0 => ?_⟩
      · rw [if_pos y0] at hq
        apply v_Read_readLine_75 hY hB
        rw [i3s (x := doT t) (by omega) (by omega)]
        refine ⟨fun w => by omega, fun _ => ⟨fun _ => ?_, fun w => by omega⟩⟩
        rw [y0]
        exact l_addClose (d := d + 2) hJ hT hY tk1 A2 f2 c2 C2 (by omega) (fun w => absurd rfl w) (fun w => by omega) hq
      · rw [if_neg y0] at hq
        obtain ⟨u0, u1, u5⟩ := nB m2 A2
        refine s_takeThief (d := d + 1) (f := ft) (n := nt) hJ hT hB n4 (by rw [u0]; exact b1) (by rw [u5]; exact hft) tk1 c2 (fun e m' q k => ⟨0, rfl, fun w => absurd rfl w, fun _ => ?_⟩) (fun q1 m3 e1 tk3 k3 v3 c3 => ⟨1, rfl, fun _ => ?_, fun w => absurd w (by decide)⟩)
        · simp only [q] at hq; exact hq.1 e m' rfl (YFl_K A2 k)
        · simp only [e1] at hq
          have A3 := YFr_K A2 k3
          have C3 := CY_K (by omega) C2 k3
          have f3 : m3 4 1 = 0 := k3.2.2.trans f2
          have q1r : 0 ≤ q1.2 ∧ q1.2 ≤ 4 := by
            have := pNm_0 e1
            omega
          rw [v3]
          obtain ⟨w0, w1, w5⟩ := nB m3 A3
          have go94 : ∀ (m4 : sh_Mem) (q2 : Tok × Int), doT t = 1 ∨ doT t = 4 → TK T q2.1 → Kc m3 m4 → m4 4 2 = q2.2 → CT m4 T q2.1 → YPo Y m0 T (pCl T y (doT t) q1.2 q2.2 q2.1) Q → sh_X g (d + 13) m_Read_readLine 105 [(0, sh_r 4), (1, sh_r Y), (2, sh_r B), (3, sh_i (doT t)), (4, sh_i q1.2), (5, sh_i (-1))] [sh_i 1] m4 (sh_K m_Read_readLine Q) := by
            intro m4 q2 hd tk4 k4 v4 c4 po
            apply v_Read_readLine_105 hY hB
            rw [v4]
            exact ⟨fun _ => l_addClose (d := d + 2) hJ hT hY tk4 (YFr_K A3 k4) (k4.2.2.trans f3) c4 (CY_K (by omega) C3 k4) (by omega) (fun _ => rfl) (fun _ => rfl) po, fun w => absurd w (by decide)⟩
          have bad94 : ∀ (m4 : sh_Mem) (f : Int), Kf m3 m4 f → Q (some (sh_i 0)) m4 → sh_X g (d + 13) m_Read_readLine 105 [(0, sh_r 4), (1, sh_r Y), (2, sh_r B), (3, sh_i (doT t)), (4, sh_i q1.2), (5, sh_i (-1))] [sh_i 0] m4 (sh_K m_Read_readLine Q) := by
            intro m4 f k4 po
            apply v_Read_readLine_105 hY hB
            exact ⟨fun w => absurd rfl w, fun _ => po⟩
          apply v_Read_readLine_75 hY hB
          rw [i3s (x := doT t) (by omega) (by omega)]
          refine ⟨fun w => ?_, fun w => ⟨fun w4 => ?_, fun w4 => ?_⟩⟩
          · rw [if_pos w] at hq
            apply v_Read_readLine_85 hY hB
            rw [i3s (x := doT t) (by omega) (by omega)]
            refine ⟨fun w2 => absurd w w2, fun _ => ?_⟩
            refine s_takeDay (d := d + 1) (f := fd) (n := nd) hJ hT hB n8 (by rw [w0]; exact b0) (by rw [w1]; exact hfd) tk3 c3 (fun e m' q k => ⟨0, rfl, ?_⟩) (fun q2 m4 e2 tk4 k4 v4 c4 => ⟨1, rfl, ?_⟩)
            · simp only [q] at hq; exact bad94 m' e k (hq.1 e m' rfl (YFl_K A3 k))
            · simp only [e2] at hq; exact go94 m4 q2 (Or.inl w) tk4 k4 v4 c4 (by rw [w]; exact hq)
          · rw [if_neg w, if_neg w4] at hq
            exact l_addClose (d := d + 2) hJ hT hY tk3 A3 f3 c3 C3 (by omega) (fun _ => rfl) (fun v => by omega) hq
          · rw [if_neg w, if_pos w4] at hq
            apply v_Read_readLine_85 hY hB
            rw [i3s (x := doT t) (by omega) (by omega)]
            refine ⟨fun _ => ?_, fun w2 => absurd w2 w⟩
            refine s_takeOther (d := d + 1) (f := ft) (n := nt) hJ hT hB n4 q1r (by rw [w0]; exact b1) (by rw [w5]; exact hft) tk3 c3 (fun e m' q k => ⟨0, rfl, ?_⟩) (fun q2 m4 e2 tk4 k4 v4 c4 => ⟨1, rfl, ?_⟩)
            · simp only [q] at hq; exact bad94 m' e k (hq.1 e m' rfl (YFl_K A3 k))
            · simp only [e2] at hq; exact go94 m4 q2 (Or.inr w4) tk4 k4 v4 c4 (by rw [w4]; exact hq)
    · rw [if_pos (show y.1 = 40 by omega)] at hq
      exact s_refuseK hr (fun m' k => ⟨_, rfl, Or.inl rfl, hq.1 _ m' rfl (YFl_K hA k)⟩)
  · rw [if_pos (dk.2 wi)] at hq
    exact s_refuseK hr (fun m' k => ⟨_, rfl, Or.inl rfl, hq.1 _ m' rfl (YFl_K hA k)⟩)
end YEA
