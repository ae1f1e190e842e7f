theorem e_run_cg {c c' : Nat → Int} : ∀ (k i : Nat) (m : sh_Mem) (e : Nat), (∀ j, i ≤ j → j < i + k → c' j = c j) → e_run c' k i m e = e_run c k i m e
  | 0, _, _, _, _ => rfl
  | k + 1, i, m, e, h => by
    rw [e_run, e_run, h i (by omega) (by omega)]
    cases e_step (c i) m e with
    | none => rfl
    | some q => exact e_run_cg k (i + 1) _ _ (fun j h1 h2 => h j (by omega) (by omega))
theorem ML_pt {m M : sh_Mem} {b : Bk} (h : ML m b) (h6 : M 106 0 = m 106 0) (h7 : M 107 0 = m 107 0) (h8 : ∀ i, i < 1000 → M 108 i = m 108 i) : ML M b := by
  obtain ⟨f, z, l1, l2, l3, l4, l5, l6⟩ := h
  refine ⟨f, z, h6.trans l1, h7.trans l2, l3, l4, l5, fun y => ⟨fun i a c => by rw [h8 i (by omega)]; exact (l6 y).1 i a c, fun mm => ?_⟩⟩
  obtain ⟨mF, eF, q1, q2⟩ := (l6 y).2 mm
  exact ⟨mF, eF, by rw [e_run_cg (c := m 108) (z - f) f _ _ (fun j a c => h8 j (by omega))]; exact q1, q2⟩
theorem RRel_alF {w : Wd} {m M : sh_Mem} {tt : Nat → Int} (h : RRel w m) (k : RAE m M) : RRel (w_tp w (0, tt)) M := by
  obtain ⟨h1, h2, h3, h4, h5, h6, h7, h8, h9, h10, h11, h12⟩ := h
  have bk := h1.1
  have p : ∀ a i, ¬ lowC a i → a ≠ 96 → M a i = m a i := fun a i hn ha => k.1 a i hn (fun z => ha z.1)
  have r : ∀ a, 110 < a → M a = m a := fun a ha => by funext i; exact p a i (by unfold lowC; omega) (by omega)
  refine ⟨?_, ML_pt h2 (p 106 0 (by unfold lowC; omega) (by decide)) (p 107 0 (by unfold lowC; omega) (by decide)) (fun i hi => p 108 i (by unfold lowC; omega) (by decide)), fun i hi => ?_, fun i hi => ?_, ?_, ?_, ?_, ?_, ?_, ?_, by rw [k.2]; rfl, fun i hi => absurd hi (Nat.not_lt_zero i)⟩
  · obtain ⟨b0, b1, b2, b3, b4⟩ := h1
    refine ⟨b0, by rw [p 98 0 (by unfold lowC; omega) (by decide)]; exact b1, by rw [p 98 1 (by unfold lowC; omega) (by decide)]; exact b2, fun i hi => ?_, fun i hi => ?_⟩
    · have hi' : i < b_nd (w_b w) := hi
      have := bk.1
      rw [p 101 i (by unfold lowC; omega) (by decide), p 102 i (by unfold lowC; omega) (by decide), p 103 i (by unfold lowC; omega) (by decide)]; exact b3 i hi
    · have hi' : i < b_nt (w_b w) := hi
      have := bk.2.1
      rw [p 104 i (by unfold lowC; omega) (by decide), p 105 i (by unfold lowC; omega) (by decide)]; exact b4 i hi
  · have hi' : i < b_nd (w_b w) := hi
    have := bk.1
    rw [p 99 i (by unfold lowC; omega) (by decide)]; exact h3 i hi
  · have hi' : i < b_nt (w_b w) := hi
    have := bk.2.1
    rw [p 100 i (by unfold lowC; omega) (by decide)]; exact h4 i hi
  · rw [r 129 (by decide)]; exact h5
  · rw [r 134 (by decide)]; exact RP_cong (k.1 96 51 (by unfold lowC; omega) (by omega)) h6
  · rw [r 121 (by decide), r 122 (by decide), r 123 (by decide), r 124 (by decide)]; exact h7
  · rw [r 125 (by decide), r 126 (by decide), r 127 (by decide), r 128 (by decide)]; exact h8
  · rw [r 128 (by decide), r 123 (by decide), r 124 (by decide)]; exact h9
  · rw [r 135 (by decide), r 133 (by decide), r 121 (by decide), r 122 (by decide), r 123 (by decide), r 124 (by decide), r 125 (by decide), r 126 (by decide), r 127 (by decide), r 128 (by decide)]; exact h10
theorem RD_MB {m m' : sh_Mem} {x : Dr} {T : Tp} (h : RD m x) (hx : DrOk T x) (l : laysF m m') : MB m' (bkOf x) := by
  obtain ⟨hN, hd2, hd3, hd4, hd5, hd6⟩ := h
  obtain ⟨l0, l98, l99, l100, l101, l102, l103, l104, l105, l106, l107, l108⟩ := l
  refine ⟨bkOf_ok hx, ?_, ?_, fun i hi => ?_, fun i hi => ?_⟩
  · rw [l98]; exact hN.2.1
  · rw [l98]; exact hN.2.2.1
  · have hi : i < r_nd x := hi
    have := hN.1.1
    rw [l101, l102, l103]; unfold shR
    rw [if_pos (by omega), if_pos (by omega), if_pos (by omega)]; exact hd2 i hi
  · have hi : i < r_nt x := hi
    have := hN.1.2
    rw [l104, l105]; unfold shR
    rw [if_pos (by omega), if_pos (by omega)]; exact hd3 i hi
theorem RD_ML {m m' : sh_Mem} {x : Dr} {T : Tp} (hT : TpOk T) (h : RD m x) (hx : DrOk T x) (l : laysF m m') : ML m' (bkOf x) := by
  obtain ⟨hN, hd2, hd3, hd4, hd5, hd6⟩ := h
  obtain ⟨l0, l98, l99, l100, l101, l102, l103, l104, l105, l106, l107, l108⟩ := l
  have e6 : m' 106 0 = ((0 : Nat) : Int) := by rw [l106, hd4]; rfl
  cases hw : r_lw x with
  | none =>
    refine ML_0 (z := 0) e6 (by rw [l107, (hd5 hw).1]; rfl) (by omega) (by omega) (fun mu ol so da => ?_)
    show prL (r_C x) mu ol so da = _
    have : r_C x = [-1] := by unfold r_C; rw [hw]
    rw [this]; rfl
  | some q =>
    obtain ⟨y1, y2⟩ := hx.2.2.2 q hw
    have hrd := RdP_ex (RdP_P hT 5) _ _ y1 y2
    have := (TK_1000 hT hrd.1).1
    have := hrd.2.2.1
    refine ML_of hT y1 y2 (f := 0) e6 (by rw [l107, (hd6 q hw).1]; omega) (by omega) (fun i hi => ?_) (fun mu ol so da => ?_)
    · rw [l108]; unfold shR
      rw [if_pos (by omega), Nat.zero_add]; exact (hd6 q hw).2 i hi
    · show prL (r_C x) mu ol so da = _
      have : r_C x = q.2.2.1 := by unfold r_C; rw [hw]
      rw [this]
theorem l_alm46 {g : sh_G} {d : Nat} {m : sh_Mem} {Q : Option sh_V → sh_Mem → Prop} (h : ∀ r, (∀ j, j < 4 → r j = 0) → Q (some (sh_i 0)) (ms m 135 r)) : ∀ (k i : Nat) (r : Nat → Int), i + k = 4 → (∀ j, j < i → r j = 0) →
    sh_X g (d + 1) m_Mod_almanac 46 [(0, sh_r 96), (1, sh_i (i : Int))] [] (ms m 135 r) (sh_K m_Mod_almanac Q)
  | 0, i, r, hi, h1 => by
    apply v_Mod_almanac_46
    rw [i3n (x := i) (by omega)]
    exact ⟨fun _ => h r (fun j hj => h1 j (by omega)), fun z => by omega⟩
  | k + 1, i, r, hi, h1 => by
    apply v_Mod_almanac_46
    rw [i3n (x := i) (by omega)]
    refine ⟨fun z => by omega, fun _ => ⟨by omega, fun m1 e1 => ?_⟩⟩
    rw [ms_s, ms_ms] at e1
    rw [e1]
    refine l_alm46 h k (i + 1) _ (by omega) (fun j hj => ?_)
    by_cases y : j = i
    · rw [y, ru_s]
    · rw [ru_n _ _ y]; exact h1 j (by omega)
theorem r_almanac {g : sh_G} {d : Nat} {w : Wd} {mem : sh_Mem} {Q : Option sh_V → sh_Mem → Prop} (hT : TpOk (w_t w)) (h : RRel w mem) (hQ : ∀ m', RPost (a_almanac w) mem m' → Q (some (sh_i (q_almanac w))) m') : sh_Cal g (d + 6) m_Mod_almanac [sh_r 96] mem Q := by
  have p0 := RPost_0 h
  have c := pAlm_c hT
  unfold a_almanac q_almanac at hQ
  apply v_Mod_almanac
  rintro _ rfl
  generalize ms mem 96 (ru (mem 96) 0 0) = m1 at *
  refine s_readsAll (d := d) (T := w_t w) hT p0.1.2.2.2.2.2.2.2.2.2.2.1 p0.1.2.2.2.2.2.2.2.2.2.2.2 (fun f m2 e k e9 => ⟨_, rfl, fun z => absurd rfl z, fun _ => ?_⟩) (fun x m2 e k hd => ⟨_, rfl, fun _ => ?_, fun z => absurd z (by decide)⟩)
  · simp only [e] at hQ
    rw [e9]
    refine hQ m2 ⟨RRel_alF p0.1 k, ?_, fun a ha => ?_⟩
    · rw [k.1 96 0 (by unfold lowC; omega) (by omega)]; exact p0.2.1
    · rw [show m2 a = m1 a from by funext i; exact k.1 a i (by unfold lowC; omega) (by omega)]; exact p0.2.2 a ha
  · simp only [e] at hQ
    have hx := c.2 x e
    refine s_lays (d := d + 4) (fun m3 l => ⟨rfl, ?_⟩)
    refine s_Mod_fresh0 (b := bkOf x) (RD_MB hd hx l) (fun r hr => ⟨rfl, ?_⟩)
    intro m5 e5 m6 e6 m7 e7
    have w0 := l_alm46 (g := g) (d := d + 5) (m := m7) (Q := Q) (fun r4 z4 => ?_) 4 0 (m7 135) (by omega) (fun j hj => absurd hj (Nat.not_lt_zero j))
    · rw [ms_id] at w0; exact w0
    · have mb := RD_MB hd hx l
      have ml := RD_ML hT hd hx l
      have o : ∀ a, a ≠ 96 → a ≠ 121 → a ≠ 125 → a ≠ 129 → a ≠ 135 → (ms m7 135 r4) a = m3 a := fun a y1 y2 y3 y4 y5 => by rw [ms_n _ _ y5, e7, ms_n _ _ y1, e6, ms_n _ _ y3, e5, ms_n _ _ y2, ms_n _ _ y4]
      have o2 : ∀ a, 110 < a → m3 a = m1 a := fun a ha => by rw [l.1 a (by omega)]; funext i; exact k.1 a i (by unfold lowC; omega) (by omega)
      have r96 : (ms m7 135 r4) 96 = ru (m3 96) 51 0 := by rw [ms_n _ _ (by decide), e7, ms_s, e6, ms_n _ _ (by decide), e5, ms_n _ _ (by decide), ms_n _ _ (by decide)]
      have n98 := hd.1.1
      refine hQ _ ⟨⟨MB_cong mb (o 98 (by decide) (by decide) (by decide) (by decide) (by decide)) (o 101 (by decide) (by decide) (by decide) (by decide) (by decide)) (o 102 (by decide) (by decide) (by decide) (by decide) (by decide)) (o 103 (by decide) (by decide) (by decide) (by decide) (by decide)) (o 104 (by decide) (by decide) (by decide) (by decide) (by decide)) (o 105 (by decide) (by decide) (by decide) (by decide) (by decide)), ML_cong ml (o 106 (by decide) (by decide) (by decide) (by decide) (by decide)) (o 107 (by decide) (by decide) (by decide) (by decide) (by decide)) (o 108 (by decide) (by decide) (by decide) (by decide) (by decide)), fun i hi => ?_, fun i hi => ?_, ?_, ?_, ?_, ?_, ?_, fun j hj => ⟨?_, fun q hq => by cases hq⟩, ?_, fun i hi => absurd hi (Nat.not_lt_zero i)⟩, ?_, fun a ha => ?_⟩
      · have hi : i < r_nd x := hi
        rw [o 99 (by decide) (by decide) (by decide) (by decide) (by decide), l.2.2.1]
        show shR (m2 99) 8 8 i = r_dn x i
        unfold shR; rw [if_pos (by omega)]; exact (hd.1.2.2.2.1 i hi).1
      · have hi : i < r_nt x := hi
        rw [o 100 (by decide) (by decide) (by decide) (by decide) (by decide), l.2.2.2.1]
        show shR (m2 100) 4 4 i = r_tn x i
        unfold shR; rw [if_pos (by omega)]; exact (hd.1.2.2.2.2 i hi).1
      · rw [ms_n _ _ (by decide), e7, ms_n _ _ (by decide), e6, ms_n _ _ (by decide), e5, ms_n _ _ (by decide), ms_s]; exact hr
      · refine ⟨?_, by show 0 ≤ 16; omega, fun i hi => absurd hi (Nat.not_lt_zero i)⟩
        rw [r96, ru_s]; rfl
      · refine ⟨?_, fun i hi => absurd hi (Nat.not_lt_zero i)⟩
        rw [ms_n _ _ (by decide), e7, ms_n _ _ (by decide), e6, ms_n _ _ (by decide), e5, ms_s, ru_s]; rfl
      · refine ⟨?_, fun i hi => absurd hi (Nat.not_lt_zero i)⟩
        rw [ms_n _ _ (by decide), e7, ms_n _ _ (by decide), e6, ms_s, ru_s]; rfl
      · rw [o 128 (by decide) (by decide) (by decide) (by decide) (by decide), o 123 (by decide) (by decide) (by decide) (by decide) (by decide), o 124 (by decide) (by decide) (by decide) (by decide) (by decide), o2 128 (by decide), o2 123 (by decide), o2 124 (by decide)]; exact p0.1.2.2.2.2.2.2.2.2.1
      · rw [ms_s, z4 j hj]; rfl
      · rw [r96, ru_n _ _ (by decide), l.1 96 (by omega)]; exact k.2
      · rw [r96, ru_n _ _ (by decide), l.1 96 (by omega), k.1 96 0 (by unfold lowC; omega) (by omega)]; exact p0.2.1
      · rw [o a (by omega) (by omega) (by omega) (by omega) (by omega), l.1 a (by omega)]
        rw [show m2 a = m1 a from by funext i; exact k.1 a i (by unfold lowC; omega) (by omega)]; exact p0.2.2 a ha
