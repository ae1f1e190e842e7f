/-! ===== the reference's answers: more ===== -/
theorem isT_then {g : sh_G} {d : Nat} {w : Wd} {mem : sh_Mem} {t : Int} {A B : sh_Mem → Prop} (h : RRel w mem) (ht : i3 t = t) (h0 : ¬ isT w t → A mem) (h1 : ∀ n : Nat, t = (n : Int) → n < b_nt (w_b w) → B mem) : sh_Cal g d m_Mod_isThief [sh_r 96, sh_i t] mem (fun rv m2 => ∃ r1 : Int, rv = some (sh_i r1) ∧ ((i3 r1 = 0 → A m2) ∧ (¬ i3 r1 = 0 → B m2))) := by
  refine l_Mod_isThief h ht ⟨_, rfl, ?_⟩
  rw [i3_01]
  exact ⟨fun q => h0 (by grind), fun q => h1 t.toNat (by grind) (by grind)⟩
theorem isT_then' {g : sh_G} {d : Nat} {w : Wd} {mem : sh_Mem} {t : Int} {A B : sh_Mem → Prop} (h : RRel w mem) (ht : i3 t = t) (h0 : ¬ isT w t → A mem) (h1 : ∀ n : Nat, t = (n : Int) → n < b_nt (w_b w) → B mem) : sh_Cal g d m_Mod_isThief [sh_r 96, sh_i t] mem (fun rv m2 => ∃ r1 : Int, rv = some (sh_i r1) ∧ ((¬ i3 r1 = 0 → B m2) ∧ (i3 r1 = 0 → A m2))) := by
  refine l_Mod_isThief h ht ⟨_, rfl, ?_⟩
  rw [i3_01]
  exact ⟨fun q => h1 t.toNat (by grind) (by grind), fun q => h0 (by grind)⟩
theorem isD_then {g : sh_G} {d : Nat} {w : Wd} {mem : sh_Mem} {t : Int} {A B : sh_Mem → Prop} (h : RRel w mem) (ht : i3 t = t) (h0 : ¬ isD w t → A mem) (h1 : ∀ n : Nat, t = (n : Int) → n < b_nd (w_b w) → B mem) : sh_Cal g d m_Mod_isDay [sh_r 96, sh_i t] mem (fun rv m2 => ∃ r1 : Int, rv = some (sh_i r1) ∧ ((i3 r1 = 0 → A m2) ∧ (¬ i3 r1 = 0 → B m2))) := by
  refine l_Mod_isDay h ht ⟨_, rfl, ?_⟩
  rw [i3_01]
  exact ⟨fun q => h0 (by grind), fun q => h1 t.toNat (by grind) (by grind)⟩
theorem isD_then' {g : sh_G} {d : Nat} {w : Wd} {mem : sh_Mem} {t : Int} {A B : sh_Mem → Prop} (h : RRel w mem) (ht : i3 t = t) (h0 : ¬ isD w t → A mem) (h1 : ∀ n : Nat, t = (n : Int) → n < b_nd (w_b w) → B mem) : sh_Cal g d m_Mod_isDay [sh_r 96, sh_i t] mem (fun rv m2 => ∃ r1 : Int, rv = some (sh_i r1) ∧ ((¬ i3 r1 = 0 → B m2) ∧ (i3 r1 = 0 → A m2))) := by
  refine l_Mod_isDay h ht ⟨_, rfl, ?_⟩
  rw [i3_01]
  exact ⟨fun q => h1 t.toNat (by grind) (by grind), fun q => h0 (by grind)⟩
theorem wi_then {g : sh_G} {d : Nat} {mem : sh_Mem} {x a b : Int} {A B : sh_Mem → Prop} (hx : i3 x = x) (ha : i3 a = a) (hb : i3 b = b) (h0 : ¬ (a ≤ x ∧ x ≤ b) → A mem) (h1 : a ≤ x ∧ x ≤ b → B mem) : sh_Cal g d m_Mod_within [sh_i x, sh_i a, sh_i b] mem (fun rv m2 => ∃ r1 : Int, rv = some (sh_i r1) ∧ ((i3 r1 = 0 → A m2) ∧ (¬ i3 r1 = 0 → B m2))) := by
  refine s_Mod_within ⟨_, rfl, ?_⟩
  rw [i3_01, hx, ha, hb]
  exact ⟨fun q => h0 (by grind), fun q => h1 (by grind)⟩
theorem wi_then' {g : sh_G} {d : Nat} {mem : sh_Mem} {x a b : Int} {A B : sh_Mem → Prop} (hx : i3 x = x) (ha : i3 a = a) (hb : i3 b = b) (h0 : ¬ (a ≤ x ∧ x ≤ b) → A mem) (h1 : a ≤ x ∧ x ≤ b → B mem) : sh_Cal g d m_Mod_within [sh_i x, sh_i a, sh_i b] mem (fun rv m2 => ∃ r1 : Int, rv = some (sh_i r1) ∧ ((¬ i3 r1 = 0 → B m2) ∧ (i3 r1 = 0 → A m2))) := by
  refine s_Mod_within ⟨_, rfl, ?_⟩
  rw [i3_01, hx, ha, hb]
  exact ⟨fun q => h1 (by grind), fun q => h0 (by grind)⟩
theorem RPost_sr {w : Wd} {m m1 m' : sh_Mem} (h : RPost w m m1) (hs : Sr m1 m') (he : EQ (m' 129) (w_c w)) : RPost w m m' := RPost_Sr h hs he
theorem RPost_Ew {w : Wd} {m m1 m' : sh_Mem} (h : RPost w m m1) (hs : Ew m1 m') : RPost w m m' := RPost_Sr h (Sr_Ew (Sr_rf m1) hs) (by rw [hs 129 (by omega)]; exact h.1.2.2.2.2.1)
def q_price2 (w : Wd) (t : Int) : Int := if isT w t ∧ 0 < w_c w (16 + t.toNat) then prV (w_b w) (w_c w) t.toNat else -1
theorem r_price {g : sh_G} {d : Nat} {w : Wd} {mem : sh_Mem} {t : Int} {Q : Option sh_V → sh_Mem → Prop} (hW : WOk w) (h : RRel w mem) (ht : i3 t = t) (hQ : ∀ m', RPost w mem m' → Q (some (sh_i (q_price2 w t))) m') : sh_Cal g (d + 4) m_Mod_price [sh_r 96, sh_i t] mem Q := by
  have p0 := RPost_0 h
  have hE := p0.1.2.2.2.2.1
  have hI := hW.2.1
  have k1 := hW.1.1
  have k2 := hW.1.2.1
  apply v_Mod_price
  rintro _ rfl
  refine isT_then p0.1 ht (fun q => ?_) (fun n e hn => ?_)
  · have := hQ _ p0; unfold q_price2 at this; rw [if_neg (fun z => q z.1)] at this; exact this
  · subst e
    refine s_Mod_hasPiece hE (hI.2.2.1 n hn) (by omega) ⟨_, rfl, ?_⟩
    rw [i3_01]
    refine ⟨fun q => ?_, fun q => s_Mod_priceOf hE (hI.2.2.1 n hn) p0.1.2.1 (by omega) (fun m' hm => ⟨_, rfl, ?_⟩)⟩
    · have := hQ _ p0; unfold q_price2 at this; rw [if_neg (by simp; grind)] at this; exact this
    · have := hQ _ (RPost_Ew p0 hm); unfold q_price2 at this; rw [if_pos (by simp; grind)] at this; exact this
theorem r_all {g : sh_G} {d : Nat} {w : Wd} {mem : sh_Mem} {Q : Option sh_V → sh_Mem → Prop} (hW : WOk w) (h : RRel w mem) (hQ : ∀ m', RPost w mem m' → Q (some (sh_i (sumF (w_c w) 16 4))) m') : sh_Cal g (d + 1) m_Mod_all [sh_r 96] mem Q := by
  have p0 := RPost_0 h
  have hE := p0.1.2.2.2.2.1
  have hI := hW.2.1
  have k1 := hW.1.1
  have k2 := hW.1.2.1
  apply v_Mod_all
  rintro _ rfl
  have := hQ _ p0
  rw [show (17 : Int) = ((17 : Nat) : Int) from rfl, show (4 : Int) = ((4 : Nat) : Int) from rfl]
  refine s_Mod_sumOf (by omega) ⟨_, rfl, ?_⟩
  rw [sumF_cong (c := w_c w) (a' := 16) 4 (fun i hi => (hE.2.2 i hi).1)]
  exact this
def q_later (w : Wd) (x k : Int) : Int := if isD w x ∧ 0 ≤ k ∧ k ≤ 60 then nightsR (w_b w) (w_c w) k.toNat x.toNat else -1
def q_guards (w : Wd) (x k : Int) : Int := if isD w x ∧ 0 ≤ k ∧ k ≤ 60 then nightsR (w_b w) (w_c w) k.toNat (8 + x.toNat) else -1
def q_keeps (w : Wd) (x k : Int) : Int := if isT w x ∧ 0 ≤ k ∧ k ≤ 60 then nightsR (w_b w) (w_c w) k.toNat (16 + x.toNat) else -1
theorem r_later {g : sh_G} {d : Nat} {w : Wd} {mem : sh_Mem} {x k : Int} {Q : Option sh_V → sh_Mem → Prop} (hW : WOk w) (h : RRel w mem) (hx : i3 x = x) (hk : i3 k = k) (hQ : ∀ m', RPost w mem m' → Q (some (sh_i (q_later w x k))) m') : sh_Cal g (d + 4) m_Mod_later [sh_r 96, sh_i x, sh_i k] mem Q := by
  have p0 := RPost_0 h
  have hE := p0.1.2.2.2.2.1
  have hI := hW.2.1
  have k1 := hW.1.1
  have k2 := hW.1.2.1
  apply v_Mod_later
  rintro _ rfl
  refine isD_then p0.1 hx (fun q => ?_) (fun n e hn => wi_then hk rfl rfl (fun q => ?_) (fun q => ?_))
  · have := hQ _ p0; unfold q_later at this; rw [if_neg (fun z => q z.1)] at this; exact this
  · have := hQ _ p0; unfold q_later at this; rw [if_neg (fun z => q z.2)] at this; exact this
  · obtain ⟨j, rfl⟩ : ∃ j : Nat, k = (j : Int) := ⟨k.toNat, by omega⟩
    subst e
    rw [show (1 : Int) + (n : Int) = ((1 + n : Nat) : Int) by omega]
    refine s_Mod_laterAt (by omega) (by omega) hE hI p0.1.1 (fun r' m' hr hs he => ⟨_, rfl, ?_⟩)
    have := hQ _ (RPost_sr p0 hs he); unfold q_later at this; rw [if_pos (by simp; omega), Int.toNat_natCast, Int.toNat_natCast] at this
    rw [(hr.2.1 n (by omega)).1]; exact this
theorem r_guards {g : sh_G} {d : Nat} {w : Wd} {mem : sh_Mem} {x k : Int} {Q : Option sh_V → sh_Mem → Prop} (hW : WOk w) (h : RRel w mem) (hx : i3 x = x) (hk : i3 k = k) (hQ : ∀ m', RPost w mem m' → Q (some (sh_i (q_guards w x k))) m') : sh_Cal g (d + 4) m_Mod_guards [sh_r 96, sh_i x, sh_i k] mem Q := by
  have p0 := RPost_0 h
  have hE := p0.1.2.2.2.2.1
  have hI := hW.2.1
  have k1 := hW.1.1
  have k2 := hW.1.2.1
  apply v_Mod_guards
  rintro _ rfl
  refine isD_then p0.1 hx (fun q => ?_) (fun n e hn => wi_then hk rfl rfl (fun q => ?_) (fun q => ?_))
  · have := hQ _ p0; unfold q_guards at this; rw [if_neg (fun z => q z.1)] at this; exact this
  · have := hQ _ p0; unfold q_guards at this; rw [if_neg (fun z => q z.2)] at this; exact this
  · obtain ⟨j, rfl⟩ : ∃ j : Nat, k = (j : Int) := ⟨k.toNat, by omega⟩
    subst e
    rw [show (9 : Int) + (n : Int) = ((9 + n : Nat) : Int) by omega]
    refine s_Mod_laterAt (by omega) (by omega) hE hI p0.1.1 (fun r' m' hr hs he => ⟨_, rfl, ?_⟩)
    have := hQ _ (RPost_sr p0 hs he); unfold q_guards at this; rw [if_pos (by simp; omega), Int.toNat_natCast, Int.toNat_natCast] at this
    rw [(hr.2.1 n (by omega)).2]; exact this
theorem r_keeps {g : sh_G} {d : Nat} {w : Wd} {mem : sh_Mem} {x k : Int} {Q : Option sh_V → sh_Mem → Prop} (hW : WOk w) (h : RRel w mem) (hx : i3 x = x) (hk : i3 k = k) (hQ : ∀ m', RPost w mem m' → Q (some (sh_i (q_keeps w x k))) m') : sh_Cal g (d + 4) m_Mod_keeps [sh_r 96, sh_i x, sh_i k] mem Q := by
  have p0 := RPost_0 h
  have hE := p0.1.2.2.2.2.1
  have hI := hW.2.1
  have k1 := hW.1.1
  have k2 := hW.1.2.1
  apply v_Mod_keeps
  rintro _ rfl
  refine isT_then p0.1 hx (fun q => ?_) (fun n e hn => wi_then hk rfl rfl (fun q => ?_) (fun q => ?_))
  · have := hQ _ p0; unfold q_keeps at this; rw [if_neg (fun z => q z.1)] at this; exact this
  · have := hQ _ p0; unfold q_keeps at this; rw [if_neg (fun z => q z.2)] at this; exact this
  · obtain ⟨j, rfl⟩ : ∃ j : Nat, k = (j : Int) := ⟨k.toNat, by omega⟩
    subst e
    rw [show (17 : Int) + (n : Int) = ((17 + n : Nat) : Int) by omega]
    refine s_Mod_laterAt (by omega) (by omega) hE hI p0.1.1 (fun r' m' hr hs he => ⟨_, rfl, ?_⟩)
    have := hQ _ (RPost_sr p0 hs he); unfold q_keeps at this; rw [if_pos (by simp; omega), Int.toNat_natCast, Int.toNat_natCast] at this
    rw [(hr.2.2 n (by omega)).1]; exact this
def q_freed (w : Wd) (t : Int) : Int := if isT w t then w_c w (28 + t.toNat) else -1
theorem r_freed {g : sh_G} {d : Nat} {w : Wd} {mem : sh_Mem} {t : Int} {Q : Option sh_V → sh_Mem → Prop} (hW : WOk w) (h : RRel w mem) (ht : i3 t = t) (hQ : ∀ m', RPost w mem m' → Q (some (sh_i (q_freed w t))) m') : sh_Cal g (d + 1) m_Mod_freed [sh_r 96, sh_i t] mem Q := by
  have p0 := RPost_0 h
  have hE := p0.1.2.2.2.2.1
  have hI := hW.2.1
  have k1 := hW.1.1
  have k2 := hW.1.2.1
  apply v_Mod_freed
  rintro _ rfl
  have := hQ _ p0
  unfold q_freed at this
  refine isT_then p0.1 ht (fun q => ?_) (fun n e hn => ?_)
  · rw [if_neg q] at this; exact this
  · subst e
    rw [if_pos (show isT w ((n : Nat) : Int) from ⟨by omega, by omega⟩), Int.toNat_natCast] at this
    have e2 : ((29 : Int) + (n : Int)).toNat = 29 + n := by omega
    rw [e2, (hE.2.2 n (by omega)).2.2.2.1]
    exact ⟨by omega, this⟩
def q_waits (w : Wd) (t k : Int) : Int := if isT w t ∧ (0 ≤ k ∧ k ≤ 1) ∧ 0 < w_c w (16 + t.toNat) then (if k = 0 then (wtF (wfF (w_b w) (w_c w) t.toNat 0) 31).2 else (wtF (wfF (w_b w) (w_c w) t.toNat 0) 31).1) else -1
theorem r_waits {g : sh_G} {d : Nat} {w : Wd} {mem : sh_Mem} {t k : Int} {Q : Option sh_V → sh_Mem → Prop} (hW : WOk w) (h : RRel w mem) (ht : i3 t = t) (hk : i3 k = k) (hQ : ∀ m', RPost w mem m' → Q (some (sh_i (q_waits w t k))) m') : sh_Cal g (d + 5) m_Mod_waits [sh_r 96, sh_i t, sh_i k] mem Q := by
  have p0 := RPost_0 h
  have hE := p0.1.2.2.2.2.1
  have hI := hW.2.1
  have k1 := hW.1.1
  have k2 := hW.1.2.1
  apply v_Mod_waits
  rintro _ rfl
  refine isT_then p0.1 ht (fun q => ?_) (fun n e hn => wi_then hk rfl rfl (fun q => ?_) (fun q => ?_))
  · have := hQ _ p0; unfold q_waits at this; rw [if_neg (fun z => q z.1)] at this; exact this
  · have := hQ _ p0; unfold q_waits at this; rw [if_neg (fun z => q z.2.1)] at this; exact this
  · subst e
    refine s_Mod_hasPiece hE (hI.2.2.1 n hn) (by omega) ⟨_, rfl, ?_⟩
    rw [i3_01]
    refine ⟨fun q2 => s_Mod_waitFor hn hE hI p0.1.1 p0.1.2.1 (fun m' hs he h52 => ⟨_, rfl, ?_⟩), fun q2 => ?_⟩
    · have := hQ _ (RPost_sr p0 hs he); unfold q_waits at this; rw [if_pos (by simp; grind), Int.toNat_natCast] at this
      rw [hk, h52]
      refine ⟨fun q3 => ?_, fun q3 => ?_⟩
      · rw [if_neg q3] at this; exact this
      · rw [if_pos q3] at this; exact this
    · have := hQ _ p0; unfold q_waits at this; rw [if_neg (by simp; grind)] at this; exact this
def q_glads (w : Wd) (t k : Int) : Int := if isT w t ∧ (0 ≤ k ∧ k ≤ 1) ∧ 0 < w_c w (16 + t.toNat) then (if k = 0 then (wtF (wfF (w_b w) (w_c w) t.toNat 1) 31).2 else (wtF (wfF (w_b w) (w_c w) t.toNat 1) 31).1) else -1
theorem r_glads {g : sh_G} {d : Nat} {w : Wd} {mem : sh_Mem} {t k : Int} {Q : Option sh_V → sh_Mem → Prop} (hW : WOk w) (h : RRel w mem) (ht : i3 t = t) (hk : i3 k = k) (hQ : ∀ m', RPost w mem m' → Q (some (sh_i (q_glads w t k))) m') : sh_Cal g (d + 5) m_Mod_glads [sh_r 96, sh_i t, sh_i k] mem Q := by
  have p0 := RPost_0 h
  have hE := p0.1.2.2.2.2.1
  have hI := hW.2.1
  have k1 := hW.1.1
  have k2 := hW.1.2.1
  apply v_Mod_glads
  rintro _ rfl
  refine isT_then p0.1 ht (fun q => ?_) (fun n e hn => wi_then hk rfl rfl (fun q => ?_) (fun q => ?_))
  · have := hQ _ p0; unfold q_glads at this; rw [if_neg (fun z => q z.1)] at this; exact this
  · have := hQ _ p0; unfold q_glads at this; rw [if_neg (fun z => q z.2.1)] at this; exact this
  · subst e
    refine s_Mod_hasPiece hE (hI.2.2.1 n hn) (by omega) ⟨_, rfl, ?_⟩
    rw [i3_01]
    refine ⟨fun q2 => s_Mod_waitFor hn hE hI p0.1.1 p0.1.2.1 (fun m' hs he h52 => ⟨_, rfl, ?_⟩), fun q2 => ?_⟩
    · have := hQ _ (RPost_sr p0 hs he); unfold q_glads at this; rw [if_pos (by simp; grind), Int.toNat_natCast] at this
      rw [hk, h52]
      refine ⟨fun q3 => ?_, fun q3 => ?_⟩
      · rw [if_neg q3] at this; exact this
      · rw [if_pos q3] at this; exact this
    · have := hQ _ p0; unfold q_glads at this; rw [if_neg (by simp; grind)] at this; exact this
