/-! ===== the reference's answers: the most, when it will be free, whole ===== -/
theorem r_rich {g : sh_G} {d : Nat} {w : Wd} {mem : sh_Mem} {Q : Option sh_V → sh_Mem → Prop} (hW : WOk w) (h : RRel w mem) (hQ : ∀ m', RPost (w) mem m' → Q (some (sh_i (moF (w_c w) 36 (b_nt (w_b w))))) m') : sh_Cal g (d + 1) m_Mod_rich [sh_r 96] mem Q := by
  have p0 := RPost_0 h
  have hE := p0.1.2.2.2.2.1
  have hI := hW.2.1
  have k1 := hW.1.1
  have k2 := hW.1.2.1
  apply v_Mod_rich
  rintro _ rfl
  rw [show (37 : Int) = ((37 : Nat) : Int) from rfl]
  refine s_Mod_mostAt (by omega) p0.1.1 ⟨_, rfl, ?_⟩
  rw [moF_cong (c := w_c w) (a' := 36) _ (fun i hi => (hE.2.2 i (by omega)).2.2.2.2.2.1)]
  exact hQ _ p0
theorem r_guilty {g : sh_G} {d : Nat} {w : Wd} {mem : sh_Mem} {Q : Option sh_V → sh_Mem → Prop} (hW : WOk w) (h : RRel w mem) (hQ : ∀ m', RPost (w) mem m' → Q (some (sh_i (moF (w_c w) 32 (b_nt (w_b w))))) m') : sh_Cal g (d + 1) m_Mod_guilty [sh_r 96] mem Q := by
  have p0 := RPost_0 h
  have hE := p0.1.2.2.2.2.1
  have hI := hW.2.1
  have k1 := hW.1.1
  have k2 := hW.1.2.1
  apply v_Mod_guilty
  rintro _ rfl
  rw [show (33 : Int) = ((33 : Nat) : Int) from rfl]
  refine s_Mod_mostAt (by omega) p0.1.1 ⟨_, rfl, ?_⟩
  rw [moF_cong (c := w_c w) (a' := 32) _ (fun i hi => (hE.2.2 i (by omega)).2.2.2.2.1)]
  exact hQ _ p0
/-- the first of n nights from x on for which it is so, or -1 -/
def fst (P : Nat → Bool) : Nat → Nat → Int
  | 0, _ => -1
  | n + 1, x => if P x = true then (x : Int) else fst P n (x + 1)
def q_opens (w : Wd) (t x : Int) : Int := if isT w t ∧ isD w x then fst (fun n => opF (w_b w) (w_c w) t.toNat n x.toNat) 61 0 else -1
theorem l_opens {g : sh_G} {d t e : Nat} {b : Bk} {c : Nat → Int} {mem : sh_Mem} {Q : Option sh_V → sh_Mem → Prop} (ht : t < b_nt b) (he : e < b_nd b) (hI : Inv b c) (hb : MB mem b) : ∀ (k x : Nat) (m : sh_Mem), x + k = 61 → Sr mem m → EQ (m 129) (nightsR b c x) → EQ (m 131) c → (∀ m', Sr mem m' → EQ (m' 129) c → Q (some (sh_i (fst (fun n => opF b c t n e) k x))) m') →
    sh_X g (d + 3) m_Mod_opens 38 [(0, sh_r 96), (1, sh_i (t : Int)), (2, sh_i (e : Int)), (3, sh_i (x : Int))] [] m (sh_K m_Mod_opens Q) := by
  have k2 := hb.1.2.1
  intro k
  induction k with
  | zero =>
    intro x m hx hs h1 h2 h
    obtain rfl : x = 61 := by omega
    apply v_Mod_opens_38
    refine ⟨fun _ => ?_, fun q => absurd (by decide) q⟩
    rw [show (0 : Int) = ((0 : Nat) : Int) from rfl]
    refine s_Mod_copies (A := 131) (B := 129) (n := 45) (n2 := 45) rfl rfl (by decide) (by omega) (by omega) ⟨rfl, fun q => absurd q (by decide), fun _ => ?_⟩
    exact h _ (Sr_ms hs (by decide) (by decide) _) (by rw [ms_s]; exact EQ_cp h2)
  | succ k ih =>
    intro x m hx hs h1 h2 h
    have hIx := Inv_nights hb.1 x c hI
    have hbm := MB_Sr hs hb
    have no : ¬ opF b c t x e = true → sh_Cal g (d + 2) m_Mod_passes [sh_r 96] m (fun rv m3 => rv = none ∧ sh_X g (d + 3) m_Mod_opens 38 [(0, sh_r 96), (1, sh_i (t : Int)), (2, sh_i (e : Int)), (3, sh_i ((x + 1 : Nat) : Int))] [] m3 (sh_K m_Mod_opens Q)) := by
      intro q
      refine s_Mod_passes h1 hIx hbm (fun r hr => ⟨rfl, ?_⟩)
      refine ih (x + 1) _ (by omega) (Sr_ms hs (by decide) (by decide) _) (by rw [ms_s, nightsR_s]; exact hr) (by rw [ms_n _ _ (by decide)]; exact h2) ?_
      rw [fst, if_neg q] at h; exact h
    apply v_Mod_opens_38
    rw [i3n (by omega)]
    refine ⟨fun q => absurd q (by omega), fun _ => s_Mod_isFree h1 (hIx.2.2.1 t ht) (by omega) ⟨_, rfl, ?_⟩⟩
    rw [i3_01]
    refine ⟨fun q => no (by unfold opF; simp; grind), fun q => s_Mod_isOpen h1 (hIx.1 e he) hbm ht he ⟨_, rfl, ?_⟩⟩
    rw [i3_01]
    refine ⟨fun q2 => ?_, fun q2 => no (by unfold opF opnM; simp; grind)⟩
    rw [fst, if_pos (by unfold opF opnM; simp; grind)] at h
    rw [show (0 : Int) = ((0 : Nat) : Int) from rfl]
    refine s_Mod_copies (A := 131) (B := 129) (n := 45) (n2 := 45) rfl rfl (by decide) (by omega) (by omega) ⟨rfl, fun _ => ?_, fun q => absurd (by omega) q⟩
    exact h _ (Sr_ms hs (by decide) (by decide) _) (by rw [ms_s]; exact EQ_cp h2)
theorem r_opens {g : sh_G} {d : Nat} {w : Wd} {mem : sh_Mem} {t x : Int} {Q : Option sh_V → sh_Mem → Prop} (hW : WOk w) (h : RRel w mem) (ht : i3 t = t) (hx : i3 x = x) (hQ : ∀ m', RPost (w) mem m' → Q (some (sh_i (q_opens w t x))) m') : sh_Cal g (d + 4) m_Mod_opens [sh_r 96, sh_i t, sh_i x] mem Q := by
  have p0 := RPost_0 h
  have hE := p0.1.2.2.2.2.1
  have hI := hW.2.1
  have k1 := hW.1.1
  have k2 := hW.1.2.1
  apply v_Mod_opens
  rintro _ rfl
  unfold q_opens at hQ
  refine isT_then p0.1 ht (fun q => ?_) (fun n e hn => isD_then' p0.1 hx (fun q => ?_) (fun j e2 hj => ?_))
  · rw [if_neg (fun z => q z.1)] at hQ; exact hQ _ p0
  · rw [if_neg (fun z => q z.2)] at hQ; exact hQ _ p0
  · subst e e2
    rw [if_pos ⟨⟨by omega, by omega⟩, by omega, by omega⟩, Int.toNat_natCast, Int.toNat_natCast] at hQ
    rw [show (0 : Int) = ((0 : Nat) : Int) from rfl]
    refine s_Mod_copies (A := 129) (B := 131) (n := 45) (n2 := 45) rfl rfl (by decide) (by omega) (by omega) ⟨rfl, ?_⟩
    exact l_opens hn hj hI p0.1.1 61 0 _ (by omega) (Sr_ms (Sr_rf _) (by decide) (by decide) _) (by rw [ms_n _ _ (by decide)]; exact hE) (by rw [ms_s]; exact EQ_cp hE) (fun m' hs he => hQ _ (RPost_sr p0 hs he))
