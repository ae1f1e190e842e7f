/-! ===== the reference: nights waited, how it begins, lines and seen ones laid ===== -/
/-- the greatest so far, and the first night of it -/
def wtF (f : Nat → Int) : Nat → Int × Int
  | 0 => (-1, 0)
  | n + 1 => if f n ≤ (wtF f n).1 then wtF f n else (f n, (n : Int))
def joM (c : Nat → Int) (t : Nat) : Int := if 0 < c (16 + t) then max 0 (c (16 + t) - c (32 + t)) else 0
def wfF (b : Bk) (c : Nat → Int) (t : Nat) (joy : Int) (i : Nat) : Int := if i3 joy = 0 then prV b (nightsR b c i) t else joyV (nightsR b c i) t
theorem prV_rng {b : Bk} (hb : BkOk b) (c : Nat → Int) (t : Nat) : 0 ≤ prV b c t ∧ prV b c t ≤ 99 := by
  unfold prV; have := hb.2.2.2.2; split
  · exact this _ _ _ _
  · omega
theorem joyV_rng {b : Bk} {c : Nat → Int} (h : Inv b c) {t : Nat} (ht : t < b_nt b) : 0 ≤ joyV c t ∧ joyV c t ≤ 12 := by
  have := h.2.2.1 t ht; unfold joyV; omega
theorem wfF_rng {b : Bk} {c : Nat → Int} (hb : BkOk b) (h : Inv b c) {t : Nat} (ht : t < b_nt b) (joy : Int) (i : Nat) : 0 ≤ wfF b c t joy i ∧ wfF b c t joy i ≤ 99 := by
  unfold wfF; split
  · exact prV_rng hb _ _
  · have := joyV_rng (Inv_nights hb i c h) ht; omega
theorem wtF_rng {f : Nat → Int} (hf : ∀ i, 0 ≤ f i ∧ f i ≤ 99) : ∀ n, -1 ≤ (wtF f n).1 ∧ (wtF f n).1 ≤ 99 ∧ 0 ≤ (wtF f n).2 ∧ (wtF f n).2 ≤ n
  | 0 => by unfold wtF; simp
  | n + 1 => by have := wtF_rng hf n; have := hf n; unfold wtF; split <;> simp_all <;> omega
theorem l_waitFor {g : sh_G} {d t : Nat} {joy : Int} {b : Bk} {c : Nat → Int} {mem : sh_Mem} {Q : Option sh_V → sh_Mem → Prop} (ht : t < b_nt b) (hI : Inv b c) (hb : MB mem b) (hl : ML mem b) (h : ∀ m', Sr mem m' → EQ (m' 129) c → m' 96 52 = (wtF (wfF b c t joy) 31).1 → Q (some (sh_i (wtF (wfF b c t joy) 31).2)) m') : ∀ (k x : Nat) (m : sh_Mem), x + k = 31 → Sr mem m → EQ (m 129) (nightsR b c x) → EQ (m 131) c → m 96 52 = (wtF (wfF b c t joy) x).1 →
    sh_X g (d + 4) m_Mod_waitFor 23 [(0, sh_r 96), (1, sh_i (t : Int)), (2, sh_i joy), (3, sh_i (wtF (wfF b c t joy) x).2), (4, sh_i (x : Int))] [] m (sh_K m_Mod_waitFor Q) := by
  have k2 := hb.1.2.1
  have hw := wtF_rng (wfF_rng hb.1 hI ht joy)
  intro k
  induction k with
  | zero =>
    intro x m hx hs h1 h2 h3
    obtain rfl : x = 31 := by omega
    apply v_Mod_waitFor_23
    refine ⟨fun _ => ?_, fun q => absurd (by decide) q⟩
    rw [show (0 : Int) = ((0 : Nat) : Int) from rfl]
    refine s_Mod_copies (A := 131) (B := 129) (n := 45) (n2 := 45) rfl rfl (by decide) (by omega) (by omega) ⟨rfl, ?_⟩
    exact h _ (Sr_ms hs (by decide) (by decide) _) (by rw [ms_s]; exact EQ_cp h2) (by rw [ms_n _ _ (by decide)]; exact h3)
  | succ k ih =>
    intro x m hx hs h1 h2 h3
    have hIx := Inv_nights hb.1 x c hI
    have hwx := hw x
    have hvx := wfF_rng hb.1 hI ht joy x
    have go : ∀ m2 : sh_Mem, Sr mem m2 → EQ (m2 129) (nightsR b c x) → EQ (m2 131) c → m2 96 52 = (wtF (wfF b c t joy) (x + 1)).1 → sh_Cal g (d + 3) m_Mod_passes [sh_r 96] m2 (fun rv m3 => rv = none ∧ sh_X g (d + 4) m_Mod_waitFor 23 [(0, sh_r 96), (1, sh_i (t : Int)), (2, sh_i joy), (3, sh_i (wtF (wfF b c t joy) (x + 1)).2), (4, sh_i ((x + 1 : Nat) : Int))] [] m3 (sh_K m_Mod_waitFor Q)) := by
      intro m2 q1 q2 q3 q4
      refine s_Mod_passes (d := d + 1) q2 hIx (MB_Sr q1 hb) (fun r hr => ⟨rfl, ?_⟩)
      exact ih (x + 1) (ms m2 129 r) (by omega) (Sr_ms q1 (by decide) (by decide) _) (by rw [ms_s, nightsR_s]; exact hr) (by rw [ms_n _ _ (by decide)]; exact q3) (by rw [ms_n _ _ (by decide)]; exact q4)
    have st : ∀ (v : Int) (m2 : sh_Mem), v = wfF b c t joy x → Sr mem m2 → EQ (m2 129) (nightsR b c x) → EQ (m2 131) c → m2 96 52 = (wtF (wfF b c t joy) x).1 →
        ((i3 v ≤ i3 (m2 96 52) → sh_Cal g (d + 3) m_Mod_passes [sh_r 96] m2 (fun rv m3 => rv = none ∧ sh_X g (d + 4) m_Mod_waitFor 23 [(0, sh_r 96), (1, sh_i (t : Int)), (2, sh_i joy), (3, sh_i (wtF (wfF b c t joy) x).2), (4, sh_i ((x + 1 : Nat) : Int))] [] m3 (sh_K m_Mod_waitFor Q))) ∧
         (¬ i3 v ≤ i3 (m2 96 52) → ∀ m4 : sh_Mem, m4 = ms m2 96 (ru (m2 96) 52 v) → sh_Cal g (d + 3) m_Mod_passes [sh_r 96] m4 (fun rv m5 => rv = none ∧ sh_X g (d + 4) m_Mod_waitFor 23 [(0, sh_r 96), (1, sh_i (t : Int)), (2, sh_i joy), (3, sh_i (x : Int)), (4, sh_i ((x + 1 : Nat) : Int))] [] m5 (sh_K m_Mod_waitFor Q)))) := by
      intro v m2 hv q1 q2 q3 q4
      subst hv
      rw [q4, i3s (x := wfF b c t joy x) (by omega) (by omega), i3s (x := (wtF (wfF b c t joy) x).1) (by omega) (by omega)]
      refine ⟨fun q => ?_, fun q => ?_⟩
      · have e : wtF (wfF b c t joy) (x + 1) = wtF (wfF b c t joy) x := by rw [wtF, if_pos q]
        have := go m2 q1 q2 q3 (by rw [e]; exact q4)
        rw [e] at this; exact this
      · rintro _ rfl
        have e : wtF (wfF b c t joy) (x + 1) = (wfF b c t joy x, (x : Int)) := by rw [wtF, if_neg q]
        have := go (ms m2 96 (ru (m2 96) 52 (wfF b c t joy x))) (Sr_96 q1 (by decide) (by decide) (by decide) _) (by rw [ms_n _ _ (by decide)]; exact q2) (by rw [ms_n _ _ (by decide)]; exact q3) (by rw [e, ms_s, ru_s])
        rw [e] at this; exact this
    apply v_Mod_waitFor_23
    rw [i3n (by omega)]
    refine ⟨fun q => absurd q (by omega), fun _ => ⟨fun q => s_Mod_priceOf (d := d) h1 (hIx.2.2.1 t ht) (ML_Sr hs hl) (by omega) (fun m2 hm2 => ⟨_, rfl, ?_⟩), fun q => ?_⟩⟩
    · exact st _ m2 (by unfold wfF; rw [if_pos q]) (Sr_Ew hs hm2) (by rw [hm2 129 (by omega)]; exact h1) (by rw [hm2 131 (by omega)]; exact h2) (by rw [hm2 96 (by omega)]; exact h3)
    · refine s_Mod_joyOf h1 (hIx.2.2.1 t ht) (by omega) ⟨_, rfl, ?_⟩
      exact st _ m (by unfold wfF; rw [if_neg q]) hs h1 h2 h3
theorem s_Mod_waitFor {g : sh_G} {d : Nat} {mem : sh_Mem} {Q : Option sh_V → sh_Mem → Prop} {t : Nat} {joy : Int} {b : Bk} {c : Nat → Int} (ht : t < b_nt b) (hR : EQ (mem 129) c) (hI : Inv b c) (hb : MB mem b) (hl : ML mem b) (h : ∀ m', Sr mem m' → EQ (m' 129) c → m' 96 52 = (wtF (wfF b c t joy) 31).1 → Q (some (sh_i (wtF (wfF b c t joy) 31).2)) m') : sh_Cal g (d + 4) m_Mod_waitFor [sh_r 96, sh_i t, sh_i joy] mem Q := by
  apply v_Mod_waitFor
  rw [show (0 : Int) = ((0 : Nat) : Int) from rfl]
  refine s_Mod_copies (A := 129) (B := 131) (n := 45) (n2 := 45) rfl rfl (by decide) (by omega) (by omega) ⟨rfl, ?_⟩
  rintro _ rfl
  exact l_waitFor ht hI hb hl h 31 0 _ (by omega) (Sr_96 (Sr_ms (Sr_rf mem) (by decide) (by decide) _) (by decide) (by decide) (by decide) _) (by rw [ms_n _ _ (by decide), ms_n _ _ (by decide)]; exact hR) (by rw [ms_n _ _ (by decide), ms_s]; exact EQ_cp hR) (by rw [ms_s, ru_s]; rfl)
