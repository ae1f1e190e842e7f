/-! ===== the class: which thief should go where ===== -/
def Gc (m m' : sh_Mem) : Prop := ∀ a, a ≠ 15 → a ≠ 16 → a ≠ 17 → m' a = m a
theorem Gc_rf (m : sh_Mem) : Gc m m := fun _ _ _ _ => rfl
theorem Gc_tr {m m' m'' : sh_Mem} (h : Gc m m') (h2 : Gc m' m'') : Gc m m'' := fun a e1 e2 e3 => (h2 a e1 e2 e3).trans (h a e1 e2 e3)
theorem Gc_ms {m m' : sh_Mem} (h : Gc m m') {x : Nat} (hx : x = 15 ∨ x = 16 ∨ x = 17) (r : Nat → Int) : Gc m (ms m' x r) := fun a e1 e2 e3 => by rw [ms_n _ _ (by omega)]; exact h a e1 e2 e3
theorem Gc_Cs {B Y : Nat} {w : Wd} {m m' : sh_Mem} (hc : CR B Y w m) (h : Gc m m') : Cs m m' := ⟨fun a ha => h a (by unfold csc at ha; omega) (by unfold csc at ha; omega) (by unfold csc at ha; omega), by rw [h 8 (by decide) (by decide) (by decide)]; exact hc.2.2.2.2.1.2.2.1⟩
theorem s_send {g : sh_G} {B Y : Nat} {w : Wd} (hW : WOk w) (hB : obB B) (hY : obY Y) : ∀ (k D t : Nat) (G : Nat → Bool) (tk s : Int) (r : Nat → Int) (st : Int × (Nat → Int)) (m : sh_Mem) (Q : Option sh_V → sh_Mem → Prop), k + 4 ≤ D → t + k = b_nt (w_b w) → 0 ≤ s → s + 12 * k ≤ 48 → -1 ≤ st.1 ∧ st.1 ≤ 48 → GM tk G → CR B Y w m → (∀ j, j < t → m 16 j = r j) → GR (b_nt (w_b w)) (m 15 2) (m 17) st →
    (∀ m', Gc m m' → (∀ j, j < t → m' 16 j = r j) → GR (b_nt (w_b w)) (m' 15 2) (m' 17) (gg (w_b w) (w_c w) k t G s r st) → Q none m') → sh_Cal g D m_Gang_send [sh_r 15, sh_r 5, sh_r B, sh_i (t : Int), sh_i tk, sh_i s] m Q := by
  have k1 := hW.1.1
  have k2 := hW.1.2.1
  intro k
  induction k with
  | zero =>
    intro D t G tk s r st m Q hD ht hs hs2 hst hG hc hr hst2 h
    obtain ⟨D, rfl⟩ : ∃ D', D = D' + 1 := ⟨D - 1, by omega⟩
    rw [gg] at h
    apply v_Gang_send o5 (obB_0 hB)
    rw [hc.2.1.2.2.1, i3n (by omega), i3n (by omega)]
    refine ⟨fun _ => ?_, fun q => absurd (by omega) q⟩
    apply v_Gang_send_13 o5 (obB_0 hB)
    rw [hst2.1, i3s (x := st.1) (by omega) (by omega), i3s (x := s) (by omega) (by omega)]
    refine ⟨fun q => ?_, fun q => ?_⟩
    · rw [if_neg (by omega)] at h
      exact h m (Gc_rf m) hr hst2
    · rintro _ rfl
      rintro _ rfl
      rw [if_pos (by omega)] at h
      refine h _ (Gc_ms (Gc_ms (Gc_rf m) (by omega) _) (by omega) _) (fun j hj => by rw [ms_n _ _ (by decide), ms_n _ _ (by decide)]; exact hr j hj) ⟨by rw [ms_n _ _ (by decide), ms_s, ru_s], fun _ j hj => ?_⟩
      rw [ms_s]
      show cpy (ms m 15 (ru (m 15) 2 s) 16) (ms m 15 (ru (m 15) 2 s) 17) 0 0 4 j = r j
      unfold cpy
      rw [if_pos (by omega), ms_n _ _ (by decide)]
      have := hr j (by omega)
      simpa using this
  | succ k ih =>
    intro D t G tk s r st m Q hD ht hs hs2 hst hG hc hr hst2 h
    obtain ⟨D, rfl⟩ : ∃ D', D = D' + 1 := ⟨D - 1, by omega⟩
    obtain ⟨D, rfl⟩ : ∃ D', D = D' + 4 := ⟨D - 4, by omega⟩
    have ht2 : t < b_nt (w_b w) := by omega
    rw [gg] at h
    have lp : ∀ (n x : Nat) (st : Int × (Nat → Int)) (m2 : sh_Mem), x + n = b_nd (w_b w) → Gc m m2 → -1 ≤ st.1 ∧ st.1 ≤ 48 → (∀ j, j < t → m2 16 j = r j) → GR (b_nt (w_b w)) (m2 15 2) (m2 17) st →
        (∀ m', Gc m m' → (∀ j, j < t → m' 16 j = r j) → GR (b_nt (w_b w)) (m' 15 2) (m' 17) (gg (w_b w) (w_c w) k (t + 1) G s (ru r t (-1)) (ggL (ggF (w_b w) (w_c w) k t G s r) n x st)) → Q none m') →
        sh_X g (D + 4 + 1) m_Gang_send 46 [(0, sh_r 15), (1, sh_r 5), (2, sh_r B), (3, sh_i (t : Int)), (4, sh_i tk), (5, sh_i s), (6, sh_i (x : Int))] [] m2 (sh_K m_Gang_send Q) := by
      intro n
      induction n with
      | zero =>
        intro x st m2 hx hq hst hr2 hst3 h
        obtain rfl : x = b_nd (w_b w) := by omega
        have hc2 := CR_Cs hB hY hc (Gc_Cs hc hq)
        apply v_Gang_send_46 o5 (obB_0 hB)
        rw [hc2.2.1.2.1]
        refine ⟨fun _ => ⟨by omega, ?_⟩, fun q => absurd (by omega) q⟩
        rintro _ rfl
        rw [ggL] at h
        refine ih (D + 4) (t + 1) G tk s (ru r t (-1)) st _ _ (by omega) (by omega) hs (by omega) hst hG (CR_Cs hB hY hc2 (Gc_Cs hc2 (Gc_ms (Gc_rf m2) (by omega) _))) (fun j hj => ?_) (by rw [ms_n _ _ (by decide), ms_n _ _ (by decide)]; exact hst3) (fun m' y1 y2 y3 => ⟨rfl, ?_⟩)
        · rw [ms_s]
          by_cases e : j = t
          · subst e; rw [ru_s, ru_s]
          · rw [ru_n _ _ e, ru_n _ _ e]; exact hr2 j (by omega)
        · exact h m' (Gc_tr (Gc_ms hq (by omega) _) y1) (fun j hj => by rw [y2 j (by omega), ru_n _ _ (by omega)]) y3
      | succ n ihn =>
        intro x st m2 hx hq hst hr2 hst3 h
        have hc2 := CR_Cs hB hY hc (Gc_Cs hc hq)
        have h6 : m2 (5 + 1) = w_c w := hc2.2.2.2.2.1.1
        have hbg := bag_rng hW.1 (c := w_c w) (e := x) ht2
        rw [ggL] at h
        have skip : ¬ (0 < bag (w_b w) (w_c w) t x ∧ G x = false) → sh_X g (D + 4 + 1) m_Gang_send 46 [(0, sh_r 15), (1, sh_r 5), (2, sh_r B), (3, sh_i (t : Int)), (4, sh_i tk), (5, sh_i s), (6, sh_i ((x + 1 : Nat) : Int))] [] m2 (sh_K m_Gang_send Q) := by
          intro q2
          have eF : ggF (w_b w) (w_c w) k t G s r x st = st := by unfold ggF; rw [if_neg q2]
          rw [eF] at h
          exact ihn (x + 1) st m2 (by omega) hq hst hr2 hst3 h
        apply v_Gang_send_46 o5 (obB_0 hB)
        rw [hc2.2.1.2.1, i3n (by omega), i3n (by omega), GM_t hG (show x < 8 by omega)]
        refine ⟨fun q => absurd q (by omega), fun _ => ?_⟩
        refine s_State_bagged (d := D + 1) (S := 5) o5 (obB_0 hB) (b := w_b w) (by rw [h6]; exact hW.2.1) hc2.2.1 ht2 (by omega) ⟨_, rfl, ?_⟩
        rw [h6, i3s (x := bag (w_b w) (w_c w) t x) (by omega) (by omega)]
        refine ⟨fun q => skip (fun z => by omega), fun q => ⟨fun q2 => skip (fun z => ?_), fun q2 => ⟨by omega, ?_⟩⟩⟩
        · rw [z.2, if_neg (by decide)] at q2; exact q2 rfl
        · have q3 : 0 < bag (w_b w) (w_c w) t x ∧ G x = false := by
            refine ⟨by omega, ?_⟩
            cases hg : G x with
            | false => rfl
            | true => rw [hg, if_pos rfl] at q2; exact absurd q2 (by decide)
          rintro _ rfl
          have eF : ggF (w_b w) (w_c w) k t G s r x st = gg (w_b w) (w_c w) k (t + 1) (gU G x) (s + bag (w_b w) (w_c w) t x) (ru r t (x : Int)) st := by unfold ggF; rw [if_pos q3]
          rw [eF] at h
          have rr := gg_rng hW.1 (c := w_c w) k (t + 1) (gU G x) (s + bag (w_b w) (w_c w) t x) (ru r t (x : Int)) st (by omega) (by omega) hst
          refine ih (D + 4) (t + 1) (gU G x) _ (s + bag (w_b w) (w_c w) t x) (ru r t (x : Int)) st _ _ (by omega) (by omega) (by omega) (by omega) hst (GM_u hG (by omega)) (CR_Cs hB hY hc2 (Gc_Cs hc2 (Gc_ms (Gc_rf m2) (by omega) _))) (fun j hj => ?_) (by rw [ms_n _ _ (by decide), ms_n _ _ (by decide)]; exact hst3) (fun m' y1 y2 y3 => ⟨rfl, ?_⟩)
          · rw [ms_s]
            by_cases e : j = t
            · subst e; rw [ru_s, ru_s]
            · rw [ru_n _ _ e, ru_n _ _ e]; exact hr2 j (by omega)
          · exact ihn (x + 1) _ m' (by omega) (Gc_tr (Gc_ms hq (by omega) _) y1) (by omega) (fun j hj => by rw [y2 j (by omega), ru_n _ _ (by omega)]) y3 h
    apply v_Gang_send o5 (obB_0 hB)
    rw [hc.2.1.2.2.1, i3n (by omega), i3n (by omega)]
    refine ⟨fun q => absurd q (by omega), fun _ => ⟨fun _ => ?_, fun q => absurd (by omega) q⟩⟩
    exact lp (b_nd (w_b w)) 0 st m (by omega) (Gc_rf m) hst hr hst2 h
theorem c_gang {g : sh_G} {d : Nat} {w : Wd} {mem : sh_Mem} {k : Int} {Q : Option sh_V → sh_Mem → Prop} (hW : WOk w) (h : CRel w mem) (hk : i3 k = k) (hQ : ∀ m', CPost w mem m' → Q (some (sh_i (q_gang w k))) m') : sh_Cal g (d + 10) m_Sto_gang [sh_r 1, sh_i k] mem Q := by
  obtain ⟨B, Y, hB, hY, hc⟩ := h
  have k1 := hW.1.1
  have k2 := hW.1.2.1
  have h6 : mem (5 + 1) = w_c w := hc.2.2.2.2.1.1
  have hI := hW.2.1
  have hI5 : Inv (w_b w) (mem (5 + 1)) := by rw [h6]; exact hI
  unfold q_gang at hQ
  have go : k = -1 ∨ isT w k → sh_X g (d + 9 + 1) m_Sto_gang 16 [(0, sh_r 1), (1, sh_i k)] [] mem (sh_K m_Sto_gang Q) := by
    intro hk2
    apply v_Sto_gang_16 (obB_0 hB)
    refine ⟨hc.1.1, ?_⟩
    apply v_Gang_search o5 (obB_0 hB)
    rintro _ rfl
    have rr := gg_rng hW.1 (c := w_c w) (b_nt (w_b w)) 0 (fun _ => false) 0 (fun _ => 0) (-1, fun _ => 0) (by omega) (by omega) (by simp only; omega)
    have q0 := Gc_ms (Gc_rf mem) (x := 15) (by omega) (ru (mem 15) 2 (-1))
    refine s_send hW hB hY (b_nt (w_b w)) (d + 8) 0 (fun _ => false) 0 0 (fun _ => 0) (-1, fun _ => 0) _ _ (by omega) (by omega) (by decide) (by omega) (by simp only; omega) GM_0 (CR_Cs hB hY hc (Gc_Cs hc q0)) (fun j hj => absurd hj (by omega)) ⟨by rw [ms_s, ru_s], fun y => absurd y (by decide)⟩ (fun m' y1 y2 y3 => ⟨rfl, rfl, ?_⟩)
    have p := hQ m' (CPost_Cs hB hY hc (Gc_Cs hc (Gc_tr q0 y1)))
    rw [hk]
    refine ⟨fun z => ?_, fun z => ?_⟩
    · rcases hk2 with z2 | z2
      · exact absurd z2 z
      · rw [if_neg z, if_pos z2] at p
        refine ⟨by omega, ?_⟩
        have e := y3.2 rr.2.1 k.toNat (by omega)
        rw [e]; exact p
    · rw [if_pos z] at p
      rw [y3.1]; exact p
  apply v_Sto_gang (obB_0 hB)
  rw [hk]
  refine ⟨fun z => go (Or.inl z), fun z => cT_then' hB hc hk (fun q => ?_) (fun n e hn => go (Or.inr (by omega)))⟩
  rw [if_neg z, if_neg q] at hQ; exact hQ _ (CPost_rf hB hY hc)
/-! ===== the class: years by draws ===== -/
theorem i_and31 (y : Int) : i_and y 2147483647 = y % 2147483648 := by
  have hm : (Int32.ofInt 2147483647).toBitVec.toNat = 2 ^ 31 - 1 := by decide
  have e1 : (Int32.ofInt y).toBitVec.toNat = (y % 4294967296).toNat := by rw [Int32.toBitVec_ofInt, BitVec.toNat_ofInt]; rfl
  unfold i_and
  rw [pk_and _ 31 hm, e1, nI_toInt (by omega)]
  omega
theorem i_shr16 {n : Nat} (h : n < 2147483648) : i_shr (n : Int) 16 = ((n / 65536 : Nat) : Int) := by
  unfold i_shr
  rw [nI_cast, pk_shrN h (Int32.ofInt 16 &&& 31) 16 (by decide), nI_toInt (by omega)]
theorem i_remN {a k : Nat} (ha : a < 2147483648) (h0 : 0 < k) (hk : k < 2147483648) : i_rem (a : Int) (k : Int) = ((a % k : Nat) : Int) := by
  unfold i_rem
  have := Nat.mod_lt a h0
  rw [nI_cast, nI_cast, pk_rem ha h0 hk, nI_toInt (by omega)]
theorem i_dr {g : Int} (h0 : 0 ≤ g) (h1 : g < 2147483648) {k : Nat} (hk : 0 < k) (hk2 : k ≤ 8) : i_rem (i_shr g 16) (k : Int) = ((drawV g k : Nat) : Int) := by
  obtain ⟨n, rfl⟩ : ∃ n : Nat, g = (n : Int) := ⟨g.toNat, by omega⟩
  rw [i_shr16 (by omega), i_remN (by omega) hk (by omega), (drawV_lt hk h0).1, Int.natCast_emod, Int.natCast_ediv]
  rfl
theorem s_nextDraw {g : sh_G} {d : Nat} {x : Int} {mem : sh_Mem} {Q : Option sh_V → sh_Mem → Prop} (h : Q (some (sh_i (drawF x))) mem) : sh_Cal g d m_Sto_nextDraw [sh_i x] mem Q := by
  apply v_Sto_nextDraw
  rw [i_and31]
  exact h
/-- scratch alone, and the trial's row -/
def Ct (m m' : sh_Mem) (c : Nat → Int) : Prop := (∀ a, ¬ csc a → m' a = m a) ∧ m' 8 = c
theorem Ct_Cs {m m' : sh_Mem} {c : Nat → Int} (h : Ct m m' c) (hz : Z c) : Cs m m' := ⟨h.1, by rw [h.2]; exact hz⟩
theorem Z_do {b : Bk} {c : Nat → Int} (h : Z c) {t e k : Nat} (ht : t < 4) (he : e < 8) : Z (doF b c t e k).2 := by
  unfold doF
  split
  · split
    · exact Z_take h ht he
    · exact h
  · split
    · split
      · exact Z_cash h ht _
      · exact Z_enjoy h ht
    · exact h
theorem s_tryDrawn {g : sh_G} {d B Y t e k : Nat} {w : Wd} {c : Nat → Int} {mem m : sh_Mem} {Q : Option sh_V → sh_Mem → Prop} (hB : obB B) (hY : obY Y) (hc : CR B Y w mem) (hm : Ct mem m c) (hI : Inv (w_b w) c) (hZ : Z c) (ht : t < b_nt (w_b w)) (he : e < b_nd (w_b w)) (hk : k < 4) (h : ∀ m', Ct mem m' (doF (w_b w) c t e k).2 → Q (some (sh_i (doF (w_b w) c t e k).1)) m') : sh_Cal g (d + 5) m_Sto_tryDrawn [sh_r 1, sh_i (t : Int), sh_i (e : Int), sh_i (k : Int)] m Q := by
  have hcm := CR_Cs hB hY hc (Ct_Cs hm hZ)
  have hb := hcm.2.1.1
  have h8 : m (7 + 1) = c := hm.2
  have ms8 : ∀ (m1 : sh_Mem) (r : Nat → Int), (∀ a, ¬ csc a → m1 a = mem a) → Ct mem (ms m1 8 r) r := fun m1 r q => ⟨fun a ha => by rw [ms_n _ _ (fun y => ha (by rw [y]; decide))]; exact q a ha, ms_s _ _ _⟩
  unfold doF at h
  apply v_Sto_tryDrawn (obB_0 hB)
  rw [i3n (by omega)]
  refine ⟨fun q => ?_, fun q => ?_⟩
  · rw [if_neg (by omega)] at h
    refine s_State_canPart (d := d + 3) (S := 7) o7 (b := w_b w) (by rw [h8]; exact hI) ht hb ⟨_, rfl, ?_⟩
    rw [i3_01, h8]
    refine ⟨fun q2 => ?_, fun q2 => ⟨fun q3 => ?_, fun q3 => ⟨hcm.1.1, ?_⟩⟩⟩
    · rw [if_neg (by grind)] at h; exact h m hm
    · have q4 : c (28 + t) = 0 ∧ 0 < c (16 + t) := by grind
      rw [if_pos q4, if_neg (by omega)] at h
      refine s_State_enjoy (d := d + 3) (S := 7) o7 (b := w_b w) (by rw [h8]; exact hI) ht hb ⟨_, rfl, ?_⟩
      rw [h8]; exact h _ (ms8 m _ hm.1)
    · have q4 : c (28 + t) = 0 ∧ 0 < c (16 + t) := by grind
      rw [if_pos q4, if_pos (by omega)] at h
      refine s_State_cashIn (d := d) (S := 7) o7 (obB_0 hB) (b := w_b w) (by rw [h8]; exact hI.2.2.1 t ht) hb hcm.2.2.1 ht (by rw [h8]; exact q4.2) (fun r => ⟨_, rfl, ?_⟩)
      rw [h8]
      have eP : b_pr (w_b w) (c (16 + t)) (c (24 + t)) (c (20 + t)) (c 44) = prV (w_b w) c t := by unfold prV; rw [if_pos q4.2]
      rw [eP]
      exact h _ (ms8 _ _ (fun a ha => by rw [ms_n _ _ (fun y : a = B + 10 => ha (by rw [y]; exact (csc_10 hB).1))]; exact hm.1 a ha))
  · rw [if_pos (by omega)] at h
    refine s_State_canTake (d := d + 2) (S := 7) o7 (b := w_b w) (by rw [h8]; exact hI) ht he hb ⟨_, rfl, ?_⟩
    rw [i3_01, h8]
    refine ⟨fun q2 => ?_, fun q2 => ⟨hcm.1.1, ?_⟩⟩
    · rw [if_neg (by grind)] at h; exact h m hm
    · rw [if_pos (by grind)] at h
      refine s_State_take (d := d) (S := 7) o7 (obB_0 hB) (b := w_b w) (by rw [h8]; exact hI) hcm.2.1 ht he ⟨_, rfl, ?_⟩
      rw [h8]; exact h _ (ms8 m _ hm.1)
theorem s_trialSleep {g : sh_G} {d B Y : Nat} {w : Wd} {c : Nat → Int} {mem m : sh_Mem} {Q : Option sh_V → sh_Mem → Prop} (hB : obB B) (hY : obY Y) (hc : CR B Y w mem) (hm : Ct mem m c) (hI : Inv (w_b w) c) (hZ : Z c) (h : ∀ m', Ct mem m' (sleepR (w_b w) c) → Q none m') : sh_Cal g (d + 2) m_State_sleep [sh_r 7, sh_r B] m Q := by
  have hcm := CR_Cs hB hY hc (Ct_Cs hm hZ)
  have h8 : m (7 + 1) = c := hm.2
  refine s_State_sleep (d := d) (S := 7) o7 (obB_0 hB) (b := w_b w) (by rw [h8]; exact hI) hcm.2.1 ?_
  rw [h8]
  exact h _ ⟨fun a ha => by rw [ms_n _ _ (fun y => ha (by rw [y]; decide))]; exact hm.1 a ha, ms_s _ _ _⟩
theorem l_Sto_years {g : sh_G} {d n B Y : Nat} {sd what : Int} {w : Wd} {mem : sh_Mem} {Q : Option sh_V → sh_Mem → Prop} (hW : WOk w) (hB : obB B) (hY : obY Y) (hc : CR B Y w mem) (hw : i3 what = what) (hn : n ≤ 99) : ∀ (k x : Nat) (m : sh_Mem) (c : Nat → Int) (gg s : Int), x + k = n → Ct mem m c → Z c → Inv (w_b w) c → 0 ≤ gg ∧ gg < 2147483648 →
    (∀ m', Cs mem m' → Q (some (sh_i (if what = 0 then (lsF (w_b w) k c gg s).1 else if what = 1 then sumF (lsF (w_b w) k c gg s).2 36 4 else bitsF (fun t => decide (0 < (lsF (w_b w) k c gg s).2 (28 + t))) 4))) m') →
    sh_X g (d + 6) m_Sto_years 52 [(0, sh_r 1), (1, sh_i sd), (2, sh_i (n : Int)), (3, sh_i what), (4, sh_i s), (5, sh_i gg), (6, sh_i (x : Int))] [] m (sh_K m_Sto_years Q) := by
  have k1 := hW.1.1
  have k2 := hW.1.2.1
  intro k
  induction k with
  | zero =>
    intro x m c gg s hx hm hZ hI h0 h
    obtain rfl : x = n := by omega
    have h8 : m (7 + 1) = c := hm.2
    have h := h m (Ct_Cs hm hZ)
    rw [lsF] at h
    apply v_Sto_years_52 (obB_0 hB)
    rw [hw]
    refine ⟨fun _ => ⟨fun z => ⟨fun z2 => ?_, fun z2 => ?_⟩, fun z => ?_⟩, fun z => absurd (by omega) z⟩
    · rw [if_neg z, if_neg z2] at h
      refine s_State_prisoners (d := d + 4) (S := 7) o7 (b := w_b w) (by rw [h8]; exact hI) ⟨_, rfl, ?_⟩
      rw [h8]; exact h
    · rw [if_neg z, if_pos z2] at h
      refine s_State_sumOfThieves (a := 36) (S := 7) o7 (by omega) ⟨_, rfl, ?_⟩
      rw [h8]; exact h
    · rw [if_pos z] at h; exact h
  | succ k ih =>
    intro x m c gg s hx hm hZ hI h0 h
    have hcm := CR_Cs hB hY hc (Ct_Cs hm hZ)
    obtain ⟨v1, v2⟩ := lvF_ok hW.1 hI h0
    rw [lsF] at h
    have none0 : ¬ (0 < b_nt (w_b w) ∧ 0 < b_nd (w_b w)) → m 1 9 = (B : Int) ∧ sh_Cal g (d + 5) m_State_sleep [sh_r 7, sh_r B] m (fun rv m3 => rv = none ∧ sh_X g (d + 5 + 1) m_Sto_years 52 [(0, sh_r 1), (1, sh_i sd), (2, sh_i (n : Int)), (3, sh_i what), (4, sh_i s), (5, sh_i gg), (6, sh_i ((x + 1 : Nat) : Int))] [] m3 (sh_K m_Sto_years Q)) := by
      intro q
      have e : lvF (w_b w) c gg = (0, sleepR (w_b w) c, gg) := by unfold lvF; rw [if_neg q]
      rw [e] at h
      refine ⟨hcm.1.1, s_trialSleep (d := d + 3) hB hY hc hm hI hZ (fun m' y => ⟨rfl, ?_⟩)⟩
      simp only [Int.add_zero] at h
      exact ih (x + 1) m' _ gg s (by omega) y (Z_sleep hZ) (Inv_sleep hW.1 hI) h0 h
    apply v_Sto_years_52 (obB_0 hB)
    rw [hcm.2.1.2.1, hcm.2.1.2.2.1, i3n (by omega), i3n (by omega), i3n (x := b_nt (w_b w)) (by omega), i3n (x := b_nd (w_b w)) (by omega)]
    refine ⟨fun z => absurd z (by omega), fun _ => ⟨hcm.1.1, fun z => none0 (by omega), fun z => ⟨hcm.1.1, fun z2 => none0 (by omega), fun z2 => ?_⟩⟩⟩
    have qq : 0 < b_nt (w_b w) ∧ 0 < b_nd (w_b w) := by omega
    have r1 := drawF_rng gg
    have r2 := drawF_rng (drawF gg)
    have r3 := drawF_rng (drawF (drawF gg))
    have nz : ∀ j : Nat, 0 < j → j ≤ 8 → ¬ Int32.ofInt (j : Int) = 0 := fun j a1 a2 y => by
      have := (i3_eq0 (j : Int)).mp y; rw [i3n (by omega)] at this; omega
    refine s_nextDraw ⟨_, rfl, hcm.1.1, ?_⟩
    rw [hcm.2.1.2.2.1]
    refine ⟨nz _ qq.1 (by omega), s_nextDraw ⟨_, rfl, hcm.1.1, ?_⟩⟩
    rw [hcm.2.1.2.1]
    refine ⟨nz _ qq.2 (by omega), s_nextDraw ⟨_, rfl, ?_⟩⟩
    rw [i_dr r1.1 r1.2 qq.1 (by omega), i_dr r2.1 r2.2 qq.2 (by omega), show (4 : Int) = ((4 : Nat) : Int) from rfl, i_dr r3.1 r3.2 (by omega) (by omega)]
    have l1 := (drawV_lt (k := b_nt (w_b w)) qq.1 r1.1).2
    have l2 := (drawV_lt (k := b_nd (w_b w)) qq.2 r2.1).2
    have l3 := (drawV_lt (k := 4) (by omega) r3.1).2
    refine s_tryDrawn (d := d) hB hY hc hm hI hZ l1 l2 l3 (fun m' y => ⟨_, rfl, ?_⟩)
    have zd := Z_do (b := w_b w) (k := drawV (drawF (drawF (drawF gg))) 4) hZ (show drawV (drawF gg) (b_nt (w_b w)) < 4 by omega) (show drawV (drawF (drawF gg)) (b_nd (w_b w)) < 8 by omega)
    have cm' := CR_Cs hB hY hc (Ct_Cs y zd)
    refine ⟨cm'.1.1, s_trialSleep (d := d + 3) hB hY hc y (Inv_do hW.1 hI l1 l2) zd (fun m2 y2 => ⟨rfl, ?_⟩)⟩
    have e : lvF (w_b w) c gg = ((doF (w_b w) c (drawV (drawF gg) (b_nt (w_b w))) (drawV (drawF (drawF gg)) (b_nd (w_b w))) (drawV (drawF (drawF (drawF gg))) 4)).1, sleepR (w_b w) (doF (w_b w) c (drawV (drawF gg) (b_nt (w_b w))) (drawV (drawF (drawF gg)) (b_nd (w_b w))) (drawV (drawF (drawF (drawF gg))) 4)).2, drawF (drawF (drawF gg))) := by unfold lvF; rw [if_pos qq]
    rw [e] at h v1
    exact ih (x + 1) m2 _ _ _ (by omega) y2 (Z_sleep zd) v1 r3 h
theorem c_years {g : sh_G} {d : Nat} {w : Wd} {mem : sh_Mem} {sd k what : Int} {Q : Option sh_V → sh_Mem → Prop} (hW : WOk w) (h : CRel w mem) (hsd : i3 sd = sd) (hk : i3 k = k) (hwhat : i3 what = what) (hQ : ∀ m', CPost w mem m' → Q (some (sh_i (q_years w sd k what))) m') : sh_Cal g (d + 6) m_Sto_years [sh_r 1, sh_i sd, sh_i k, sh_i what] mem Q := by
  obtain ⟨B, Y, hB, hY, hc⟩ := h
  have k1 := hW.1.1
  have k2 := hW.1.2.1
  have h6 : mem (5 + 1) = w_c w := hc.2.2.2.2.1.1
  have hI := hW.2.1
  have hI5 : Inv (w_b w) (mem (5 + 1)) := by rw [h6]; exact hI
  have p := hQ _ (CPost_rf hB hY hc)
  have h5 := hc.2.2.2.2.1
  unfold q_years at p hQ
  apply v_Sto_years (obB_0 hB)
  refine cW_then hsd rfl rfl (fun q => ?_) (fun q1 => ?_)
  · rw [if_neg (fun z => q z.1)] at p; exact p
  refine cW_then hk rfl rfl (fun q => ?_) (fun q2 => ?_)
  · rw [if_neg (fun z => q z.2.1)] at p; exact p
  refine cW_then' hwhat rfl rfl (fun q => ?_) (fun q3 => ?_)
  · rw [if_neg (fun z => q z.2.2)] at p; exact p
  rw [if_pos ⟨q1, q2, q3⟩] at hQ
  obtain ⟨n, rfl⟩ : ∃ n : Nat, k = (n : Int) := ⟨k.toNat, by omega⟩
  rw [Int.toNat_natCast] at hQ
  refine s_State_copy (d := d + 4) (S := 7) (S2 := 5) o7 o5 ⟨rfl, ?_⟩
  have e8 : cpy (mem (5 + 1)) (mem (7 + 1)) 0 0 45 = w_c w := by rw [h6]; exact Z_cpy h5.2.1 h5.2.2.1
  rw [e8]
  exact l_Sto_years hW hB hY hc hwhat (by omega) n 0 _ (w_c w) sd 0 (by omega) ⟨fun a ha => by rw [ms_n _ _ (fun y => ha (by rw [y]; decide))], ms_s _ _ _⟩ h5.2.1 hI (by omega) (fun m' hs => hQ _ (CPost_Cs hB hY hc hs))
