/-! ===== the class's answers: what was seen, who, where to look, how likely ===== -/
theorem CR_seen {B Y : Nat} {w : Wd} {m M : sh_Mem} {s : Se} (hB : obB B) (hY : obY Y) (h : CR B Y w m) (e : ∀ a, a < 96 → a < 11 ∨ 14 < a → M a = m a) (hs : CS M 11 s) : CR B Y (w_seen w s) M := by
  obtain ⟨h1, h2, h3, h4, h5, h6', h7, h8', h9, h10, h11⟩ := h
  have eB : ∀ k, k ≤ 9 → M (B + k) = m (B + k) := fun k hk => e _ (by omega) (by omega)
  refine ⟨?_, CB_cong h2 eB, CL_cong h3 eB, ?_, ?_, ?_, ?_, hs, ?_, ?_, ?_⟩
  · rw [e 1 (by omega) (by omega)]; exact h1
  · rw [eB 1 (by omega), eB 5 (by omega)]; exact h4
  · rw [e 6 (by omega) (by omega), e 8 (by omega) (by omega)]; exact h5
  · rw [e 10 (by omega) (by omega), e 9 (by omega) (by omega)]; exact h6'
  · exact CY_cong h7 (e _ (by omega) (by omega)) (e _ (by omega) (by omega)) (e _ (by omega) (by omega)) (e _ (by omega) (by omega))
  · intro j hj
    obtain ⟨a1, a2⟩ := h9 j hj
    refine ⟨by rw [e (52 + 11 * j) (by omega) (by omega)]; exact a1, fun q hq => ?_⟩
    obtain ⟨b1, b2, b3⟩ := a2 q hq
    refine ⟨by rw [e (54 + 11 * j) (by omega) (by omega)]; exact b1, ?_, ?_⟩
    · exact CY_cong b2 (e _ (by omega) (by omega)) (e _ (by omega) (by omega)) (e _ (by omega) (by omega)) (e _ (by omega) (by omega))
    · exact CS_cong b3 (e _ (by omega) (by omega)) (e _ (by omega) (by omega)) (e _ (by omega) (by omega)) (e _ (by omega) (by omega))
  · rw [e 2 (by omega) (by omega)]; exact h10
  · rw [e 3 (by omega) (by omega)]; exact h11
theorem c_see {g : sh_G} {d : Nat} {w : Wd} {mem : sh_Mem} {x k o : Int} {Q : Option sh_V → sh_Mem → Prop} (hW : WOk w) (h : CRel w mem) (hx : i3 x = x) (hk : i3 k = k) (ho : o = 0 ∨ o = 1) (hQ : ∀ m', CPost (a_see w x k o) mem m' → Q (some (sh_i (q_see w x k))) m') : sh_Cal g (d + 1) m_Sto_see [sh_r 1, sh_i x, sh_i k, sh_i o] mem Q := by
  obtain ⟨B, Y, hB, hY, hc⟩ := h
  have s8 := hW.2.2.2.2.2.1.1
  have hS := hc.2.2.2.2.2.2.2.1
  unfold a_see q_see at hQ
  have bad : ¬ cSee w x k → Q (some (sh_i 0)) mem := by
    intro q; rw [if_neg q, if_neg q] at hQ; exact hQ _ (CPost_rf hB hY hc)
  apply v_Sto_see
  refine cD_then hB hc hx (fun q => bad (fun z => q z.1)) (fun n e hn => ?_)
  refine cW_then' hk rfl rfl (fun q => bad (fun z => q z.2.1)) (fun q => ?_)
  subst e
  apply v_Seen_add o11
  rw [hS.1, i3n (by omega)]
  refine ⟨fun q2 => ⟨by omega, ?_⟩, fun q2 => ⟨_, rfl, Or.inl rfl, bad (fun z => z.2.2 (by omega))⟩⟩
  have hcs : cSee w (n : Int) k := ⟨by omega, q, by omega⟩
  rw [if_pos hcs, if_pos hcs] at hQ
  rintro _ rfl
  rw [ms_n _ _ (show (11 : Nat) ≠ 11 + 1 by decide), hS.1]
  refine ⟨by omega, ?_⟩
  rintro _ rfl
  rw [ms_n _ _ (show (11 : Nat) ≠ 11 + 2 by decide), ms_n _ _ (show (11 : Nat) ≠ 11 + 1 by decide), hS.1]
  refine ⟨ho, by omega, ?_⟩
  rintro _ rfl
  rintro _ rfl
  refine ⟨_, rfl, Or.inr rfl, hQ _ ⟨⟨B, Y, hB, hY, CR_seen hB hY hc (fun a _ ha => ?_) ?_⟩, ?_⟩⟩
  · rw [ms_n _ _ (by omega), ms_n _ _ (by omega), ms_n _ _ (by omega), ms_n _ _ (by omega)]
  · simp only [ms_n _ _ (show (11 : Nat) ≠ 11 + 3 by decide), ms_n _ _ (show (11 : Nat) ≠ 11 + 2 by decide), ms_n _ _ (show (11 : Nat) ≠ 11 + 1 by decide), ms_n _ _ (show (11 + 2 : Nat) ≠ 11 + 1 by decide), ms_n _ _ (show (11 + 3 : Nat) ≠ 11 + 1 by decide), ms_n _ _ (show (11 + 3 : Nat) ≠ 11 + 2 by decide), hS.1, Int.toNat_natCast]
    refine ⟨?_, fun i hi => ?_⟩
    · rw [ms_s, ru_s]; show ((w_s w).1 : Int) + 1 = (((w_s w).1 + 1 : Nat) : Int); omega
    · have hi2 : i < (w_s w).1 + 1 := hi
      simp only [ms_s, ms_n _ _ (show (11 + 1 : Nat) ≠ 11 by decide), ms_n _ _ (show (11 + 2 : Nat) ≠ 11 by decide), ms_n _ _ (show (11 + 3 : Nat) ≠ 11 by decide), ms_n _ _ (show (11 + 1 : Nat) ≠ 11 + 2 by decide), ms_n _ _ (show (11 + 1 : Nat) ≠ 11 + 3 by decide), ms_n _ _ (show (11 + 2 : Nat) ≠ 11 + 3 by decide), s_add]
      by_cases e : i = (w_s w).1
      · subst e; simp only [ru_s]; exact ⟨trivial, trivial, trivial⟩
      · simp only [ru_n _ _ e]; exact hS.2 i (by omega)
  · exact Hi_ms (Hi_ms (Hi_ms (Hi_ms (Hi_rf mem) (by omega) _) (by omega) _) (by omega) _) (by omega) _
theorem l_fits {g : sh_G} {d B Y t : Nat} {w : Wd} {mem : sh_Mem} {Q : Option sh_V → sh_Mem → Prop} (hW : WOk w) (hB : obB B) (hc : CR B Y w mem) (ht : t < b_nt (w_b w)) : ∀ (k x : Nat), x + k = (w_s w).1 → Q (some (sh_i (if asF (w_b w) (w_c w) (w_s w) t k x = true then 1 else 0))) mem →
    sh_X g (d + 3) m_Seen_fits 3 [(0, sh_r 11), (1, sh_r 5), (2, sh_r B), (3, sh_i (t : Int)), (4, sh_i (x : Int))] [] mem (sh_K m_Seen_fits Q) := by
  have hs := hW.2.2.2.2.2.1
  have hs8 := hs.1
  have hS := hc.2.2.2.2.2.2.2.1
  have h6 : mem (5 + 1) = w_c w := hc.2.2.2.2.1.1
  intro k
  induction k with
  | zero =>
    intro x hx h
    obtain rfl : x = (w_s w).1 := by omega
    apply v_Seen_fits_3 o11 o5 (obB_0 hB)
    rw [hS.1]
    exact ⟨fun _ => h, fun q => absurd (by omega) q⟩
  | succ k ih =>
    intro x hx h
    have hx2 := hs.2 x (by omega)
    have hx3 := hS.2 x (by omega)
    rw [asF] at h
    obtain ⟨n, en⟩ : ∃ n : Nat, (w_s w).2.2.1 x = (n : Int) := ⟨((w_s w).2.2.1 x).toNat, by omega⟩
    obtain ⟨e, ee⟩ : ∃ e : Nat, (w_s w).2.1 x = (e : Int) := ⟨((w_s w).2.1 x).toNat, by omega⟩
    rw [en, ee, Int.toNat_natCast, Int.toNat_natCast] at h
    have eq := opF_B hW.1 hW.2.1 ht (show e < b_nd (w_b w) by omega) n
    apply v_Seen_fits_3 o11 o5 (obB_0 hB)
    rw [hS.1, i3n (by omega), i3n (by omega), hx3.1, hx3.2.1, en, ee]
    refine ⟨fun q => absurd q (by omega), fun _ => ⟨by omega, by omega, ?_⟩⟩
    refine s_State_isOpenBehind (d := d) (S := 5) o5 (obB_0 hB) (b := w_b w) (by rw [h6]; exact hW.2.1) hc.2.1 ht (by omega) (by omega) ⟨fun q => ⟨_, rfl, by omega, ?_⟩, fun q => ⟨_, rfl, by omega, ?_⟩⟩
    · rw [h6] at q; rw [if_pos (eq.mpr q)] at h
      rw [hx3.2.2, i3s (x := (w_s w).2.2.2 x) (by omega) (by omega), show i3 1 = 1 from rfl]
      refine ⟨fun z => ?_, fun z => ?_⟩
      · rw [if_pos z] at h; exact ih (x + 1) (by omega) h
      · rw [if_neg z, if_neg (by decide)] at h; exact h
    · rw [h6] at q; rw [if_neg (fun z => q (eq.mp z))] at h
      rw [hx3.2.2, i3s (x := (w_s w).2.2.2 x) (by omega) (by omega), show i3 0 = 0 from rfl]
      refine ⟨fun z => ?_, fun z => ?_⟩
      · rw [if_pos z] at h; exact ih (x + 1) (by omega) h
      · rw [if_neg z, if_neg (by decide)] at h; exact h
theorem l_Sto_who {g : sh_G} {d B Y : Nat} {w : Wd} {mem : sh_Mem} {Q : Option sh_V → sh_Mem → Prop} (hW : WOk w) (hB : obB B) (hc : CR B Y w mem) (h : Q (some (sh_i (bitsF (asP w) (b_nt (w_b w))))) mem) : ∀ (k x : Nat), x + k = b_nt (w_b w) →
    sh_X g (d + 4) m_Sto_who 4 [(0, sh_r 1), (1, sh_i (bitsF (asP w) x)), (2, sh_i (x : Int))] [] mem (sh_K m_Sto_who Q) := by
  have k2 := hW.1.2.1
  intro k
  induction k with
  | zero =>
    intro x hx
    obtain rfl : x = b_nt (w_b w) := by omega
    apply v_Sto_who_4 (obB_0 hB)
    rw [hc.2.1.2.2.1]
    exact ⟨hc.1.1, fun _ => h, fun q => absurd (by omega) q⟩
  | succ k ih =>
    intro x hx
    have ih' := ih (x + 1) (by omega)
    rw [bitsF] at ih'
    apply v_Sto_who_4 (obB_0 hB)
    rw [hc.2.1.2.2.1, i3n (by omega), i3n (by omega)]
    refine ⟨hc.1.1, fun q => absurd q (by omega), fun _ => ⟨hc.1.1, ?_⟩⟩
    apply v_Seen_fits o11 o5 (obB_0 hB)
    refine l_fits (d := d) hW hB hc (by omega) (w_s w).1 0 (by omega) ⟨_, rfl, ?_⟩
    rw [i3_01]
    refine ⟨fun q => ?_, fun q => ?_⟩
    · rw [if_neg (by grind)] at ih'; exact ih'
    · rw [if_pos (by grind)] at ih'; exact ih'
theorem s_Sto_who {g : sh_G} {d B Y : Nat} {w : Wd} {mem : sh_Mem} {Q : Option sh_V → sh_Mem → Prop} (hW : WOk w) (hB : obB B) (hc : CR B Y w mem) (h : Q (some (sh_i (bitsF (asP w) (b_nt (w_b w))))) mem) : sh_Cal g (d + 4) m_Sto_who [sh_r 1] mem Q := by
  apply v_Sto_who (obB_0 hB)
  exact l_Sto_who hW hB hc h (b_nt (w_b w)) 0 (by omega)
theorem c_who {g : sh_G} {d : Nat} {w : Wd} {mem : sh_Mem} {Q : Option sh_V → sh_Mem → Prop} (hW : WOk w) (h : CRel w mem) (hQ : ∀ m', CPost w mem m' → Q (some (sh_i (whoF w (b_nt (w_b w))))) m') : sh_Cal g (d + 4) m_Sto_who [sh_r 1] mem Q := by
  obtain ⟨B, Y, hB, hY, hc⟩ := h
  have k1 := hW.1.1
  have k2 := hW.1.2.1
  have h6 : mem (5 + 1) = w_c w := hc.2.2.2.2.1.1
  have hI := hW.2.1
  have hI5 : Inv (w_b w) (mem (5 + 1)) := by rw [h6]; exact hI
  exact s_Sto_who hW hB hc (hQ _ (CPost_rf hB hY hc))
def bcF (p0 : Int) : Int := (i_and (((i_and (((i_and (p0 - (i_and (i_ushr p0 1) 1431655765)) 858993459) + (i_and (i_ushr (p0 - (i_and (i_ushr p0 1) 1431655765)) 2) 858993459)) + (i_ushr ((i_and (p0 - (i_and (i_ushr p0 1) 1431655765)) 858993459) + (i_and (i_ushr (p0 - (i_and (i_ushr p0 1) 1431655765)) 2) 858993459)) 4)) 252645135) + (i_ushr (i_and (((i_and (p0 - (i_and (i_ushr p0 1) 1431655765)) 858993459) + (i_and (i_ushr (p0 - (i_and (i_ushr p0 1) 1431655765)) 2) 858993459)) + (i_ushr ((i_and (p0 - (i_and (i_ushr p0 1) 1431655765)) 858993459) + (i_and (i_ushr (p0 - (i_and (i_ushr p0 1) 1431655765)) 2) 858993459)) 4)) 252645135) 8)) + (i_ushr ((i_and (((i_and (p0 - (i_and (i_ushr p0 1) 1431655765)) 858993459) + (i_and (i_ushr (p0 - (i_and (i_ushr p0 1) 1431655765)) 2) 858993459)) + (i_ushr ((i_and (p0 - (i_and (i_ushr p0 1) 1431655765)) 858993459) + (i_and (i_ushr (p0 - (i_and (i_ushr p0 1) 1431655765)) 2) 858993459)) 4)) 252645135) + (i_ushr (i_and (((i_and (p0 - (i_and (i_ushr p0 1) 1431655765)) 858993459) + (i_and (i_ushr (p0 - (i_and (i_ushr p0 1) 1431655765)) 2) 858993459)) + (i_ushr ((i_and (p0 - (i_and (i_ushr p0 1) 1431655765)) 858993459) + (i_and (i_ushr (p0 - (i_and (i_ushr p0 1) 1431655765)) 2) 858993459)) 4)) 252645135) 8)) 16)) 63)
theorem bc16 : ∀ k, k < 16 → bcF ((k : Nat) : Int) = pcF (fun i => k.testBit i) 4 := by decide +kernel
theorem and16 : ∀ a, a < 16 → ∀ c, c < 16 → i_and ((a : Nat) : Int) ((c : Nat) : Int) = ((a &&& c : Nat) : Int) := by decide +kernel
theorem s_bitCount {g : sh_G} {d k : Nat} {mem : sh_Mem} {Q : Option sh_V → sh_Mem → Prop} (hk : k < 16) (h : Q (some (sh_i (pcF (fun i => k.testBit i) 4))) mem) : sh_Cal g d m_Int_bitCount [sh_i (k : Int)] mem Q := by
  apply v_Int_bitCount
  rw [← bc16 k hk] at h
  exact h
theorem bits_k (P : Nat → Bool) {n : Nat} (hn : n ≤ 4) : ∃ k : Nat, k < 16 ∧ bitsF P n = (k : Int) ∧ ∀ i, i < 4 → k.testBit i = (decide (i < n) && P i) := by
  refine ⟨kB P % 2 ^ n, ?_, bitsF_v P (by omega), fun i hi => ?_⟩
  · have h1 : kB P % 2 ^ n < 2 ^ n := Nat.mod_lt _ (Nat.two_pow_pos n)
    have h2 : 2 ^ n ≤ 2 ^ 4 := Nat.pow_le_pow_right (by decide) hn
    omega
  · rw [Nat.testBit_mod_two_pow, kB_bit P (by omega)]
theorem pc_bits {P : Nat → Bool} {n k : Nat} (hn : n ≤ 4) (h : ∀ i, i < 4 → k.testBit i = (decide (i < n) && P i)) : pcF (fun i => k.testBit i) 4 = pcF P n := by
  rw [pcF_cong 4 h, pcF_cut (n := n) 4 hn (fun t h1 h2 => by rw [decide_eq_false (by omega)]; rfl)]
  exact pcF_cong n (fun i hi => by rw [decide_eq_true hi]; rfl)
theorem l_openTo {g : sh_G} {d B Y n e : Nat} {w : Wd} {mem : sh_Mem} {Q : Option sh_V → sh_Mem → Prop} (hW : WOk w) (hB : obB B) (hc : CR B Y w mem) (hn : n ≤ 30) (he : e < b_nd (w_b w)) (h : Q (some (sh_i (bitsF (fun t => opF (w_b w) (w_c w) t n e) (b_nt (w_b w))))) mem) : ∀ (k x : Nat), x + k = b_nt (w_b w) →
    sh_X g (d + 3) m_Sto_openTo 5 [(0, sh_r 1), (1, sh_i (e : Int)), (2, sh_i (n : Int)), (3, sh_i (bitsF (fun t => opF (w_b w) (w_c w) t n e) x)), (4, sh_i (x : Int))] [] mem (sh_K m_Sto_openTo Q) := by
  have k2 := hW.1.2.1
  have h6 : mem (5 + 1) = w_c w := hc.2.2.2.2.1.1
  intro k
  induction k with
  | zero =>
    intro x hx
    obtain rfl : x = b_nt (w_b w) := by omega
    apply v_Sto_openTo_5 (obB_0 hB)
    rw [hc.2.1.2.2.1]
    exact ⟨hc.1.1, fun _ => h, fun q => absurd (by omega) q⟩
  | succ k ih =>
    intro x hx
    have ih' := ih (x + 1) (by omega)
    rw [bitsF] at ih'
    have eq := opF_B hW.1 hW.2.1 (show x < b_nt (w_b w) by omega) he n
    apply v_Sto_openTo_5 (obB_0 hB)
    rw [hc.2.1.2.2.1, i3n (by omega), i3n (by omega)]
    refine ⟨hc.1.1, fun q => absurd q (by omega), fun _ => ⟨hc.1.1, ?_⟩⟩
    refine s_State_isOpenBehind (d := d) (S := 5) o5 (obB_0 hB) (b := w_b w) (by rw [h6]; exact hW.2.1) hc.2.1 (by omega) he (by omega) ⟨fun q => ⟨_, rfl, fun z => absurd z (by decide), fun _ => ?_⟩, fun q => ⟨_, rfl, fun _ => ?_, fun z => absurd rfl z⟩⟩
    · rw [h6] at q; rw [if_pos (eq.mpr q)] at ih'; exact ih'
    · rw [h6] at q; rw [if_neg (fun z => q (eq.mp z))] at ih'; exact ih'
theorem l_ask_28 {g : sh_G} {d B Y n k0 : Nat} {many : Int} {w : Wd} {mem : sh_Mem} {Q : Option sh_V → sh_Mem → Prop} (hW : WOk w) (hB : obB B) (hc : CR B Y w mem) (hn : n ≤ 30) (hm : 0 ≤ many ∧ many ≤ 8) (hk0 : k0 < 16) (hbt : ∀ i, i < 4 → k0.testBit i = (decide (i < b_nt (w_b w)) && asP w i)) : ∀ (k x : Nat) (q : Int × Int), x + k = b_nd (w_b w) → 0 ≤ q.1 ∧ q.1 ≤ 8 →
    sh_X g (d + 5) m_Sto_ask 18 [(0, sh_r 1), (1, sh_i (k0 : Int)), (2, sh_i many), (3, sh_i (ak1 many (soF (w_b w) (w_c w) (asP w) n) n k x q).1), (4, sh_i (ak1 many (soF (w_b w) (w_c w) (asP w) n) n k x q).2), (5, sh_i ((n + 1 : Nat) : Int))] [] mem (sh_K m_Sto_ask Q) →
    sh_X g (d + 5) m_Sto_ask 28 [(0, sh_r 1), (1, sh_i (k0 : Int)), (2, sh_i many), (3, sh_i q.1), (4, sh_i q.2), (5, sh_i (n : Int)), (6, sh_i (x : Int))] [] mem (sh_K m_Sto_ask Q) := by
  have k1 := hW.1.1
  have k2 := hW.1.2.1
  intro k
  induction k with
  | zero =>
    intro x q hx hq h
    obtain rfl : x = b_nd (w_b w) := by omega
    apply v_Sto_ask_28 (obB_0 hB)
    rw [hc.2.1.2.1]
    exact ⟨hc.1.1, fun _ => h, fun z => absurd (by omega) z⟩
  | succ k ih =>
    intro x q hx hq h
    have hs := soF_rng hW.1 (w_c w) (asP w) n x
    rw [ak1] at h
    have ih' := ih (x + 1) _ (by omega) (akS_rng (v := 8 * n + x) ⟨hs.1, by omega⟩ hq) h
    apply v_Sto_ask_28 (obB_0 hB)
    rw [hc.2.1.2.1, i3n (by omega), i3n (by omega)]
    refine ⟨hc.1.1, fun z => absurd z (by omega), fun _ => ?_⟩
    apply v_Sto_openTo (obB_0 hB)
    refine l_openTo (d := d + 1) (n := n) (e := x) hW hB hc hn (by omega) ⟨_, rfl, ?_⟩ (b_nt (w_b w)) 0 (by omega)
    obtain ⟨k3, b1, b2, b3⟩ := bits_k (fun t => opF (w_b w) (w_c w) t n x) k2
    rw [b2, and16 k0 hk0 k3 b1]
    have lt : k0 &&& k3 < 16 := Nat.lt_of_le_of_lt Nat.and_le_left hk0
    refine s_bitCount lt ⟨_, rfl, ?_⟩
    have e1 : pcF (fun i => (k0 &&& k3).testBit i) 4 = soF (w_b w) (w_c w) (asP w) n x := by
      unfold soF
      refine pc_bits k2 (fun i hi => ?_)
      rw [Nat.testBit_and, hbt i hi, b3 i hi]
      cases decide (i < b_nt (w_b w)) <;> simp
    rw [e1]
    generalize soF (w_b w) (w_c w) (asP w) n x = s at hs ih' ⊢
    rw [i3s (x := s) (by omega) (by omega), i3s (x := many - s) (by omega) (by omega)]
    have e2 : (if s < many - s then many - s else s) = max s (many - s) := by split <;> omega
    rw [e2, i3s (x := max s (many - s)) (by omega) (by omega), i3s (x := q.1) (by omega) (by omega)]
    refine ⟨fun z => ?_, fun z => ?_⟩
    · have e3 : akS many s (8 * n + x) q = q := by unfold akS; rw [if_neg (by omega)]
      rw [e3] at ih'; exact ih'
    · have e3 : akS many s (8 * n + x) q = (max s (many - s), ((8 * n + x : Nat) : Int)) := by unfold akS; rw [if_pos (by omega)]
      rw [e3] at ih'; exact ih'
theorem l_ask_18 {g : sh_G} {d B Y k0 : Nat} {many : Int} {w : Wd} {mem : sh_Mem} {Q : Option sh_V → sh_Mem → Prop} (hW : WOk w) (hB : obB B) (hc : CR B Y w mem) (hm : 0 ≤ many ∧ many ≤ 8) (hk0 : k0 < 16) (hbt : ∀ i, i < 4 → k0.testBit i = (decide (i < b_nt (w_b w)) && asP w i)) : ∀ (k x : Nat) (q : Int × Int), x + k = 31 → 0 ≤ q.1 ∧ q.1 ≤ 8 → Q (some (sh_i (ak2 many (soF (w_b w) (w_c w) (asP w)) (b_nd (w_b w)) k x q).2)) mem →
    sh_X g (d + 5) m_Sto_ask 18 [(0, sh_r 1), (1, sh_i (k0 : Int)), (2, sh_i many), (3, sh_i q.1), (4, sh_i q.2), (5, sh_i (x : Int))] [] mem (sh_K m_Sto_ask Q) := by
  intro k
  induction k with
  | zero =>
    intro x q hx hq h
    obtain rfl : x = 31 := by omega
    apply v_Sto_ask_18 (obB_0 hB)
    exact ⟨fun _ => h, fun z => absurd (by decide) z⟩
  | succ k ih =>
    intro x q hx hq h
    rw [ak2] at h
    have h8 : ∀ e, 0 ≤ soF (w_b w) (w_c w) (asP w) x e ∧ soF (w_b w) (w_c w) (asP w) x e ≤ 8 := fun e => by have := soF_rng hW.1 (w_c w) (asP w) x e; omega
    apply v_Sto_ask_18 (obB_0 hB)
    rw [i3n (by omega)]
    refine ⟨fun z => absurd z (by omega), fun _ => ?_⟩
    exact l_ask_28 hW hB hc (by omega) hm hk0 hbt (b_nd (w_b w)) 0 q (by omega) hq (ih (x + 1) _ (by omega) (ak1_rng h8 _ _ _ hq) h)
theorem c_ask {g : sh_G} {d : Nat} {w : Wd} {mem : sh_Mem} {Q : Option sh_V → sh_Mem → Prop} (hW : WOk w) (h : CRel w mem) (hQ : ∀ m', CPost w mem m' → Q (some (sh_i (q_ask w))) m') : sh_Cal g (d + 5) m_Sto_ask [sh_r 1] mem Q := by
  obtain ⟨B, Y, hB, hY, hc⟩ := h
  have k1 := hW.1.1
  have k2 := hW.1.2.1
  have h6 : mem (5 + 1) = w_c w := hc.2.2.2.2.1.1
  have hI := hW.2.1
  have hI5 : Inv (w_b w) (mem (5 + 1)) := by rw [h6]; exact hI
  have p := hQ _ (CPost_rf hB hY hc)
  unfold q_ask at p
  have hp := pcF_rng (asP w) (b_nt (w_b w))
  apply v_Sto_ask (obB_0 hB)
  refine s_Sto_who (d := d) hW hB hc ⟨_, rfl, ?_⟩
  obtain ⟨k0, b1, b2, b3⟩ := bits_k (asP w) k2
  rw [b2]
  refine s_bitCount b1 ⟨_, rfl, ?_⟩
  rw [pc_bits k2 b3]
  exact l_ask_18 hW hB hc (by omega) b1 b3 31 0 (_, -1) (by omega) (by simp only; omega) p
theorem s_weightOpen {g : sh_G} {gu sk o : Int} (h0 : 0 ≤ gu ∧ gu ≤ 9) (h1 : 0 ≤ sk ∧ sk ≤ 9) (h2 : 0 ≤ o ∧ o ≤ 10) : ∀ (n D : Nat) (gd : Int) (m : sh_Mem) (Q : Option sh_V → sh_Mem → Prop), n + 1 ≤ D → n ≤ 6 → gu ≤ gd ∧ gd ≤ 9 → Q (some (sh_i (wgF gu sk o n gd))) m → sh_Cal g D m_Sto_weightOpen [sh_i gd, sh_i gu, sh_i sk, sh_i (n : Int), sh_i o] m Q := by
  intro n
  induction n with
  | zero =>
    intro D gd m Q hD hn hg h
    obtain ⟨D, rfl⟩ : ∃ D', D = D' + 1 := ⟨D - 1, by omega⟩
    rw [wgF] at h
    apply v_Sto_weightOpen
    rw [i3s (x := sk) (by omega) (by omega), i3s (x := gd) (by omega) (by omega)]
    refine ⟨fun q => absurd q (by decide), fun _ => ⟨fun q => ?_, fun q => ?_⟩⟩
    · rw [if_neg (by omega)] at h; exact h
    · rw [if_pos (by omega)] at h; exact h
  | succ n ih =>
    intro D gd m Q hD hn hg h
    obtain ⟨D, rfl⟩ : ∃ D', D = D' + 1 := ⟨D - 1, by omega⟩
    rw [wgF] at h
    apply v_Sto_weightOpen
    rw [i3n (by omega), i3s (x := gd + 3) (by omega) (by omega), show i3 9 = 9 from rfl, show (((n + 1 : Nat) : Int) - 1) = (n : Int) by omega]
    have e1 : (if gd + 3 < 9 then gd + 3 else (9 : Int)) = min 9 (gd + 3) := by split <;> omega
    have e2 : (if gu < gd then gd - 1 else gd) = max gu (gd - 1) := by split <;> omega
    have e3 : (if gu < min 9 (gd + 3) then min 9 (gd + 3) - 1 else min 9 (gd + 3)) = max gu (min 9 (gd + 3) - 1) := by split <;> omega
    rw [e1]
    refine ⟨fun _ => ?_, fun q => absurd (by omega) q⟩
    refine s_State_relaxed (by omega) (by omega) ⟨_, rfl, ?_⟩
    rw [e2]
    refine s_State_relaxed (by omega) (by omega) ⟨_, rfl, ?_⟩
    rw [e3]
    refine ih D _ m _ (by omega) (by omega) (by omega) ⟨_, rfl, ?_⟩
    refine ih D _ m _ (by omega) (by omega) (by omega) ⟨_, rfl, ?_⟩
    exact h
def shV : Nat → Int
  | 0 => 1000000
  | n + 1 => shV n / 10
theorem shV_d : ∀ n, n < 6 → i_div (shV n) 10 = shV (n + 1) := by decide +kernel
theorem shV_t : ∀ n, n < 7 → shV n * tenF n = 1000000 := by decide +kernel
theorem l_Sto_chance {g : sh_G} {d B Y t e n : Nat} {o : Int} {w : Wd} {mem : sh_Mem} {Q : Option sh_V → sh_Mem → Prop} (hW : WOk w) (hB : obB B) (hc : CR B Y w mem) (ht : t < b_nt (w_b w)) (he : e < b_nd (w_b w)) (hn : n ≤ 6) (ho : 0 ≤ o ∧ o ≤ 10) (h : Q (some (sh_i (shV n * wgF (b_gu (w_b w) e) (b_sk (w_b w) t) o n (w_c w (8 + e))))) mem) : ∀ (k x : Nat), x + k = n →
    sh_X g (d + 8) m_Sto_chance 77 [(0, sh_r 1), (1, sh_i (t : Int)), (2, sh_i (e : Int)), (3, sh_i (n : Int)), (4, sh_i o), (5, sh_i (shV x)), (6, sh_i (x : Int))] [] mem (sh_K m_Sto_chance Q) := by
  have k1 := hW.1.1
  have k2 := hW.1.2.1
  have h6 : mem 6 = w_c w := hc.2.2.2.2.1.1
  have r1 := hW.2.1.1 e he
  have r2 := hW.1.2.2.1 e he
  have r3 := hW.1.2.2.2.1 t ht
  intro k
  induction k with
  | zero =>
    intro x hx
    obtain rfl : x = n := by omega
    apply v_Sto_chance_77 (obB_0 hB)
    rw [show ((8 : Int) + (e : Int)).toNat = 8 + e by omega, Int.toNat_natCast, Int.toNat_natCast, h6, (hc.2.1.2.2.2.1 e he).2.2, (hc.2.1.2.2.2.2 t ht).1]
    refine ⟨fun _ => ⟨by omega, hc.1.1, by omega, hc.1.1, by omega, ?_⟩, fun q => absurd (by omega) q⟩
    exact s_weightOpen (by omega) (by omega) ho x (d + 7) _ mem _ (by omega) hn (by omega) ⟨_, rfl, h⟩
  | succ k ih =>
    intro x hx
    have ih' := ih (x + 1) (by omega)
    apply v_Sto_chance_77 (obB_0 hB)
    rw [i3n (by omega), i3n (by omega), shV_d x (by omega)]
    exact ⟨fun q => absurd q (by omega), fun _ => ih'⟩
theorem c_chance {g : sh_G} {d : Nat} {w : Wd} {mem : sh_Mem} {t x k o : Int} {Q : Option sh_V → sh_Mem → Prop} (hW : WOk w) (h : CRel w mem) (ht : i3 t = t) (hx : i3 x = x) (hk : i3 k = k) (ho : i3 o = o) (hQ : ∀ m', CPost w mem m' → Q (some (sh_i (q_chance w t x k o))) m') : sh_Cal g (d + 8) m_Sto_chance [sh_r 1, sh_i t, sh_i x, sh_i k, sh_i o] mem Q := by
  obtain ⟨B, Y, hB, hY, hc⟩ := h
  have k1 := hW.1.1
  have k2 := hW.1.2.1
  have h6 : mem (5 + 1) = w_c w := hc.2.2.2.2.1.1
  have hI := hW.2.1
  have hI5 : Inv (w_b w) (mem (5 + 1)) := by rw [h6]; exact hI
  have p := hQ _ (CPost_rf hB hY hc)
  unfold q_chance at p
  apply v_Sto_chance (obB_0 hB)
  refine cT_then hB hc ht (fun q => ?_) (fun tn et htn => ?_)
  · rw [if_neg (fun z => q z.1)] at p; exact p
  refine cD_then hB hc hx (fun q => ?_) (fun xn ex hxn => ?_)
  · rw [if_neg (fun z => q z.2.1)] at p; exact p
  refine cW_then hk rfl rfl (fun q => ?_) (fun q3 => ?_)
  · rw [if_neg (fun z => q z.2.2.1)] at p; exact p
  refine cW_then' ho rfl rfl (fun q => ?_) (fun q4 => ?_)
  · rw [if_neg (fun z => q z.2.2.2)] at p; exact p
  subst et ex
  obtain ⟨n, rfl⟩ : ∃ n : Nat, k = (n : Int) := ⟨k.toNat, by omega⟩
  rw [if_pos ⟨by omega, by omega, q3, q4⟩] at p
  simp only [Int.toNat_natCast] at p
  rw [scF_ch hW.1 htn hxn n _ hI] at p
  have r1 := hI.1 xn hxn
  have r2 := hW.1.2.2.1 xn hxn
  refine s_State_isFreeBehind (S := 5) o5 (b := w_b w) hI5 htn hW.1 (by omega) ⟨_, rfl, ?_⟩
  rw [i3_01, h6]
  refine ⟨fun q => ?_, fun q => ⟨hc.1.1, ?_⟩⟩
  · rw [if_neg (fun z => by have := z.1; rw [if_pos this] at q; exact absurd q (by decide)), Int.zero_mul, Int.zero_ediv] at p; exact p
  · have q5 : w_c w (28 + tn) ≤ (n : Int) := by
      by_cases z : w_c w (28 + tn) ≤ (n : Int)
      · exact z
      · rw [if_neg z] at q; exact absurd rfl q
    refine s_State_leftBehind (d := d + 6) (S := 5) o5 (obB_0 hB) (b := w_b w) (by rw [h6]; exact hI.1 xn hxn) hc.2.1 hxn (by omega) ⟨_, rfl, ?_⟩
    rw [h6, i3s (x := min (b_wo (w_b w) xn) (w_c w xn + (n : Int))) (by omega) (by omega)]
    refine ⟨fun z => ?_, fun z => ?_⟩
    · rw [if_pos ⟨q5, z⟩] at p
      refine l_Sto_chance hW hB hc htn hxn (by omega) q4 ?_ n 0 (by omega)
      have t1 := tenF_pos n
      have e1 : wgF (b_gu (w_b w) xn) (b_sk (w_b w) tn) o n (w_c w (8 + xn)) * 1000000 / tenF n = shV n * wgF (b_gu (w_b w) xn) (b_sk (w_b w) tn) o n (w_c w (8 + xn)) := by
        rw [← shV_t n (by omega), ← Int.mul_assoc, Int.mul_ediv_cancel _ (by omega), Int.mul_comm]
      rw [e1] at p; exact p
    · rw [if_neg (fun y => z y.2), Int.zero_mul, Int.zero_ediv] at p; exact p
