/-! ===== the class: a year judged ===== -/
def gotF (b : Bk) (c : Nat → Int) (v : Int) (a x : Nat) : Int := if (dnF b c v a x).isSome = true then (if v = 1 then bag b c a x else if v = 2 then prV b c a else if v = 3 then joyV c a else 0) else -1
theorem gotF_rng {b : Bk} (hb : BkOk b) {c : Nat → Int} (hI : Inv b c) {v : Int} {a x : Nat} (hL : LnOk b v a x) : -1 ≤ gotF b c v a x ∧ gotF b c v a x ≤ 99 ∧ (gotF b c v a x = -1 ↔ ¬ (dnF b c v a x).isSome = true) := by
  obtain ⟨l0, l1, l2, l3, l4, l5⟩ := hL
  unfold gotF
  by_cases z : (dnF b c v a x).isSome = true
  · rw [if_pos z]
    by_cases e1 : v = 1
    · rw [if_pos e1]; have := bag_rng hb (c := c) (e := x) (l2 e1).1; exact ⟨by omega, by omega, by omega, fun y => absurd z y⟩
    · rw [if_neg e1]
      by_cases e2 : v = 2
      · rw [if_pos e2]; have := prV_rng hb c a; exact ⟨by omega, by omega, by omega, fun y => absurd z y⟩
      · rw [if_neg e2]
        by_cases e3 : v = 3
        · rw [if_pos e3]; have := joyV_rng hI (l4 e3); exact ⟨by omega, by omega, by omega, fun y => absurd z y⟩
        · rw [if_neg e3]; exact ⟨by omega, by omega, by omega, fun y => absurd z y⟩
  · rw [if_neg z]; exact ⟨by omega, by omega, fun _ => z, fun _ => rfl⟩
theorem Z_dn {b : Bk} (hb : BkOk b) {c c' : Nat → Int} {v : Int} {a x : Nat} (hL : LnOk b v a x) (h : Z c) (hd : dnF b c v a x = some c') : Z c' := by
  obtain ⟨l0, l1, l2, l3, l4, l5⟩ := hL
  have k1 := hb.1
  have k2 := hb.2.1
  unfold dnF at hd
  split at hd
  · cases hd; exact Z_sleep h
  · rename_i n0
    split at hd
    · rename_i e1
      split at hd
      · cases hd; have := l2 e1; exact Z_take h (by omega) (by omega)
      · cases hd
    · rename_i n1
      split at hd
      · split at hd
        · rename_i e2; cases hd; have := l3 e2; exact Z_cash h (by omega) _
        · rename_i n2
          split at hd
          · rename_i e3; cases hd; have := l4 e3; exact Z_enjoy h (by omega)
          · rename_i n3
            split at hd
            · cases hd; have := l5 (by omega); exact Z_trade h (by omega) (by omega)
            · cases hd
      · cases hd
theorem s_play {g : sh_G} {d B Y x a e : Nat} {v : Int} {w : Wd} {c : Nat → Int} {mem m : sh_Mem} {Q : Option sh_V → sh_Mem → Prop} (hB : obB B) (hY : obY Y) (hc : CR B Y w mem) (hm : Ct mem m c) (hI : Inv (w_b w) c) (hZ : Z c) (hx : x < 40) (hL : LnOk (w_b w) v a e) (e1 : m (Y + 1) x = v) (e2 : v ≠ 0 → m (Y + 2) x = (a : Int)) (e3 : v = 1 ∨ v = 4 → m (Y + 3) x = (e : Int)) (h : ∀ m', Ct mem m' ((dnF (w_b w) c v a e).getD c) → Q (some (sh_i (gotF (w_b w) c v a e))) m') : sh_Cal g (d + 5) m_Year_play [sh_r Y, sh_i (x : Int), sh_r 7, sh_r B] m Q := by
  have hcm := CR_Cs hB hY hc (Ct_Cs hm hZ)
  have hb := hcm.2.1.1
  have h8 : m (7 + 1) = c := hm.2
  obtain ⟨l0, l1, l2, l3, l4, l5⟩ := id hL
  have k1 := hb.1
  have k2 := hb.2.1
  have ms8 : ∀ (m1 : sh_Mem) (r : Nat → Int), (∀ a, ¬ csc a → m1 a = mem a) → Ct mem (ms m1 8 r) r := fun m1 r q => ⟨fun a ha => by rw [ms_n _ _ (fun y => ha (by rw [y]; decide))]; exact q a ha, ms_s _ _ _⟩
  have bad : dnF (w_b w) c v a e = none → Q (some (sh_i (-1))) m := by
    intro q
    have e0 : gotF (w_b w) c v a e = -1 := by unfold gotF; rw [q]; rfl
    rw [q, e0] at h; exact h m hm
  have good : ∀ (c' : Nat → Int) (r : Int), dnF (w_b w) c v a e = some c' → r = (if v = 1 then bag (w_b w) c a e else if v = 2 then prV (w_b w) c a else if v = 3 then joyV c a else 0) → ∀ m', Ct mem m' c' → Q (some (sh_i r)) m' := by
    intro c' r q er m' y
    have e0 : gotF (w_b w) c v a e = r := by unfold gotF; rw [q, er]; rfl
    rw [q, e0] at h; exact h m' y
  apply v_Year_play (obY_10 hY) o7 (obB_0 hB)
  rw [e1, i3s (x := v) (by omega) (by omega)]
  refine ⟨hx, hx, hx, fun z => ?_, fun z => ?_, fun z => ?_, fun z => ?_, fun z => ?_⟩
  · rw [e2 (by omega), e3 (by omega)]
    have q := l2 z
    refine s_State_canTake (d := d + 2) (S := 7) o7 (b := w_b w) (by rw [h8]; exact hI) q.1 q.2 hb ⟨_, rfl, ?_⟩
    rw [i3_01, h8]
    refine ⟨fun q2 => bad ?_, fun q2 => ?_⟩
    · unfold dnF; rw [if_neg (by omega), if_pos z, if_neg (by grind)]
    · refine s_State_take (d := d) (S := 7) o7 (obB_0 hB) (b := w_b w) (by rw [h8]; exact hI) hcm.2.1 q.1 q.2 ⟨_, rfl, ?_⟩
      rw [h8]
      refine good _ _ ?_ ?_ _ (ms8 m _ hm.1)
      · unfold dnF; rw [if_neg (by omega), if_pos z, if_pos (by grind)]
      · rw [if_pos z]
  · rw [e2 (by omega)]
    have q := l3 z
    refine s_State_canPart (d := d + 3) (S := 7) o7 (b := w_b w) (by rw [h8]; exact hI) q hb ⟨_, rfl, ?_⟩
    rw [i3_01, h8]
    refine ⟨fun q2 => bad ?_, fun q2 => ?_⟩
    · unfold dnF; rw [if_neg (by omega), if_neg (by omega), if_neg (by grind)]
    · have q4 : c (28 + a) = 0 ∧ 0 < c (16 + a) := by grind
      refine s_State_cashIn (d := d) (S := 7) o7 (obB_0 hB) (b := w_b w) (by rw [h8]; exact hI.2.2.1 a q) hb hcm.2.2.1 q (by rw [h8]; exact q4.2) (fun r => ⟨_, rfl, ?_⟩)
      rw [h8]
      have eP : b_pr (w_b w) (c (16 + a)) (c (24 + a)) (c (20 + a)) (c 44) = prV (w_b w) c a := by unfold prV; rw [if_pos q4.2]
      rw [eP]
      refine good _ _ ?_ ?_ _ (ms8 _ _ (fun a ha => by rw [ms_n _ _ (fun y : a = B + 10 => ha (by rw [y]; exact (csc_10 hB).1))]; exact hm.1 a ha))
      · unfold dnF; rw [if_neg (by omega), if_neg (by omega), if_pos q4, if_pos z]
      · rw [if_neg (by omega), if_pos z]
  · rw [e2 (by omega)]
    have q := l4 z
    refine s_State_canPart (d := d + 3) (S := 7) o7 (b := w_b w) (by rw [h8]; exact hI) q hb ⟨_, rfl, ?_⟩
    rw [i3_01, h8]
    refine ⟨fun q2 => bad ?_, fun q2 => ?_⟩
    · unfold dnF; rw [if_neg (by omega), if_neg (by omega), if_neg (by grind)]
    · have q4 : c (28 + a) = 0 ∧ 0 < c (16 + a) := by grind
      refine s_State_enjoy (d := d + 3) (S := 7) o7 (b := w_b w) (by rw [h8]; exact hI) q hb ⟨_, rfl, ?_⟩
      rw [h8]
      refine good _ _ ?_ ?_ _ (ms8 m _ hm.1)
      · unfold dnF; rw [if_neg (by omega), if_neg (by omega), if_pos q4, if_neg (by omega), if_pos z]
      · rw [if_neg (by omega), if_neg (by omega), if_pos z]
  · rw [e2 (by omega), e3 (by omega)]
    have q := l5 z
    refine s_State_canTrade (d := d + 2) (S := 7) o7 (b := w_b w) (by rw [h8]; exact hI) q.1 q.2.1 hb ⟨_, rfl, ?_⟩
    rw [i3_01, h8]
    refine ⟨fun q2 => ?_, fun q2 => bad ?_⟩
    · have q4 : (c (28 + a) = 0 ∧ 0 < c (16 + a)) ∧ (c (28 + e) = 0 ∧ 0 < c (16 + e)) := by grind
      refine s_State_trade (d := d + 3) (S := 7) o7 (by omega) (by omega) ⟨rfl, ?_⟩
      rw [h8]
      refine good _ _ ?_ ?_ _ (ms8 m _ hm.1)
      · unfold dnF; rw [if_neg (by omega), if_neg (by omega), if_pos q4.1, if_neg (by omega), if_neg (by omega), if_pos q4.2]
      · rw [if_neg (by omega), if_neg (by omega), if_neg (by omega)]
    · unfold dnF; rw [if_neg (by omega), if_neg (by omega)]
      by_cases y : c (28 + a) = 0 ∧ 0 < c (16 + a)
      · rw [if_pos y, if_neg (by omega), if_neg (by omega), if_neg (by grind)]
      · rw [if_neg y]
  · have z0 : v = 0 := by omega
    refine s_State_sleep (d := d + 2) (S := 7) o7 (obB_0 hB) (b := w_b w) (by rw [h8]; exact hI) hcm.2.1 ⟨rfl, ?_⟩
    rw [h8]
    refine good _ _ ?_ ?_ _ (ms8 m _ hm.1)
    · unfold dnF; rw [if_pos z0]
    · rw [if_neg (by omega), if_neg (by omega), if_neg (by omega)]
/-- nobody is caught -/
def NC (c : Nat → Int) : Prop := ∀ t, t < 4 → c (28 + t) = 0
theorem NC_bits {c : Nat → Int} (h : NC c) : bitsF (fun t => decide (0 < c (28 + t))) 4 = 0 := by
  rw [bitsF_cut (n := 0) 4 (by omega) (fun t _ h2 => by rw [h t h2]; rfl)]; rfl
theorem zb4 : ∀ a, a < 4 → i_and (i_shr 0 ((a : Nat) : Int)) 1 = 0 := by decide +kernel
theorem C_bits {c : Nat → Int} {a : Nat} (ha : a < 4) (h : 0 < c (28 + a)) : ¬ bitsF (fun t => decide (0 < c (28 + t))) 4 = 0 := by
  intro z
  have q := bitsF_bit (fun t => decide (0 < c (28 + t))) (n := 4) (e := a) (by omega) ha
  rw [z, zb4 a ha, if_pos (decide_eq_true h)] at q
  exact absurd q (by decide)
/-- who is caught by a line: nobody but by a theft that brings nothing -/
theorem NC_dn {b : Bk} (hb : BkOk b) {c : Nat → Int} (hI : Inv b c) {v : Int} {a x : Nat} (hL : LnOk b v a x) (hn : NC c) : (gotF b c v a x = 0 ∧ v = 1 → ¬ bitsF (fun t => decide (0 < (dnF b c v a x).getD c (28 + t))) 4 = 0) ∧ (¬ (gotF b c v a x = 0 ∧ v = 1) → NC ((dnF b c v a x).getD c)) := by
  obtain ⟨l0, l1, l2, l3, l4, l5⟩ := id hL
  have k1 := hb.1
  have k2 := hb.2.1
  refine ⟨fun q => ?_, fun q => ?_⟩
  · have ⟨t1, t2⟩ := l2 q.2
    have dd : dnF b c v a x = if c (28 + a) = 0 ∧ c (16 + a) = 0 ∧ 0 < c x then some (takeR b c a x) else none := by unfold dnF; rw [if_neg (by omega), if_pos q.2]
    by_cases z : c (28 + a) = 0 ∧ c (16 + a) = 0 ∧ 0 < c x
    · rw [if_pos z] at dd
      have g0 : bag b c a x = 0 := by have := q.1; unfold gotF at this; rw [dd, if_pos (by rfl), if_pos q.2] at this; exact this
      rw [dd]
      have r := hb.2.2.2.1 a t1
      have hs : b_sk b a < c (8 + x) := by
        unfold bag at g0
        by_cases y : c (28 + a) = 0 ∧ c (16 + a) = 0 ∧ 0 < c x ∧ c (8 + x) ≤ b_sk b a
        · rw [if_pos y] at g0; omega
        · by_cases y2 : c (8 + x) ≤ b_sk b a
          · exact absurd ⟨z.1, z.2.1, z.2.2, y2⟩ y
          · omega
      refine C_bits (a := a) (by omega) ?_
      show 0 < takeR b c a x (28 + a)
      unfold takeR; rw [if_neg (by omega), ru_n _ _ (by omega), ru_s]; omega
    · rw [if_neg z] at dd
      have := q.1; unfold gotF at this; rw [dd, if_neg (by decide)] at this; exact absurd this (by decide)
  · intro t ht
    have hT := hn t ht
    cases hd : dnF b c v a x with
    | none => exact hT
    | some c' =>
      show c' (28 + t) = 0
      have hd2 := hd
      unfold dnF at hd
      split at hd
      · cases hd
        by_cases y : t < b_nt b
        · rw [sR_c c y k2, hT]; rfl
        · rw [(sR_ht c (by omega) ht).2.1]; exact hT
      · split at hd
        · rename_i e1
          split at hd
          · cases hd
            have ⟨t1, t2⟩ := l2 e1
            have g1 : 0 < bag b c a x := by
              have r := bag_rng hb (c := c) (e := x) t1
              by_cases y : bag b c a x = 0
              · refine absurd ⟨?_, e1⟩ q
                unfold gotF; rw [hd2, if_pos (by rfl), if_pos e1]; exact y
              · omega
            unfold takeR; rw [if_pos g1]
            simp (disch := omega) only [ru_n]; exact hT
          · cases hd
        · split at hd
          · split at hd
            · rename_i e2; cases hd; have := l3 e2; unfold cashR; simp (disch := omega) only [ru_n]; exact hT
            · split at hd
              · rename_i e3; cases hd; have := l4 e3; unfold enjoyR; simp (disch := omega) only [ru_n]; exact hT
              · rename_i n2 n3
                split at hd
                · cases hd; have := l5 (by omega); simp (disch := omega) only [tradeR, xch, ru_n]; exact hT
                · cases hd
          · cases hd
theorem l_Sto_judged {g : sh_G} {d B Y : Nat} {what : Int} {w : Wd} {mem : sh_Mem} {Q : Option sh_V → sh_Mem → Prop} (hW : WOk w) (hB : obB B) (hY : obY Y) (hc : CR B Y w mem) (hwh : i3 what = what) : ∀ (k x : Nat) (m : sh_Mem) (c : Nat → Int) (p q : Int), x + k = (w_y w).1 → Ct mem m c → Z c → Inv (w_b w) c → -1 ≤ p ∧ p ≤ 40 → -1 ≤ q ∧ q ≤ 40 → (q = -1 → NC c) →
    (∀ m', Cs mem m' → Q (some (sh_i (if what = 0 then (jdF (w_b w) (w_y w) k x c p q).2.1 else if what = 1 then (jdF (w_b w) (w_y w) k x c p q).2.2 else sumF (jdF (w_b w) (w_y w) k x c p q).1 40 4))) m') →
    sh_X g (d + 6) m_Sto_judged 30 [(0, sh_r 1), (1, sh_i what), (2, sh_i p), (3, sh_i q), (4, sh_i (x : Int))] [] m (sh_K m_Sto_judged Q) := by
  have hy := hW.2.2.2.2.1
  have hy40 := hy.1
  intro k
  induction k with
  | zero =>
    intro x m c p q hx hm hZ hI hp hq hn h
    obtain rfl : x = (w_y w).1 := by omega
    have hcm := CR_Cs hB hY hc (Ct_Cs hm hZ)
    have h8 : m (7 + 1) = c := hm.2
    have h := h m (Ct_Cs hm hZ)
    rw [jdF] at h
    apply v_Sto_judged_30 (obB_0 hB) (obY_10 hY)
    rw [hcm.2.2.2.2.2.2.1.1, hwh]
    refine ⟨hcm.1.2.2.1, fun _ => ⟨fun z => ⟨fun z2 => ?_, fun z2 => ?_⟩, fun z => ?_⟩, fun z => absurd (by omega) z⟩
    · rw [if_neg z, if_neg z2] at h
      refine s_State_sumOfThieves (a := 40) (S := 7) o7 (by omega) ⟨_, rfl, ?_⟩
      rw [h8]; exact h
    · rw [if_neg z, if_pos z2] at h; exact h
    · rw [if_pos z] at h; exact h
  | succ k ih =>
    intro x m c p q hx hm hZ hI hp hq hn h
    obtain ⟨a, e, y1, y2, y3⟩ := hy.2 x (by omega)
    have hcm := CR_Cs hB hY hc (Ct_Cs hm hZ)
    have hcy := hcm.2.2.2.2.2.2.1
    have hcx := hcy.2 x (by omega)
    rw [y1, y2] at hcx
    have gr := gotF_rng hW.1 hI y3
    have hI' := Inv_jC hW.1 hI hy (show x < (w_y w).1 by omega)
    have eC : (dnF (w_b w) c ((w_y w).2.1 x) a e).getD c = jC (w_b w) (w_y w) c x := by unfold jC; rw [y1, y2, Int.toNat_natCast, Int.toNat_natCast]
    have hZ' : Z (jC (w_b w) (w_y w) c x) := by
      rw [← eC]
      cases hd : dnF (w_b w) c ((w_y w).2.1 x) a e with
      | none => exact hZ
      | some c' => exact Z_dn hW.1 y3 hZ hd
    rw [jdF, y1, y2, Int.toNat_natCast, Int.toNat_natCast] at h
    apply v_Sto_judged_30 (obB_0 hB) (obY_10 hY)
    rw [hcy.1, i3n (by omega), i3n (by omega), i3s (x := p) (by omega) (by omega)]
    refine ⟨hcm.1.2.2.1, fun z => absurd z (by omega), fun _ => ⟨hcm.1.2.2.1, hcm.1.1, ?_⟩⟩
    refine s_play (d := d) hB hY hc hm hI hZ (by omega) y3 hcx.1 hcx.2.1 hcx.2.2 (fun m2 hm2 => ⟨_, rfl, ?_⟩)
    rw [eC] at hm2
    have hc2 := CR_Cs hB hY hc (Ct_Cs hm2 hZ')
    have hc2y := hc2.2.2.2.2.2.2.1.2 x (by omega)
    have v04 : 0 ≤ (w_y w).2.1 x ∧ (w_y w).2.1 x ≤ 4 := ⟨y3.1, y3.2.1⟩
    rw [i3s (x := gotF (w_b w) c ((w_y w).2.1 x) a e) (by omega) (by omega)]
    have go : ∀ p' : Int, -1 ≤ p' ∧ p' ≤ 40 → p' = (if (dnF (w_b w) c ((w_y w).2.1 x) a e).isSome = true then p else if 0 ≤ p then p else (x : Int)) → sh_X g (d + 6) m_Sto_judged 75 [(0, sh_r 1), (1, sh_i what), (2, sh_i p'), (3, sh_i q), (4, sh_i (x : Int)), (5, sh_i (gotF (w_b w) c ((w_y w).2.1 x) a e))] [] m2 (sh_K m_Sto_judged Q) := by
      intro p' hp' ep
      rw [← ep] at h
      have nx : ∀ q' : Int, -1 ≤ q' ∧ q' ≤ 40 → q' = (if bitsF (fun t => decide (0 < jC (w_b w) (w_y w) c x (28 + t))) 4 = 0 then q else if 0 ≤ q then q else (x : Int)) → (q' = -1 → NC (jC (w_b w) (w_y w) c x)) → sh_X g (d + 6) m_Sto_judged 30 [(0, sh_r 1), (1, sh_i what), (2, sh_i p'), (3, sh_i q'), (4, sh_i ((x + 1 : Nat) : Int))] [] m2 (sh_K m_Sto_judged Q) := by
        intro q' hq' eq hnn
        rw [← eq] at h
        exact ih (x + 1) m2 _ p' q' (by omega) hm2 hZ' hI' hp' hq' hnn h
      have keep : ¬ (gotF (w_b w) c ((w_y w).2.1 x) a e = 0 ∧ (w_y w).2.1 x = 1) ∨ q ≠ -1 → sh_X g (d + 6) m_Sto_judged 30 [(0, sh_r 1), (1, sh_i what), (2, sh_i p'), (3, sh_i q), (4, sh_i ((x + 1 : Nat) : Int))] [] m2 (sh_K m_Sto_judged Q) := by
        intro z
        by_cases z1 : q = -1
        · have z2 : ¬ (gotF (w_b w) c ((w_y w).2.1 x) a e = 0 ∧ (w_y w).2.1 x = 1) := by rcases z with z | z; exact z; exact absurd z1 z
          have nn := (NC_dn hW.1 hI y3 (hn z1)).2 z2
          rw [eC] at nn
          exact nx q hq (by rw [if_pos (NC_bits nn)]) (fun _ => nn)
        · exact nx q hq (by split; rfl; rw [if_pos (by omega)]) (fun y => absurd y z1)
      apply v_Sto_judged_75 (obB_0 hB) (obY_10 hY)
      rw [i3s (x := gotF (w_b w) c ((w_y w).2.1 x) a e) (by omega) (by omega), hc2y.1, i3s (x := (w_y w).2.1 x) (by omega) (by omega), i3s (x := q) (by omega) (by omega)]
      refine ⟨fun z => keep (Or.inl (fun y => z y.1)), fun z => ⟨hc2.1.2.2.1, by omega, fun z2 => keep (Or.inl (fun y => z2 y.2)), fun z2 => ⟨fun z3 => keep (Or.inr z3), fun z3 => ?_⟩⟩⟩
      have cc := (NC_dn hW.1 hI y3 (hn z3)).1 ⟨z, z2⟩
      rw [eC] at cc
      exact nx (x : Int) (by omega) (by rw [if_neg cc, if_neg (by omega)]) (fun y => by omega)
    refine ⟨fun z => ?_, fun z => ⟨fun z2 => ?_, fun z2 => ?_⟩⟩
    · have z1 : (dnF (w_b w) c ((w_y w).2.1 x) a e).isSome = true := by
        by_cases y : (dnF (w_b w) c ((w_y w).2.1 x) a e).isSome = true
        · exact y
        · exact absurd (gr.2.2.mpr y) z
      exact go p hp (by rw [if_pos z1])
    · exact go p hp (by rw [if_neg (gr.2.2.mp z), if_pos (by omega)])
    · exact go x (by omega) (by rw [if_neg (gr.2.2.mp z), if_neg (by omega)])
theorem NC_fresh (b : Bk) : NC (freshR b) := by
  intro t ht; unfold freshR; rw [if_neg (by omega), if_neg (by omega)]
theorem c_judged {g : sh_G} {d : Nat} {w : Wd} {mem : sh_Mem} {k : Int} {Q : Option sh_V → sh_Mem → Prop} (hW : WOk w) (h : CRel w mem) (hk : i3 k = k) (hQ : ∀ m', CPost w mem m' → Q (some (sh_i (q_judged w k))) m') : sh_Cal g (d + 6) m_Sto_judged [sh_r 1, sh_i k] mem Q := by
  obtain ⟨B, Y, hB, hY, hc⟩ := h
  have k1 := hW.1.1
  have k2 := hW.1.2.1
  have h6 : mem (5 + 1) = w_c w := hc.2.2.2.2.1.1
  have hI := hW.2.1
  have hI5 : Inv (w_b w) (mem (5 + 1)) := by rw [h6]; exact hI
  have p := hQ _ (CPost_rf hB hY hc)
  unfold q_judged at p hQ
  apply v_Sto_judged (obB_0 hB) (obY_10 hY)
  rw [hk]
  refine ⟨fun q => ?_, fun q => ⟨fun q2 => ⟨hc.1.1, ?_⟩, fun q2 => ?_⟩⟩
  · rw [if_neg (by omega)] at p; exact p
  · rw [if_pos (show 0 ≤ k ∧ k ≤ 2 by omega)] at hQ
    refine s_State_begin (S := 7) o7 (obB_0 hB) (b := w_b w) hc.2.1 ⟨rfl, ?_⟩
    rw [Z_begin (show Z (mem (7 + 1)) from hc.2.2.2.2.1.2.2.1)]
    exact l_Sto_judged hW hB hY hc hk (w_y w).1 0 _ (freshR (w_b w)) (-1) (-1) (by omega) ⟨fun a ha => by rw [ms_n _ _ (fun y => ha (by rw [y]; decide))], ms_s _ _ _⟩ (Z_fresh _) (Inv_fresh hW.1) (by omega) (by omega) (fun _ => NC_fresh _) (fun m' hs => hQ _ (CPost_Cs hB hY hc hs))
  · rw [if_neg (by omega)] at p; exact p
