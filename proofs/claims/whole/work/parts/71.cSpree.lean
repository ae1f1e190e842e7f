/-! ===== the class: the best spree ===== -/
/-- the most that one night could bring, were no day the worse for what was stolen -/
def bsF (b : Bk) (t : Nat) (c : Nat → Int) (i : Int) : Nat → Int
  | 0 => 0
  | e + 1 => if max (b_gu b e) (c (8 + e) - i) ≤ b_sk b t then max (bsF b t c i e) (min (b_sa b t) (min (b_wo b e) (c e + i))) else bsF b t c i e
def hoF (b : Bk) (t : Nat) (c : Nat → Int) : Nat → Nat → Int
  | 0, _ => 0
  | n + 1, i => bsF b t c (i : Int) (b_nd b) + hoF b t c n (i + 1)
theorem bsF_rng {b : Bk} (hb : BkOk b) {t : Nat} (ht : t < b_nt b) (c : Nat → Int) (i : Int) : ∀ n, n ≤ b_nd b → 0 ≤ bsF b t c i n ∧ bsF b t c i n ≤ 12
  | 0, _ => by unfold bsF; omega
  | n + 1, h => by
    have := bsF_rng hb ht c i n (by omega); have := hb.2.2.2.1 t ht
    rw [bsF]; split <;> omega
theorem hoF_rng {b : Bk} (hb : BkOk b) {t : Nat} (ht : t < b_nt b) (c : Nat → Int) : ∀ n i, 0 ≤ hoF b t c n i ∧ hoF b t c n i ≤ 12 * n
  | 0, i => by unfold hoF; omega
  | n + 1, i => by have := hoF_rng hb ht c n (i + 1); have := bsF_rng hb ht c (i : Int) (b_nd b) (Nat.le_refl _); rw [hoF]; omega
theorem bsF_mono {b : Bk} {t : Nat} {c c' : Nat → Int} (i : Int) : ∀ n, (∀ e, e < n → c e ≤ c' e ∧ c' (8 + e) ≤ c (8 + e)) → bsF b t c i n ≤ bsF b t c' i n
  | 0, _ => by unfold bsF; omega
  | n + 1, h => by
    have := bsF_mono (b := b) (t := t) i n (fun e he => h e (by omega)); have := h n (by omega)
    rw [bsF, bsF]; split <;> split <;> omega
theorem hoF_mono {b : Bk} {t : Nat} {c c' : Nat → Int} (h : ∀ e, e < b_nd b → c e ≤ c' e ∧ c' (8 + e) ≤ c (8 + e)) : ∀ n i, hoF b t c n i ≤ hoF b t c' n i
  | 0, i => by unfold hoF; omega
  | n + 1, i => by have := hoF_mono (t := t) h n (i + 1); have := bsF_mono (b := b) (t := t) (i : Int) (b_nd b) h; rw [hoF, hoF]; omega
theorem bsF_sleep {b : Bk} (hb : BkOk b) {t : Nat} (c : Nat → Int) {i : Int} (hi : 0 ≤ i) : ∀ n, n ≤ b_nd b → bsF b t (sleepR b c) i n = bsF b t c (i + 1) n
  | 0, _ => rfl
  | n + 1, h => by
    have ih := bsF_sleep hb (t := t) c hi n (by omega)
    rw [bsF, bsF, ih, sR_d c (e := n) (by omega) hb.1, sR_g c (e := n) (by omega) hb.1]
    have e1 : max (b_gu b n) (max (b_gu b n) (c (8 + n) - 1) - i) = max (b_gu b n) (c (8 + n) - (i + 1)) := by omega
    have e2 : min (b_wo b n) (min (b_wo b n) (c n + 1) + i) = min (b_wo b n) (c n + (i + 1)) := by omega
    rw [e1, e2]
theorem hoF_sleep {b : Bk} (hb : BkOk b) {t : Nat} (c : Nat → Int) : ∀ n i, hoF b t (sleepR b c) n i = hoF b t c n (i + 1)
  | 0, i => rfl
  | n + 1, i => by
    rw [hoF, hoF, hoF_sleep hb c n (i + 1), bsF_sleep hb c (by omega) (b_nd b) (Nat.le_refl _)]
    rfl
theorem bsF_ge {b : Bk} {t : Nat} {c : Nat → Int} {e : Nat} : ∀ n, e < n → max (b_gu b e) (c (8 + e) - 0) ≤ b_sk b t → min (b_sa b t) (min (b_wo b e) (c e + 0)) ≤ bsF b t c 0 n
  | 0, h, _ => absurd h (by omega)
  | n + 1, h, q => by
    rw [bsF]
    by_cases z : e = n
    · subst z; rw [if_pos q]; omega
    · have := bsF_ge n (by omega) q; split <;> omega
theorem spS_le {st : Int × Int} {v f M : Int} (h1 : st.1 ≤ M) (h2 : v ≤ M) : (spS st v f).1 ≤ M := by unfold spS; split <;> assumption
/-- no spree brings more than was hoped -/
theorem sp_ho {b : Bk} (hb : BkOk b) {t : Nat} (ht : t < b_nt b) : ∀ (n : Nat) (c : Nat → Int), Inv b c → rdy c t → (sp b t n c).1 ≤ hoF b t c n 0
  | 0, c, _, _ => by unfold sp hoF; simp only; omega
  | n + 1, c, hI, hr => by
    have k1 := hb.1
    have k2 := hb.2.1
    have i0 := sp_ho hb ht n _ (Inv_sleep hb hI) (rdy_sleep hb ht hr)
    have hh := hoF_sleep hb (t := t) c n 0
    have b0 := bsF_rng hb ht c 0 (b_nd b) (Nat.le_refl _)
    have h0 := hoF_rng hb ht c n 1
    have hF : ∀ (k x : Nat) (st : Int × Int), x + k = b_nd b → st.1 ≤ hoF b t c (n + 1) 0 → (foL (spF b t n c) k x st).1 ≤ hoF b t c (n + 1) 0 := by
      intro k
      induction k with
      | zero => intro x st _ h; exact h
      | succ k ih =>
        intro x st hx h
        rw [foL]
        refine ih (x + 1) _ (by omega) ?_
        unfold spF
        split
        · rename_i ho
          have hxd : x < b_nd b := by omega
          obtain ⟨j1, j2⟩ := Inv_en hb hI ht hxd hr ho
          have i1 := sp_ho hb ht n _ (Inv_sleep hb j2) (rdy_sleep hb ht (rdy_en hb ht hxd hr ho))
          have bo := bag_open hb ht hr ho
          have rx := hI.1 x hxd
          have rw1 := hb.2.2.1 x hxd
          have rs := hb.2.2.2.1 t ht
          have ho2 := ho
          unfold opnM at ho2
          rw [decide_eq_true_eq] at ho2
          have eb : bag b c t x = min (b_sa b t) (c x) := by unfold bag; rw [if_pos ⟨hr.1, hr.2, ho2⟩]
          have tt := take_t (b := b) (c := c) (t := t) (e := x) (by omega) (by omega) bo.1
          have gr := hI.2.2.1 t ht
          have jv : joyV (takeR b c t x) t ≤ bag b c t x := by unfold joyV; rw [tt.1, tt.2.2]; omega
          have g1 := bsF_ge (b := b) (t := t) (c := c) (e := x) (b_nd b) hxd (by omega)
          have m1 : hoF b t (sleepR b (enjoyR (takeR b c t x) t)) n 0 ≤ hoF b t (sleepR b c) n 0 := by
            refine hoF_mono (fun e he => ?_) n 0
            rw [sR_d _ he k1, sR_d _ he k1, sR_g _ he k1, sR_g _ he k1]
            have re := hI.1 e he
            unfold enjoyR takeR
            rw [if_pos bo.1]
            by_cases ee : e = x
            · subst ee; simp (disch := omega) only [ru_s, ru_n]; omega
            · simp (disch := omega) only [ru_s, ru_n]; omega
          refine spS_le h ?_
          rw [hoF]
          have : (((0 : Nat) : Int)) = 0 := rfl
          rw [this]
          rw [hh] at m1
          have : (0 : Nat) + 1 = 1 := rfl
          omega
        · exact h
    have e0 : sp b t (n + 1) c = spS (foL (spF b t n c) (b_nd b) 0 (-1, -1)) (0 + (sp b t n (sleepR b c)).1) (-1) := by rw [sp]
    rw [e0]
    refine spS_le (hF (b_nd b) 0 (-1, -1) (by omega) ?_) ?_
    · have := hoF_rng hb ht c (n + 1) 0; simp only; omega
    · rw [hoF]
      have : (((0 : Nat) : Int)) = 0 := rfl
      rw [this]
      rw [hh] at i0
      omega
/-- the rows of a night -/
def AR (nd : Nat) (m : sh_Mem) (i : Nat) (c : Nat → Int) : Prop := ∀ e, e < nd → m 19 (8 * i + e) = c e ∧ m 20 (8 * i + e) = c (8 + e)
/-- what the search has: skill, sack, nights -/
def SF (b : Bk) (t N : Nat) (m : sh_Mem) : Prop := m 18 2 = b_sk b t ∧ m 18 3 = b_sa b t ∧ m 18 4 = (N : Int)
section SPR
variable {g : sh_G} {B Y t N : Nat} {w : Wd}
theorem l_hope_28 {d n i : Nat} {s : Int} {c : Nat → Int} {m : sh_Mem} {Q : Option sh_V → sh_Mem → Prop} (hW : WOk w) (hB : obB B) (hc : CR B Y w m) (ht : t < b_nt (w_b w)) (hS : SF (w_b w) t N m) (hA : AR (b_nd (w_b w)) m i c) (hI : Inv (w_b w) c) (hi : i ≤ 5) (hn : n ≤ 5) (h : sh_X g (d + 1) m_Spr_hope 11 [(0, sh_r 18), (1, sh_r B), (2, sh_i (i : Int)), (3, sh_i ((8 * i : Nat) : Int)), (4, sh_i (s + bsF (w_b w) t c (n : Int) (b_nd (w_b w)))), (5, sh_i ((n + 1 : Nat) : Int))] [] m (sh_K m_Spr_hope Q)) : ∀ (k x : Nat), x + k = b_nd (w_b w) →
    sh_X g (d + 1) m_Spr_hope 28 [(0, sh_r 18), (1, sh_r B), (2, sh_i (i : Int)), (3, sh_i ((8 * i : Nat) : Int)), (4, sh_i s), (5, sh_i (n : Int)), (6, sh_i (bsF (w_b w) t c (n : Int) x)), (7, sh_i (x : Int))] [] m (sh_K m_Spr_hope Q) := by
  have k1 := hW.1.1
  intro k
  induction k with
  | zero =>
    intro x hx
    obtain rfl : x = b_nd (w_b w) := by omega
    apply v_Spr_hope_28 (obB_0 hB)
    rw [hc.2.1.2.1]
    exact ⟨fun _ => h, fun q => absurd (by omega) q⟩
  | succ k ih =>
    intro x hx
    have ih' := ih (x + 1) (by omega)
    have a := hA x (by omega)
    have cb := hc.2.1.2.2.2.1 x (by omega)
    have r1 := hI.1 x (by omega)
    have r2 := hW.1.2.2.1 x (by omega)
    have r3 := hW.1.2.2.2.1 t ht
    have r4 := bsF_rng hW.1 ht c (n : Int) x (by omega)
    have ix : (((8 * i : Nat) : Int) + (x : Int)).toNat = 8 * i + x := by omega
    rw [bsF] at ih'
    apply v_Spr_hope_28 (obB_0 hB)
    rw [hc.2.1.2.1, i3n (by omega), i3n (by omega), ix, a.1, a.2, cb.2.1, cb.2.2, hS.1, hS.2.1]
    rw [i3s (x := b_gu (w_b w) x) (by omega) (by omega), i3s (x := c (8 + x) - (n : Int)) (by omega) (by omega), i3s (x := c x + (n : Int)) (by omega) (by omega), i3s (x := b_wo (w_b w) x) (by omega) (by omega), i3s (x := b_sk (w_b w) t) (by omega) (by omega), i3s (x := b_sa (w_b w) t) (by omega) (by omega), i3s (x := bsF (w_b w) t c (n : Int) x) (by omega) (by omega)]
    have e1 : (if b_gu (w_b w) x < c (8 + x) - (n : Int) then c (8 + x) - (n : Int) else b_gu (w_b w) x) = max (b_gu (w_b w) x) (c (8 + x) - (n : Int)) := by split <;> omega
    have e2 : (if c x + (n : Int) < b_wo (w_b w) x then c x + (n : Int) else b_wo (w_b w) x) = min (b_wo (w_b w) x) (c x + (n : Int)) := by split <;> omega
    rw [e1, e2, i3s (x := max (b_gu (w_b w) x) (c (8 + x) - (n : Int))) (by omega) (by omega), i3s (x := min (b_wo (w_b w) x) (c x + (n : Int))) (by omega) (by omega)]
    have e3 : (if min (b_wo (w_b w) x) (c x + (n : Int)) < b_sa (w_b w) t then min (b_wo (w_b w) x) (c x + (n : Int)) else b_sa (w_b w) t) = min (b_sa (w_b w) t) (min (b_wo (w_b w) x) (c x + (n : Int))) := by split <;> omega
    rw [e3, i3s (x := min (b_sa (w_b w) t) (min (b_wo (w_b w) x) (c x + (n : Int)))) (by omega) (by omega)]
    have e4 : (if bsF (w_b w) t c (n : Int) x < min (b_sa (w_b w) t) (min (b_wo (w_b w) x) (c x + (n : Int))) then min (b_sa (w_b w) t) (min (b_wo (w_b w) x) (c x + (n : Int))) else bsF (w_b w) t c (n : Int) x) = max (bsF (w_b w) t c (n : Int) x) (min (b_sa (w_b w) t) (min (b_wo (w_b w) x) (c x + (n : Int)))) := by split <;> omega
    rw [e4]
    refine ⟨fun q => absurd q (by omega), fun _ => ⟨by omega, by omega, fun q => ?_, fun q => ⟨by omega, by omega, ?_⟩⟩⟩
    · rw [if_neg (by omega)] at ih'; exact ih'
    · rw [if_pos (by omega)] at ih'; exact ih'
theorem s_hope {d i n : Nat} {c : Nat → Int} {m : sh_Mem} {Q : Option sh_V → sh_Mem → Prop} (hW : WOk w) (hB : obB B) (hc : CR B Y w m) (ht : t < b_nt (w_b w)) (hS : SF (w_b w) t N m) (hA : AR (b_nd (w_b w)) m i c) (hI : Inv (w_b w) c) (hN : i + n = N) (hN5 : N ≤ 5) (h : Q (some (sh_i (hoF (w_b w) t c n 0))) m) : sh_Cal g (d + 1) m_Spr_hope [sh_r 18, sh_r B, sh_i (i : Int)] m Q := by
  have lp : ∀ (k x : Nat) (s : Int), x + k = n → s + hoF (w_b w) t c k x = hoF (w_b w) t c n 0 → sh_X g (d + 1) m_Spr_hope 11 [(0, sh_r 18), (1, sh_r B), (2, sh_i (i : Int)), (3, sh_i ((8 * i : Nat) : Int)), (4, sh_i s), (5, sh_i (x : Int))] [] m (sh_K m_Spr_hope Q) := by
    intro k
    induction k with
    | zero =>
      intro x s hx hs
      obtain rfl : x = n := by omega
      rw [hoF, Int.add_zero] at hs
      rw [← hs] at h
      apply v_Spr_hope_11 (obB_0 hB)
      rw [hS.2.2, i3s (x := (N : Int) - (i : Int)) (by omega) (by omega), i3n (by omega)]
      exact ⟨fun _ => h, fun q => absurd (by omega) q⟩
    | succ k ih =>
      intro x s hx hs
      rw [hoF] at hs
      apply v_Spr_hope_11 (obB_0 hB)
      rw [hS.2.2, i3s (x := (N : Int) - (i : Int)) (by omega) (by omega), i3n (by omega)]
      refine ⟨fun q => absurd q (by omega), fun _ => ?_⟩
      exact l_hope_28 hW hB hc ht hS hA hI (by omega) (by omega) (ih (x + 1) _ (by omega) (by omega)) (b_nd (w_b w)) 0 (by omega)
  apply v_Spr_hope (obB_0 hB)
  rw [show ((i : Int) * 8) = ((8 * i : Nat) : Int) by omega]
  exact lp n 0 0 (by omega) (by omega)
/-- a night goes by: x was robbed of v -/
theorem l_passNight {d i : Nat} {x v : Int} {c c' : Nat → Int} {mem : sh_Mem} {Q : Option sh_V → sh_Mem → Prop} (hW : WOk w) (hB : obB B) (hY : obY Y) (hc : CR B Y w mem) (hA : AR (b_nd (w_b w)) mem i c) (hI : Inv (w_b w) c) (hi : i ≤ 4) (hx : i3 x = x) (hv : ∀ e : Nat, e < b_nd (w_b w) → (e : Int) = x → 0 ≤ v ∧ v ≤ c e) (hc' : ∀ e : Nat, e < b_nd (w_b w) → c' e = min (b_wo (w_b w) e) ((if (e : Int) = x then c e - v else c e) + 1) ∧ c' (8 + e) = max (b_gu (w_b w) e) ((if (e : Int) = x then min 9 (c (8 + e) + 2) else c (8 + e)) - 1)) (h : ∀ m', (∀ a, a ≠ 19 → a ≠ 20 → m' a = mem a) → (∀ j, j < 8 * (i + 1) → m' 19 j = mem 19 j ∧ m' 20 j = mem 20 j) → AR (b_nd (w_b w)) m' (i + 1) c' → Q none m') : ∀ (k y : Nat) (m : sh_Mem), y + k = b_nd (w_b w) → (∀ a, a ≠ 19 → a ≠ 20 → m a = mem a) → (∀ j, j < 8 * (i + 1) → m 19 j = mem 19 j ∧ m 20 j = mem 20 j) → AR y m (i + 1) c' →
    sh_X g (d + 1) m_Spr_passNight 9 [(0, sh_r 18), (1, sh_r B), (2, sh_i ((8 * i : Nat) : Int)), (3, sh_i x), (4, sh_i v), (5, sh_i ((8 * i + 8 : Nat) : Int)), (6, sh_i (y : Int))] [] m (sh_K m_Spr_passNight Q) := by
  have k1 := hW.1.1
  have cs : ∀ m : sh_Mem, (∀ a, a ≠ 19 → a ≠ 20 → m a = mem a) → CR B Y w m := fun m q => CR_Cs hB hY hc ⟨fun a ha => q a (by unfold csc at ha; omega) (by unfold csc at ha; omega), by rw [q 8 (by decide) (by decide)]; exact hc.2.2.2.2.1.2.2.1⟩
  intro k
  induction k with
  | zero =>
    intro y m hy q1 q2 q3
    obtain rfl : y = b_nd (w_b w) := by omega
    have hcm := cs m q1
    apply v_Spr_passNight_9 (obB_0 hB)
    rw [hcm.2.1.2.1]
    exact ⟨fun _ => h m q1 q2 q3, fun q => absurd (by omega) q⟩
  | succ k ih =>
    intro y m hy q1 q2 q3
    have hcm := cs m q1
    have a := hA y (by omega)
    have a2 := q2 (8 * i + y) (by omega)
    have cb := hcm.2.1.2.2.2.1 y (by omega)
    have r1 := hI.1 y (by omega)
    have r2 := hW.1.2.2.1 y (by omega)
    have hcy := hc' y (by omega)
    have ix : (((8 * i + 8 : Nat) : Int) + (y : Int)).toNat = 8 * (i + 1) + y := by omega
    have fin : ∀ x7 x8 : Int, 0 ≤ x7 ∧ x7 ≤ 24 → b_gu (w_b w) y ≤ x8 ∧ x8 ≤ 9 → c' y = min (b_wo (w_b w) y) (x7 + 1) → c' (8 + y) = max (b_gu (w_b w) y) (x8 - 1) → sh_X g (d + 1) m_Spr_passNight 64 [(0, sh_r 18), (1, sh_r B), (2, sh_i ((8 * i : Nat) : Int)), (3, sh_i x), (4, sh_i v), (5, sh_i ((8 * i + 8 : Nat) : Int)), (6, sh_i (y : Int)), (7, sh_i x7), (8, sh_i x8)] [] m (sh_K m_Spr_passNight Q) := by
      intro x7 x8 h7 h8 e7 e8
      apply v_Spr_passNight_64 (obB_0 hB)
      rw [ix, cb.2.1, i3s (x := x7 + 1) (by omega) (by omega), i3s (x := b_wo (w_b w) y) (by omega) (by omega)]
      have e1 : (if x7 + 1 < b_wo (w_b w) y then x7 + 1 else b_wo (w_b w) y) = c' y := by rw [e7]; split <;> omega
      rw [e1]
      refine ⟨by omega, by omega, ?_⟩
      rintro _ rfl
      rw [ms_n _ _ (show B + 4 ≠ 19 by omega), cb.2.2]
      refine ⟨by omega, s_State_relaxed (by omega) (by omega) ⟨_, rfl, by omega, ?_⟩⟩
      have e2 : (if b_gu (w_b w) y < x8 then x8 - 1 else x8) = c' (8 + y) := by rw [e8]; split <;> omega
      rw [e2]
      rintro _ rfl
      refine ih (y + 1) _ (by omega) (fun a f1 f2 => by rw [ms_n _ _ f2, ms_n _ _ f1]; exact q1 a f1 f2) (fun j hj => ?_) (fun e he => ?_)
      · rw [ms_n _ _ (show (19 : Nat) ≠ 20 by decide), ms_s, ms_s, ms_n _ _ (show (20 : Nat) ≠ 19 by decide), ru_n _ _ (by omega), ru_n _ _ (by omega)]; exact q2 j hj
      · rw [ms_n _ _ (show (19 : Nat) ≠ 20 by decide), ms_s, ms_s, ms_n _ _ (show (20 : Nat) ≠ 19 by decide)]
        by_cases ee : e = y
        · subst ee; rw [ru_s, ru_s]; exact ⟨rfl, rfl⟩
        · rw [ru_n _ _ (by omega), ru_n _ _ (by omega)]; exact q3 e (by omega)
    apply v_Spr_passNight_9 (obB_0 hB)
    rw [hcm.2.1.2.1, i3n (by omega), i3n (by omega), a2.1, a2.2, a.1, a.2, hx, i3s (x := c (8 + y) + 2) (by omega) (by omega), show i3 9 = 9 from rfl]
    refine ⟨fun q => absurd q (by omega), fun _ => ⟨by omega, by omega, fun q => ?_, fun q => ?_⟩⟩
    · rw [if_neg q, if_neg q] at hcy
      exact fin _ _ (by omega) (by omega) hcy.1 hcy.2
    · rw [if_pos q, if_pos q] at hcy
      have hvy := hv y (by omega) q
      have e9 : (if c (8 + y) + 2 < 9 then c (8 + y) + 2 else (9 : Int)) = min 9 (c (8 + y) + 2) := by split <;> omega
      rw [e9]
      exact fin _ _ (by omega) (by omega) hcy.1 hcy.2
theorem s_passNight {d i : Nat} {x v : Int} {c c' : Nat → Int} {mem : sh_Mem} {Q : Option sh_V → sh_Mem → Prop} (hW : WOk w) (hB : obB B) (hY : obY Y) (hc : CR B Y w mem) (hA : AR (b_nd (w_b w)) mem i c) (hI : Inv (w_b w) c) (hi : i ≤ 4) (hx : i3 x = x) (hv : ∀ e : Nat, e < b_nd (w_b w) → (e : Int) = x → 0 ≤ v ∧ v ≤ c e) (hc' : ∀ e : Nat, e < b_nd (w_b w) → c' e = min (b_wo (w_b w) e) ((if (e : Int) = x then c e - v else c e) + 1) ∧ c' (8 + e) = max (b_gu (w_b w) e) ((if (e : Int) = x then min 9 (c (8 + e) + 2) else c (8 + e)) - 1)) (h : ∀ m', (∀ a, a ≠ 19 → a ≠ 20 → m' a = mem a) → (∀ j, j < 8 * (i + 1) → m' 19 j = mem 19 j ∧ m' 20 j = mem 20 j) → AR (b_nd (w_b w)) m' (i + 1) c' → Q none m') : sh_Cal g (d + 1) m_Spr_passNight [sh_r 18, sh_r B, sh_i ((8 * i : Nat) : Int), sh_i x, sh_i v] mem Q := by
  apply v_Spr_passNight (obB_0 hB)
  exact l_passNight hW hB hY hc hA hI hi hx hv hc' h (b_nd (w_b w)) 0 mem (by omega) (fun _ _ _ => rfl) (fun _ _ => ⟨rfl, rfl⟩) (fun e he => absurd he (by omega))
end SPR
