/-! ===== a year judged ===== -/
def jC (b : Bk) (y : Se) (c : Nat → Int) (x : Nat) : Nat → Int := (dnF b c (y.2.1 x) (y.2.2.1 x).toNat (y.2.2.2 x).toNat).getD c
def jdF (b : Bk) (y : Se) : Nat → Nat → (Nat → Int) → Int → Int → (Nat → Int) × Int × Int
  | 0, _, c, p, q => (c, p, q)
  | n + 1, x, c, p, q => jdF b y n (x + 1) (jC b y c x)
      (if (dnF b c (y.2.1 x) (y.2.2.1 x).toNat (y.2.2.2 x).toNat).isSome = true then p else if 0 ≤ p then p else (x : Int))
      (if bitsF (fun t => decide (0 < jC b y c x (28 + t))) 4 = 0 then q else if 0 ≤ q then q else (x : Int))
theorem Inv_jC {b : Bk} {y : Se} {c : Nat → Int} {x : Nat} (hb : BkOk b) (hI : Inv b c) (hy : YeOk b y) (hx : x < y.1) : Inv b (jC b y c x) := by
  obtain ⟨a, e, h1, h2, h3⟩ := hy.2 x hx
  unfold jC
  rw [h1, h2, Int.toNat_natCast, Int.toNat_natCast]
  cases hd : dnF b c (y.2.1 x) a e with
  | none => exact hI
  | some c' => exact Inv_dn hb hI h3 hd
theorem l_judged {g : sh_G} {d : Nat} {b : Bk} {y : Se} {c0 : Nat → Int} {what : Int} {mem : sh_Mem} {Q : Option sh_V → sh_Mem → Prop} (hwh : i3 what = what) (hb : MB mem b) (hl : ML mem b) (hy : YeOk b y) (hcol : Col (mem 121 0) (mem 122) (mem 123) (mem 124) 0 y) : ∀ (k x : Nat) (m : sh_Mem) (c : Nat → Int) (p q : Int), x + k = y.1 → Sr mem m → EQ (m 129) c → Inv b c → EQ (m 130) c0 → -1 ≤ p ∧ p ≤ 40 → -1 ≤ q ∧ q ≤ 40 →
    (∀ m', Sr mem m' → EQ (m' 129) c0 → Q (some (sh_i (if what = 0 then (jdF b y k x c p q).2.1 else if what = 1 then (jdF b y k x c p q).2.2 else sumF (jdF b y k x c p q).1 40 4))) m') →
    sh_X g (d + 6) m_Mod_judged 41 [(0, sh_r 96), (1, sh_i what), (2, sh_i p), (3, sh_i q), (4, sh_i (x : Int))] [] m (sh_K m_Mod_judged Q) := by
  have hy40 := hy.1
  intro k
  induction k with
  | zero =>
    intro x m c p q hx hs h1 hI h2 hp hq h
    obtain rfl : x = y.1 := by omega
    apply v_Mod_judged_41
    rw [hs.1 121 (by decide), hcol.1, hwh]
    refine ⟨fun _ => ?_, fun z => absurd (by omega) z⟩
    rw [show (41 : Int) = ((41 : Nat) : Int) from rfl, show (4 : Int) = ((4 : Nat) : Int) from rfl]
    refine s_Mod_sumOf (by omega) ⟨_, rfl, ?_⟩
    rw [sumF_cong (c := c) (a' := 40) 4 (fun i hi => (h1.2.2 i hi).2.2.2.2.2.2)]
    refine s_Mod_copies (a := 0) (b := 0) (A := 130) (B := 129) (n := 45) (n2 := 45) rfl rfl (by decide) (by omega) (by omega) ⟨rfl, ?_⟩
    have hh := h _ (Sr_ms hs (a := 129) (by decide) (by decide) (cpy (m 130) (m 129) 0 0 45)) (by rw [ms_s]; exact EQ_cp h2)
    rw [jdF] at hh
    refine ⟨fun z => ⟨fun z2 => ?_, fun z2 => ?_⟩, fun z => ?_⟩
    · rw [if_neg z, if_neg z2] at hh; exact hh
    · rw [if_neg z, if_pos z2] at hh; exact hh
    · rw [if_pos z] at hh; exact hh
  | succ k ih =>
    intro x m c p q hx hs h1 hI h2 hp hq h
    obtain ⟨a, e, y1, y2, y3⟩ := hy.2 x (by omega)
    have hcx := hcol.2 x (by omega)
    rw [Nat.zero_add] at hcx
    have hI' := Inv_jC hb.1 hI hy (show x < y.1 by omega)
    apply v_Mod_judged_41
    rw [hs.1 121 (by decide), hcol.1, i3n (by omega), i3n (by omega), i3s (x := p) (by omega) (by omega)]
    refine ⟨fun z => absurd z (by omega), fun _ => ?_⟩
    refine s_Mod_isDone (d := d) (kk := x) (a := a) (x := e) (w := y.2.1 x) (b := b) (c := c) (by omega) (by rw [hs.1 122 (by decide)]; exact hcx.1) (by rw [hs.1 123 (by decide), hcx.2.1]; exact y1) (by rw [hs.1 124 (by decide), hcx.2.2]; exact y2) y3 h1 hI (MB_Sr hs hb) (ML_Sr hs hl) (fun m2 hs2 he2 h130 => ⟨_, rfl, ?_⟩)
    have eC : (dnF b c (y.2.1 x) a e).getD c = jC b y c x := by unfold jC; rw [y1, y2, Int.toNat_natCast, Int.toNat_natCast]
    rw [eC] at he2
    rw [jdF, y1, y2, Int.toNat_natCast, Int.toNat_natCast] at h
    have hs3 := Sr_tr hs hs2
    have go : ∀ p' : Int, -1 ≤ p' ∧ p' ≤ 40 → p' = (if (dnF b c (y.2.1 x) a e).isSome = true then p else if 0 ≤ p then p else (x : Int)) → sh_X g (d + 6) m_Mod_judged 68 [(0, sh_r 96), (1, sh_i what), (2, sh_i p'), (3, sh_i q), (4, sh_i (x : Int))] [] m2 (sh_K m_Mod_judged Q) := by
      intro p' hp' ep
      rw [← ep] at h
      apply v_Mod_judged_68
      refine s_Mod_caughtOnes he2 hI' (MB_Sr hs3 hb) ⟨_, rfl, ?_⟩
      rw [bitsF_i3, i3s (x := q) (by omega) (by omega), show ((x : Int) + 1) = ((x + 1 : Nat) : Int) by omega]
      refine ⟨fun z => ?_, fun z => ⟨fun z2 => ?_, fun z2 => ?_⟩⟩
      · rw [if_pos z] at h
        exact ih (x + 1) m2 _ p' q (by omega) hs3 he2 hI' (by rw [h130]; exact h2) hp' hq h
      · rw [if_neg z, if_pos z2] at h
        exact ih (x + 1) m2 _ p' q (by omega) hs3 he2 hI' (by rw [h130]; exact h2) hp' hq h
      · rw [if_neg z, if_neg z2] at h
        exact ih (x + 1) m2 _ p' x (by omega) hs3 he2 hI' (by rw [h130]; exact h2) hp' (by omega) h
    rw [i3_01]
    by_cases z : (dnF b c (y.2.1 x) a e).isSome = true
    · rw [if_pos z]
      exact ⟨fun _ => go p hp (by rw [if_pos z]), fun z2 => absurd z2 (by decide)⟩
    · rw [if_neg z]
      refine ⟨fun z2 => absurd rfl z2, fun _ => ⟨fun z2 => go p hp (by rw [if_neg z, if_pos z2]), fun z2 => go x (by omega) (by rw [if_neg z, if_neg z2])⟩⟩
def q_judged (w : Wd) (k : Int) : Int := if 0 ≤ k ∧ k ≤ 2 then (if k = 0 then (jdF (w_b w) (w_y w) (w_y w).1 0 (freshR (w_b w)) (-1) (-1)).2.1 else if k = 1 then (jdF (w_b w) (w_y w) (w_y w).1 0 (freshR (w_b w)) (-1) (-1)).2.2 else sumF (jdF (w_b w) (w_y w) (w_y w).1 0 (freshR (w_b w)) (-1) (-1)).1 40 4) else -2
theorem r_judged {g : sh_G} {d : Nat} {w : Wd} {mem : sh_Mem} {k : Int} {Q : Option sh_V → sh_Mem → Prop} (hW : WOk w) (h : RRel w mem) (hk : i3 k = k) (hQ : ∀ m', RPost w mem m' → Q (some (sh_i (q_judged w k))) m') : sh_Cal g (d + 6) m_Mod_judged [sh_r 96, sh_i k] mem Q := by
  have p0 := RPost_0 h
  have hE := p0.1.2.2.2.2.1
  unfold q_judged at hQ
  apply v_Mod_judged
  rintro _ rfl
  refine wi_then' hk rfl rfl (fun q => ?_) (fun q => ?_)
  · rw [if_neg q] at hQ; exact hQ _ p0
  · rw [if_pos q] at hQ
    refine s_Mod_copies (a := 0) (b := 0) (A := 129) (B := 130) (n := 45) (n2 := 45) rfl rfl (by decide) (by omega) (by omega) ⟨rfl, ?_⟩
    have s1 : Sr (ms mem 96 (ru (mem 96) 0 0)) (ms (ms mem 96 (ru (mem 96) 0 0)) 130 (cpy ((ms mem 96 (ru (mem 96) 0 0)) 129) ((ms mem 96 (ru (mem 96) 0 0)) 130) 0 0 45)) := Sr_ms (Sr_rf _) (by decide) (by decide) _
    refine s_Mod_fresh0 (b := w_b w) (MB_Sr s1 p0.1.1) (fun r hr => ⟨rfl, ?_⟩)
    refine l_judged (b := w_b w) (y := w_y w) (c0 := w_c w) hk p0.1.1 p0.1.2.1 hW.2.2.2.2.1 p0.1.2.2.2.2.2.2.1 (w_y w).1 0 _ (freshR (w_b w)) (-1) (-1) (by omega) (Sr_ms s1 (by decide) (by decide) _) (by rw [ms_s]; exact hr) (Inv_fresh hW.1) (by rw [ms_n _ _ (by decide), ms_s]; exact EQ_cp hE) (by omega) (by omega) (fun m' hs he => hQ _ (RPost_sr p0 hs he))
