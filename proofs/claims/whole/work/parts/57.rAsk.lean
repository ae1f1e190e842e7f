/-! ===== the reference: which day to look at; a bargain at rest ===== -/
theorem bitsF_bitN (P : Nat → Bool) {n e : Nat} (h : n ≤ 8) (he : e < 8) : i_and (i_shr (bitsF P n) ((e : Nat) : Int)) 1 = if e < n ∧ P e = true then 1 else 0 := by
  have h2 : kB P % 2 ^ n < 256 := Nat.lt_of_le_of_lt (Nat.mod_le _ _) (kB_lt P)
  rw [bitsF_v P h, bit_k _ h2 e he, Nat.testBit_mod_two_pow, kB_bit P he]
  simp only [Bool.and_eq_true, decide_eq_true_eq]
/-- how many of them -/
def pcF (P : Nat → Bool) : Nat → Int
  | 0 => 0
  | n + 1 => pcF P n + (if P n = true then 1 else 0)
theorem pcF_rng (P : Nat → Bool) : ∀ n, 0 ≤ pcF P n ∧ pcF P n ≤ n
  | 0 => by unfold pcF; omega
  | n + 1 => by have := pcF_rng P n; unfold pcF; split <;> omega
theorem pcF_cong {P P' : Nat → Bool} : ∀ n, (∀ i, i < n → P i = P' i) → pcF P n = pcF P' n
  | 0, _ => rfl
  | n + 1, h => by rw [pcF, pcF, pcF_cong n (fun i hi => h i (by omega)), h n (by omega)]
theorem pcF_cut {P : Nat → Bool} {n : Nat} : ∀ m, n ≤ m → (∀ t, n ≤ t → t < m → P t = false) → pcF P m = pcF P n
  | 0, h, _ => by obtain rfl : n = 0 := by omega
                  rfl
  | m + 1, h, hp => by
    rcases Nat.lt_or_ge m n with q | q
    · obtain rfl : n = m + 1 := by omega
      rfl
    · rw [pcF, if_neg (by rw [hp m q (by omega)]; decide), Int.add_zero]
      exact pcF_cut m q (fun t h1 h2 => hp t h1 (by omega))
theorem l_Mod_bits {g : sh_G} {d n : Nat} {P : Nat → Bool} {m : sh_Mem} {Q : Option sh_V → sh_Mem → Prop} (hn : n ≤ 8) (h : Q (some (sh_i (pcF (fun e => decide (e < n) && P e) 8))) m) : ∀ (k x : Nat), x + k = 8 →
    sh_X g d m_Mod_bits 4 [(0, sh_i (bitsF P n)), (1, sh_i (pcF (fun e => decide (e < n) && P e) x)), (2, sh_i (x : Int))] [] m (sh_K m_Mod_bits Q) := by
  intro k
  induction k with
  | zero =>
    intro x hx
    obtain rfl : x = 8 := by omega
    apply v_Mod_bits_4
    exact ⟨fun _ => h, fun q => absurd (by decide) q⟩
  | succ k ih =>
    intro x hx
    have ih' := ih (x + 1) (by omega)
    rw [pcF] at ih'
    apply v_Mod_bits_4
    rw [i3n (by omega), bitsF_bitN P hn (by omega)]
    refine ⟨fun q => absurd q (by omega), fun _ => ?_⟩
    simp only [Bool.and_eq_true, decide_eq_true_eq] at ih'
    exact ih'
theorem s_Mod_bits {g : sh_G} {d : Nat} {mem : sh_Mem} {Q : Option sh_V → sh_Mem → Prop} {P : Nat → Bool} {n : Nat} (hn : n ≤ 8) (h : Q (some (sh_i (pcF P n))) (mem)) : sh_Cal g d m_Mod_bits [sh_i (bitsF P n)] mem Q := by
  apply v_Mod_bits
  refine l_Mod_bits hn ?_ 8 0 (by omega)
  rw [pcF_cut (n := n) 8 hn (fun t h1 h2 => by rw [decide_eq_false (by omega)]; rfl), pcF_cong n (fun i hi => by rw [decide_eq_true hi]; rfl) (P' := P)]
  exact h
def akS (many s : Int) (v : Nat) (q : Int × Int) : Int × Int := if max s (many - s) < q.1 then (max s (many - s), (v : Int)) else q
def ak1 (many : Int) (f : Nat → Int) (n : Nat) : Nat → Nat → Int × Int → Int × Int
  | 0, _, q => q
  | k + 1, e, q => ak1 many f n k (e + 1) (akS many (f e) (8 * n + e) q)
def ak2 (many : Int) (f : Nat → Nat → Int) (nd : Nat) : Nat → Nat → Int × Int → Int × Int
  | 0, _, q => q
  | k + 1, n, q => ak2 many f nd k (n + 1) (ak1 many (f n) n nd 0 q)
def soF (b : Bk) (c : Nat → Int) (P : Nat → Bool) (n e : Nat) : Int := pcF (fun t => P t && opF b c t n e) (b_nt b)
theorem akS_rng {many s : Int} {v : Nat} {q : Int × Int} (hs : 0 ≤ s ∧ s ≤ 8) (hq : 0 ≤ q.1 ∧ q.1 ≤ 8) : 0 ≤ (akS many s v q).1 ∧ (akS many s v q).1 ≤ 8 := by
  unfold akS; split
  · simp only; omega
  · exact hq
theorem ak1_rng {many : Int} {f : Nat → Int} {n : Nat} (hf : ∀ e, 0 ≤ f e ∧ f e ≤ 8) : ∀ (k e : Nat) (q : Int × Int), 0 ≤ q.1 ∧ q.1 ≤ 8 → 0 ≤ (ak1 many f n k e q).1 ∧ (ak1 many f n k e q).1 ≤ 8
  | 0, _, _, h => h
  | k + 1, e, q, h => ak1_rng hf k (e + 1) _ (akS_rng (hf e) h)
theorem soF_rng {b : Bk} (hb : BkOk b) (c : Nat → Int) (P : Nat → Bool) (n e : Nat) : 0 ≤ soF b c P n e ∧ soF b c P n e ≤ 4 := by
  have := pcF_rng (fun t => P t && opF b c t n e) (b_nt b)
  have := hb.2.1
  unfold soF; omega
theorem l_ask_50 {g : sh_G} {d n e : Nat} {b : Bk} {c : Nat → Int} {P : Nat → Bool} {many : Int} {q : Int × Int} {m : sh_Mem} {Q : Option sh_V → sh_Mem → Prop} (hb : MB m b) (ho : opR b c (m 138) 31) (hn : n ≤ 30) (he : e < b_nd b) (hm : 0 ≤ many ∧ many ≤ 8) (hq : 0 ≤ q.1 ∧ q.1 ≤ 8)
    (h : sh_X g (d + 1) m_Mod_ask 33 [(0, sh_r 96), (1, sh_i (bitsF P (b_nt b))), (2, sh_i many), (3, sh_i (akS many (soF b c P n e) (8 * n + e) q).1), (4, sh_i (akS many (soF b c P n e) (8 * n + e) q).2), (5, sh_i (n : Int)), (6, sh_i ((e + 1 : Nat) : Int))] [] m (sh_K m_Mod_ask Q)) : ∀ (k x : Nat), x + k = b_nt b →
    sh_X g (d + 1) m_Mod_ask 50 [(0, sh_r 96), (1, sh_i (bitsF P (b_nt b))), (2, sh_i many), (3, sh_i q.1), (4, sh_i q.2), (5, sh_i (n : Int)), (6, sh_i (e : Int)), (7, sh_i (pcF (fun t => P t && opF b c t n e) x)), (8, sh_i (x : Int))] [] m (sh_K m_Mod_ask Q) := by
  have k1 := hb.1.1
  have k2 := hb.1.2.1
  intro k
  induction k with
  | zero =>
    intro x hx
    obtain rfl : x = b_nt b := by omega
    have hs := soF_rng hb.1 c P n e
    unfold soF at hs h
    apply v_Mod_ask_50
    rw [hb.2.2.1, i3n (by omega)]
    refine ⟨fun _ => ?_, fun z => absurd (by omega) z⟩
    generalize pcF (fun t => P t && opF b c t n e) (b_nt b) = s at hs h ⊢
    rw [i3s (x := s) (by omega) (by omega), i3s (x := many - s) (by omega) (by omega)]
    have e1 : (if s < many - s then many - s else s) = max s (many - s) := by split <;> omega
    rw [e1, i3s (x := max s (many - s)) (by omega) (by omega), i3s (x := q.1) (by omega) (by omega)]
    refine ⟨fun z => ?_, fun z => ?_⟩
    · have e2 : akS many s (8 * n + e) q = (max s (many - s), ((8 * n + e : Nat) : Int)) := by unfold akS; rw [if_pos z]
      rw [e2] at h; exact h
    · have e2 : akS many s (8 * n + e) q = q := by unfold akS; rw [if_neg z]
      rw [e2] at h; exact h
  | succ k ih =>
    intro x hx
    have ih' := ih (x + 1) (by omega)
    rw [pcF] at ih'
    apply v_Mod_ask_50
    rw [hb.2.2.1, i3n (by omega), i3n (by omega), bitsF_bit P (by omega) (by omega), ho n x (by omega) (by omega), bitsF_bit _ k1 he]
    refine ⟨fun z => absurd z (by omega), fun _ => ⟨fun z => ?_, fun z => ⟨by omega, fun z2 => ?_, fun z2 => ?_⟩⟩⟩
    · have p : ¬ (P x && opF b c x n e) = true := by
        intro y; rw [Bool.and_eq_true] at y; rw [if_pos y.1] at z; exact z rfl
      rw [if_neg p] at ih'; exact ih'
    · have p : ¬ (P x && opF b c x n e) = true := by
        intro y; rw [Bool.and_eq_true] at y; rw [if_pos y.2] at z2; exact z2 rfl
      rw [if_neg p] at ih'; exact ih'
    · have p : (P x && opF b c x n e) = true := by
        rw [Bool.and_eq_true]
        refine ⟨?_, ?_⟩
        · by_cases y : P x = true
          · exact y
          · rw [if_neg y] at z; exact absurd z (by decide)
        · by_cases y : opF b c x n e = true
          · exact y
          · rw [if_neg y] at z2; exact absurd z2 (by decide)
      rw [if_pos p] at ih'; exact ih'
theorem l_ask_33 {g : sh_G} {d n : Nat} {b : Bk} {c : Nat → Int} {P : Nat → Bool} {many : Int} {m : sh_Mem} {Q : Option sh_V → sh_Mem → Prop} (hb : MB m b) (ho : opR b c (m 138) 31) (hn : n ≤ 30) (hm : 0 ≤ many ∧ many ≤ 8) : ∀ (k x : Nat) (q : Int × Int), x + k = b_nd b → 0 ≤ q.1 ∧ q.1 ≤ 8 →
    sh_X g (d + 1) m_Mod_ask 23 [(0, sh_r 96), (1, sh_i (bitsF P (b_nt b))), (2, sh_i many), (3, sh_i (ak1 many (soF b c P n) n k x q).1), (4, sh_i (ak1 many (soF b c P n) n k x q).2), (5, sh_i ((n + 1 : Nat) : Int))] [] m (sh_K m_Mod_ask Q) →
    sh_X g (d + 1) m_Mod_ask 33 [(0, sh_r 96), (1, sh_i (bitsF P (b_nt b))), (2, sh_i many), (3, sh_i q.1), (4, sh_i q.2), (5, sh_i (n : Int)), (6, sh_i (x : Int))] [] m (sh_K m_Mod_ask Q) := by
  have k1 := hb.1.1
  intro k
  induction k with
  | zero =>
    intro x q hx hq h
    obtain rfl : x = b_nd b := by omega
    apply v_Mod_ask_33
    rw [hb.2.1]
    exact ⟨fun _ => h, fun z => absurd (by omega) z⟩
  | succ k ih =>
    intro x q hx hq h
    have hs := soF_rng hb.1 c P n x
    rw [ak1] at h
    have ih' := ih (x + 1) _ (by omega) (akS_rng (v := 8 * n + x) ⟨hs.1, by omega⟩ hq) h
    apply v_Mod_ask_33
    rw [hb.2.1, i3n (by omega), i3n (by omega)]
    refine ⟨fun z => absurd z (by omega), fun _ => ?_⟩
    exact l_ask_50 hb ho hn (by omega) hm hq ih' (b_nt b) 0 (by omega)
theorem l_ask_23 {g : sh_G} {d : Nat} {b : Bk} {c : Nat → Int} {P : Nat → Bool} {many : Int} {m : sh_Mem} {Q : Option sh_V → sh_Mem → Prop} (hb : MB m b) (ho : opR b c (m 138) 31) (hm : 0 ≤ many ∧ many ≤ 8) : ∀ (k x : Nat) (q : Int × Int), x + k = 31 → 0 ≤ q.1 ∧ q.1 ≤ 8 → Q (some (sh_i (ak2 many (soF b c P) (b_nd b) k x q).2)) m →
    sh_X g (d + 1) m_Mod_ask 23 [(0, sh_r 96), (1, sh_i (bitsF P (b_nt b))), (2, sh_i many), (3, sh_i q.1), (4, sh_i q.2), (5, sh_i (x : Int))] [] m (sh_K m_Mod_ask Q) := by
  intro k
  induction k with
  | zero =>
    intro x q hx hq h
    obtain rfl : x = 31 := by omega
    apply v_Mod_ask_23
    exact ⟨fun _ => h, fun z => absurd (by decide) z⟩
  | succ k ih =>
    intro x q hx hq h
    rw [ak2] at h
    have h8 : ∀ e, 0 ≤ soF b c P x e ∧ soF b c P x e ≤ 8 := fun e => by have := soF_rng hb.1 c P x e; omega
    apply v_Mod_ask_23
    rw [i3n (by omega)]
    refine ⟨fun z => absurd z (by omega), fun _ => ?_⟩
    exact l_ask_33 hb ho (by omega) hm (b_nd b) 0 q (by omega) hq (ih (x + 1) _ (by omega) (ak1_rng h8 _ _ _ hq) h)
abbrev asP (w : Wd) : Nat → Bool := fun t => asF (w_b w) (w_c w) (w_s w) t (w_s w).1 0
def q_ask (w : Wd) : Int := (ak2 (pcF (asP w) (b_nt (w_b w))) (soF (w_b w) (w_c w) (asP w)) (b_nd (w_b w)) 31 0 (pcF (asP w) (b_nt (w_b w)), -1)).2
theorem r_ask {g : sh_G} {d : Nat} {w : Wd} {mem : sh_Mem} {Q : Option sh_V → sh_Mem → Prop} (hW : WOk w) (h : RRel w mem) (hQ : ∀ m', RPost w mem m' → Q (some (sh_i (q_ask w))) m') : sh_Cal g (d + 5) m_Mod_ask [sh_r 96] mem Q := by
  have p0 := RPost_0 h
  have k2 := hW.1.2.1
  have hp := pcF_rng (asP w) (b_nt (w_b w))
  apply v_Mod_ask
  rintro _ rfl
  refine r_who hW p0.1 (fun m' hp1 ho => ⟨_, rfl, ?_⟩)
  unfold whoF
  refine s_Mod_bits (P := asP w) (by omega) ⟨_, rfl, ?_⟩
  exact l_ask_23 (P := asP w) hp1.1.1 ho (by omega) 31 0 (_, -1) (by omega) (by simp only; omega) (hQ _ ⟨hp1.1, hp1.2.1, Lo_tr p0.2.2 hp1.2.2⟩)
/-! a bargain at rest -/
def RThr (w : Wd) (m m' : sh_Mem) (th : Int) : Prop := RRel w m' ∧ m' 96 0 = th ∧ Lo m m' ∧ m' 139 = m 139
theorem RThr_0 {w : Wd} {m m1 : sh_Mem} (h : RRel w m1) (hl : Lo m m1) (ho : m1 139 = m 139) (x : Int) : RThr w m (ms m1 96 (ru (m1 96) 0 x)) x := ⟨RRel_0 h x, by rw [ms_s, ru_s], Lo_ms hl (by omega) _, by rw [ms_n _ _ (by decide)]; exact ho⟩
def gtF (lo te no mine his : Int) : Int := if mine = 1 then (if his = 1 then -lo else te) else (if his = 1 then no else 0)
def okR (lo te no : Int) (x : Nat) : Bool := decide (gtF lo te no (1 - ((x / 2 : Nat) : Int)) ((x % 2 : Nat) : Int) ≤ gtF lo te no ((x / 2 : Nat) : Int) ((x % 2 : Nat) : Int) ∧ gtF lo te no (1 - ((x % 2 : Nat) : Int)) ((x / 2 : Nat) : Int) ≤ gtF lo te no ((x % 2 : Nat) : Int) ((x / 2 : Nat) : Int))
def rsL (ok : Nat → Bool) (what : Int) : Nat → Nat → Nat → Option Int
  | 0, _, n => if what = -1 then some (n : Int) else none
  | k + 1, x, n => if ok x = true then (if (n : Int) = what then some (x : Int) else rsL ok what k (x + 1) (n + 1)) else rsL ok what k (x + 1) n
abbrev cRs (lo te no : Int) : Prop := (0 ≤ lo ∧ lo ≤ 9) ∧ (0 ≤ te ∧ te ≤ 9) ∧ (0 ≤ no ∧ no ≤ 9)
def q_rests (lo te no what : Int) : Option Int := if cRs lo te no then rsL (okR lo te no) what 4 0 0 else none
theorem rsL_lo (ok : Nat → Bool) {what : Int} (h : what < -1) : ∀ k x n, rsL ok what k x n = none
  | 0, x, n => by rw [rsL, if_neg (by omega)]
  | k + 1, x, n => by rw [rsL, if_neg (show ¬ (n : Int) = what by omega), rsL_lo ok h k, rsL_lo ok h k]; split <;> rfl
theorem dr4 : ∀ x, x < 4 → i_div ((x : Nat) : Int) 2 = ((x / 2 : Nat) : Int) ∧ i_rem ((x : Nat) : Int) 2 = ((x % 2 : Nat) : Int) := by decide +kernel
theorem gtF_rng {lo te no : Int} (h : cRs lo te no) (mine his : Int) : -9 ≤ gtF lo te no mine his ∧ gtF lo te no mine his ≤ 9 := by
  unfold gtF; split <;> split <;> omega
theorem s_Mod_getsBy {g : sh_G} {d : Nat} {mem : sh_Mem} {Q : Option sh_V → sh_Mem → Prop} {lo te no mine his : Int} (h1 : i3 mine = mine) (h2 : i3 his = his) (h : Q (some (sh_i (gtF lo te no mine his))) (mem)) : sh_Cal g d m_Mod_getsBy [sh_i lo, sh_i te, sh_i no, sh_i mine, sh_i his] mem Q := by
  apply v_Mod_getsBy
  rw [h1, h2]
  unfold gtF at h
  refine ⟨fun q => ⟨fun q2 => ?_, fun q2 => ?_⟩, fun q => ⟨fun q2 => ?_, fun q2 => ?_⟩⟩
  · rw [if_neg q, if_neg q2] at h; exact h
  · rw [if_neg q, if_pos q2] at h; exact h
  · rw [if_pos q, if_neg q2] at h; exact h
  · rw [if_pos q, if_pos q2] at h; exact h
theorem l_rests_61 {g : sh_G} {d : Nat} {lo te no what : Int} {w : Wd} {mem m : sh_Mem} {Q : Option sh_V → sh_Mem → Prop} (hc : cRs lo te no) (hw : i3 what = what) (p : RPost w mem m) (po : m 139 = mem 139) : ∀ (k x n : Nat), x + k = 4 → n ≤ x → (∀ m' v, RThr w mem m' (if (rsL (okR lo te no) what k x n).isSome = true then 0 else 1) → (∀ y, rsL (okR lo te no) what k x n = some y → v = y) → Q (some (sh_i v)) m') →
    sh_X g (d + 1) m_Mod_rests 61 [(0, sh_r 96), (1, sh_i lo), (2, sh_i te), (3, sh_i no), (4, sh_i what), (5, sh_i (n : Int)), (6, sh_i (x : Int))] [] m (sh_K m_Mod_rests Q) := by
  intro k
  induction k with
  | zero =>
    intro x n hx hn h
    obtain rfl : x = 4 := by omega
    apply v_Mod_rests_61
    rw [hw]
    refine ⟨fun _ => ⟨fun q => ?_, fun q => ?_⟩, fun q => absurd (by decide) q⟩
    · rintro _ rfl
      rw [rsL, if_neg q] at h
      exact ⟨fun _ => h _ 0 (RThr_0 p.1 p.2.2 po 1) (fun y hy => by cases hy), fun q2 => absurd q2 q⟩
    · rintro _ rfl
      rw [rsL, if_pos q] at h
      exact ⟨fun q2 => absurd q q2, fun _ => h _ n (RThr_0 p.1 p.2.2 po 0) (fun y hy => by cases hy; rfl)⟩
  | succ k ih =>
    intro x n hx hn h
    obtain ⟨e1, e2⟩ := dr4 x (by omega)
    have ha : x / 2 ≤ 1 := by omega
    have hb : x % 2 ≤ 1 := by omega
    rw [rsL] at h
    apply v_Mod_rests_61
    rw [e1, e2, i3n (by omega), i3n (by omega), hw]
    have r1 := gtF_rng hc (1 - ((x / 2 : Nat) : Int)) ((x % 2 : Nat) : Int)
    have r2 := gtF_rng hc ((x / 2 : Nat) : Int) ((x % 2 : Nat) : Int)
    have r3 := gtF_rng hc (1 - ((x % 2 : Nat) : Int)) ((x / 2 : Nat) : Int)
    have r4 := gtF_rng hc ((x % 2 : Nat) : Int) ((x / 2 : Nat) : Int)
    refine ⟨fun q => absurd q (by omega), fun _ => ?_⟩
    refine s_Mod_getsBy (i3s (by omega) (by omega)) (i3s (by omega) (by omega)) ⟨_, rfl, ?_⟩
    refine s_Mod_getsBy (i3s (by omega) (by omega)) (i3s (by omega) (by omega)) ⟨_, rfl, ?_⟩
    rw [i3s (x := gtF lo te no ((x / 2 : Nat) : Int) ((x % 2 : Nat) : Int)) (by omega) (by omega), i3s (x := gtF lo te no (1 - ((x / 2 : Nat) : Int)) ((x % 2 : Nat) : Int)) (by omega) (by omega)]
    refine ⟨fun q => ?_, fun q => ?_⟩
    · have p1 : ¬ okR lo te no x = true := by unfold okR; rw [decide_eq_true_eq]; omega
      simp only [if_neg p1] at h
      exact ih (x + 1) n (by omega) (by omega) h
    · refine s_Mod_getsBy (i3s (by omega) (by omega)) (i3s (by omega) (by omega)) ⟨_, rfl, ?_⟩
      refine s_Mod_getsBy (i3s (by omega) (by omega)) (i3s (by omega) (by omega)) ⟨_, rfl, ?_⟩
      rw [i3s (x := gtF lo te no ((x % 2 : Nat) : Int) ((x / 2 : Nat) : Int)) (by omega) (by omega), i3s (x := gtF lo te no (1 - ((x % 2 : Nat) : Int)) ((x / 2 : Nat) : Int)) (by omega) (by omega)]
      refine ⟨fun q2 => ?_, fun q2 => ?_⟩
      · have p1 : okR lo te no x = true := by unfold okR; rw [decide_eq_true_eq]; omega
        simp only [if_pos p1] at h
        refine ⟨fun q3 => ?_, fun q3 => ?_⟩
        · simp only [if_neg q3] at h
          exact ih (x + 1) (n + 1) (by omega) (by omega) h
        · simp only [if_pos q3] at h
          exact h _ x ⟨p.1, p.2.1, p.2.2, po⟩ (fun y hy => by cases hy; rfl)
      · have p1 : ¬ okR lo te no x = true := by unfold okR; rw [decide_eq_true_eq]; omega
        simp only [if_neg p1] at h
        exact ih (x + 1) n (by omega) (by omega) h
theorem r_rests {g : sh_G} {d : Nat} {w : Wd} {mem : sh_Mem} {lo te no what : Int} {Q : Option sh_V → sh_Mem → Prop} (h : RRel w mem) (h1 : i3 lo = lo) (h2 : i3 te = te) (h3 : i3 no = no) (hw : i3 what = what) (hQ : ∀ m' v, RThr w mem m' (if (q_rests lo te no what).isSome = true then 0 else 1) → (∀ y, q_rests lo te no what = some y → v = y) → Q (some (sh_i v)) m') : sh_Cal g (d + 1) m_Mod_rests [sh_r 96, sh_i lo, sh_i te, sh_i no, sh_i what] mem Q := by
  have bad : q_rests lo te no what = none → sh_X g (d + 1) m_Mod_rests 41 [(0, sh_r 96), (1, sh_i lo), (2, sh_i te), (3, sh_i no), (4, sh_i what)] [sh_r 96] mem (sh_K m_Mod_rests Q) := by
    intro q
    rw [q] at hQ
    apply v_Mod_rests_41
    rintro _ rfl
    rw [ms_s, ru_s]
    exact ⟨fun z => absurd rfl z, fun _ => hQ _ 0 (RThr_0 h (Lo_rf mem) rfl 1) (fun y hy => by cases hy)⟩
  apply v_Mod_rests
  refine wi_then h1 rfl rfl (fun q => bad (by unfold q_rests; rw [if_neg (fun z => q z.1)])) (fun q1 => ?_)
  refine wi_then h2 rfl rfl (fun q => bad (by unfold q_rests; rw [if_neg (fun z => q z.2.1)])) (fun q2 => ?_)
  refine wi_then h3 rfl rfl (fun q => bad (by unfold q_rests; rw [if_neg (fun z => q z.2.2)])) (fun q3 => ?_)
  have hc : cRs lo te no := ⟨q1, q2, q3⟩
  rw [hw]
  refine ⟨fun q => bad (by unfold q_rests; rw [if_pos hc, rsL_lo _ q]), fun q => ?_⟩
  rintro _ rfl
  rw [ms_s, ru_s]
  refine ⟨fun _ => ?_, fun z => absurd z (by decide)⟩
  refine l_rests_61 hc hw (RPost_0 h) (ms_n _ _ (by decide)) 4 0 0 (by omega) (by omega) ?_
  unfold q_rests at hQ
  rw [if_pos hc] at hQ
  exact hQ
