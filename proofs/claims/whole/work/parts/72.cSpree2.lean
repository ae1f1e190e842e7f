/-! ===== the class: the best spree, the search ===== -/
abbrev nxE (b : Bk) (c : Nat → Int) (t e : Nat) : Nat → Int := sleepR b (enjoyR (takeR b c t e) t)
def spG (b : Bk) (t n : Nat) (c : Nat → Int) (joy : Int) (i : Nat) (fd : Int) : Nat → Int × Int → Int × Int := fun e st => if opnM b c t e = true then spS st (joy + joyV (takeR b c t e) t + (sp b t n (nxE b c t e)).1) (if i = 0 then (e : Int) else fd) else st
def puS (st : Int × Int) (joy M fd : Int) : Int × Int := if M < 0 then st else spS st (joy + M) fd
theorem puS_s {st : Int × Int} {joy M fd v f0 e : Int} (hv : 0 ≤ v) : spS (puS st joy M fd) (joy + v) fd = puS st joy (spS (M, f0) v e).1 fd := by
  unfold puS
  by_cases h : M < 0
  · have e1 : spS (M, f0) v e = (v, e) := by unfold spS; rw [if_pos (show (M, f0).1 < v by simp only; omega)]
    rw [if_pos h, e1, if_neg (by simp only; omega)]
  · rw [if_neg h]
    by_cases h2 : M < v
    · have e1 : spS (M, f0) v e = (v, e) := by unfold spS; rw [if_pos (show (M, f0).1 < v by simp only; omega)]
      rw [e1, if_neg (by simp only; omega)]
      unfold spS
      by_cases h3 : st.1 < joy + M
      · rw [if_pos h3, if_pos (by simp only; omega), if_pos (by omega)]
      · rw [if_neg h3]
    · have e1 : spS (M, f0) v e = (M, f0) := by unfold spS; rw [if_neg (show ¬ (M, f0).1 < v by simp only; omega)]
      rw [e1, if_neg h]
      unfold spS
      by_cases h3 : st.1 < joy + M
      · rw [if_pos h3, if_neg (by simp only; omega)]
      · rw [if_neg h3, if_neg (by omega)]
theorem fold_in {b : Bk} (hb : BkOk b) {t : Nat} (ht : t < b_nt b) {n i : Nat} {c : Nat → Int} (hI : Inv b c) (hr : rdy c t) {joy fd : Int} {st : Int × Int} (hi : i ≠ 0) : ∀ (k x : Nat) (q : Int × Int), x + k = b_nd b → foL (spG b t n c joy i fd) k x (puS st joy q.1 fd) = puS st joy (foL (spF b t n c) k x q).1 fd
  | 0, x, q, _ => rfl
  | k + 1, x, q, hx => by
    have ih := fold_in hb ht hI hr (joy := joy) (fd := fd) (st := st) (n := n) hi k (x + 1)
    rw [foL, foL]
    by_cases ho : opnM b c t x = true
    · have hxd : x < b_nd b := by omega
      obtain ⟨j1, j2⟩ := Inv_en hb hI ht hxd hr ho
      have i1 : 0 ≤ (sp b t n (nxE b c t x)).1 := (sp_rng hb ht n _ (Inv_sleep hb j2) (rdy_sleep hb ht (rdy_en hb ht hxd hr ho))).1
      have i2 := (joyV_rng j1 ht).1
      have eG : spG b t n c joy i fd x (puS st joy q.1 fd) = puS st joy (spF b t n c x q).1 fd := by
        unfold spG spF
        rw [if_pos ho, if_pos ho, if_neg hi, Int.add_assoc]
        exact puS_s (f0 := q.2) (by omega)
      rw [eG]; exact ih _ (by omega)
    · have eG : spG b t n c joy i fd x (puS st joy q.1 fd) = puS st joy q.1 fd := by unfold spG; rw [if_neg ho]
      have eF : spF b t n c x q = q := by unfold spF; rw [if_neg ho]
      rw [eG, eF]; exact ih _ (by omega)
theorem fold_all {b : Bk} (hb : BkOk b) {t : Nat} (ht : t < b_nt b) {n i : Nat} {c : Nat → Int} (hI : Inv b c) (hr : rdy c t) {joy fd : Int} {st : Int × Int} (hi : i ≠ 0) : spS (foL (spG b t n c joy i fd) (b_nd b) 0 st) (joy + (sp b t n (sleepR b c)).1) fd = spS st (joy + (sp b t (n + 1) c).1) fd := by
  have e0 : sp b t (n + 1) c = spS (foL (spF b t n c) (b_nd b) 0 (-1, -1)) (0 + (sp b t n (sleepR b c)).1) (-1) := by rw [sp]
  have i0 := (sp_rng hb ht n _ (Inv_sleep hb hI) (rdy_sleep hb ht hr)).1
  have i1 := (sp_rng hb ht (n + 1) c hI hr).1
  have f := fold_in hb ht hI hr (joy := joy) (fd := fd) (st := st) (n := n) hi (b_nd b) 0 (-1, -1) (by omega)
  have p0 : puS st joy (-1) fd = st := by unfold puS; rw [if_pos (by decide)]
  rw [show ((-1 : Int), (-1 : Int)).1 = -1 from rfl, p0] at f
  have p := puS_s (st := st) (joy := joy) (fd := fd) (M := (foL (spF b t n c) (b_nd b) 0 (-1, -1)).1) (f0 := (foL (spF b t n c) (b_nd b) 0 (-1, -1)).2) (e := -1) i0
  rw [f, p]
  have e1 : spS (foL (spF b t n c) (b_nd b) 0 (-1, -1)) (0 + (sp b t n (sleepR b c)).1) (-1) = spS ((foL (spF b t n c) (b_nd b) 0 (-1, -1)).1, (foL (spF b t n c) (b_nd b) 0 (-1, -1)).2) ((sp b t n (sleepR b c)).1) (-1) := by rw [Int.zero_add]
  rw [e1] at e0
  rw [← e0]
  unfold puS; rw [if_neg (by omega)]
theorem fold_top {b : Bk} {t n : Nat} {c : Nat → Int} : spS (foL (spG b t n c 0 0 (-1)) (b_nd b) 0 (-1, -1)) (0 + (sp b t n (sleepR b c)).1) (-1) = sp b t (n + 1) c := by
  have e0 : sp b t (n + 1) c = spS (foL (spF b t n c) (b_nd b) 0 (-1, -1)) (0 + (sp b t n (sleepR b c)).1) (-1) := by rw [sp]
  rw [e0]
  have e1 : spG b t n c 0 0 (-1) = spF b t n c := by
    funext e st; unfold spG spF; split
    · rw [if_pos rfl, Int.zero_add]
    · rfl
  rw [e1]
theorem en_rows {b : Bk} (hb : BkOk b) {c : Nat → Int} {t x : Nat} (ht : t < b_nt b) (hx : x < b_nd b) (hp : 0 < bag b c t x) : ∀ e : Nat, e < b_nd b → nxE b c t x e = min (b_wo b e) ((if (e : Int) = (x : Int) then c e - bag b c t x else c e) + 1) ∧ nxE b c t x (8 + e) = max (b_gu b e) ((if (e : Int) = (x : Int) then min 9 (c (8 + e) + 2) else c (8 + e)) - 1) := by
  have k1 := hb.1
  have k2 := hb.2.1
  intro e he
  unfold nxE
  rw [sR_d _ he k1, sR_g _ he k1]
  unfold enjoyR takeR
  rw [if_pos hp]
  by_cases ee : e = x
  · subst ee; rw [if_pos rfl, if_pos rfl]; simp (disch := omega) only [ru_s, ru_n]; exact ⟨trivial, trivial⟩
  · rw [if_neg (by omega), if_neg (by omega)]; simp (disch := omega) only [ru_s, ru_n]; exact ⟨trivial, trivial⟩
theorem nxE_g {b : Bk} (hb : BkOk b) {c : Nat → Int} {t x : Nat} (ht : t < b_nt b) (hx : x < b_nd b) : nxE b c t x (32 + t) = 0 := by
  have k1 := hb.1
  have k2 := hb.2.1
  unfold nxE
  rw [sR_q _ ht k2]
  unfold enjoyR
  simp (disch := omega) only [ru_s, ru_n]
  rw [if_neg (by omega)]
theorem sl_rows {b : Bk} (hb : BkOk b) (c : Nat → Int) : ∀ e : Nat, e < b_nd b → sleepR b c e = min (b_wo b e) ((if (e : Int) = -1 then c e - 0 else c e) + 1) ∧ sleepR b c (8 + e) = max (b_gu b e) ((if (e : Int) = -1 then min 9 (c (8 + e) + 2) else c (8 + e)) - 1) := by
  intro e he
  rw [sR_d _ he hb.1, sR_g _ he hb.1, if_neg (by omega), if_neg (by omega)]
  exact ⟨rfl, rfl⟩
/-- what the search leaves as it was -/
def SQ (i : Nat) (m m' : sh_Mem) : Prop := (∀ a, a ≠ 18 → a ≠ 19 → a ≠ 20 → m' a = m a) ∧ (∀ j, j ≠ 5 → j ≠ 6 → m' 18 j = m 18 j) ∧ ∀ j, j < 8 * (i + 1) → m' 19 j = m 19 j ∧ m' 20 j = m 20 j
theorem SQ_rf (i : Nat) (m : sh_Mem) : SQ i m m := ⟨fun _ _ _ _ => rfl, fun _ _ _ => rfl, fun _ _ => ⟨rfl, rfl⟩⟩
theorem SQ_tr {i : Nat} {m m' m'' : sh_Mem} (h : SQ i m m') (h2 : SQ i m' m'') : SQ i m m'' := ⟨fun a e1 e2 e3 => (h2.1 a e1 e2 e3).trans (h.1 a e1 e2 e3), fun j e1 e2 => (h2.2.1 j e1 e2).trans (h.2.1 j e1 e2), fun j hj => ⟨(h2.2.2 j hj).1.trans (h.2.2 j hj).1, (h2.2.2 j hj).2.trans (h.2.2 j hj).2⟩⟩
theorem SQ_lo {i : Nat} {m m' : sh_Mem} (h : SQ (i + 1) m m') : SQ i m m' := ⟨h.1, h.2.1, fun j hj => h.2.2 j (by omega)⟩
theorem SQ_Cs {B Y i : Nat} {w : Wd} {m m' : sh_Mem} (hc : CR B Y w m) (h : SQ i m m') : Cs m m' := ⟨fun a ha => h.1 a (by unfold csc at ha; omega) (by unfold csc at ha; omega) (by unfold csc at ha; omega), by rw [h.1 8 (by decide) (by decide) (by decide)]; exact hc.2.2.2.2.1.2.2.1⟩
theorem SQ_pn {i : Nat} {m m' : sh_Mem} (h1 : ∀ a, a ≠ 19 → a ≠ 20 → m' a = m a) (h2 : ∀ j, j < 8 * (i + 1) → m' 19 j = m 19 j ∧ m' 20 j = m 20 j) : SQ i m m' := ⟨fun a _ e2 e3 => h1 a e2 e3, fun j _ _ => by rw [h1 18 (by decide) (by decide)], h2⟩
theorem SF_SQ {b : Bk} {t N i : Nat} {m m' : sh_Mem} (h : SF b t N m) (q : SQ i m m') : SF b t N m' := ⟨by rw [q.2.1 2 (by decide) (by decide)]; exact h.1, by rw [q.2.1 3 (by decide) (by decide)]; exact h.2.1, by rw [q.2.1 4 (by decide) (by decide)]; exact h.2.2⟩
theorem AR_SQ {nd i : Nat} {c : Nat → Int} {m m' : sh_Mem} (hn : nd ≤ 8) (h : AR nd m i c) (q : SQ i m m') : AR nd m' i c := fun e he => by rw [(q.2.2 (8 * i + e) (by omega)).1, (q.2.2 (8 * i + e) (by omega)).2]; exact h e he
section SPG
variable {g : sh_G} {B Y t N : Nat} {w : Wd}
/-- the nights from i on, over what the search of the next night does -/
theorem go_loop (hW : WOk w) (hB : obB B) (hY : obY Y) (ht : t < b_nt (w_b w)) (hN5 : N ≤ 5) {n i D : Nat} (hiN : i + (n + 1) = N)
    (ih : ∀ (c : Nat → Int) (joy fd : Int) (st : Int × Int) (m : sh_Mem) (Q : Option sh_V → sh_Mem → Prop), Inv (w_b w) c → rdy c t → 0 ≤ joy ∧ joy ≤ 12 * ((i : Int) + 1) → -1 ≤ st.1 ∧ st.1 ≤ 60 → CR B Y w m → SF (w_b w) t N m → m 18 5 = st.1 → m 18 6 = st.2 → AR (b_nd (w_b w)) m (i + 1) c → (∀ m', SQ (i + 1) m m' → m' 18 5 = (spS st (joy + (sp (w_b w) t n c).1) fd).1 → m' 18 6 = (spS st (joy + (sp (w_b w) t n c).1) fd).2 → Q none m') → sh_Cal g (D + 1) m_Spr_go [sh_r 18, sh_r B, sh_i ((i + 1 : Nat) : Int), sh_i joy, sh_i (c (32 + t)), sh_i fd] m Q)
    {c : Nat → Int} {joy fd : Int} {mem : sh_Mem} {Q : Option sh_V → sh_Mem → Prop} (hI : Inv (w_b w) c) (hr : rdy c t) (hj : 0 ≤ joy ∧ joy ≤ 12 * (i : Int)) (hc : CR B Y w mem) (hS : SF (w_b w) t N mem) (hA : AR (b_nd (w_b w)) mem i c) : ∀ (k x : Nat) (st : Int × Int) (m : sh_Mem), x + k = b_nd (w_b w) → -1 ≤ st.1 ∧ st.1 ≤ 60 → SQ i mem m → m 18 5 = st.1 → m 18 6 = st.2 →
    (∀ m', SQ i mem m' → m' 18 5 = (spS (foL (spG (w_b w) t n c joy i fd) k x st) (joy + (sp (w_b w) t n (sleepR (w_b w) c)).1) fd).1 → m' 18 6 = (spS (foL (spG (w_b w) t n c joy i fd) k x st) (joy + (sp (w_b w) t n (sleepR (w_b w) c)).1) fd).2 → Q none m') →
    sh_X g (D + 1 + 1) m_Spr_go 50 [(0, sh_r 18), (1, sh_r B), (2, sh_i (i : Int)), (3, sh_i joy), (4, sh_i (c (32 + t))), (5, sh_i fd), (6, sh_i ((8 * i : Nat) : Int)), (7, sh_i (x : Int))] [] m (sh_K m_Spr_go Q) := by
  have k1 := hW.1.1
  have k2 := hW.1.2.1
  have gr := hI.2.2.1 t ht
  have rs := hW.1.2.2.2.1 t ht
  intro k
  induction k with
  | zero =>
    intro x st m hx hst hq h5 h6 h
    obtain rfl : x = b_nd (w_b w) := by omega
    have hcm := CR_Cs hB hY hc (SQ_Cs hc hq)
    have hAm := AR_SQ k1 hA hq
    rw [foL] at h
    apply v_Spr_go_50 (obB_0 hB)
    rw [hcm.2.1.2.1]
    refine ⟨fun _ => ?_, fun z => absurd (by omega) z⟩
    refine s_passNight (d := D) (x := -1) (v := 0) (c := c) (c' := sleepR (w_b w) c) hW hB hY hcm hAm hI (by omega) rfl (fun e _ y => absurd y (by omega)) (sl_rows hW.1 c) (fun m2 q1 q2 q3 => ⟨rfl, ?_⟩)
    have sq2 := SQ_pn q1 q2
    rw [show ((i : Int) + 1) = ((i + 1 : Nat) : Int) by omega]
    have eg : sleepR (w_b w) c (32 + t) = c (32 + t) := by rw [sR_q c ht k2, hr.2, if_neg (by omega)]
    rw [← eg]
    refine ih (sleepR (w_b w) c) joy fd st m2 _ (Inv_sleep hW.1 hI) (rdy_sleep hW.1 ht hr) (by omega) hst (CR_Cs hB hY hcm (SQ_Cs hcm sq2)) (SF_SQ (SF_SQ hS hq) sq2) (by rw [q1 18 (by decide) (by decide)]; exact h5) (by rw [q1 18 (by decide) (by decide)]; exact h6) q3 (fun m3 y1 y2 y3 => ⟨rfl, ?_⟩)
    exact h m3 (SQ_tr (SQ_tr hq sq2) (SQ_lo y1)) y2 y3
  | succ k ihk =>
    intro x st m hx hst hq h5 h6 h
    have hxd : x < b_nd (w_b w) := by omega
    have hcm := CR_Cs hB hY hc (SQ_Cs hc hq)
    have hAm := AR_SQ k1 hA hq
    have hSm := SF_SQ hS hq
    have a := hAm x hxd
    have r1 := hI.1 x hxd
    have r2 := hW.1.2.2.1 x hxd
    have ix : (((8 * i : Nat) : Int) + (x : Int)).toNat = 8 * i + x := by omega
    rw [foL] at h
    have skip : ¬ opnM (w_b w) c t x = true → sh_X g (D + 1 + 1) m_Spr_go 50 [(0, sh_r 18), (1, sh_r B), (2, sh_i (i : Int)), (3, sh_i joy), (4, sh_i (c (32 + t))), (5, sh_i fd), (6, sh_i ((8 * i : Nat) : Int)), (7, sh_i ((x + 1 : Nat) : Int))] [] m (sh_K m_Spr_go Q) := by
      intro ho
      have eG : spG (w_b w) t n c joy i fd x st = st := by unfold spG; rw [if_neg ho]
      rw [eG] at h
      exact ihk (x + 1) st m (by omega) hst hq h5 h6 h
    apply v_Spr_go_50 (obB_0 hB)
    rw [hcm.2.1.2.1, i3n (by omega), i3n (by omega), ix, a.1, a.2, hSm.1, hSm.2.1, i3s (x := c x) (by omega) (by omega), i3s (x := c (8 + x)) (by omega) (by omega), i3s (x := b_sk (w_b w) t) (by omega) (by omega), i3s (x := b_sa (w_b w) t) (by omega) (by omega), show i3 0 = 0 from rfl]
    have e1 : (if c x < b_sa (w_b w) t then c x else b_sa (w_b w) t) = min (b_sa (w_b w) t) (c x) := by split <;> omega
    rw [e1, i3s (x := min (b_sa (w_b w) t) (c x) - c (32 + t)) (by omega) (by omega), i3n (x := i) (by omega)]
    refine ⟨fun z => absurd z (by omega), fun _ => ⟨by omega, fun z => skip (by unfold opnM; rw [decide_eq_true_eq]; omega), fun z => ⟨by omega, fun z2 => skip (by unfold opnM; rw [decide_eq_true_eq]; omega), fun z2 => ⟨by omega, ?_⟩⟩⟩⟩
    have ho : opnM (w_b w) c t x = true := by unfold opnM; rw [decide_eq_true_eq]; omega
    have bo := bag_open hW.1 ht hr ho
    have eb : bag (w_b w) c t x = min (b_sa (w_b w) t) (c x) := by unfold bag; rw [if_pos ⟨hr.1, hr.2, by omega, by omega⟩]
    obtain ⟨j1, j2⟩ := Inv_en hW.1 hI ht hxd hr ho
    have tt := take_t (b := w_b w) (c := c) (t := t) (e := x) (by omega) (by omega) bo.1
    have ej : (if 0 < min (b_sa (w_b w) t) (c x) - c (32 + t) then min (b_sa (w_b w) t) (c x) - c (32 + t) else (0 : Int)) = joyV (takeR (w_b w) c t x) t := by unfold joyV; rw [tt.1, tt.2.2, eb]; split <;> omega
    have jr := joyV_rng j1 ht
    have sr : 0 ≤ (sp (w_b w) t n (nxE (w_b w) c t x)).1 ∧ (sp (w_b w) t n (nxE (w_b w) c t x)).1 ≤ 12 * n := sp_rng hW.1 ht n _ (Inv_sleep hW.1 j2) (rdy_sleep hW.1 ht (rdy_en hW.1 ht hxd hr ho))
    have hvx : ∀ e : Nat, e < b_nd (w_b w) → (e : Int) = (x : Int) → 0 ≤ bag (w_b w) c t x ∧ bag (w_b w) c t x ≤ c e := by
      intro e he y
      obtain rfl : e = x := by omega
      omega
    rw [ej, ← eb]
    have eG : spG (w_b w) t n c joy i fd x st = spS st (joy + joyV (takeR (w_b w) c t x) t + (sp (w_b w) t n (nxE (w_b w) c t x)).1) (if i = 0 then (x : Int) else fd) := by unfold spG; rw [if_pos ho]
    rw [eG] at h
    have st' : -1 ≤ (spS st (joy + joyV (takeR (w_b w) c t x) t + (sp (w_b w) t n (nxE (w_b w) c t x)).1) (if i = 0 then (x : Int) else fd)).1 ∧ (spS st (joy + joyV (takeR (w_b w) c t x) t + (sp (w_b w) t n (nxE (w_b w) c t x)).1) (if i = 0 then (x : Int) else fd)).1 ≤ 60 := by
      unfold spS; split
      · simp only; omega
      · exact hst
    refine s_passNight (d := D) (x := (x : Int)) (v := bag (w_b w) c t x) (c := c) (c' := nxE (w_b w) c t x) hW hB hY hcm hAm hI (by omega) (i3n (by omega)) hvx (en_rows hW.1 ht hxd bo.1) (fun m2 q1 q2 q3 => ⟨rfl, ?_⟩)
    have sq2 := SQ_pn q1 q2
    have eg := nxE_g hW.1 (c := c) ht hxd
    rw [show ((i : Int) + 1) = ((i + 1 : Nat) : Int) by omega]
    have child : ∀ fd' : Int, fd' = (if i = 0 then (x : Int) else fd) → sh_Cal g (D + 1) m_Spr_go [sh_r 18, sh_r B, sh_i ((i + 1 : Nat) : Int), sh_i (joy + joyV (takeR (w_b w) c t x) t), sh_i 0, sh_i fd'] m2 (fun rv m4 => rv = none ∧ sh_X g (D + 1 + 1) m_Spr_go 50 [(0, sh_r 18), (1, sh_r B), (2, sh_i (i : Int)), (3, sh_i joy), (4, sh_i (c (32 + t))), (5, sh_i fd), (6, sh_i ((8 * i : Nat) : Int)), (7, sh_i ((x + 1 : Nat) : Int))] [] m4 (sh_K m_Spr_go Q)) := by
      intro fd' ef
      rw [← eg]
      refine ih (nxE (w_b w) c t x) _ fd' st m2 _ (Inv_sleep hW.1 j2) (rdy_sleep hW.1 ht (rdy_en hW.1 ht hxd hr ho)) (by omega) hst (CR_Cs hB hY hcm (SQ_Cs hcm sq2)) (SF_SQ hSm sq2) (by rw [q1 18 (by decide) (by decide)]; exact h5) (by rw [q1 18 (by decide) (by decide)]; exact h6) q3 (fun m3 y1 y2 y3 => ⟨rfl, ?_⟩)
      rw [ef] at y2 y3
      exact ihk (x + 1) _ m3 (by omega) st' (SQ_tr (SQ_tr hq sq2) (SQ_lo y1)) y2 y3 h
    exact ⟨fun z3 => child fd (by rw [if_neg (by omega)]), fun z3 => child (x : Int) (by rw [if_pos (by omega)])⟩
theorem s_go (hW : WOk w) (hB : obB B) (hY : obY Y) (ht : t < b_nt (w_b w)) (hN5 : N ≤ 5) : ∀ (n D i : Nat), n + 2 ≤ D → i + n = N → i ≠ 0 → ∀ (c : Nat → Int) (joy fd : Int) (st : Int × Int) (m : sh_Mem) (Q : Option sh_V → sh_Mem → Prop), Inv (w_b w) c → rdy c t → 0 ≤ joy ∧ joy ≤ 12 * (i : Int) → -1 ≤ st.1 ∧ st.1 ≤ 60 → CR B Y w m → SF (w_b w) t N m → m 18 5 = st.1 → m 18 6 = st.2 → AR (b_nd (w_b w)) m i c → (∀ m', SQ i m m' → m' 18 5 = (spS st (joy + (sp (w_b w) t n c).1) fd).1 → m' 18 6 = (spS st (joy + (sp (w_b w) t n c).1) fd).2 → Q none m') → sh_Cal g D m_Spr_go [sh_r 18, sh_r B, sh_i (i : Int), sh_i joy, sh_i (c (32 + t)), sh_i fd] m Q := by
  intro n
  induction n with
  | zero =>
    intro D i hD hiN hi c joy fd st m Q hI hr hj hst hc hS h5 h6 hA h
    obtain ⟨D, rfl⟩ : ∃ D', D = D' + 2 := ⟨D - 2, by omega⟩
    apply v_Spr_go (obB_0 hB)
    refine s_hope (d := D) hW hB hc ht hS hA hI hiN hN5 ⟨_, rfl, ?_⟩
    rw [h5, hS.2.2, hoF, Int.add_zero, i3s (x := st.1) (by omega) (by omega), i3s (x := joy) (by omega) (by omega), i3n (by omega), i3n (by omega)]
    have e0 : (sp (w_b w) t 0 c).1 = 0 := by unfold sp; rfl
    rw [e0, Int.add_zero] at h
    refine ⟨fun z => ⟨fun _ => ?_, fun z2 => absurd (by omega) z2⟩, fun z => ?_⟩
    · rintro _ rfl
      rintro _ rfl
      have e1 : spS st joy fd = (joy, fd) := by unfold spS; rw [if_pos z]
      rw [e1] at h
      refine h _ ⟨fun a f1 f2 f3 => by rw [ms_n _ _ f1, ms_n _ _ f1], fun j f1 f2 => by rw [ms_s, ru_n _ _ f2, ms_s, ru_n _ _ f1], fun j _ => ⟨by rw [ms_n _ _ (by decide), ms_n _ _ (by decide)], by rw [ms_n _ _ (by decide), ms_n _ _ (by decide)]⟩⟩ ?_ ?_
      · rw [ms_s, ru_n _ _ (by decide), ms_s, ru_s]
      · rw [ms_s, ru_s]
    · have e1 : spS st joy fd = st := by unfold spS; rw [if_neg z]
      rw [e1] at h
      exact h m (SQ_rf i m) h5 h6
  | succ n ih =>
    intro D i hD hiN hi c joy fd st m Q hI hr hj hst hc hS h5 h6 hA h
    obtain ⟨D, rfl⟩ : ∃ D', D = D' + 1 + 1 := ⟨D - 2, by omega⟩
    have ho := sp_ho hW.1 ht (n + 1) c hI hr
    have hr2 := hoF_rng hW.1 ht c (n + 1) 0
    apply v_Spr_go (obB_0 hB)
    refine s_hope (d := D) hW hB hc ht hS hA hI hiN hN5 ⟨_, rfl, ?_⟩
    rw [h5, hS.2.2, i3s (x := st.1) (by omega) (by omega), i3s (x := joy + hoF (w_b w) t c (n + 1) 0) (by omega) (by omega), i3n (by omega), i3n (by omega), show ((i : Int) * 8) = ((8 * i : Nat) : Int) by omega]
    refine ⟨fun z => ⟨fun z2 => absurd z2 (by omega), fun _ => ⟨fun _ => ?_, fun z2 => absurd (by omega) z2⟩⟩, fun z => ?_⟩
    · refine go_loop hW hB hY ht hN5 hiN (fun c' joy' fd' st' m' Q' a1 a2 a3 a4 a5 a6 a7 a8 a9 a10 => ih (D + 1) (i + 1) (by omega) (by omega) (by omega) c' joy' fd' st' m' Q' a1 a2 (by omega) a4 a5 a6 a7 a8 a9 a10) hI hr hj hc hS hA (b_nd (w_b w)) 0 st m (by omega) hst (SQ_rf i m) h5 h6 (fun m' y1 y2 y3 => ?_)
      rw [fold_all hW.1 ht hI hr hi] at y2 y3
      exact h m' y1 y2 y3
    · have e1 : spS st (joy + (sp (w_b w) t (n + 1) c).1) fd = st := by unfold spS; rw [if_neg (by omega)]
      rw [e1] at h
      exact h m (SQ_rf i m) h5 h6
theorem s_go0 (hW : WOk w) (hB : obB B) (hY : obY Y) (ht : t < b_nt (w_b w)) {n D : Nat} (hN5 : n + 1 ≤ 5) (hD : n + 3 ≤ D) {c : Nat → Int} {m : sh_Mem} {Q : Option sh_V → sh_Mem → Prop} (hI : Inv (w_b w) c) (hr : rdy c t) (hc : CR B Y w m) (hS : SF (w_b w) t (n + 1) m) (h5 : m 18 5 = -1) (h6 : m 18 6 = -1) (hA : AR (b_nd (w_b w)) m 0 c) (h : ∀ m', SQ 0 m m' → m' 18 5 = (sp (w_b w) t (n + 1) c).1 → m' 18 6 = (sp (w_b w) t (n + 1) c).2 → Q none m') : sh_Cal g D m_Spr_go [sh_r 18, sh_r B, sh_i 0, sh_i 0, sh_i (c (32 + t)), sh_i (-1)] m Q := by
  obtain ⟨D, rfl⟩ : ∃ D', D = D' + 1 + 1 := ⟨D - 2, by omega⟩
  have hr2 := hoF_rng hW.1 ht c (n + 1) 0
  apply v_Spr_go (obB_0 hB)
  refine s_hope (d := D) (i := 0) (n := n + 1) hW hB hc ht hS hA hI (by omega) hN5 ⟨_, rfl, ?_⟩
  rw [h5, hS.2.2, Int.zero_add, i3s (x := hoF (w_b w) t c (n + 1) 0) (by omega) (by omega), i3n (by omega), show i3 (-1) = -1 from rfl, show i3 0 = 0 from rfl]
  refine ⟨fun z => ⟨fun z2 => absurd z2 (by omega), fun _ => ⟨fun _ => ?_, fun z2 => absurd (by omega) z2⟩⟩, fun z => absurd (by omega) z⟩
  refine go_loop (i := 0) (N := n + 1) (n := n) (D := D) hW hB hY ht hN5 (by omega) (fun c' joy' fd' st' m' Q' a1 a2 a3 a4 a5 a6 a7 a8 a9 a10 => s_go hW hB hY ht hN5 n (D + 1) 1 (by omega) (by omega) (by omega) c' joy' fd' st' m' Q' a1 a2 (by omega) a4 a5 a6 a7 a8 a9 a10) hI hr (by omega) hc hS hA (b_nd (w_b w)) 0 (-1, -1) m (by omega) (by simp only; omega) (SQ_rf 0 m) h5 h6 (fun m' y1 y2 y3 => ?_)
  rw [fold_top] at y2 y3
  exact h m' y1 y2 y3
theorem l_search {n d : Nat} (hW : WOk w) (hB : obB B) (hY : obY Y) (ht : t < b_nt (w_b w)) (hN5 : n + 1 ≤ 5) (hr : rdy (w_c w) t) {mem : sh_Mem} {Q : Option sh_V → sh_Mem → Prop} (hc : CR B Y w mem) (hS : SF (w_b w) t (n + 1) mem) (h5 : mem 18 5 = -1) (h6 : mem 18 6 = -1) (h : ∀ m', Cs mem m' → m' 18 5 = (sp (w_b w) t (n + 1) (w_c w)).1 → m' 18 6 = (sp (w_b w) t (n + 1) (w_c w)).2 → Q none m') : ∀ (k x : Nat) (m : sh_Mem), x + k = b_nd (w_b w) → (∀ a, a ≠ 19 → a ≠ 20 → m a = mem a) → AR x m 0 (w_c w) →
    sh_X g (d + 8) m_Spr_search 39 [(0, sh_r 18), (1, sh_r 5), (2, sh_r B), (3, sh_i (t : Int)), (4, sh_i ((n + 1 : Nat) : Int)), (5, sh_i (x : Int))] [] m (sh_K m_Spr_search Q) := by
  have k1 := hW.1.1
  have k2 := hW.1.2.1
  have cs : ∀ m : sh_Mem, (∀ a, a ≠ 19 → a ≠ 20 → m a = mem a) → Cs mem m := fun m q => ⟨fun a ha => q a (by unfold csc at ha; omega) (by unfold csc at ha; omega), by rw [q 8 (by decide) (by decide)]; exact hc.2.2.2.2.1.2.2.1⟩
  intro k
  induction k with
  | zero =>
    intro x m hx q1 q3
    obtain rfl : x = b_nd (w_b w) := by omega
    have hcm := CR_Cs hB hY hc (cs m q1)
    have h6' : m (5 + 1) = w_c w := hcm.2.2.2.2.1.1
    have e18 : m 18 = mem 18 := q1 18 (by decide) (by decide)
    apply v_Spr_search_39 o5 (obB_0 hB)
    rw [hcm.2.1.2.1, h6']
    refine ⟨fun _ => ⟨by omega, ?_⟩, fun z => absurd (by omega) z⟩
    refine s_go0 (D := d + 7) hW hB hY ht hN5 (by omega) hW.2.1 hr hcm ⟨by rw [e18]; exact hS.1, by rw [e18]; exact hS.2.1, by rw [e18]; exact hS.2.2⟩ (by rw [e18]; exact h5) (by rw [e18]; exact h6) q3 (fun m' y1 y2 y3 => ⟨rfl, ?_⟩)
    exact h m' (Cs_tr (cs m q1) (SQ_Cs hcm y1)) y2 y3
  | succ k ih =>
    intro x m hx q1 q3
    have hcm := CR_Cs hB hY hc (cs m q1)
    have h6' : m (5 + 1) = w_c w := hcm.2.2.2.2.1.1
    apply v_Spr_search_39 o5 (obB_0 hB)
    rw [hcm.2.1.2.1, i3n (by omega), i3n (by omega), h6']
    refine ⟨fun z => absurd z (by omega), fun _ => ⟨by omega, by omega, ?_⟩⟩
    rintro _ rfl
    rw [ms_n _ _ (show 5 + 1 ≠ 19 by decide), h6']
    refine ⟨by omega, by omega, ?_⟩
    rintro _ rfl
    refine ih (x + 1) _ (by omega) (fun a f1 f2 => by rw [ms_n _ _ f2, ms_n _ _ f1]; exact q1 a f1 f2) (fun e he => ?_)
    rw [ms_n _ _ (show (19 : Nat) ≠ 20 by decide), ms_s, ms_s, ms_n _ _ (show (20 : Nat) ≠ 19 by decide)]
    by_cases ee : e = x
    · subst ee; rw [show 8 * 0 + e = e by omega, ru_s, ru_s]; exact ⟨rfl, rfl⟩
    · rw [ru_n _ _ (by omega), ru_n _ _ (by omega)]; exact q3 e (by omega)
end SPG
theorem c_spree {g : sh_G} {d : Nat} {w : Wd} {mem : sh_Mem} {t k what : Int} {Q : Option sh_V → sh_Mem → Prop} (hW : WOk w) (h : CRel w mem) (ht : i3 t = t) (hk : i3 k = k) (hwhat : i3 what = what) (hQ : ∀ m', CPost w mem m' → Q (some (sh_i (q_spree w t k what))) m') : sh_Cal g (d + 9) m_Sto_spree [sh_r 1, sh_i t, sh_i k, sh_i what] mem Q := by
  obtain ⟨B, Y, hB, hY, hc⟩ := h
  have k1 := hW.1.1
  have k2 := hW.1.2.1
  have h6 : mem (5 + 1) = w_c w := hc.2.2.2.2.1.1
  have hI := hW.2.1
  have hI5 : Inv (w_b w) (mem (5 + 1)) := by rw [h6]; exact hI
  unfold q_spree at hQ
  have p := hQ _ (CPost_rf hB hY hc)
  apply v_Sto_spree (obB_0 hB)
  refine cT_then hB hc ht (fun q => ?_) (fun tn et htn => ?_)
  · rw [if_neg (fun z => q z.1)] at p; exact p
  refine cW_then hk rfl rfl (fun q => ?_) (fun q2 => ?_)
  · rw [if_neg (fun z => q z.2.1)] at p; exact p
  refine cW_then hwhat rfl rfl (fun q => ?_) (fun q3 => ?_)
  · rw [if_neg (fun z => q z.2.2.1)] at p; exact p
  obtain ⟨n, rfl⟩ : ∃ n : Nat, k = ((n + 1 : Nat) : Int) := ⟨k.toNat - 1, by omega⟩
  subst et
  simp only [Int.toNat_natCast] at hQ p
  refine s_State_isReady (d := d + 7) (S := 5) o5 (b := w_b w) hI5 htn hW.1 ⟨_, rfl, ?_⟩
  rw [i3_01, h6, hwhat]
  refine ⟨fun q => ⟨hc.1.1, ?_⟩, fun q => ?_⟩
  · have hr : rdy (w_c w) tn := by grind
    rw [if_pos ⟨by omega, q2, q3, hr⟩] at hQ
    have cb := hc.2.1.2.2.2.2 tn htn
    apply v_Spr_search o5 (obB_0 hB)
    refine ⟨by omega, ?_⟩
    rintro _ rfl
    refine ⟨by omega, ?_⟩
    rintro _ rfl
    rintro _ rfl
    rintro _ rfl
    rintro _ rfl
    simp only [ms_ms, ms_s, ms_n _ _ (show B + 7 ≠ 18 by omega), cb.1, cb.2]
    have cs1 := Cs_ms (Cs_rf hc) (a := 18) (by decide) (by decide) (ru (ru (ru (ru (ru (mem 18) 2 (b_sk (w_b w) tn)) 3 (b_sa (w_b w) tn)) 4 ((n + 1 : Nat) : Int)) 5 (-1)) 6 (-1))
    refine l_search (d := d) hW hB hY htn (by omega) hr (CR_Cs hB hY hc cs1) ⟨?_, ?_, ?_⟩ ?_ ?_ (fun m' y1 y2 y3 => ⟨rfl, ?_⟩) (b_nd (w_b w)) 0 _ (by omega) (fun _ _ _ => rfl) (fun e he => absurd he (by omega))
    · rw [ms_s]; simp (disch := decide) only [ru_s, ru_n]
    · rw [ms_s]; simp (disch := decide) only [ru_s, ru_n]
    · rw [ms_s]; simp (disch := decide) only [ru_s, ru_n]
    · rw [ms_s]; simp (disch := decide) only [ru_s, ru_n]
    · rw [ms_s]; simp (disch := decide) only [ru_s, ru_n]
    · have p2 := hQ m' (CPost_Cs hB hY hc (Cs_tr cs1 y1))
      refine ⟨fun z => ?_, fun z => ?_⟩
      · rw [if_neg z] at p2; rw [y3]; exact p2
      · rw [if_pos z] at p2; rw [y2]; exact p2
  · have hr : ¬ rdy (w_c w) tn := by grind
    rw [if_neg (fun z => hr z.2.2.2)] at p; exact p
