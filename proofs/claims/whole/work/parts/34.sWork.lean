theorem Ev_step {m0 m : sh_Mem} {c : Int} {e : Nat} {q : sh_Mem × Nat} (h : Ev m0 m) (hs : e_step c m e = some q) : Ev m0 q.1 := by
  unfold e_step at hs
  split at hs
  · split at hs
    · cases hs; exact Ev_open (Ev_ms h (by omega) (by omega) _) _
    · cases hs
  · split at hs
    · cases hs; exact Ev_ms (Ev_sums h e) (by omega) (by omega) _
    · split at hs
      · cases hs; exact Ev_ms h (by omega) (by omega) _
      · split at hs
        · cases hs; exact Ev_cmp h e c
        · split at hs
          · cases hs; exact Ev_ms (Ev_tests h e) (by omega) (by omega) _
          · split at hs
            · split at hs
              · cases hs
              · cases hs; exact Ev_del (Ev_tests h e) _ _
            · cases hs; exact Ev_del h _ _
theorem Ev_run {m0 : sh_Mem} (code : Nat → Int) : ∀ (k i e : Nat) (m : sh_Mem) (q : sh_Mem × Nat), Ev m0 m → e_run code k i m e = some q → Ev m0 q.1
  | 0, i, e, m, q, h, hs => by unfold e_run at hs; cases hs; exact h
  | k + 1, i, e, m, q, h, hs => by
    unfold e_run at hs
    split at hs
    · cases hs
    · rename_i q' hq
      exact Ev_run code k (i + 1) q'.2 q'.1 q (Ev_step h hq) hs
theorem l_worked_300 {g : sh_G} {d e x3 : Nat} {x4 v : Int} {m : sh_Mem} {Q : Option sh_V → sh_Mem → Prop} (he : e < 7) (h : sh_X g (d + 1) m_Mod_worked 14 [(0, sh_r 96), (1, sh_i ((0 : Nat) : Int)), (2, sh_i (e : Int)), (3, sh_i ((x3 : Int) + 1))] [] (e_put m e v) (sh_K m_Mod_worked Q)) :
    sh_X g (d + 1) m_Mod_worked 300 [(0, sh_r 96), (1, sh_i ((0 : Nat) : Int)), (2, sh_i (e : Int)), (3, sh_i (x3 : Int)), (4, sh_i x4), (5, sh_i v)] [] m (sh_K m_Mod_worked Q) := by
  have t : ((e : Nat) : Int).toNat = e := Int.toNat_natCast e
  unfold e_put at h
  apply v_Mod_worked_300
  rw [t]
  refine ⟨by omega, fun q => ⟨by omega, by omega, ?_⟩, fun q => ⟨by omega, ?_⟩⟩
  · rintro _ rfl
    rw [if_neg q] at h; exact h
  · rintro _ rfl
    rw [if_pos q] at h; exact h
theorem l_worked_268 {g : sh_G} {d x3 : Nat} {x4 : Int} {m : sh_Mem} {Q : Option sh_V → sh_Mem → Prop} : ∀ (e : Nat) (v : Int), e < 7 → sh_X g (d + 1) m_Mod_worked 14 [(0, sh_r 96), (1, sh_i ((0 : Nat) : Int)), (2, sh_i ((e_del m e v).2 : Int)), (3, sh_i ((x3 : Int) + 1))] [] (e_del m e v).1 (sh_K m_Mod_worked Q) →
    sh_X g (d + 1) m_Mod_worked 268 [(0, sh_r 96), (1, sh_i ((0 : Nat) : Int)), (2, sh_i (e : Int)), (3, sh_i (x3 : Int)), (4, sh_i x4), (5, sh_i v)] [] m (sh_K m_Mod_worked Q) := by
  intro e
  induction e with
  | zero =>
    intro v he h
    apply v_Mod_worked_268
    exact ⟨fun _ => l_worked_300 he h, fun q => absurd (by decide) q⟩
  | succ e ih =>
    intro v he h
    have t : ((e + 1 : Nat) : Int).toNat = e + 1 := Int.toNat_natCast _
    have t2 : ((e + 1 : Nat) : Int) + -1 = (e : Int) := by omega
    unfold e_del at h
    apply v_Mod_worked_268
    rw [t, t2, i3n (by omega)]
    refine ⟨fun q => absurd q (by omega), fun _ => ⟨by omega, fun q => ?_, fun q => ⟨fun q2 => ?_, fun q2 => ?_⟩⟩⟩
    · rw [if_neg q] at h; exact l_worked_300 he h
    · rw [if_pos q, if_neg q2] at h; exact ih 0 (by omega) h
    · rw [if_pos q, if_pos q2] at h; exact ih 1 (by omega) h
theorem l_Mod_worked {g : sh_G} {d f0 z : Nat} {mem0 : sh_Mem} {Q : Option sh_V → sh_Mem → Prop} (hz : mem0 107 0 = (z : Int)) (hz2 : z ≤ 1000) (hc : ∀ i, f0 ≤ i → i < z → e_okc (mem0 108 i)) {mF : sh_Mem} {eF : Nat} (h : Q (some (sh_i (e_tv mF 0))) (e_tests mF 0)) : ∀ (k i e : Nat) (m : sh_Mem), f0 ≤ i → i + k = z → e < 7 → Ev mem0 m → e_run (mem0 108) k i m e = some (mF, eF) →
    sh_X g (d + 1 + 1) m_Mod_worked 14 [(0, sh_r 96), (1, sh_i ((0 : Nat) : Int)), (2, sh_i (e : Int)), (3, sh_i (i : Int))] [] m (sh_K m_Mod_worked Q) := by
  intro k
  induction k with
  | zero =>
    intro i e m hf hi he hm hr
    rw [e_run] at hr
    have hmm : m = mF := by simp only [Option.some.injEq, Prod.mk.injEq] at hr; exact hr.1
    rw [← hmm] at h
    have a107 : m 107 = mem0 107 := hm 107 (by omega)
    apply v_Mod_worked_14
    rw [a107, hz, i3n (by omega), i3n (by omega)]
    refine ⟨by omega, fun _ => s_Mod_tests (e := 0) (by omega) ⟨rfl, ?_⟩, fun q => absurd (by omega) q⟩
    have e1 : (e_tests m 0) 111 0 = e_tv m 0 := by unfold e_tests; simp [ms, ru]
    rw [e1]; exact h
  | succ k ih =>
    intro i e m hf hi he hm hr
    have a107 : m 107 = mem0 107 := hm 107 (by omega)
    have a108 : m 108 = mem0 108 := hm 108 (by omega)
    have a106 : m 106 = mem0 106 := hm 106 (by omega)
    have ti : ((i : Nat) : Int).toNat = i := Int.toNat_natCast _
    have te : ((e : Nat) : Int).toNat = e := Int.toNat_natCast _
    have ti1 : ((i : Nat) : Int) + 1 = ((i + 1 : Nat) : Int) := by omega
    have te1 : ((e : Nat) : Int) + 1 = ((e + 1 : Nat) : Int) := by omega
    have te1' : ((e : Int) + 1).toNat = e + 1 := by omega
    have hci := hc i hf (by omega)
    generalize hcg : mem0 108 i = cd at hci
    have hrg : -1000000 ≤ cd ∧ cd ≤ 1000000 := by unfold e_okc at hci; omega
    have ec : i3 cd = cd := i3s hrg.1 hrg.2
    rw [e_run, hcg] at hr
    have nx : ∀ (m' : sh_Mem) (e' : Nat), e_step cd m e = some (m', e') → e' < 7 → Ev mem0 m' → sh_X g (d + 1 + 1) m_Mod_worked 14 [(0, sh_r 96), (1, sh_i ((0 : Nat) : Int)), (2, sh_i (e' : Int)), (3, sh_i ((i : Int) + 1))] [] m' (sh_K m_Mod_worked Q) := by
      intro m' e' h1 h2 h3
      rw [h1] at hr
      rw [ti1]
      exact ih (i + 1) e' m' (by omega) (by omega) h2 h3 hr
    have r115 : (e_sums m e) 115 e = e_sv m e := by unfold e_sums; simp [ms, ru]
    have r113 : (e_sums m e) 113 = m 113 := by unfold e_sums; simp [ms]
    have r114 : (e_sums m e) 114 = m 114 := by unfold e_sums; simp [ms]
    have r116 : (e_sums m e) 116 = m 116 := by unfold e_sums; simp [ms]
    have s112 : (e_tests m e) 112 = m 112 := by unfold e_tests e_sums; simp [ms]
    have s111 : (e_tests m e) 111 e = e_tv m e := by unfold e_tests; simp [ms, ru]
    have dl : ∀ (v : Int), e_step cd m e = some (e_del m e v) → sh_X g (d + 1 + 1) m_Mod_worked 268 [(0, sh_r 96), (1, sh_i ((0 : Nat) : Int)), (2, sh_i (e : Int)), (3, sh_i (i : Int)), (4, sh_i cd), (5, sh_i v)] [] m (sh_K m_Mod_worked Q) := fun v h1 =>
      l_worked_268 e v he (nx _ _ h1 (Nat.lt_of_le_of_lt (e_del_le m e v) he) (Ev_del hm e v))
    apply v_Mod_worked_14
    rw [a107, hz, i3n (x := z) (by omega), i3n (x := i) (by omega), ti, te, a108, hcg, ec]
    have sum20 : cd = 20 ∨ cd = 21 → sh_Cal g (d + 1) m_Mod_sums [sh_r 96, sh_i (e : Int)] m (fun rv m2 => rv = none ∧ (0 ≤ (e : Int) ∧ (e : Int) < 7) ∧ ∀ m3 : sh_Mem, m3 = ms m2 116 (ru (m2 116) e cd) → sh_X g (d + 1 + 1) m_Mod_worked 14 [(0, sh_r 96), (1, sh_i ((0 : Nat) : Int)), (2, sh_i (e : Int)), (3, sh_i ((i : Int) + 1))] [] m3 (sh_K m_Mod_worked Q)) := by
      intro q
      refine s_Mod_sums he ⟨rfl, by omega, ?_⟩
      rintro _ rfl
      rw [r116]
      refine nx _ _ ?_ he (Ev_ms (Ev_sums hm e) (by omega) (by omega) _)
      unfold e_step; rw [if_neg (by omega), if_pos q]
    have tst26 : cd = 26 ∨ cd = 27 → sh_Cal g (d + 1) m_Mod_tests [sh_r 96, sh_i (e : Int)] m (fun rv m2 => rv = none ∧ (0 ≤ (e : Int) ∧ (e : Int) < 7) ∧ ∀ m3 : sh_Mem, m3 = ms m2 112 (ru (m2 112) e cd) → sh_X g (d + 1 + 1) m_Mod_worked 14 [(0, sh_r 96), (1, sh_i ((0 : Nat) : Int)), (2, sh_i (e : Int)), (3, sh_i ((i : Int) + 1))] [] m3 (sh_K m_Mod_worked Q)) := by
      intro q
      refine s_Mod_tests he ⟨rfl, by omega, ?_⟩
      rintro _ rfl
      rw [s112]
      refine nx _ _ ?_ he (Ev_ms (Ev_tests hm e) (by omega) (by omega) _)
      unfold e_step; rw [if_neg (by omega), if_neg (by omega), if_neg (by omega), if_neg (by omega), if_pos q]
    have cmp24 : cd = 24 ∨ cd = 25 → sh_X g (d + 1 + 1) m_Mod_worked 137 [(0, sh_r 96), (1, sh_i ((0 : Nat) : Int)), (2, sh_i (e : Int)), (3, sh_i (i : Int)), (4, sh_i cd)] [] m (sh_K m_Mod_worked Q) := by
      intro q
      apply v_Mod_worked_137
      rw [te]
      refine s_Mod_sums he ⟨rfl, by omega, by omega, ?_⟩
      rintro _ rfl
      refine ⟨by omega, ?_⟩
      rintro _ rfl
      refine ⟨by omega, ?_⟩
      rintro _ rfl
      refine ⟨by omega, ?_⟩
      rintro _ rfl
      refine nx _ _ ?_ he (Ev_ms (Ev_ms (Ev_ms (Ev_ms (Ev_sums hm e) (by omega) (by omega) _) (by omega) (by omega) _) (by omega) (by omega) _) (by omega) (by omega) _)
      unfold e_step; rw [if_neg (by omega), if_neg (by omega), if_neg (by omega), if_pos q]
      unfold e_cmp
      have w : ru (e_sums m e 115) e 0 = ru (m 115) e 0 := by funext j; unfold e_sums; simp only [ms]; unfold ru; split <;> simp_all
      simp only [ms_n _ _ (show (114 : Nat) ≠ 113 by decide), ms_n _ _ (show (115 : Nat) ≠ 113 by decide), ms_n _ _ (show (115 : Nat) ≠ 114 by decide), ms_n _ _ (show (116 : Nat) ≠ 113 by decide), ms_n _ _ (show (116 : Nat) ≠ 114 by decide), ms_n _ _ (show (116 : Nat) ≠ 115 by decide), r115, r113, r114, r116, w]
    have op28 : cd = 28 ∨ cd = 30 → sh_X g (d + 1 + 1) m_Mod_worked 46 [(0, sh_r 96), (1, sh_i ((0 : Nat) : Int)), (2, sh_i (e : Int)), (3, sh_i (i : Int)), (4, sh_i cd)] [] m (sh_K m_Mod_worked Q) := by
      intro q
      have h7 : e + 1 < 7 := by
        rcases Nat.lt_or_ge (e + 1) 7 with z1 | z1
        · exact z1
        · exfalso; unfold e_step at hr; rw [if_pos q, if_neg (by omega)] at hr; simp at hr
      apply v_Mod_worked_46
      rw [ec, te1', te1]
      refine ⟨fun q2 => ⟨by omega, ?_⟩, fun q2 => ⟨by omega, ?_⟩⟩
      · rintro _ rfl
        refine s_Mod_openings h7 ⟨rfl, nx _ _ ?_ h7 (Ev_open (Ev_ms hm (by omega) (by omega) _) _)⟩
        unfold e_step; rw [if_pos q, if_pos h7, if_neg q2]
      · rintro _ rfl
        refine s_Mod_openings h7 ⟨rfl, nx _ _ ?_ h7 (Ev_open (Ev_ms hm (by omega) (by omega) _) _)⟩
        unfold e_step; rw [if_pos q, if_pos h7, if_pos q2]
    have v243 : ∀ y : Int, (cd ≠ 29 → (if 100 ≤ cd then cd - 100 else m 120 cd.toNat) = y) → (cd = 29 ∨ 100 ≤ cd ∨ cd ≤ 4) → sh_X g (d + 1 + 1) m_Mod_worked 243 [(0, sh_r 96), (1, sh_i ((0 : Nat) : Int)), (2, sh_i (e : Int)), (3, sh_i (i : Int)), (4, sh_i cd)] [sh_i y] m (sh_K m_Mod_worked Q) := by
      intro y hy hq
      apply v_Mod_worked_243
      rw [ec, te]
      refine ⟨fun q => dl y ?_, fun q => s_Mod_tests he ⟨rfl, by omega, ?_⟩⟩
      · unfold e_step; rw [if_neg (by omega), if_neg (by omega), if_neg (by omega), if_neg (by omega), if_neg (by omega), if_neg q, hy q]
      · have h0 : e ≠ 0 := by
          intro z0; unfold e_step at hr; rw [if_neg (by omega), if_neg (by omega), if_neg (by omega), if_neg (by omega), if_neg (by omega), if_pos q, if_pos z0] at hr; simp at hr
        have t3 : ((e : Nat) : Int) + -1 = ((e - 1 : Nat) : Int) := by omega
        rw [t3, s111]
        refine l_worked_268 (e - 1) _ (by omega) (nx _ _ ?_ (Nat.lt_of_le_of_lt (e_del_le _ _ _) (by omega)) (Ev_del (Ev_tests hm e) _ _))
        unfold e_step; rw [if_neg (by omega), if_neg (by omega), if_neg (by omega), if_neg (by omega), if_neg (by omega), if_pos q, if_neg h0]
    have hci2 := hci
    unfold e_okc at hci2
    refine ⟨by omega, fun q => absurd q (by omega), fun _ => ⟨by omega, fun q => op28 (Or.inl q), fun q28 => ⟨fun q30 => ⟨fun q => sum20 (Or.inl q), fun q20 => ⟨fun q21 => ⟨fun q22 => ⟨fun q => cmp24 (Or.inl q), fun q24 => ⟨fun q25 => ⟨fun q => tst26 (Or.inl q), fun q26 => ⟨fun q27 => ⟨fun q100 => ⟨fun q2 => ?_, fun q2 => ⟨by omega, ?_⟩⟩, fun q100 => ?_⟩, fun q => tst26 (Or.inr q)⟩⟩, fun q => cmp24 (Or.inr q)⟩⟩, fun q => ⟨by omega, ?_⟩⟩, fun q => sum20 (Or.inr q)⟩⟩, fun q => op28 (Or.inr q)⟩⟩⟩
    · refine v243 0 (fun q => ?_) ?_
      · exfalso; unfold e_okc at hci; omega
      · unfold e_okc at hci; omega
    · exact v243 _ (fun q => by rw [if_neg (by omega)]) (by unfold e_okc at hci; omega)
    · exact v243 _ (fun q => by rw [if_pos (by omega)]) (by omega)
    · rintro _ rfl
      refine nx _ _ ?_ he (Ev_ms hm (by omega) (by omega) _)
      unfold e_step; rw [if_neg (by omega), if_neg (by omega), if_pos q]
