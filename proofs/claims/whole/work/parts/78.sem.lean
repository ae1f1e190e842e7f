/-! ===== what fences pay: both come to the same ===== -/
theorem st_22 {m : sh_Mem} {e : Nat} : e_step 22 m e = some (ms m 118 (ru (m 118) e 22), e) := by
  unfold e_step; rw [if_neg (by decide), if_neg (by decide), if_pos rfl]
theorem st_20 {m : sh_Mem} {e : Nat} {c : Int} (h : c = 20 ∨ c = 21) : e_step c m e = some (ms (e_sums m e) 116 (ru (m 116) e c), e) := by
  unfold e_step; rw [if_neg (by omega), if_pos h]
theorem st_24 {m : sh_Mem} {e : Nat} {c : Int} (h : c = 24 ∨ c = 25) : e_step c m e = some (e_cmp m e c, e) := by
  unfold e_step; rw [if_neg (by omega), if_neg (by omega), if_neg (by omega), if_pos h]
theorem st_26 {m : sh_Mem} {e : Nat} {c : Int} (h : c = 26 ∨ c = 27) : e_step c m e = some (ms (e_tests m e) 112 (ru (m 112) e c), e) := by
  unfold e_step; rw [if_neg (by omega), if_neg (by omega), if_neg (by omega), if_neg (by omega), if_pos h]
theorem st_28 {m : sh_Mem} {e : Nat} {c : Int} (h : c = 28 ∨ c = 30) (he : e + 1 < 7) : e_step c m e = some (e_open (ms m 119 (ru (m 119) (e + 1) (if c = 30 then 1 else 0))) (e + 1), e + 1) := by
  unfold e_step; rw [if_pos h, if_pos he]
theorem st_29 {m : sh_Mem} {e : Nat} : e_step 29 m (e + 1) = some (e_del (e_tests m (e + 1)) e (e_tv m (e + 1))) := by
  unfold e_step; rw [if_neg (by decide), if_neg (by decide), if_neg (by decide), if_neg (by decide), if_neg (by decide), if_pos rfl, if_neg (by omega)]; rfl
theorem st_v {m : sh_Mem} {e : Nat} {c : Int} (h : (1 ≤ c ∧ c ≤ 4) ∨ 100 ≤ c) : e_step c m e = some (e_del m e (if 100 ≤ c then c - 100 else m 120 c.toNat)) := by
  unfold e_step; rw [if_neg (by omega), if_neg (by omega), if_neg (by omega), if_neg (by omega), if_neg (by omega), if_neg (by omega)]
theorem Kp_sums {e : Nat} (m : sh_Mem) : Kp (fun a => 115 ≤ a ∧ a ≤ 118) e m (e_sums m e) := by
  unfold e_sums
  have h1 := Kp_ms (S := fun a => 115 ≤ a ∧ a ≤ 118) (Kp_rf _ e m) (a := 115) (by omega) (by omega) (e_sv m e)
  have h2 := Kp_ms h1 (a := 118) (by omega) (by omega) 0
  rw [ms_n _ _ (by decide)] at h2
  exact h2
theorem sums_r (m : sh_Mem) (e : Nat) : (e_sums m e) 115 e = e_sv m e ∧ (e_sums m e) 118 e = 0 ∧ (e_sums m e) 116 = m 116 := by
  unfold e_sums; refine ⟨?_, ?_, ?_⟩ <;> simp [ms, ru]
theorem SemProd_1 {k : Nat} {r : PS} (h : SemPart k r) : SemProd k r := by
  obtain ⟨V, hc, hm⟩ := h
  refine ⟨V, SmC_mono hc (by omega), fun F m e he hF hB h8 => ?_⟩
  obtain ⟨m', k1, k2⟩ := hm F m e he hF
  have hB' := BL_Kp hB k1 (fun z => z)
  rw [e_del_BL hB'] at k2
  refine ⟨_, ?_, k2, ?_⟩
  · unfold e_put
    exact Kp_tr (Kp_sub k1 (fun a z => absurd z (fun y => y))) (Kp_ms (Kp_rf _ e m') (Or.inl rfl) (by omega) _)
  · unfold e_put; rw [ms_s, ru_s, k1.2.2 118 (fun z => z), if_pos h8]
theorem SemProd_J {k : Nat} {s r : PS} (h : SemProd k s) (hr : SemPart k r) : SemProd k (pJ s r (-12, 22)) := by
  obtain ⟨V, hc, hm⟩ := h
  obtain ⟨U, hc2, hm2⟩ := hr
  refine ⟨fun F => joinF (-12) (V F) (U F), SmC_J hc hc2 (by omega) (by omega) (by decide), fun F m e he hF hB h8 => ?_⟩
  obtain ⟨m1, k1, k2, k3⟩ := hm F m e he hF hB h8
  have k4 := Kp_ms k1 (a := 118) (Or.inr rfl) (by omega) 22
  obtain ⟨m3, q1, q2⟩ := hm2 F (ms m1 118 (ru (m1 118) e 22)) e he (FV_Kp hF k4)
  have hB3 := BL_Kp (BL_Kp hB k4 (by omega)) q1 (fun z => z)
  rw [e_del_BL hB3] at q2
  refine ⟨e_put m3 e (U F), ?_, ?_, ?_⟩
  · unfold e_put
    exact Kp_tr (Kp_tr k4 (Kp_sub q1 (fun a z => absurd z (fun y => y)))) (Kp_ms (Kp_rf _ e m3) (Or.inl rfl) (by omega) _)
  · show e_rl (s.2.2 ++ (22 :: r.2.2)) m e = _
    rw [e_rl_app _ _ _ _ _ k2, e_rl_cons st_22, q2]
  · unfold e_put
    rw [ms_s, ru_s, q1.2.2 118 (fun z => z), q1.2.2 117 (fun z => z), ms_s, ru_s, ms_n _ _ (by decide), k3, if_neg (by decide)]
    rfl
theorem SemSum_1 {k : Nat} {r : PS} (h : SemProd k r) : SemSum k r := by
  obtain ⟨V, hc, hm⟩ := h
  refine ⟨V, SmC_mono hc (by omega), fun F m e he hF hB h8 h5 h6 => ?_⟩
  obtain ⟨m', k1, k2, k3⟩ := hm F m e he hF hB h8
  refine ⟨m', Kp_sub k1 (fun a z => by omega), k2, ?_⟩
  unfold e_sv
  rw [k1.2.2 116 (by omega), k1.2.2 115 (by omega), h5, h6, if_neg (by decide), k3, Int.zero_add]
theorem SemSum_J {k : Nat} {s r : PS} {o : Int × Int} (ho : o = (-10, 20) ∨ o = (-11, 21)) (h : SemSum k s) (hr : SemProd k r) : SemSum k (pJ s r o) := by
  obtain ⟨V, hc, hm⟩ := h
  obtain ⟨U, hc2, hm2⟩ := hr
  have o1 : o.1 < -5 := by rcases ho with rfl | rfl <;> decide
  have o2 : o.2 = 20 ∨ o.2 = 21 := by rcases ho with rfl | rfl <;> decide
  refine ⟨fun F => joinF o.1 (V F) (U F), SmC_J hc hc2 (by omega) (by omega) o1, fun F m e he hF hB h8 h5 h6 => ?_⟩
  obtain ⟨m1, k1, k2, k3⟩ := hm F m e he hF hB h8 h5 h6
  have sr := sums_r m1 e
  have k4 := Kp_tr k1 (Kp_sums m1)
  have k5 := Kp_ms k4 (a := 116) (by omega) (by omega) o.2
  rw [sr.2.2] at k5
  obtain ⟨m3, q1, q2, q3⟩ := hm2 F (ms (e_sums m1 e) 116 (ru (m1 116) e o.2)) e he (FV_Kp hF k5) (BL_Kp hB k5 (by omega)) (by rw [ms_n _ _ (by decide), sr.2.1]; rfl)
  refine ⟨m3, Kp_tr k5 (Kp_sub q1 (fun a z => by omega)), ?_, ?_⟩
  · show e_rl (s.2.2 ++ (o.2 :: r.2.2)) m e = _
    rw [e_rl_app _ _ _ _ _ k2, e_rl_cons (st_20 o2)]
    exact q2
  · unfold e_sv
    rw [q1.2.2 116 (by omega), q1.2.2 115 (by omega), ms_s, ru_s, ms_n _ _ (by decide), sr.1, k3, q3]
    rcases ho with rfl | rfl <;> rfl
theorem SemTest_1 {k : Nat} {r : PS} (h : SemSum k r) : SemTest k r := by
  obtain ⟨V, hc, hm⟩ := h
  refine ⟨V, SmC_mono hc (by omega), fun F m e he hF hB h8 h5 h6 h4 => ?_⟩
  obtain ⟨m', k1, k2, k3⟩ := hm F m e he hF hB h8 h5 h6
  refine ⟨m', Kp_sub k1 (fun a z => by omega), k2, ?_⟩
  unfold e_cv
  rw [k1.2.2 114 (by omega), h4, if_neg (by decide), if_neg (by decide), k3]
theorem cmp_r (m : sh_Mem) (e : Nat) (c : Int) : (e_cmp m e c) 113 e = e_sv m e ∧ (e_cmp m e c) 114 e = c ∧ (e_cmp m e c) 115 e = 0 ∧ (e_cmp m e c) 116 e = 20 ∧ (e_cmp m e c) 118 e = 0 := by
  unfold e_cmp e_sums; refine ⟨?_, ?_, ?_, ?_, ?_⟩ <;> simp [ms, ru]
theorem Kp_cmp {e : Nat} (m : sh_Mem) (c : Int) : Kp (fun a => 113 ≤ a ∧ a ≤ 118) e m (e_cmp m e c) := by
  refine ⟨fun a ha => ?_, fun a i hi => ?_, fun a ha => ?_⟩
  · unfold e_cmp e_sums; rw [ms_n _ _ (by omega), ms_n _ _ (by omega), ms_n _ _ (by omega), ms_n _ _ (by omega), ms_n _ _ (by omega), ms_n _ _ (by omega)]
  · unfold e_cmp e_sums ms ru
    by_cases z1 : a = 116
    · subst z1; simp; omega
    · by_cases z2 : a = 115
      · subst z2; simp; omega
      · by_cases z3 : a = 114
        · subst z3; simp; omega
        · by_cases z4 : a = 113
          · subst z4; simp; omega
          · by_cases z5 : a = 118
            · subst z5; simp; omega
            · simp [z1, z2, z3, z4, z5]
  · unfold e_cmp e_sums; rw [ms_n _ _ (by omega), ms_n _ _ (by omega), ms_n _ _ (by omega), ms_n _ _ (by omega), ms_n _ _ (by omega), ms_n _ _ (by omega)]
theorem SemTest_J {k : Nat} {s r : PS} {o : Int × Int} (ho : o = (-8, 24) ∨ o = (-9, 25)) (h : SemSum k s) (hr : SemSum k r) : SemTest k (pJ s r o) := by
  obtain ⟨V, hc, hm⟩ := h
  obtain ⟨U, hc2, hm2⟩ := hr
  have o1 : o.1 < -5 := by rcases ho with rfl | rfl <;> decide
  have o2 : o.2 = 24 ∨ o.2 = 25 := by rcases ho with rfl | rfl <;> decide
  refine ⟨fun F => joinF o.1 (V F) (U F), SmC_J hc hc2 (by omega) (by omega) o1, fun F m e he hF hB h8 h5 h6 h4 => ?_⟩
  obtain ⟨m1, k1, k2, k3⟩ := hm F m e he hF hB h8 h5 h6
  have cr := cmp_r m1 e o.2
  have k5 := Kp_tr (Kp_sub k1 (S' := fun a => 113 ≤ a ∧ a ≤ 118) (fun a z => by omega)) (Kp_cmp m1 o.2)
  obtain ⟨m3, q1, q2, q3⟩ := hm2 F (e_cmp m1 e o.2) e he (FV_Kp hF k5) (BL_Kp hB k5 (by omega)) (by rw [cr.2.2.2.2]; rfl) cr.2.2.1 cr.2.2.2.1
  refine ⟨m3, Kp_tr k5 (Kp_sub q1 (fun a z => by omega)), ?_, ?_⟩
  · show e_rl (s.2.2 ++ (o.2 :: r.2.2)) m e = _
    rw [e_rl_app _ _ _ _ _ k2, e_rl_cons (st_24 o2)]
    exact q2
  · unfold e_cv
    rw [q1.2.2 114 (by omega), q1.2.2 113 (by omega), cr.1, cr.2.1, k3, q3]
    rcases ho with rfl | rfl <;> rfl
theorem SemE_1 {k : Nat} {r : PS} (h : SemTest k r) : SemE k r := by
  obtain ⟨V, hc, hm⟩ := h
  refine ⟨V, SmC_mono hc (by omega), fun F m e he hF hB h8 h5 h6 h4 h2 => ?_⟩
  obtain ⟨m', k1, k2, k3⟩ := hm F m e he hF hB h8 h5 h6 h4
  refine ⟨m', Kp_sub k1 (fun a z => by omega), k2, ?_⟩
  unfold e_tv e_kv
  rw [k1.2.2 112 (by omega), h2, if_neg (by decide), if_neg (by decide), k3]
theorem tst_r (m : sh_Mem) (e : Nat) : (e_tests m e) 111 e = e_tv m e ∧ (e_tests m e) 114 e = 0 ∧ (e_tests m e) 115 e = 0 ∧ (e_tests m e) 116 e = 20 ∧ (e_tests m e) 118 e = 0 ∧ (e_tests m e) 112 = m 112 := by
  unfold e_tests e_sums; refine ⟨?_, ?_, ?_, ?_, ?_, ?_⟩ <;> simp [ms, ru]
theorem Kp_tests {e : Nat} (m : sh_Mem) : Kp (fun a => 111 ≤ a ∧ a ≤ 118) e m (e_tests m e) := by
  refine ⟨fun a ha => ?_, fun a i hi => ?_, fun a ha => ?_⟩
  · unfold e_tests e_sums; rw [ms_n _ _ (by omega), ms_n _ _ (by omega), ms_n _ _ (by omega), ms_n _ _ (by omega), ms_n _ _ (by omega), ms_n _ _ (by omega)]
  · unfold e_tests e_sums ms ru
    by_cases z1 : a = 116
    · subst z1; simp; omega
    · by_cases z2 : a = 115
      · subst z2; simp; omega
      · by_cases z3 : a = 114
        · subst z3; simp; omega
        · by_cases z4 : a = 111
          · subst z4; simp; omega
          · by_cases z5 : a = 118
            · subst z5; simp; omega
            · simp [z1, z2, z3, z4, z5]
  · unfold e_tests e_sums; rw [ms_n _ _ (by omega), ms_n _ _ (by omega), ms_n _ _ (by omega), ms_n _ _ (by omega), ms_n _ _ (by omega), ms_n _ _ (by omega)]
theorem SemE_J {k : Nat} {s r : PS} {o : Int × Int} (ho : o = (-6, 26) ∨ o = (-7, 27)) (h : SemE k s) (hr : SemTest k r) : SemE k (pJ s r o) := by
  obtain ⟨V, hc, hm⟩ := h
  obtain ⟨U, hc2, hm2⟩ := hr
  have o1 : o.1 < -5 := by rcases ho with rfl | rfl <;> decide
  have o2 : o.2 = 26 ∨ o.2 = 27 := by rcases ho with rfl | rfl <;> decide
  refine ⟨fun F => joinF o.1 (V F) (U F), SmC_J hc hc2 (by omega) (by omega) o1, fun F m e he hF hB h8 h5 h6 h4 h2 => ?_⟩
  obtain ⟨m1, k1, k2, k3⟩ := hm F m e he hF hB h8 h5 h6 h4 h2
  have tr := tst_r m1 e
  have k5 := Kp_ms (Kp_tr k1 (Kp_tests m1)) (a := 112) (by omega) (by omega) o.2
  rw [tr.2.2.2.2.2] at k5
  obtain ⟨m3, q1, q2, q3⟩ := hm2 F (ms (e_tests m1 e) 112 (ru (m1 112) e o.2)) e he (FV_Kp hF k5) (BL_Kp hB k5 (by omega)) (by rw [ms_n _ _ (by decide), tr.2.2.2.2.1]; rfl) (by rw [ms_n _ _ (by decide)]; exact tr.2.2.1) (by rw [ms_n _ _ (by decide)]; exact tr.2.2.2.1) (by rw [ms_n _ _ (by decide)]; exact tr.2.1)
  refine ⟨m3, Kp_tr k5 (Kp_sub q1 (fun a z => by omega)), ?_, ?_⟩
  · show e_rl (s.2.2 ++ (o.2 :: r.2.2)) m e = _
    rw [e_rl_app _ _ _ _ _ k2, e_rl_cons (st_26 o2)]
    exact q2
  · unfold e_tv e_kv
    rw [q1.2.2 112 (by omega), q1.2.2 111 (by omega), ms_s, ru_s, ms_n _ _ (by decide), tr.1, k3, q3]
    rcases ho with rfl | rfl <;> rfl
theorem Sem_L {T : Tp} {P : Tok → PR} {op : Tok → Option (Int × Int)} {A B : PS → Prop} (hR : RdP T P) (hJ : ∀ t s r o, op t = some o → A s → B r → A (pJ s r o)) (hP : ∀ t r, TK T t → P t = .inr r → B r) : ∀ (k : Nat) (s r : PS), TK T s.1 → A s → pLp T P op k s = .inr r → A r
  | 0, s, r, _, h, e => by rw [pLp] at e; cases e; exact h
  | k + 1, s, r, ht, h, e => by
    rw [pLp] at e
    split at e
    · cases e; exact h
    · rename_i o ho
      split at e
      · cases e
      · rename_i r' hr'; exact Sem_L hR hJ hP k (pJ s r' o) r (hR _ _ (TK_n ht) hr').1 (hJ _ _ _ _ ho h (hP _ _ (TK_n ht) hr')) e
theorem Sem_seq {T : Tp} {P : Tok → PR} {op : Tok → Option (Int × Int)} {A B : PS → Prop} (hR : RdP T P) (h1 : ∀ r, B r → A r) (hJ : ∀ t s r o, op t = some o → A s → B r → A (pJ s r o)) (hP : ∀ t r, TK T t → P t = .inr r → B r) : ∀ t r, TK T t → pSeq T P op t = .inr r → A r := by
  intro t r ht e
  unfold pSeq at e
  split at e
  · cases e
  · rename_i s hs; exact Sem_L hR hJ hP 1000 s r (hR _ _ ht hs).1 (h1 _ (hP _ _ ht hs)) e
theorem Sem_prod {T : Tp} {P : Tok → PR} {k : Nat} (hR : RdP T P) (hP : ∀ t r, TK T t → P t = .inr r → SemPart k r) : ∀ t r, TK T t → pSeq T P opM t = .inr r → SemProd k r :=
  Sem_seq hR (fun r h => SemProd_1 h) (fun t s r o ho h hr => by
    unfold opM at ho; split at ho
    · cases ho; exact SemProd_J h hr
    · cases ho) hP
theorem Sem_sum {T : Tp} {P : Tok → PR} {k : Nat} (hR : RdP T P) (hP : ∀ t r, TK T t → P t = .inr r → SemPart k r) : ∀ t r, TK T t → pSum T P t = .inr r → SemSum k r :=
  Sem_seq (RdP_seq hR op_ok.1) (fun r h => SemSum_1 h) (fun t s r o ho h hr => by
    unfold opA at ho; split at ho
    · cases ho; exact SemSum_J (Or.inl rfl) h hr
    · split at ho
      · cases ho; exact SemSum_J (Or.inr rfl) h hr
      · cases ho) (Sem_prod hR hP)
theorem Sem_test {T : Tp} {P : Tok → PR} {k : Nat} (hR : RdP T P) (hP : ∀ t r, TK T t → P t = .inr r → SemPart k r) : ∀ t r, TK T t → pTest T P t = .inr r → SemTest k r := by
  intro t r ht e
  unfold pTest at e
  split at e
  · cases e
  · rename_i s hs
    have h := Sem_sum hR hP _ _ ht hs
    have h1 := (RdP_sum hR _ _ ht hs).1
    split at e
    · cases e; exact SemTest_1 h
    · rename_i o ho
      split at e
      · cases e
      · rename_i r' hr'
        cases e
        unfold opC at ho; split at ho
        · cases ho; exact SemTest_J (Or.inl rfl) h (Sem_sum hR hP _ _ (TK_n h1) hr')
        · split at ho
          · cases ho; exact SemTest_J (Or.inr rfl) h (Sem_sum hR hP _ _ (TK_n h1) hr')
          · cases ho
theorem Sem_ex {T : Tp} {P : Tok → PR} {k : Nat} (hR : RdP T P) (hP : ∀ t r, TK T t → P t = .inr r → SemPart k r) : ∀ t r, TK T t → pEx T P t = .inr r → SemE k r :=
  Sem_seq (RdP_test hR) (fun r h => SemE_1 h) (fun t s r o ho h hr => by
    unfold opL at ho; split at ho
    · cases ho; exact SemE_J (Or.inl rfl) h hr
    · split at ho
      · cases ho; exact SemE_J (Or.inr rfl) h hr
      · cases ho) (Sem_test hR hP)
theorem open_r (m : sh_Mem) (e : Nat) (x : Int) : e_open (ms m 119 (ru (m 119) e x)) e 112 e = 0 ∧ e_open (ms m 119 (ru (m 119) e x)) e 114 e = 0 ∧ e_open (ms m 119 (ru (m 119) e x)) e 115 e = 0 ∧ e_open (ms m 119 (ru (m 119) e x)) e 116 e = 20 ∧ e_open (ms m 119 (ru (m 119) e x)) e 118 e = 0 ∧ e_open (ms m 119 (ru (m 119) e x)) e 119 e = x := by
  unfold e_open; refine ⟨?_, ?_, ?_, ?_, ?_, ?_⟩ <;> simp [ms, ru]
theorem Kp_open {e : Nat} (m : sh_Mem) (x : Int) : Kp noS e m (e_open (ms m 119 (ru (m 119) (e + 1) x)) (e + 1)) := by
  have key : ∀ a i, i ≤ e → e_open (ms m 119 (ru (m 119) (e + 1) x)) (e + 1) a i = m a i := by
    intro a i hi
    unfold e_open ms ru
    by_cases z1 : a = 112
    · subst z1; simp; omega
    · by_cases z2 : a = 114
      · subst z2; simp; omega
      · by_cases z3 : a = 115
        · subst z3; simp; omega
        · by_cases z4 : a = 116
          · subst z4; simp; omega
          · by_cases z5 : a = 118
            · subst z5; simp; omega
            · by_cases z6 : a = 119
              · subst z6; simp; omega
              · simp [z1, z2, z3, z4, z5, z6]
  refine ⟨fun a ha => ?_, fun a i hi => key a i (by omega), fun a _ => key a e (by omega)⟩
  unfold e_open; rw [ms_n _ _ (by omega), ms_n _ _ (by omega), ms_n _ _ (by omega), ms_n _ _ (by omega), ms_n _ _ (by omega), ms_n _ _ (by omega)]
/-- what is so up to e + 1 is so up to e -/
theorem Kp_dn {S : Nat → Prop} {e : Nat} {m m' : sh_Mem} (h : Kp S (e + 1) m m') : Kp noS e m m' := ⟨h.1, fun a i hi => h.2.1 a i (by omega), fun a _ => h.2.1 a e (by omega)⟩
theorem Sem_part {T : Tp} (hT : TpOk T) {pE pQ : Tok → PR} {k : Nat} (hE : ∀ t r, TK T t → pE t = .inr r → SemE k r) (hP : ∀ t r, TK T t → pQ t = .inr r → SemPart k r) : ∀ t r, TK T t → pPart T false pE pQ t = .inr r → SemPart (k + 1) r := by
  intro t r ht e
  unfold pPart at e
  split at e
  · cases e
  · rename_i hs
    rw [if_neg (by decide)] at e
    split at e
    · split at e
      · cases e
      · rename_i r' hr'
        cases e
        obtain ⟨V, hc, hm⟩ := hP _ _ (TK_n ht) hr'
        refine ⟨fun F => if i3 (V F) = 0 then 1 else 0, fun F f l hf hl => ?_, fun F m e he hF => ?_⟩
        · show smF f (r'.2.1 ++ [-5]) l = _
          rw [smF_app, hc F f l hf (by omega)]
          show smL f (-5) (V F :: l) = _
          unfold smL; rw [if_pos (by decide), if_pos rfl]
        · have ko := Kp_open (e := e) m 1
          have orr := open_r m (e + 1) 1
          obtain ⟨m', k1, k2⟩ := hm F (e_open (ms m 119 (ru (m 119) (e + 1) 1)) (e + 1)) (e + 1) (by omega) (FV_Kp hF ko)
          refine ⟨m', Kp_tr ko (Kp_dn k1), ?_⟩
          show e_rl (30 :: r'.2.2) m e = _
          rw [e_rl_cons (st_28 (Or.inr rfl) (by omega))]
          rw [if_pos rfl, k2]
          have b1 : i3 (m' 119 (e + 1)) = 1 := by rw [k1.2.2 119 (fun z => z), orr.2.2.2.2.2]; rfl
          rw [e_del, if_pos b1]
    · split at e
      · split at e
        · cases e
        · rename_i r' hr'
          split at e
          · cases e
            obtain ⟨V, hc, hm⟩ := hE _ _ (TK_n ht) hr'
            refine ⟨V, SmC_mono hc (by omega), fun F m e he hF => ?_⟩
            have ko := Kp_open (e := e) m 0
            have orr := open_r m (e + 1) 0
            obtain ⟨m', k1, k2, k3⟩ := hm F (e_open (ms m 119 (ru (m 119) (e + 1) 0)) (e + 1)) (e + 1) (by omega) (FV_Kp hF ko) (Or.inr (by rw [orr.2.2.2.2.2]; decide)) (by rw [orr.2.2.2.2.1]; rfl) orr.2.2.1 orr.2.2.2.1 orr.2.1 orr.1
            refine ⟨e_tests m' (e + 1), Kp_tr ko (Kp_tr (Kp_dn k1) (Kp_dn (Kp_tests m'))), ?_⟩
            show e_rl (28 :: (r'.2.2 ++ [29])) m e = _
            rw [e_rl_cons (st_28 (Or.inl rfl) (by omega)), if_neg (by decide), e_rl_app _ _ _ _ _ k2]
            show e_rl (29 :: []) m' (e + 1) = _
            rw [e_rl_cons st_29, k3]; rfl
          · cases e
      · split at e
        · rename_i hk
          cases e
          have v := TK_n4 hT ht hk
          refine ⟨fun _ => t_v t, fun F f l hf hl => ?_, fun F m e he hF => ⟨m, Kp_rf _ e m, ?_⟩⟩
          · show smL f (t_v t) l = _
            unfold smL; rw [if_neg (by omega), if_neg (by omega), if_neg (by omega)]
          · show e_rl [100 + t_v t] m e = _
            rw [e_rl_cons (st_v (Or.inr (by omega))), if_pos (by omega), show 100 + t_v t - 100 = t_v t by omega]; rfl
        · rename_i nw nb nn
          cases e
          have fc : 1 ≤ fcT t ∧ fcT t ≤ 4 := by
            have : fcT t ≠ 0 := fun z => hs ⟨z, nw, nb, nn⟩
            unfold fcT at this ⊢
            split
            · omega
            · split
              · omega
              · split
                · omega
                · split
                  · omega
                  · rename_i q1 q2 q3 q4; rw [if_neg q1, if_neg q2, if_neg q3, if_neg q4] at this; exact absurd rfl this
          refine ⟨fun F => F (fcT t), fun F f l hf hl => ?_, fun F m e he hF => ⟨m, Kp_rf _ e m, ?_⟩⟩
          · show smL f (-(fcT t)) l = _
            unfold smL; rw [if_neg (by omega), if_neg (by omega), if_pos (by omega), hf _ fc.1 fc.2]
          · show e_rl [fcT t] m e = _
            rw [e_rl_cons (st_v (Or.inl fc)), if_neg (by omega), hF _ fc.1 fc.2]; rfl
theorem Sem_P {T : Tp} (hT : TpOk T) : ∀ k t r, TK T t → pP T k t = .inr r → SemPart k r
  | 0, t, r, _, e => by
    rw [pP] at e; unfold pPart at e
    split at e
    · cases e
    · rw [if_pos rfl] at e; cases e
  | k + 1, t, r, ht, e => Sem_part hT (Sem_ex (RdP_P hT k) (Sem_P hT k)) (Sem_P hT k) t r ht e
