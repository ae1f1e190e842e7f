/-! ===== the reference's evaluator, as functions of the memory (rows 111 to 119: levels) ===== -/
def e_open (m : sh_Mem) (e : Nat) : sh_Mem := ms (ms (ms (ms (ms m 112 (ru (m 112) e 0)) 114 (ru (m 114) e 0)) 115 (ru (m 115) e 0)) 116 (ru (m 116) e 20)) 118 (ru (m 118) e 0)
def e_sv (m : sh_Mem) (e : Nat) : Int := if i3 (m 116 e) = 21 then m 115 e - m 117 e else m 115 e + m 117 e
def e_sums (m : sh_Mem) (e : Nat) : sh_Mem := ms (ms m 115 (ru (m 115) e (e_sv m e))) 118 (ru (m 118) e 0)
/-- what a test comes to, by the sum at last -/
def e_cv (m : sh_Mem) (e : Nat) (v : Int) : Int := if i3 (m 114 e) = 24 then (if i3 (m 113 e) < i3 v then 1 else 0) else if i3 (m 114 e) = 25 then (if i3 (m 113 e) = i3 v then 1 else 0) else v
def e_kv (m : sh_Mem) (e : Nat) (v : Int) : Int := if i3 (m 112 e) = 26 then (if i3 (m 111 e) ≠ 0 ∧ i3 v ≠ 0 then 1 else 0) else if i3 (m 112 e) = 27 then (if i3 (m 111 e) ≠ 0 ∨ i3 v ≠ 0 then 1 else 0) else v
def e_tv (m : sh_Mem) (e : Nat) : Int := e_kv m e (e_cv m e (e_sv m e))
def e_tests (m : sh_Mem) (e : Nat) : sh_Mem := ms (ms (ms (ms (e_sums m e) 111 (ru (m 111) e (e_tv m e))) 114 (ru (m 114) e 0)) 115 (ru (m 115) e 0)) 116 (ru (m 116) e 20)
def e_cmp (m : sh_Mem) (e : Nat) (c : Int) : sh_Mem := ms (ms (ms (ms (e_sums m e) 113 (ru (m 113) e (e_sv m e))) 114 (ru (m 114) e c)) 115 (ru (m 115) e 0)) 116 (ru (m 116) e 20)
def e_put (m : sh_Mem) (e : Nat) (v : Int) : sh_Mem := ms m 117 (ru (m 117) e (if i3 (m 118 e) = 0 then v else m 117 e * v))
def e_del (m : sh_Mem) : Nat → Int → sh_Mem × Nat
  | 0, v => (e_put m 0 v, 0)
  | e + 1, v => if i3 (m 119 (e + 1)) = 1 then e_del m e (if i3 v = 0 then 1 else 0) else (e_put m (e + 1) v, e + 1)
def e_step (c : Int) (m : sh_Mem) (e : Nat) : Option (sh_Mem × Nat) :=
  if c = 28 ∨ c = 30 then (if e + 1 < 7 then some (e_open (ms m 119 (ru (m 119) (e + 1) (if c = 30 then 1 else 0))) (e + 1), e + 1) else none)
  else if c = 20 ∨ c = 21 then some (ms (e_sums m e) 116 (ru (m 116) e c), e)
  else if c = 22 then some (ms m 118 (ru (m 118) e c), e)
  else if c = 24 ∨ c = 25 then some (e_cmp m e c, e)
  else if c = 26 ∨ c = 27 then some (ms (e_tests m e) 112 (ru (m 112) e c), e)
  else if c = 29 then (if e = 0 then none else some (e_del (e_tests m e) (e - 1) (e_tv m e)))
  else some (e_del m e (if 100 ≤ c then c - 100 else m 120 c.toNat))
def e_run (code : Nat → Int) : Nat → Nat → sh_Mem → Nat → Option (sh_Mem × Nat)
  | 0, _, m, e => some (m, e)
  | k + 1, i, m, e => match e_step (code i) m e with
    | none => none
    | some q => e_run code k (i + 1) q.1 q.2
def e_okc (c : Int) : Prop := (1 ≤ c ∧ c ≤ 4) ∨ (20 ≤ c ∧ c ≤ 22) ∨ (24 ≤ c ∧ c ≤ 30) ∨ (100 ≤ c ∧ c ≤ 10099)
/-- nothing but the evaluator's rows is another -/
def Ev (m m' : sh_Mem) : Prop := ∀ a, a < 111 ∨ 119 < a → m' a = m a
theorem Ev_rf (m : sh_Mem) : Ev m m := fun _ _ => rfl
theorem Ev_tr {m m' m'' : sh_Mem} (h : Ev m m') (h2 : Ev m' m'') : Ev m m'' := fun a ha => (h2 a ha).trans (h a ha)
theorem Ev_ms {m m' : sh_Mem} (h : Ev m m') {a : Nat} (h1 : 111 ≤ a) (h2 : a ≤ 119) (r : Nat → Int) : Ev m (ms m' a r) := fun b hb => by rw [ms_n _ _ (by omega)]; exact h b hb
theorem Ev_open {m m' : sh_Mem} (h : Ev m m') (e : Nat) : Ev m (e_open m' e) := Ev_ms (Ev_ms (Ev_ms (Ev_ms (Ev_ms h (by omega) (by omega) _) (by omega) (by omega) _) (by omega) (by omega) _) (by omega) (by omega) _) (by omega) (by omega) _
theorem Ev_sums {m m' : sh_Mem} (h : Ev m m') (e : Nat) : Ev m (e_sums m' e) := Ev_ms (Ev_ms h (by omega) (by omega) _) (by omega) (by omega) _
theorem Ev_tests {m m' : sh_Mem} (h : Ev m m') (e : Nat) : Ev m (e_tests m' e) := Ev_ms (Ev_ms (Ev_ms (Ev_ms (Ev_sums h e) (by omega) (by omega) _) (by omega) (by omega) _) (by omega) (by omega) _) (by omega) (by omega) _
theorem Ev_cmp {m m' : sh_Mem} (h : Ev m m') (e : Nat) (c : Int) : Ev m (e_cmp m' e c) := Ev_ms (Ev_ms (Ev_ms (Ev_ms (Ev_sums h e) (by omega) (by omega) _) (by omega) (by omega) _) (by omega) (by omega) _) (by omega) (by omega) _
theorem Ev_del {m m' : sh_Mem} (h : Ev m m') : ∀ (e : Nat) (v : Int), Ev m (e_del m' e v).1
  | 0, v => Ev_ms h (by omega) (by omega) _
  | e + 1, v => by
    unfold e_del
    split
    · exact Ev_del h e _
    · exact Ev_ms h (by omega) (by omega) _
theorem e_del_le (m : sh_Mem) : ∀ (e : Nat) (v : Int), (e_del m e v).2 ≤ e
  | 0, v => Nat.le_refl 0
  | e + 1, v => by
    unfold e_del
    split
    · exact Nat.le_succ_of_le (e_del_le m e _)
    · exact Nat.le_refl _
theorem s_Mod_openings {g : sh_G} {d : Nat} {mem : sh_Mem} {Q : Option sh_V → sh_Mem → Prop} {e : Nat} (he : e < 7) (h : Q (none) (e_open mem e)) : sh_Cal g d m_Mod_openings [sh_r 96, sh_i e] mem Q := by
  apply v_Mod_openings
  refine ⟨he, ?_⟩
  rintro _ rfl
  refine ⟨he, ?_⟩
  rintro _ rfl
  refine ⟨he, ?_⟩
  rintro _ rfl
  refine ⟨he, ?_⟩
  rintro _ rfl
  refine ⟨he, ?_⟩
  rintro _ rfl
  exact h
theorem s_Mod_sums {g : sh_G} {d : Nat} {mem : sh_Mem} {Q : Option sh_V → sh_Mem → Prop} {e : Nat} (he : e < 7) (h : Q (none) (e_sums mem e)) : sh_Cal g d m_Mod_sums [sh_r 96, sh_i e] mem Q := by
  unfold e_sums e_sv at h
  apply v_Mod_sums
  refine ⟨he, fun q => ⟨he, he, he, ?_⟩, fun q => ⟨he, he, he, ?_⟩⟩
  · rintro _ rfl
    refine ⟨he, ?_⟩
    rintro _ rfl
    rw [if_neg q] at h; exact h
  · rintro _ rfl
    refine ⟨he, ?_⟩
    rintro _ rfl
    rw [if_pos q] at h; exact h
theorem l_Mod_tests_136 {g : sh_G} {d e : Nat} {x2 : Int} {mem : sh_Mem} {Q : Option sh_V → sh_Mem → Prop} (he : e < 7) (h : Q none (ms (ms (ms (ms mem 111 (ru (mem 111) e x2)) 114 (ru (mem 114) e 0)) 115 (ru (mem 115) e 0)) 116 (ru (mem 116) e 20))) : sh_X g (d + 1) m_Mod_tests 136 [(0, sh_r 96), (1, sh_i (e : Int)), (2, sh_i x2)] [] mem (sh_K m_Mod_tests Q) := by
  apply v_Mod_tests_136
  refine ⟨he, ?_⟩
  rintro _ rfl
  refine ⟨he, ?_⟩
  rintro _ rfl
  refine ⟨he, ?_⟩
  rintro _ rfl
  refine ⟨he, ?_⟩
  rintro _ rfl
  exact h
theorem l_Mod_tests_76 {g : sh_G} {d e : Nat} {x2 : Int} {mem : sh_Mem} {Q : Option sh_V → sh_Mem → Prop} (he : e < 7) (h : Q none (ms (ms (ms (ms mem 111 (ru (mem 111) e (e_kv mem e x2))) 114 (ru (mem 114) e 0)) 115 (ru (mem 115) e 0)) 116 (ru (mem 116) e 20))) : sh_X g (d + 1) m_Mod_tests 76 [(0, sh_r 96), (1, sh_i (e : Int)), (2, sh_i x2)] [] mem (sh_K m_Mod_tests Q) := by
  have j0 : i3 0 = 0 := rfl
  have j1 : i3 1 = 1 := rfl
  unfold e_kv at h
  apply v_Mod_tests_76
  refine ⟨he, fun q => ?_, fun q => ⟨he, fun q2 => ?_, fun q2 => ⟨fun q3 => ?_, fun q3 => ?_⟩⟩⟩
  · rw [if_neg q] at h
    apply v_Mod_tests_106
    refine ⟨he, fun q4 => ?_, fun q4 => ⟨he, fun q5 => ?_, fun q5 => ⟨fun q6 => ?_, fun q6 => ?_⟩⟩⟩
    · rw [if_neg q4] at h; exact l_Mod_tests_136 he h
    · rw [if_pos q4, if_pos (Or.inl q5)] at h; apply v_Mod_tests_130; apply v_Mod_tests_135; exact l_Mod_tests_136 he h
    · rw [if_pos q4, if_neg (by rintro (z | z); exact z q5; exact z q6)] at h; apply v_Mod_tests_135; exact l_Mod_tests_136 he h
    · rw [if_pos q4, if_pos (Or.inr q6)] at h; apply v_Mod_tests_130; apply v_Mod_tests_135; exact l_Mod_tests_136 he h
  · rw [if_pos q, if_neg (fun z => z.1 q2)] at h
    apply v_Mod_tests_104; apply v_Mod_tests_105; apply v_Mod_tests_106
    exact ⟨he, fun _ => l_Mod_tests_136 he h, fun q4 => absurd (q.symm.trans q4) (by decide)⟩
  · rw [if_pos q, if_neg (fun z => z.2 q3)] at h
    apply v_Mod_tests_104; apply v_Mod_tests_105; apply v_Mod_tests_106
    exact ⟨he, fun _ => l_Mod_tests_136 he h, fun q4 => absurd (q.symm.trans q4) (by decide)⟩
  · rw [if_pos q, if_pos ⟨q2, q3⟩] at h
    apply v_Mod_tests_105; apply v_Mod_tests_106
    exact ⟨he, fun _ => l_Mod_tests_136 he h, fun q4 => absurd (q.symm.trans q4) (by decide)⟩
theorem s_Mod_tests {g : sh_G} {d : Nat} {mem : sh_Mem} {Q : Option sh_V → sh_Mem → Prop} {e : Nat} (he : e < 7) (h : Q (none) (e_tests mem e)) : sh_Cal g (d + 1) m_Mod_tests [sh_r 96, sh_i e] mem Q := by
  have r111 : (e_sums mem e) 111 = mem 111 := by unfold e_sums; simp [ms]
  have r112 : (e_sums mem e) 112 = mem 112 := by unfold e_sums; simp [ms]
  have r113 : (e_sums mem e) 113 = mem 113 := by unfold e_sums; simp [ms]
  have r114 : (e_sums mem e) 114 = mem 114 := by unfold e_sums; simp [ms]
  have r116 : (e_sums mem e) 116 = mem 116 := by unfold e_sums; simp [ms]
  have r115 : (e_sums mem e) 115 = ru (mem 115) e (e_sv mem e) := by unfold e_sums; simp [ms]
  have r115e : (e_sums mem e) 115 e = e_sv mem e := by rw [r115, ru_s]
  have fin : ∀ v, e_cv mem e (e_sv mem e) = v → Q none (ms (ms (ms (ms (e_sums mem e) 111 (ru ((e_sums mem e) 111) e (e_kv (e_sums mem e) e v))) 114 (ru ((e_sums mem e) 114) e 0)) 115 (ru ((e_sums mem e) 115) e 0)) 116 (ru ((e_sums mem e) 116) e 20)) := by
    intro v hv
    have e1 : e_kv (e_sums mem e) e v = e_tv mem e := by unfold e_tv e_kv; rw [r112, r111, hv]
    have e2 : ru (ru (mem 115) e (e_sv mem e)) e 0 = ru (mem 115) e 0 := by funext j; unfold ru; split <;> rfl
    rw [e1, r111, r114, r116, r115, e2]
    exact h
  apply v_Mod_tests
  refine s_Mod_sums he ⟨rfl, he, he, ?_⟩
  rw [r114, r113, r115e]
  unfold e_cv at fin
  have go44 : ∀ x2, (i3 (mem 114 e) = 25 → False) → (if i3 (mem 114 e) = 24 then (if i3 (mem 113 e) < i3 (e_sv mem e) then 1 else 0) else if i3 (mem 114 e) = 25 then (if i3 (mem 113 e) = i3 (e_sv mem e) then 1 else 0) else e_sv mem e) = x2 → sh_X g (d + 1) m_Mod_tests 44 [(0, sh_r 96), (1, sh_i (e : Int)), (2, sh_i x2)] [] (e_sums mem e) (sh_K m_Mod_tests Q) := by
    intro x2 hn hx
    apply v_Mod_tests_44
    rw [r114]
    exact ⟨he, fun _ => l_Mod_tests_76 he (fin x2 hx), fun q => absurd q hn⟩
  refine ⟨fun q => ?_, fun q => ⟨he, he, fun q2 => ?_, fun q2 => ?_⟩⟩
  · apply v_Mod_tests_44
    rw [r114, r113, r115e]
    rw [if_neg q] at fin
    refine ⟨he, fun q2 => l_Mod_tests_76 he (fin _ (if_neg q2)), fun q2 => ⟨he, he, fun q3 => ?_, fun q3 => ?_⟩⟩
    · rw [if_pos q2] at fin; apply v_Mod_tests_75; exact l_Mod_tests_76 he (fin _ (if_neg q3))
    · rw [if_pos q2] at fin; apply v_Mod_tests_75; exact l_Mod_tests_76 he (fin _ (if_pos q3))
  · apply v_Mod_tests_43
    exact go44 0 (fun z => absurd (q.symm.trans z) (by decide)) (by rw [if_pos q, if_neg (by omega)])
  · apply v_Mod_tests_43
    exact go44 1 (fun z => absurd (q.symm.trans z) (by decide)) (by rw [if_pos q, if_pos (by omega)])
