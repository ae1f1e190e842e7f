/-! ===== what fences pay: the law that is read ===== -/
def prL (C : List Int) (mu ol so da : Int) : Int := match smF (factF mu ol so da) C [] with
  | [] => 0
  | x :: _ => clampN x
theorem smR_F (f : Int → Int) : ∀ (C : List Int) (code : Nat → Int) (i : Nat) (l : List Int), (∀ j, j < C.length → code (i + j) = C.getD j 0) → smR f code C.length i l = match smF f C l with | [] => 0 | x :: _ => clampP x
  | [], code, i, l, _ => rfl
  | c :: C, code, i, l, h => by
    show smR f code (C.length + 1) i l = _
    rw [smR, smF]
    have h0 : code i = c := by have := h 0 (by simp); simpa using this
    rw [h0]
    exact smR_F f C code (i + 1) _ (fun j hj => by
      have := h (j + 1) (by simp only [List.length_cons]; omega)
      simp only [List.getD_cons_succ] at this
      rw [← this]; congr 1; omega)
theorem clampN_rng (v : Int) : 0 ≤ clampN v ∧ clampN v ≤ 99 := by unfold clampN; split; omega; split <;> omega
theorem prL_rng (C : List Int) (mu ol so da : Int) : 0 ≤ prL C mu ol so da ∧ prL C mu ol so da ≤ 99 := by
  unfold prL; split
  · omega
  · exact clampN_rng _
theorem CL_of {mem : sh_Mem} {B : Nat} {b : Bk} {C : List Int} (h2 : mem (B + 8) 2 = (C.length : Int)) (hl : C.length ≤ 1000) (hc : ∀ i, i < C.length → mem (B + 9) i = C.getD i 0) (hr : ∀ c ∈ C, -12 ≤ c ∧ c ≤ 9999) (hp : 0 < b_nt b → ∀ mu ol so da, b_pr b mu ol so da = prL C mu ol so da) : CL mem B b := by
  refine ⟨C.length, h2, hl, fun i hi => ?_, fun hnt mu ol so da => ?_⟩
  · rw [hc i hi]
    have : C.getD i 0 = C[i] := by simp [List.getD, hi]
    rw [this]; exact hr _ (List.getElem_mem hi)
  · rw [hp hnt]
    unfold prC prL
    rw [smR_F _ C _ 0 [] (fun j hj => by rw [Nat.zero_add]; exact hc j hj)]
    cases smF (factF mu ol so da) C [] with
    | nil => rfl
    | cons x l => exact clampN_P x
theorem prL_1 (mu ol so da : Int) : prL [-1] mu ol so da = clampN mu := rfl
theorem e_run_rl : ∀ (D : List Int) (code : Nat → Int) (i : Nat) (m : sh_Mem) (e : Nat), (∀ j, j < D.length → code (i + j) = D.getD j 0) → e_run code D.length i m e = e_rl D m e
  | [], _, _, _, _, _ => rfl
  | c :: D, code, i, m, e, h => by
    show e_run code (D.length + 1) i m e = _
    rw [e_run, e_rl]
    have h0 : code i = c := by have := h 0 (by simp); simpa using this
    rw [h0]
    cases e_step c m e with
    | none => rfl
    | some q => exact e_run_rl D code (i + 1) _ _ (fun j hj => by
        have := h (j + 1) (by simp only [List.length_cons]; omega)
        simp only [List.getD_cons_succ] at this
        rw [← this]; congr 1; omega)
theorem law_run {T : Tp} (hT : TpOk T) {t : Tok} (ht : TK T t) {r : PS} (hx : pEx T (pP T 5) t = .inr r) (m : sh_Mem) : ∃ mF, e_rl r.2.2 (e_open m 0) 0 = some (mF, 0) ∧ clampN (e_tv mF 0) = prL r.2.1 (m 120 1) (m 120 2) (m 120 3) (m 120 4) := by
  obtain ⟨V, hc, hm⟩ := Sem_ex (RdP_P hT 5) (Sem_P hT 5) t r ht hx
  have o120 : (e_open m 0) 120 = m 120 := Ev_open (Ev_rf m) 0 120 (by omega)
  obtain ⟨mF, _, k2, k3⟩ := hm (fun i => m 120 i.toNat) (e_open m 0) 0 (by omega) (fun i _ _ => by rw [o120]) (Or.inl rfl) (by unfold e_open; simp [ms, ru]; rfl) (by unfold e_open; simp [ms, ru]) (by unfold e_open; simp [ms, ru]) (by unfold e_open; simp [ms, ru]) (by unfold e_open; simp [ms, ru])
  refine ⟨mF, k2, ?_⟩
  rw [k3]
  unfold prL
  rw [hc (fun i => m 120 i.toNat) (factF (m 120 1) (m 120 2) (m 120 3) (m 120 4)) [] (fun i h1 h2 => ?_) (by simp)]
  have : i = 1 ∨ i = 2 ∨ i = 3 ∨ i = 4 := by omega
  rcases this with rfl | rfl | rfl | rfl <;> rfl
theorem ML_of {mem : sh_Mem} {b : Bk} {T : Tp} (hT : TpOk T) {t : Tok} (ht : TK T t) {r : PS} (hx : pEx T (pP T 5) t = .inr r) {f : Nat} (h6 : mem 106 0 = (f : Int)) (h7 : mem 107 0 = ((f + r.2.2.length : Nat) : Int)) (hf : f + r.2.2.length ≤ 1000) (hc : ∀ i, i < r.2.2.length → mem 108 (f + i) = r.2.2.getD i 0) (hp : ∀ mu ol so da, b_pr b mu ol so da = prL r.2.1 mu ol so da) : ML mem b := by
  have hrd := RdP_ex (RdP_P hT 5) _ _ ht hx
  have l1 := hrd.2.2.2.2.2
  refine ⟨f, f + r.2.2.length, h6, h7, by omega, hf, fun z => by omega, fun _ => ⟨fun i h1 h2 => ?_, fun m => ?_⟩⟩
  · obtain ⟨j, rfl⟩ : ∃ j, i = f + j := ⟨i - f, by omega⟩
    rw [hc j (by omega)]
    have : r.2.2.getD j 0 = r.2.2[j] := by simp [List.getD, show j < r.2.2.length by omega]
    rw [this]; exact hrd.2.2.2.2.1 _ (List.getElem_mem _)
  · obtain ⟨mF, q1, q2⟩ := law_run hT ht hx m
    refine ⟨mF, 0, ?_, ?_⟩
    · rw [show f + r.2.2.length - f = r.2.2.length by omega, e_run_rl _ _ _ _ _ hc]; exact q1
    · rw [q2, hp]
theorem ML_0 {mem : sh_Mem} {b : Bk} {f z : Nat} (h6 : mem 106 0 = (f : Int)) (h7 : mem 107 0 = (z : Int)) (hf : f ≤ 1000) (hz : z ≤ f) (hp : ∀ mu ol so da, b_pr b mu ol so da = clampN mu) : ML mem b :=
  ⟨f, z, h6, h7, hf, by omega, fun _ => hp, fun y => by omega⟩
