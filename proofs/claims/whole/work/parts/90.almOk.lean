/-! ===== an almanac: what is read is good, and a fault is one ===== -/
abbrev fOk (f : Int) : Prop := 1 ≤ f ∧ f ≤ 20000
abbrev RgP (T : Tp) (P : Tok → PR) : Prop := ∀ t f, TK T t → P t = .inl f → fOk f
section AOK
variable {T : Tp} {t : Tok}
theorem flt_ok (hT : TpOk T) (ht : TK T t) {k : Int} (hk : 1 ≤ k ∧ k ≤ 5) : fOk (flt k t) := by
  have := (TK_1000 hT ht).1
  unfold fOk; dsimp only [flt]; omega
theorem Rg_L {P : Tok → PR} {op : Tok → Option (Int × Int)} (hR : RdP T P) (hP : RgP T P) : ∀ (k : Nat) (s : PS) (f : Int), TK T s.1 → pLp T P op k s = .inl f → fOk f
  | 0, s, f, _, e => by rw [pLp] at e; cases e
  | k + 1, s, f, ht, e => by
    rw [pLp] at e
    split at e
    · cases e
    · rename_i o ho
      split at e
      · rename_i f' hf'; cases e; exact hP _ _ (TK_n ht) hf'
      · rename_i r' hr'; exact Rg_L hR hP k (pJ s r' o) f (hR _ _ (TK_n ht) hr').1 e
theorem Rg_seq {P : Tok → PR} {op : Tok → Option (Int × Int)} (hR : RdP T P) (hP : RgP T P) : RgP T (pSeq T P op) := by
  intro t f ht e
  unfold pSeq at e
  split at e
  · rename_i f' hf'; cases e; exact hP _ _ ht hf'
  · rename_i s hs; exact Rg_L hR hP 1000 s f (hR _ _ ht hs).1 e
theorem Rg_sum {P : Tok → PR} (hR : RdP T P) (hP : RgP T P) : RgP T (pSum T P) := Rg_seq (RdP_seq hR op_ok.1) (Rg_seq hR hP)
theorem Rg_test {P : Tok → PR} (hR : RdP T P) (hP : RgP T P) : RgP T (pTest T P) := by
  intro t f ht e
  unfold pTest at e
  split at e
  · rename_i f' hf'; cases e; exact Rg_sum hR hP _ _ ht hf'
  · rename_i s hs
    have h1 := (RdP_sum hR _ _ ht hs).1
    split at e
    · cases e
    · split at e
      · rename_i f' hf'; cases e; exact Rg_sum hR hP _ _ (TK_n h1) hf'
      · cases e
theorem Rg_ex {P : Tok → PR} (hR : RdP T P) (hP : RgP T P) : RgP T (pEx T P) := Rg_seq (RdP_test hR) (Rg_test hR hP)
theorem Rg_part (hT : TpOk T) {deep : Bool} {pE pQ : Tok → PR} (hRE : deep = false → RdP T pE) (hE : deep = false → RgP T pE) (hQ : deep = false → RgP T pQ) : RgP T (pPart T deep pE pQ) := by
  intro t f ht e
  unfold pPart at e
  split at e
  · cases e; exact flt_ok hT ht (by omega)
  · split at e
    · cases e; exact flt_ok hT ht (by omega)
    · rename_i hd
      have hd : deep = false := by simpa using hd
      split at e
      · split at e
        · rename_i f' hf'; cases e; exact hQ hd _ _ (TK_n ht) hf'
        · cases e
      · split at e
        · split at e
          · rename_i f' hf'; cases e; exact hE hd _ _ (TK_n ht) hf'
          · rename_i r hr
            split at e
            · cases e
            · cases e; exact flt_ok hT (hRE hd _ _ (TK_n ht) hr).1 (by omega)
        · split at e <;> cases e
theorem Rg_P (hT : TpOk T) : ∀ k, RgP T (pP T k)
  | 0 => Rg_part hT (fun z => absurd z (by decide)) (fun z => absurd z (by decide)) (fun z => absurd z (by decide))
  | k + 1 => Rg_part hT (fun _ => RdP_ex (RdP_P hT k)) (fun _ => Rg_ex (RdP_P hT k) (Rg_P hT k)) (fun _ => Rg_P hT k)
theorem pW_c {c : Int} (hT : TpOk T) (ht : TK T t) : (∀ f, pW T c t = .inl f → fOk f) ∧ ∀ t', pW T c t = .inr t' → TK T t' ∧ t_p t ≤ t_p t' := by
  unfold pW
  have := TK_q ht; have := nx_p ht
  refine ⟨fun f e => ?_, fun t' e => ?_⟩
  · split at e <;> cases e; exact flt_ok hT ht (by omega)
  · split at e <;> cases e; exact ⟨TK_n ht, by omega⟩
theorem pSg_c {c : Int} (hT : TpOk T) (ht : TK T t) : (∀ f, pSg T c t = .inl f → fOk f) ∧ ∀ t', pSg T c t = .inr t' → TK T t' ∧ t_p t ≤ t_p t' := by
  unfold pSg
  have := TK_q ht; have := nx_p ht
  refine ⟨fun f e => ?_, fun t' e => ?_⟩
  · split at e <;> cases e; exact flt_ok hT ht (by omega)
  · split at e <;> cases e; exact ⟨TK_n ht, by omega⟩
theorem pN_c {lo hi : Int} (hT : TpOk T) (ht : TK T t) : (∀ f, pN T lo hi t = .inl f → fOk f) ∧ ∀ t', pN T lo hi t = .inr t' → TK T t' ∧ t_p t ≤ t_p t' ∧ lo ≤ t_v t ∧ t_v t ≤ hi := by
  unfold pN
  have := TK_q ht; have := nx_p ht
  refine ⟨fun f e => ?_, fun t' e => ?_⟩
  · split at e
    · split at e <;> cases e; exact flt_ok hT ht (by omega)
    · cases e; exact flt_ok hT ht (by omega)
  · split at e
    · split at e
      · rename_i y; cases e; exact ⟨TK_n ht, by omega, y.1, y.2⟩
      · cases e
    · cases e
theorem pNew_c {x : Dr} (hT : TpOk T) (ht : TK T t) : (∀ f, pNew x t = some f → fOk f) ∧ (pNew x t = none → t_k t = 1) := by
  unfold pNew
  refine ⟨fun f e => ?_, fun e => ?_⟩
  · split at e
    · split at e <;> cases e; exact flt_ok hT ht (by omega)
    · cases e; exact flt_ok hT ht (by omega)
  · split at e
    · rename_i y; exact y.1
    · cases e
def DrOk (T : Tp) (x : Dr) : Prop := (r_nd x ≤ 8 ∧ r_nt x ≤ 4) ∧ (∀ i, i < r_nd x → 0 ≤ r_ki x i ∧ r_ki x i ≤ 3 ∧ 1 ≤ r_wo x i ∧ r_wo x i ≤ 24 ∧ 0 ≤ r_gu x i ∧ r_gu x i ≤ 9 ∧ wR (r_dn x i)) ∧ (∀ i, i < r_nt x → 0 ≤ r_sk x i ∧ r_sk x i ≤ 9 ∧ 1 ≤ r_sa x i ∧ r_sa x i ≤ 12 ∧ wR (r_tn x i)) ∧ ∀ q, r_lw x = some q → TK T q.1 ∧ pEx T (pP T 5) q.1 = .inr q.2
abbrev LnP (T : Tp) (t : Tok) (o : ALR) : Prop := (∀ f, o = .inl f → fOk f) ∧ ∀ q, o = .inr q → TK T q.1 ∧ t_p t + 1 ≤ t_p q.1 ∧ DrOk T q.2
theorem pDay_c {x : Dr} (hT : TpOk T) (ht : TK T t) (hk : t_k t = 1) (hx : DrOk T x) : LnP T t (pDay T x t) := by
  obtain ⟨x1, x2, x3, x4⟩ := hx
  have n1 := nx_lt ht (by omega)
  have tk1 := TK_n ht; have tk2 := TK_n tk1; have tk3 := TK_n tk2
  have a1 := TK_q tk1; have a2 := nx_p tk1; have a3 := TK_q tk2; have a4 := nx_p tk2
  have kc := kdT_c (nx T (nx T t))
  unfold pDay
  split
  · exact ⟨fun f e => by cases e; exact flt_ok hT ht (by omega), fun q e => by cases e⟩
  · rename_i y8
    split
    · rename_i f' hf'; exact ⟨fun f e => by cases e; exact (pNew_c hT tk1).1 _ hf', fun q e => by cases e⟩
    · rename_i hnw
      have k1 := (pNew_c hT tk1).2 hnw
      split
      · exact ⟨fun f e => by cases e; exact flt_ok hT tk2 (by omega), fun q e => by cases e⟩
      · rename_i hkd
        split
        · rename_i f' hf'; exact ⟨fun f e => by cases e; exact (pW_c hT tk3).1 _ hf', fun q e => by cases e⟩
        · rename_i t4 h4
          obtain ⟨tk4, p4⟩ := (pW_c hT tk3).2 _ h4
          split
          · rename_i f' hf'; exact ⟨fun f e => by cases e; exact (pN_c hT tk4).1 _ hf', fun q e => by cases e⟩
          · rename_i t5 h5
            obtain ⟨tk5, p5, v5, u5⟩ := (pN_c hT tk4).2 _ h5
            split
            · rename_i f' hf'; exact ⟨fun f e => by cases e; exact (pW_c hT tk5).1 _ hf', fun q e => by cases e⟩
            · rename_i t6 h6
              obtain ⟨tk6, p6⟩ := (pW_c hT tk5).2 _ h6
              split
              · rename_i f' hf'; exact ⟨fun f e => by cases e; exact (pN_c hT tk6).1 _ hf', fun q e => by cases e⟩
              · rename_i t7 h7
                obtain ⟨tk7, p7, v7, u7⟩ := (pN_c hT tk6).2 _ h7
                split
                · rename_i f' hf'; exact ⟨fun f e => by cases e; exact (pSg_c hT tk7).1 _ hf', fun q e => by cases e⟩
                · rename_i t8 h8
                  obtain ⟨tk8, p8⟩ := (pSg_c hT tk7).2 _ h8
                  refine ⟨fun f e => (by cases e), fun q e => ?_⟩
                  cases e
                  refine ⟨tk8, by show t_p t + 1 ≤ t_p t8; omega, ⟨by show r_nd x + 1 ≤ 8; omega, x1.2⟩, fun i hi => ?_, x3, x4⟩
                  show 0 ≤ ru (r_ki x) (r_nd x) _ i ∧ ru (r_ki x) (r_nd x) _ i ≤ 3 ∧ 1 ≤ ru (r_wo x) (r_nd x) _ i ∧ ru (r_wo x) (r_nd x) _ i ≤ 24 ∧ 0 ≤ ru (r_gu x) (r_nd x) _ i ∧ ru (r_gu x) (r_nd x) _ i ≤ 9 ∧ wR (ru (r_dn x) (r_nd x) _ i)
                  have hi : i < r_nd x + 1 := hi
                  by_cases y : i = r_nd x
                  · rw [y, ru_s, ru_s, ru_s, ru_s]; exact ⟨by omega, by omega, v5, u5, v7, u7, TK_v tk1 k1⟩
                  · rw [ru_n _ _ y, ru_n _ _ y, ru_n _ _ y, ru_n _ _ y]; exact x2 i (by omega)
theorem pThief_c {x : Dr} (hT : TpOk T) (ht : TK T t) (hk : t_k t = 1) (hx : DrOk T x) : LnP T t (pThief T x t) := by
  obtain ⟨x1, x2, x3, x4⟩ := hx
  have n1 := nx_lt ht (by omega)
  have tk1 := TK_n ht; have tk3 := TK_n tk1
  have a1 := TK_q tk1; have a2 := nx_p tk1
  unfold pThief
  split
  · exact ⟨fun f e => by cases e; exact flt_ok hT ht (by omega), fun q e => by cases e⟩
  · rename_i y8
    split
    · rename_i f' hf'; exact ⟨fun f e => by cases e; exact (pNew_c hT tk1).1 _ hf', fun q e => by cases e⟩
    · rename_i hnw
      have k1 := (pNew_c hT tk1).2 hnw
      split
      · rename_i f' hf'; exact ⟨fun f e => by cases e; exact (pW_c hT tk3).1 _ hf', fun q e => by cases e⟩
      · rename_i t4 h4
        obtain ⟨tk4, p4⟩ := (pW_c hT tk3).2 _ h4
        split
        · rename_i f' hf'; exact ⟨fun f e => by cases e; exact (pN_c hT tk4).1 _ hf', fun q e => by cases e⟩
        · rename_i t5 h5
          obtain ⟨tk5, p5, v5, u5⟩ := (pN_c hT tk4).2 _ h5
          split
          · rename_i f' hf'; exact ⟨fun f e => by cases e; exact (pW_c hT tk5).1 _ hf', fun q e => by cases e⟩
          · rename_i t6 h6
            obtain ⟨tk6, p6⟩ := (pW_c hT tk5).2 _ h6
            split
            · rename_i f' hf'; exact ⟨fun f e => by cases e; exact (pN_c hT tk6).1 _ hf', fun q e => by cases e⟩
            · rename_i t7 h7
              obtain ⟨tk7, p7, v7, u7⟩ := (pN_c hT tk6).2 _ h7
              split
              · rename_i f' hf'; exact ⟨fun f e => by cases e; exact (pSg_c hT tk7).1 _ hf', fun q e => by cases e⟩
              · rename_i t8 h8
                obtain ⟨tk8, p8⟩ := (pSg_c hT tk7).2 _ h8
                refine ⟨fun f e => (by cases e), fun q e => ?_⟩
                cases e
                refine ⟨tk8, by show t_p t + 1 ≤ t_p t8; omega, ⟨x1.1, by show r_nt x + 1 ≤ 4; omega⟩, x2, fun i hi => ?_, x4⟩
                show 0 ≤ ru (r_sk x) (r_nt x) _ i ∧ ru (r_sk x) (r_nt x) _ i ≤ 9 ∧ 1 ≤ ru (r_sa x) (r_nt x) _ i ∧ ru (r_sa x) (r_nt x) _ i ≤ 12 ∧ wR (ru (r_tn x) (r_nt x) _ i)
                have hi : i < r_nt x + 1 := hi
                by_cases y : i = r_nt x
                · rw [y, ru_s, ru_s, ru_s]; exact ⟨v5, u5, v7, u7, TK_v tk1 k1⟩
                · rw [ru_n _ _ y, ru_n _ _ y, ru_n _ _ y]; exact x3 i (by omega)
theorem pPays_c {x : Dr} (hT : TpOk T) (ht : TK T t) (hk : t_k t = 1) (hx : DrOk T x) : LnP T t (pPays T x t) := by
  obtain ⟨x1, x2, x3, x4⟩ := hx
  have n1 := nx_lt ht (by omega)
  have tk1 := TK_n ht
  unfold pPays
  split
  · exact ⟨fun f e => by cases e; exact flt_ok hT ht (by omega), fun q e => by cases e⟩
  · split
    · rename_i f' hf'; exact ⟨fun f e => by cases e; exact Rg_ex (RdP_P hT 5) (Rg_P hT 5) _ _ tk1 hf', fun q e => by cases e⟩
    · rename_i r hr
      have hrd := RdP_ex (RdP_P hT 5) _ _ tk1 hr
      have := hrd.2.1
      split
      · rename_i f' hf'; exact ⟨fun f e => by cases e; exact (pSg_c hT hrd.1).1 _ hf', fun q e => by cases e⟩
      · rename_i t2 h2
        obtain ⟨tk2, p2⟩ := (pSg_c hT hrd.1).2 _ h2
        refine ⟨fun f e => (by cases e), fun q e => ?_⟩
        cases e
        refine ⟨tk2, by show t_p t + 1 ≤ t_p t2; omega, x1, x2, x3, fun q e => ?_⟩
        cases e
        exact ⟨tk1, hr⟩
theorem pLine_c {x : Dr} (hT : TpOk T) (ht : TK T t) (hx : DrOk T x) : LnP T t (pLine T x t) := by
  unfold pLine
  split
  · rename_i y; exact pDay_c hT ht y.1 hx
  · split
    · rename_i y; exact pThief_c hT ht y.1 hx
    · split
      · rename_i y; exact pPays_c hT ht y.1 hx
      · exact ⟨fun f e => by cases e; exact flt_ok hT ht (by omega), fun q e => by cases e⟩
theorem pAll_c (hT : TpOk T) : ∀ (k : Nat) (t : Tok) (x : Dr), TK T t → DrOk T x → (∀ f, pAll T k t x = .inl f → fOk f) ∧ ∀ y, pAll T k t x = .inr y → DrOk T y
  | 0, t, x, _, hx => by rw [pAll]; exact ⟨fun f e => (by cases e), fun y e => (by cases e; exact hx)⟩
  | k + 1, t, x, ht, hx => by
    rw [pAll]
    have c := pLine_c hT ht hx
    split
    · exact ⟨fun f e => (by cases e), fun y e => (by cases e; exact hx)⟩
    · split
      · rename_i f' hf'; exact ⟨fun f e => (by cases e; exact c.1 _ hf'), fun y e => (by cases e)⟩
      · rename_i q hq; have c2 := c.2 _ hq; exact pAll_c hT k q.1 q.2 c2.1 c2.2.2
theorem DrOk_0 : DrOk T dr0 := ⟨by decide, fun i hi => absurd hi (Nat.not_lt_zero i), fun i hi => absurd hi (Nat.not_lt_zero i), fun q e => by cases e⟩
theorem pAlm_c (hT : TpOk T) : (∀ f, pAlm T = .inl f → fOk f) ∧ ∀ y, pAlm T = .inr y → DrOk T y := pAll_c hT 1000 (tok T 0) dr0 ⟨0, by omega, rfl⟩ DrOk_0
def bkOf (x : Dr) : Bk := (r_nd x, r_nt x, r_ki x, r_wo x, r_gu x, r_sk x, r_sa x, prL (r_C x))
theorem bkOf_ok {x : Dr} (h : DrOk T x) : BkOk (bkOf x) := by
  obtain ⟨⟨x1, x1'⟩, x2, x3, x4⟩ := h
  exact ⟨x1, x1', fun i hi => by have := x2 i hi; exact ⟨this.1, this.2.1, this.2.2.1, this.2.2.2.1, this.2.2.2.2.1, this.2.2.2.2.2.1⟩, fun i hi => by have := x3 i hi; exact ⟨this.1, this.2.1, this.2.2.1, this.2.2.2.1⟩, fun _ _ _ _ => prL_rng _ _ _ _ _⟩
end AOK
