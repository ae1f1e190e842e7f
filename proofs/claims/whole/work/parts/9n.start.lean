/-! ===== the world at the start; what holds ahead of every call ===== -/
def w0 : Wd := w_new dr0 (fun _ => 0)
theorem fresh_0 : freshR (bkOf dr0) = fun _ => 0 := by
  funext k
  unfold freshR
  by_cases h : k < 8
  · rw [if_pos h, if_neg (show ¬ k < b_nd (bkOf dr0) from Nat.not_lt_zero k)]
  · rw [if_neg h]
    by_cases h2 : k < 16
    · rw [if_pos h2, if_neg (show ¬ k - 8 < b_nd (bkOf dr0) from Nat.not_lt_zero _)]
    · rw [if_neg h2]
theorem bk0_ok : BkOk (bkOf dr0) := bkOf_ok (T := ((0, fun _ => 0) : Tp)) DrOk_0
theorem CRel_st : CRel w0 mem0 := by
  refine ⟨22, 44, Or.inl rfl, Or.inl rfl, ⟨rfl, rfl, rfl, rfl⟩, ⟨bk0_ok, rfl, rfl, fun i hi => absurd hi (Nat.not_lt_zero i), fun i hi => absurd hi (Nat.not_lt_zero i)⟩, CL_of (C := []) rfl (by decide) (fun i hi => absurd hi (Nat.not_lt_zero i)) (fun c hc => absurd hc List.not_mem_nil) (fun hz => absurd hz (Nat.lt_irrefl 0)), ⟨fun i hi => absurd hi (Nat.not_lt_zero i), fun i hi => absurd hi (Nat.not_lt_zero i)⟩, ⟨?_, Z_fresh _, fun k _ => rfl, fun p hp => absurd hp List.not_mem_nil, fun j _ q hq => (by cases hq)⟩, ⟨0, by decide, rfl, rfl, by decide, fun i hi => absurd hi (Nat.not_lt_zero i)⟩, ⟨rfl, fun i hi => absurd hi (Nat.not_lt_zero i)⟩, ⟨rfl, fun i hi => absurd hi (Nat.not_lt_zero i)⟩, fun j hj => ⟨?_, fun q hq => (by cases hq)⟩, rfl, fun i hi => absurd hi (Nat.not_lt_zero i)⟩
  · show mem0 6 = freshR (bkOf dr0)
    rw [fresh_0]; rfl
  · rcases (show j = 0 ∨ j = 1 ∨ j = 2 ∨ j = 3 by omega) with rfl | rfl | rfl | rfl <;> rfl
theorem rk_d : ∀ i, i < 8 → rkF 45 (1 + i) = 0 ∧ rkF 45 (9 + i) = 0 := by decide
theorem rk_t : ∀ t, t < 4 → rkF 45 (17 + t) = 0 ∧ rkF 45 (21 + t) = -1 ∧ rkF 45 (25 + t) = -1 ∧ rkF 45 (29 + t) = 0 ∧ rkF 45 (33 + t) = 0 ∧ rkF 45 (37 + t) = 0 ∧ rkF 45 (41 + t) = 0 := by decide
theorem RRel_st : RRel w0 mem0 := by
  refine ⟨⟨bk0_ok, rfl, rfl, fun i hi => absurd hi (Nat.not_lt_zero i), fun i hi => absurd hi (Nat.not_lt_zero i)⟩, ML_0 (f := 0) (z := 0) rfl rfl (by decide) (by decide) (fun mu ol so da => prL_1 mu ol so da), fun i hi => absurd hi (Nat.not_lt_zero i), fun i hi => absurd hi (Nat.not_lt_zero i), ?_, ⟨rfl, by decide, fun i hi => absurd hi (Nat.not_lt_zero i)⟩, ⟨rfl, fun i hi => absurd hi (Nat.not_lt_zero i)⟩, ⟨rfl, fun i hi => absurd hi (Nat.not_lt_zero i)⟩, ⟨fun k _ => Or.inl rfl, fun k _ => ⟨Int.le_refl 0, Int.le_refl 0⟩⟩, fun j hj => ⟨?_, fun q hq => (by cases hq)⟩, rfl, fun i hi => absurd hi (Nat.not_lt_zero i)⟩
  · show EQ (rkF 45) (freshR (bkOf dr0))
    rw [fresh_0]
    refine ⟨rfl, fun i hi => rk_d i hi, fun t ht => ?_⟩
    obtain ⟨a1, a2, a3, a4⟩ := rk_t t ht
    exact ⟨a1, a2, a3, a4⟩
  · rcases (show j = 0 ∨ j = 1 ∨ j = 2 ∨ j = 3 by omega) with rfl | rfl | rfl | rfl <;> rfl
def CnA (N : Nat) (w : Wd) : Prop := Cn N (w_c w) ∧ (∀ p ∈ w_p w, Cn N p) ∧ ∀ j, j < 4 → ∀ q, w_m w j = some q → Cn N q.1
def WI (N : Nat) (w : Wd) : Prop := WOk w ∧ TpOk (w_t w) ∧ NmOk w ∧ CnA N w
theorem Cn_up {N M : Nat} {c : Nat → Int} (h : Cn N c) (hM : N ≤ M) : Cn M c := fun t ht => by
  have := h t ht
  have e : (N : Int) ≤ (M : Int) := by omega
  omega
theorem Cn_eq {N : Nat} {c c' : Nat → Int} (h : Cn N c) (e : ∀ t, t < 4 → c' (36 + t) = c (36 + t)) : Cn (N + 1) c' := fun t ht => by
  rw [e t ht]; exact Cn_up h (by omega) t ht
theorem CnA_up {N : Nat} {w : Wd} (h : CnA N w) : CnA (N + 1) w := ⟨Cn_up h.1 (by omega), fun p hp => Cn_up (h.2.1 p hp) (by omega), fun j hj q hq => Cn_up (h.2.2 j hj q hq) (by omega)⟩
theorem WI_st : WI 0 w0 := ⟨WOk_new (T := ((0, fun _ => 0) : Tp)) DrOk_0, ⟨by decide, fun i hi => absurd hi (Nat.not_lt_zero i)⟩, NmOk_new (T := ((0, fun _ => 0) : Tp)) DrOk_0, fun t ht => (by
  show 0 ≤ freshR (bkOf dr0) (36 + t) ∧ freshR (bkOf dr0) (36 + t) ≤ 99 * ((0 : Nat) : Int)
  rw [fresh_0]; exact ⟨Int.le_refl 0, Int.le_refl 0⟩), fun p hp => absurd hp List.not_mem_nil, fun j _ q hq => (by cases hq)⟩
theorem WI_id {N : Nat} {w : Wd} (h : WI N w) : WI (N + 1) w := ⟨h.1, h.2.1, h.2.2.1, CnA_up h.2.2.2⟩
theorem WI_kp {N : Nat} {w : Wd} {c' : Nat → Int} (h : WI N w) (hI : Inv (w_b w) c') (hc : Cn (N + 1) c') : WI (N + 1) (kp w c') := by
  refine ⟨WOk_kp h.1 hI, h.2.1, h.2.2.1, hc, fun p hp => ?_, fun j hj q hq => Cn_up (h.2.2.2.2.2 j hj q hq) (by omega)⟩
  rcases List.mem_cons.mp (List.mem_of_mem_take hp) with e | e
  · rw [e]; exact Cn_up h.2.2.2.1 (by omega)
  · exact Cn_up (h.2.2.2.2.1 p e) (by omega)
theorem WI_night {N : Nat} {w : Wd} (h : WI N w) : WI (N + 1) (kp w (sleepR (w_b w) (w_c w))) := by
  refine WI_kp h (Inv_sleep h.1.1 h.1.2.1) (Cn_eq h.2.2.2.1 (fun t ht => ?_))
  unfold sleepR
  rw [if_neg (by omega), if_neg (by omega), if_neg (by omega), if_neg (by omega), if_neg (by omega), if_neg (by omega), if_neg (by omega), if_neg (by omega)]
theorem WI_steal {N : Nat} {w : Wd} {t x : Int} (h : WI N w) : WI (N + 1) (a_steal w t x) := by
  have n4 := h.1.1.2.1
  have n8 := h.1.1.1
  unfold a_steal
  split
  · rename_i q
    refine WI_kp h (Inv_take h.1.1 h.1.2.1 (by omega) (by omega) q.2.2.1.1 q.2.2.1.2 q.2.2.2) (Cn_eq h.2.2.2.1 (fun u hu => ?_))
    unfold takeR
    split
    · rw [ru_n _ _ (by omega), ru_n _ _ (by omega), ru_n _ _ (by omega), ru_n _ _ (by omega), ru_n _ _ (by omega)]
    · rw [ru_n _ _ (by omega), ru_n _ _ (by omega)]
  · exact WI_id h
theorem WI_sell {N : Nat} {w : Wd} {t : Int} (h : WI N w) : WI (N + 1) (a_sell w t) := by
  have n4 := h.1.1.2.1
  unfold a_sell
  split
  · rename_i q
    have pr := prV_rng h.1.1 (w_c w) t.toNat
    refine WI_kp h (Inv_cash h.1.1 h.1.2.1 (by omega) _) (fun u hu => ?_)
    have c1 := h.2.2.2.1 u hu
    unfold cashR
    rw [ru_n _ _ (by omega)]
    by_cases e : 36 + u = 36 + t.toNat
    · rw [e] at c1
      rw [e, ru_s]
      omega
    · rw [ru_n _ _ e]
      omega
  · exact WI_id h
theorem WI_spend {N : Nat} {w : Wd} {t : Int} (h : WI N w) : WI (N + 1) (a_spend w t) := by
  have n4 := h.1.1.2.1
  unfold a_spend
  split
  · rename_i q
    refine WI_kp h (Inv_enjoy h.1.1 h.1.2.1 (by omega)) (Cn_eq h.2.2.2.1 (fun u hu => ?_))
    unfold enjoyR
    rw [ru_n _ _ (by omega), ru_n _ _ (by omega), ru_n _ _ (by omega)]
  · exact WI_id h
theorem WI_swap {N : Nat} {w : Wd} {t u : Int} (h : WI N w) : WI (N + 1) (a_swap w t u) := by
  have n4 := h.1.1.2.1
  unfold a_swap
  split
  · rename_i q
    refine WI_kp h (Inv_trade h.1.1 h.1.2.1 (by omega) (by omega) (by omega)) (Cn_eq h.2.2.2.1 (fun v hv => ?_))
    unfold tradeR xch
    rw [ru_n _ _ (by omega), ru_n _ _ (by omega), ru_n _ _ (by omega), ru_n _ _ (by omega), ru_n _ _ (by omega), ru_n _ _ (by omega)]
  · exact WI_id h
theorem WI_undo {N : Nat} {w : Wd} (h : WI N w) : WI (N + 1) (a_undo w) := by
  have h' := WI_id h
  unfold a_undo
  split
  · exact h'
  · rename_i c L e
    obtain ⟨⟨k1, k2, k3, k4, k5⟩, t1, t2, t3, t4, t5⟩ := h'
    rw [e] at k3 k4 t4
    exact ⟨⟨k1, k4 c List.mem_cons_self, by rw [List.length_cons] at k3; show L.length ≤ 16; omega, fun p hp => k4 p (List.mem_cons_of_mem _ hp), k5⟩, t1, t2, t4 c List.mem_cons_self, fun p hp => t4 p (List.mem_cons_of_mem _ hp), t5⟩
theorem WI_see {N : Nat} {w : Wd} {x k o : Int} (h : WI N w) (ho : o = 0 ∨ o = 1) : WI (N + 1) (a_see w x k o) := by
  have h' := WI_id h
  have hW := WOk_see (x := x) (k := k) h.1 ho
  unfold a_see at hW ⊢
  split at hW
  · rename_i q
    rw [if_pos q]
    exact ⟨hW, h'.2.1, h'.2.2.1, h'.2.2.2⟩
  · rename_i q
    rw [if_neg q]; exact h'
theorem WI_mark {N : Nat} {w : Wd} {k back : Int} (h : WI N w) : WI (N + 1) (a_mark w k back) := by
  have h' := WI_id h
  have hW := WOk_mark (k := k) (back := back) h.1
  obtain ⟨k0, t1, t2, t3, t4, t5⟩ := h'
  unfold a_mark at hW ⊢
  by_cases c1 : 0 ≤ k ∧ k ≤ 3
  · rw [if_pos c1] at hW ⊢
    by_cases c2 : back = 0
    · rw [if_pos c2] at hW ⊢
      refine ⟨hW, t1, t2, t3, t4, fun j hj q hq => ?_⟩
      have hq' : mu (w_m w) k.toNat (some (w_c w, w_y w, w_s w)) j = some q := hq
      unfold mu at hq'
      split at hq'
      · cases hq'; exact t3
      · exact t5 j hj q hq'
    · rw [if_neg c2] at hW ⊢
      cases e : w_m w k.toNat with
      | none => exact ⟨k0, t1, t2, t3, t4, t5⟩
      | some q =>
        simp only [e] at hW
        exact ⟨hW, t1, t2, t5 _ (by omega) q e, fun p hp => absurd hp List.not_mem_nil, t5⟩
  · rw [if_neg c1]; exact ⟨k0, t1, t2, t3, t4, t5⟩
theorem TpOk_z (tt : Nat → Int) : TpOk (0, tt) := ⟨Nat.zero_le 1000, fun i hi => absurd hi (Nat.not_lt_zero i)⟩
theorem WI_tp {N : Nat} {w : Wd} {T : Tp} (h : WI N w) (hT : TpOk T) : WI (N + 1) (w_tp w T) := by
  have h' := WI_id h
  exact ⟨WOk_tp h'.1 hT, hT, h'.2.2.1, h'.2.2.2⟩
theorem WI_feed {N : Nat} {w : Wd} {a b c : Int} (h : WI N w) : WI (N + 1) (a_feed w a b c) := WI_tp h (TpOk_W c 8 0 _ (TpOk_W b 8 0 _ (TpOk_W a 8 0 _ h.2.1)))
theorem WI_alm {N : Nat} {w : Wd} (h : WI N w) : WI (N + 1) (a_almanac w) := by
  have hW := WOk_alm h.2.1 h.1
  have hN := NmOk_alm h.2.1 h.2.2.1
  unfold a_almanac at hW hN ⊢
  cases e : pAlm (w_t w) with
  | inl f => exact WI_tp h (TpOk_z _)
  | inr x =>
    simp only [e] at hW hN
    refine ⟨hW, TpOk_z _, hN, fun t ht => ?_, fun p hp => absurd hp List.not_mem_nil, fun j _ q hq => (by cases hq)⟩
    show 0 ≤ freshR (bkOf x) (36 + t) ∧ freshR (bkOf x) (36 + t) ≤ 99 * ((N + 1 : Nat) : Int)
    unfold freshR
    rw [if_neg (by omega), if_neg (by omega)]
    omega
theorem WI_yr {N : Nat} {w : Wd} {y : Se} (h : WI N w) (hy : YeOk (w_b w) y) : WI (N + 1) (w_yr w y) := by
  have h' := WI_id h
  obtain ⟨⟨k1, k2, k3, k4, k5, k6, k7, k8⟩, t1, t2, t3⟩ := h'
  exact ⟨⟨k1, k2, k3, k4, hy, k6, k7, Nat.zero_le 1000⟩, TpOk_z _, t2, t3⟩
/-! one side's call leaves the other side's world -/
theorem RRel_cg {w : Wd} {m M : sh_Mem} (h : RRel w m) (e : ∀ a, 96 ≤ a → a ≤ 138 → M a = m a) : RRel w M := by
  unfold RRel MB ML at *
  rw [e 96 (by omega) (by omega), e 97 (by omega) (by omega), e 98 (by omega) (by omega), e 99 (by omega) (by omega), e 100 (by omega) (by omega), e 101 (by omega) (by omega), e 102 (by omega) (by omega), e 103 (by omega) (by omega), e 104 (by omega) (by omega), e 105 (by omega) (by omega), e 106 (by omega) (by omega), e 107 (by omega) (by omega), e 108 (by omega) (by omega), e 121 (by omega) (by omega), e 122 (by omega) (by omega), e 123 (by omega) (by omega), e 124 (by omega) (by omega), e 125 (by omega) (by omega), e 126 (by omega) (by omega), e 127 (by omega) (by omega), e 128 (by omega) (by omega), e 129 (by omega) (by omega), e 133 (by omega) (by omega), e 134 (by omega) (by omega), e 135 (by omega) (by omega)]
  exact h
theorem CRel_cg {w : Wd} {m M : sh_Mem} (h : CRel w m) (e : ∀ a, a < 96 → M a = m a) : CRel w M := by
  obtain ⟨B, Y, hB, hY, h0, h2, h3, h4, h5, h6, h7, h8, h9, h10, h11⟩ := h
  have e1 := e 1 (by omega)
  refine ⟨B, Y, hB, hY, ?_, CB_cong h2 (fun k hk => e _ (by omega)), CL_cong h3 (fun k hk => e _ (by omega)), ?_, ?_, ?_, CY_cong h7 (e _ (by omega)) (e _ (by omega)) (e _ (by omega)) (e _ (by omega)), CS_cong h8 (e _ (by omega)) (e _ (by omega)) (e _ (by omega)) (e _ (by omega)), fun j hj => ?_, ?_, ?_⟩
  · rw [e1]; exact h0
  · rw [e (B + 1) (by omega), e (B + 5) (by omega)]; exact h4
  · rw [e 6 (by omega), e 8 (by omega)]; exact h5
  · rw [e 10 (by omega), e 9 (by omega)]; exact h6
  · obtain ⟨a1, a2⟩ := h9 j hj
    refine ⟨by rw [e (52 + 11 * j) (by omega)]; exact a1, fun q hq => ?_⟩
    obtain ⟨b1, b2, b3⟩ := a2 q hq
    exact ⟨by rw [e (54 + 11 * j) (by omega)]; exact b1, CY_cong b2 (e _ (by omega)) (e _ (by omega)) (e _ (by omega)) (e _ (by omega)), CS_cong b3 (e _ (by omega)) (e _ (by omega)) (e _ (by omega)) (e _ (by omega))⟩
  · rw [e 2 (by omega)]; exact h10
  · rw [e 3 (by omega)]; exact h11
