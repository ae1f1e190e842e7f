/-! ===== what is new is good ===== -/
theorem WOk_new {T : Tp} {x : Dr} {tt : Nat → Int} (h : DrOk T x) : WOk (w_new x tt) := by
  have hb := bkOf_ok h
  exact ⟨hb, Inv_fresh hb, by show 0 ≤ 16; omega, fun p hp => absurd hp List.not_mem_nil, ⟨by show 0 ≤ 40; omega, fun i hi => absurd hi (Nat.not_lt_zero i)⟩, ⟨by show 0 ≤ 8; omega, fun i hi => absurd hi (Nat.not_lt_zero i)⟩, fun j _ q hq => (by cases hq), by show 0 ≤ 1000; omega⟩
theorem NmOk_new {T : Tp} {x : Dr} {tt : Nat → Int} (h : DrOk T x) : NmOk (w_new x tt) := ⟨fun i hi => (h.2.1 i hi).2.2.2.2.2.2, fun i hi => (h.2.2.1 i hi).2.2.2.2⟩
theorem WOk_alm {w : Wd} (hT : TpOk (w_t w)) (h : WOk w) : WOk (a_almanac w) := by
  have c := pAlm_c hT
  unfold a_almanac
  cases e : pAlm (w_t w) with
  | inl f => exact WOk_tp h ⟨by show 0 ≤ 1000; omega, fun i hi => absurd hi (Nat.not_lt_zero i)⟩
  | inr x => exact WOk_new (c.2 x e)
theorem NmOk_alm {w : Wd} (hT : TpOk (w_t w)) (h : NmOk w) : NmOk (a_almanac w) := by
  have c := pAlm_c hT
  unfold a_almanac
  cases e : pAlm (w_t w) with
  | inl f => exact h
  | inr x => exact NmOk_new (c.2 x e)
