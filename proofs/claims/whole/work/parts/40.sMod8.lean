/-! ===== a line done, undone, all of a year ===== -/
def LnOk (b : Bk) (w : Int) (a x : Nat) : Prop := 0 ≤ w ∧ w ≤ 4 ∧ (w = 1 → a < b_nt b ∧ x < b_nd b) ∧ (w = 2 → a < b_nt b) ∧ (w = 3 → a < b_nt b) ∧ (w = 4 → a < b_nt b ∧ x < b_nt b ∧ a ≠ x)
def dnF (b : Bk) (c : Nat → Int) (w : Int) (a x : Nat) : Option (Nat → Int) :=
  if w = 0 then some (sleepR b c)
  else if w = 1 then (if c (28 + a) = 0 ∧ c (16 + a) = 0 ∧ 0 < c x then some (takeR b c a x) else none)
  else if c (28 + a) = 0 ∧ 0 < c (16 + a) then
    (if w = 2 then some (cashR c a (prV b c a)) else if w = 3 then some (enjoyR c a) else if c (28 + x) = 0 ∧ 0 < c (16 + x) then some (tradeR c a x) else none)
  else none
theorem Inv_dn {b : Bk} {c c' : Nat → Int} {w : Int} {a x : Nat} (hb : BkOk b) (hI : Inv b c) (hl : LnOk b w a x) (h : dnF b c w a x = some c') : Inv b c' := by
  obtain ⟨l1, l2, l3, l4, l5, l6⟩ := hl
  unfold dnF at h
  split at h
  · cases h; exact Inv_sleep hb hI
  · split at h
    · rename_i w1
      split at h
      · rename_i q; cases h; exact Inv_take hb hI (l3 w1).1 (l3 w1).2 q.1 q.2.1 q.2.2
      · cases h
    · split at h
      · split at h
        · rename_i w2; cases h; exact Inv_cash hb hI (l4 w2) _
        · split at h
          · rename_i w3; cases h; exact Inv_enjoy hb hI (l5 w3)
          · split at h
            · cases h; exact Inv_trade hb hI (l6 (by omega)).1 (l6 (by omega)).2.1 (l6 (by omega)).2.2
            · cases h
      · cases h
theorem s_Mod_isDone {g : sh_G} {d : Nat} {mem : sh_Mem} {Q : Option sh_V → sh_Mem → Prop} {kk a x : Nat} {w : Int} {b : Bk} {c : Nat → Int} (hk : kk < 240) (h1 : mem 122 kk = w) (h2 : mem 123 kk = (a : Int)) (h3 : mem 124 kk = (x : Int)) (hL : LnOk b w a x) (hR : EQ (mem 129) c) (hI : Inv b c) (hb : MB mem b) (hl : ML mem b) (h : ∀ m', Sr mem m' → EQ (m' 129) ((dnF b c w a x).getD c) → m' 130 = mem 130 → Q (some (sh_i (if (dnF b c w a x).isSome then 1 else 0))) m') : sh_Cal g (d + 5) m_Mod_isDone [sh_r 96, sh_i kk] mem Q := by
  have k1 := hb.1.1
  have k2 := hb.1.2.1
  obtain ⟨l1, l2, l3, l4, l5, l6⟩ := id hL
  have sr : ∀ r, Sr mem (ms mem 129 r) := fun r => Sr_ms (Sr_rf mem) (by decide) (by decide) r
  apply v_Mod_isDone
  rw [h1, h2, h3, i3s (x := w) (by omega) (by omega)]
  refine ⟨hk, hk, hk, fun q0 => ⟨fun q1 => ?_, fun q1 => ?_⟩, fun q0 => ?_⟩
  · have ha : a < b_nt b := by
      rcases (by omega : w = 2 ∨ w = 3 ∨ w = 4) with e | e | e
      · exact l4 e
      · exact l5 e
      · exact (l6 e).1
    have hT := hI.2.2.1 a ha
    have done : c (28 + a) = 0 ∧ 0 < c (16 + a) → (w = 4 → c (28 + x) = 0 ∧ 0 < c (16 + x)) → sh_X g (d + 5) m_Mod_isDone 95 [(0, sh_r 96), (1, sh_i (kk : Int)), (2, sh_i w), (3, sh_i (a : Int)), (4, sh_i (x : Int))] [] mem (sh_K m_Mod_isDone Q) := by
      intro p1 p2
      apply v_Mod_isDone_95
      rw [i3s (x := w) (by omega) (by omega)]
      refine ⟨fun q2 => ⟨fun q3 => ?_, fun q3 => ?_⟩, fun q2 => ?_⟩
      · have q4 : w = 4 := by omega
        have e : dnF b c w a x = some (tradeR c a x) := by unfold dnF; rw [if_neg q0, if_neg q1, if_pos p1, if_neg q2, if_neg q3, if_pos (p2 q4)]
        rw [e] at h
        exact l_Mod_swapsIt hR (by omega) (by have := l6 q4; omega) p1.2 (p2 q4).2 (fun r hr => ⟨rfl, h _ (sr r) (by rw [ms_s]; exact hr) (ms_n _ _ (by decide))⟩)
      · have e : dnF b c w a x = some (enjoyR c a) := by unfold dnF; rw [if_neg q0, if_neg q1, if_pos p1, if_neg q2, if_pos q3]
        rw [e] at h
        exact s_Mod_spendsIt hR hT (by omega) (fun r hr => ⟨_, rfl, h _ (sr r) (by rw [ms_s]; exact hr) (ms_n _ _ (by decide))⟩)
      · have e : dnF b c w a x = some (cashR c a (prV b c a)) := by unfold dnF; rw [if_neg q0, if_neg q1, if_pos p1, if_pos q2]
        rw [e] at h
        exact s_Mod_sellsIt hR hT hl (by omega) p1.2 (fun m' r hm hr => ⟨_, rfl, h _ (Sr_ms (Sr_Ew (Sr_rf mem) hm) (by decide) (by decide) _) (by rw [ms_s]; exact hr) (by rw [ms_n _ _ (by decide)]; exact hm 130 (by omega))⟩)
    refine s_Mod_canDeal hR hT (by omega) ⟨_, rfl, ?_⟩
    rw [i3s (by split <;> omega) (by split <;> omega)]
    refine ⟨fun q => ?_, fun q => ?_⟩
    · have p : ¬ (c (28 + a) = 0 ∧ 0 < c (16 + a)) := by grind
      have e : dnF b c w a x = none := by unfold dnF; rw [if_neg q0, if_neg q1, if_neg p]
      rw [e] at h; exact h mem (Sr_rf mem) hR rfl
    · have p : c (28 + a) = 0 ∧ 0 < c (16 + a) := by grind
      refine ⟨fun q4 => done p (fun q5 => absurd q5 q4), fun q4 => ?_⟩
      have hX := hI.2.2.1 x (l6 q4).2.1
      have := (l6 q4).2.1
      refine s_Mod_canDeal hR hX (by omega) ⟨_, rfl, ?_⟩
      rw [i3s (by split <;> omega) (by split <;> omega)]
      refine ⟨fun q5 => done p (fun _ => by grind), fun q5 => ?_⟩
      have p2 : ¬ (c (28 + x) = 0 ∧ 0 < c (16 + x)) := by grind
      have e : dnF b c w a x = none := by unfold dnF; rw [if_neg q0, if_neg q1, if_pos p, if_neg (by omega), if_neg (by omega), if_neg p2]
      rw [e] at h; exact h mem (Sr_rf mem) hR rfl
  · have ha := l3 q1
    have hT := hI.2.2.1 a ha.1
    have hD := hI.1 x ha.2
    have ex : (1 + (x : Int)).toNat = 1 + x := by omega
    have k3 := hb.1.2.2.1 x ha.2
    refine s_Mod_couldSteal hR hT (by omega) ⟨_, rfl, ?_⟩
    rw [i3s (by split <;> omega) (by split <;> omega), ex, (hR.2.1 x (by omega)).1, i3s (x := c x) (by omega) (by omega)]
    refine ⟨fun q => ?_, fun q => ⟨by omega, fun q2 => ?_, fun q2 => ?_⟩⟩
    · have e : dnF b c w a x = none := by unfold dnF; rw [if_neg q0, if_pos q1, if_neg (by grind)]
      rw [e] at h; exact h mem (Sr_rf mem) hR rfl
    · have p : c (28 + a) = 0 ∧ c (16 + a) = 0 := by grind
      have e : dnF b c w a x = some (takeR b c a x) := by unfold dnF; rw [if_neg q0, if_pos q1, if_pos (by omega)]
      rw [e] at h
      exact s_Mod_steals hR hI hb ha.1 ha.2 p.1 p.2 (fun r hr => ⟨_, rfl, h _ (sr r) (by rw [ms_s]; exact hr) (ms_n _ _ (by decide))⟩)
    · have e : dnF b c w a x = none := by unfold dnF; rw [if_neg q0, if_pos q1, if_neg (by omega)]
      rw [e] at h; exact h mem (Sr_rf mem) hR rfl
  · have e : dnF b c w a x = some (sleepR b c) := by unfold dnF; rw [if_pos q0]
    rw [e] at h
    exact s_Mod_passes hR hI hb (fun r hr => ⟨rfl, h _ (sr r) (by rw [ms_s]; exact hr) (ms_n _ _ (by decide))⟩)
