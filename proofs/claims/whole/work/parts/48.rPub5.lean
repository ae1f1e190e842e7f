/-! ===== the reference's answers: counts, slack ===== -/
def q_count (w : Wd) (k : Int) : Int :=
  if k = 0 then (b_nd (w_b w) : Int) else if k = 1 then (b_nt (w_b w) : Int) else if k = 2 then w_c w 44 else if k = 3 then sumF (w_c w) 0 8
  else if k = 4 then bitsF (fun t => decide (0 < w_c w (28 + t))) 4 else if k = 5 then bitsF (fun t => decide (0 < w_c w (16 + t))) 4
  else if k = 6 then sumF (w_c w) 36 4 else if k = 7 then sumF (w_c w) 40 4 else if k = 8 then ((w_y w).1 : Int) else if k = 9 then ((w_s w).1 : Int)
  else if k = 10 then ((w_p w).length : Int) else if k = 11 then ((w_t w).1 : Int) else -1
theorem r_count {g : sh_G} {d : Nat} {w : Wd} {mem : sh_Mem} {k : Int} {Q : Option sh_V → sh_Mem → Prop} (hW : WOk w) (h : RRel w mem) (hk : i3 k = k) (hQ : ∀ m', RPost (w) mem m' → Q (some (sh_i (q_count w k))) m') : sh_Cal g (d + 2) m_Mod_count [sh_r 96, sh_i k] mem Q := by
  have p0 := RPost_0 h
  have hE := p0.1.2.2.2.2.1
  have hI := hW.2.1
  have k1 := hW.1.1
  have k2 := hW.1.2.1
  apply v_Mod_count
  rintro _ rfl
  have p := hQ _ p0
  obtain ⟨h1, h2, h3, h4, h5, h6, h7, h8, h9, h10, h11, h12⟩ := p0.1
  refine wi_then' hk rfl rfl (fun q => ?_) (fun q => ?_)
  · unfold q_count at p
    rw [if_neg (by omega), if_neg (by omega), if_neg (by omega), if_neg (by omega), if_neg (by omega), if_neg (by omega), if_neg (by omega), if_neg (by omega), if_neg (by omega), if_neg (by omega), if_neg (by omega), if_neg (by omega)] at p; exact p
  · rw [hk, h7.1, h8.1, h6.1, h11, hE.1]
    refine ⟨fun c2 => ⟨fun c4 => ⟨fun c6 => ⟨fun c8 => ⟨fun c10 => ⟨fun e => ?_, fun e => ?_⟩, fun c10 => ⟨fun e => ?_, fun e => ?_⟩⟩, fun c8 => ⟨fun e => ?_, fun e => ?_⟩⟩, fun c6 => ⟨fun e => ?_, fun e => ?_⟩⟩, fun c4 => ⟨fun e => ?_, fun e => ?_⟩⟩, fun c2 => ⟨by omega, ?_⟩⟩
    · obtain rfl : k = 11 := by omega
      exact p
    · subst e; exact p
    · obtain rfl : k = 9 := by omega
      exact p
    · subst e; exact p
    · obtain rfl : k = 7 := by omega
      rw [show (41 : Int) = ((41 : Nat) : Int) from rfl, show (4 : Int) = ((4 : Nat) : Int) from rfl]
      refine s_Mod_sumOf (by omega) ⟨_, rfl, ?_⟩
      rw [sumF_cong (c := w_c w) (a' := 40) 4 (fun i hi => (hE.2.2 i hi).2.2.2.2.2.2)]
      exact p
    · subst e
      rw [show (37 : Int) = ((37 : Nat) : Int) from rfl, show (4 : Int) = ((4 : Nat) : Int) from rfl]
      refine s_Mod_sumOf (by omega) ⟨_, rfl, ?_⟩
      rw [sumF_cong (c := w_c w) (a' := 36) 4 (fun i hi => (hE.2.2 i hi).2.2.2.2.2.1)]
      exact p
    · obtain rfl : k = 5 := by omega
      exact s_Mod_having hE hI h1 ⟨_, rfl, p⟩
    · subst e
      exact s_Mod_caughtOnes hE hI h1 ⟨_, rfl, p⟩
    · obtain rfl : k = 3 := by omega
      rw [show (1 : Int) = ((1 : Nat) : Int) from rfl, show (8 : Int) = ((8 : Nat) : Int) from rfl]
      refine s_Mod_sumOf (by omega) ⟨_, rfl, ?_⟩
      rw [sumF_cong (c := w_c w) (a' := 0) 8 (fun i hi => by rw [Nat.zero_add]; exact (hE.2.1 i hi).1)]
      exact p
    · subst e; exact p
    · rcases (by omega : k = 0 ∨ k = 1) with rfl | rfl
      · have e0 : (0 : Int).toNat = 0 := rfl
        rw [e0, h1.2.1]; exact p
      · have e0 : (1 : Int).toNat = 1 := rfl
        rw [e0, h1.2.2.1]; exact p
