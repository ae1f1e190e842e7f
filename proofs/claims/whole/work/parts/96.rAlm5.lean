/-! ===== almanac, of the reference ===== -/
def shR (r : Nat → Int) (n x : Nat) : Nat → Int := fun i => if i < x then r (n + i) else r i
theorem l_shifts {g : sh_G} {d ra nr n : Nat} {m : sh_Mem} {Q : Option sh_V → sh_Mem → Prop} (hra : sh_shp ra = some (.inr (0, nr))) (hn : n + n ≤ nr) (hn2 : nr ≤ 2000) (h : Q none (ms m ra (shR (m ra) n n))) : ∀ (k x : Nat), x + k = n →
    sh_X g d m_Mod_shifts 2 [(0, sh_r ra), (1, sh_i (n : Int)), (2, sh_i (x : Int))] [] (ms m ra (shR (m ra) n x)) (sh_K m_Mod_shifts Q)
  | 0, x, hx => by
    apply v_Mod_shifts_2 hra
    rw [i3n (x := n) (by omega), i3n (x := x) (by omega)]
    have : x = n := by omega
    subst this
    exact ⟨fun _ => h, fun z => by omega⟩
  | k + 1, x, hx => by
    apply v_Mod_shifts_2 hra
    rw [i3n (x := n) (by omega), i3n (x := x) (by omega)]
    refine ⟨fun z => by omega, fun _ => ⟨by omega, by omega, fun m1 e1 => ?_⟩⟩
    have e : m1 = ms m ra (shR (m ra) n (x + 1)) := by
      rw [e1, ms_s, ms_ms]; congr 1
      funext i; unfold ru shR
      by_cases y : i = x
      · rw [if_pos y, if_neg (by omega), if_pos (by omega), y]
      · rw [if_neg y]
        by_cases y2 : i < x
        · rw [if_pos y2, if_pos (by omega)]
        · rw [if_neg y2, if_neg (by omega)]
    rw [e]
    exact l_shifts hra hn hn2 h k (x + 1) (by omega)
theorem s_shifts {g : sh_G} {d ra nr n : Nat} {m : sh_Mem} {Q : Option sh_V → sh_Mem → Prop} (hra : sh_shp ra = some (.inr (0, nr))) (hn : n + n ≤ nr) (hn2 : nr ≤ 2000) (h : Q none (ms m ra (shR (m ra) n n))) : sh_Cal g d m_Mod_shifts [sh_r ra, sh_i (n : Int)] m Q := by
  apply v_Mod_shifts hra
  have w := l_shifts (g := g) (d := d) hra hn hn2 h n 0 (by omega)
  have e : shR (m ra) n 0 = m ra := by funext i; unfold shR; rw [if_neg (by omega)]
  rw [e, ms_id] at w
  exact w
theorem l_shiftsN {g : sh_G} {d ra nr n : Nat} {m : sh_Mem} {Q : Option sh_V → sh_Mem → Prop} (hra : sh_shp ra = some (.inr (1, nr))) (hn : n + n ≤ nr) (hn2 : nr ≤ 2000) (h : Q none (ms m ra (shR (m ra) n n))) : ∀ (k x : Nat), x + k = n →
    sh_X g d m_Mod_shiftsNames 2 [(0, sh_r ra), (1, sh_i (n : Int)), (2, sh_i (x : Int))] [] (ms m ra (shR (m ra) n x)) (sh_K m_Mod_shiftsNames Q)
  | 0, x, hx => by
    apply v_Mod_shiftsNames_2 hra
    rw [i3n (x := n) (by omega), i3n (x := x) (by omega)]
    have : x = n := by omega
    subst this
    exact ⟨fun _ => h, fun z => by omega⟩
  | k + 1, x, hx => by
    apply v_Mod_shiftsNames_2 hra
    rw [i3n (x := n) (by omega), i3n (x := x) (by omega)]
    refine ⟨fun z => by omega, fun _ => ⟨by omega, by omega, fun m1 e1 => ?_⟩⟩
    have e : m1 = ms m ra (shR (m ra) n (x + 1)) := by
      rw [e1, ms_s, ms_ms]; congr 1
      funext i; unfold ru shR
      by_cases y : i = x
      · rw [if_pos y, if_neg (by omega), if_pos (by omega), y]
      · rw [if_neg y]
        by_cases y2 : i < x
        · rw [if_pos y2, if_pos (by omega)]
        · rw [if_neg y2, if_neg (by omega)]
    rw [e]
    exact l_shiftsN hra hn hn2 h k (x + 1) (by omega)
theorem s_shiftsN {g : sh_G} {d ra nr n : Nat} {m : sh_Mem} {Q : Option sh_V → sh_Mem → Prop} (hra : sh_shp ra = some (.inr (1, nr))) (hn : n + n ≤ nr) (hn2 : nr ≤ 2000) (h : Q none (ms m ra (shR (m ra) n n))) : sh_Cal g d m_Mod_shiftsNames [sh_r ra, sh_i (n : Int)] m Q := by
  apply v_Mod_shiftsNames hra
  have w := l_shiftsN (g := g) (d := d) hra hn hn2 h n 0 (by omega)
  have e : shR (m ra) n 0 = m ra := by funext i; unfold shR; rw [if_neg (by omega)]
  rw [e, ms_id] at w
  exact w
/-- what lays leaves -/
def laysF (m m' : sh_Mem) : Prop := (∀ a, ¬ (98 ≤ a ∧ a ≤ 108) → m' a = m a) ∧ m' 98 = shR (m 98) 2 2 ∧ m' 99 = shR (m 99) 8 8 ∧ m' 100 = shR (m 100) 4 4 ∧ m' 101 = shR (m 101) 8 8 ∧ m' 102 = shR (m 102) 8 8 ∧ m' 103 = shR (m 103) 8 8 ∧ m' 104 = shR (m 104) 4 4 ∧ m' 105 = shR (m 105) 4 4 ∧ m' 106 0 = m 106 1 - 1000 ∧ m' 107 0 = m 107 1 - 1000 ∧ m' 108 = shR (m 108) 1000 1000
theorem s_lays {g : sh_G} {d : Nat} {m : sh_Mem} {Q : Option sh_V → sh_Mem → Prop} (h : ∀ m', laysF m m' → Q none m') : sh_Cal g (d + 1) m_Mod_lays [sh_r 96] m Q := by
  apply v_Mod_lays
  refine s_shifts (n := 2) (nr := 4) (by decide +kernel) (by omega) (by omega) ⟨rfl, ?_⟩
  refine s_shiftsN (n := 8) (nr := 16) (by decide +kernel) (by omega) (by omega) ⟨rfl, ?_⟩
  refine s_shiftsN (n := 4) (nr := 8) (by decide +kernel) (by omega) (by omega) ⟨rfl, ?_⟩
  refine s_shifts (n := 8) (nr := 16) (by decide +kernel) (by omega) (by omega) ⟨rfl, ?_⟩
  refine s_shifts (n := 8) (nr := 16) (by decide +kernel) (by omega) (by omega) ⟨rfl, ?_⟩
  refine s_shifts (n := 8) (nr := 16) (by decide +kernel) (by omega) (by omega) ⟨rfl, ?_⟩
  refine s_shifts (n := 4) (nr := 8) (by decide +kernel) (by omega) (by omega) ⟨rfl, ?_⟩
  refine s_shifts (n := 4) (nr := 8) (by decide +kernel) (by omega) (by omega) ⟨rfl, ?_⟩
  refine s_shifts (n := 1000) (nr := 2000) (by decide +kernel) (by omega) (by omega) ⟨rfl, ?_⟩
  rintro _ rfl _ rfl
  apply h
  refine ⟨fun a ha => ?_, ?_, ?_, ?_, ?_, ?_, ?_, ?_, ?_, ?_, ?_, ?_⟩
  · rw [ms_n _ _ (by omega), ms_n _ _ (by omega), ms_n _ _ (by omega), ms_n _ _ (by omega), ms_n _ _ (by omega), ms_n _ _ (by omega), ms_n _ _ (by omega), ms_n _ _ (by omega), ms_n _ _ (by omega), ms_n _ _ (by omega), ms_n _ _ (by omega)]
  all_goals simp [ms, ru]
