/-! ===== what fences pay: the class's stack machine ===== -/
def factF (mu ol so da op : Int) : Int := if op = -1 then mu else if op = -2 then ol else if op = -3 then so else da
def joinF (op a b : Int) : Int :=
  if op = -11 then a - b else if op = -10 then a + b else if op = -9 then (if i3 a = i3 b then 1 else 0) else if op = -8 then (if i3 a < i3 b then 1 else 0)
  else if op = -7 then (if i3 a ≠ 0 ∨ i3 b ≠ 0 then 1 else 0) else if op = -6 then (if i3 a ≠ 0 ∧ i3 b ≠ 0 then 1 else 0) else a * b
def smL (f : Int → Int) (op : Int) (l : List Int) : List Int :=
  if op < -4 then (if op = -5 then (match l with | [] => [] | x :: r => (if i3 x = 0 then 1 else 0) :: r) else (match l with | y :: x :: r => joinF op x y :: r | _ => l))
  else if 32 ≤ l.length then l else (if op < 0 then f op else op) :: l
def clampP (v : Int) : Int := if 0 < i3 (if i3 v < 99 then v else 99) then (if i3 v < 99 then v else 99) else 0
/-- what a price is -/
def clampN (v : Int) : Int := if i3 v < 0 then 0 else if 99 < i3 v then 99 else i3 v
theorem clampN_P (v : Int) : i3 (clampP v) = clampN v := by
  have e1 : i3 0 = 0 := rfl
  have e2 : i3 99 = 99 := rfl
  unfold clampP clampN
  by_cases h1 : i3 v < 99
  · simp only [if_pos h1]; by_cases h2 : 0 < i3 v
    · rw [if_pos h2]; grind
    · rw [if_neg h2]; grind
  · simp only [if_neg h1]; grind
def smR (f : Int → Int) (code : Nat → Int) : Nat → Nat → List Int → Int
  | 0, _, l => match l with | [] => 0 | x :: _ => clampP x
  | k + 1, i, l => smR f code k (i + 1) (smL f (code i) l)
def prC (code : Nat → Int) (len : Nat) (mu ol so da : Int) : Int := smR (factF mu ol so da) code len 0 []
def Rst (r : Nat → Int) (l : List Int) : Prop := ∀ i, i < l.length → r (l.length - 1 - i) = l.getD i 0
theorem Rst_0 {r : Nat → Int} {x : Int} {l : List Int} (h : Rst r (x :: l)) : r l.length = x := by have := h 0 (by simp); simpa using this
theorem Rst_t {r : Nat → Int} {x : Int} {l : List Int} (h : Rst r (x :: l)) : Rst r l := by
  intro i hi
  have := h (i + 1) (by simp; omega)
  simp only [List.length_cons, List.getD_cons_succ] at this
  rw [← this]; congr 1; omega
theorem Rst_c {r : Nat → Int} {x : Int} {l : List Int} (h : Rst r l) : Rst (ru r l.length x) (x :: l) := by
  intro i hi
  cases i with
  | zero => simp [ru]
  | succ i =>
    simp only [List.length_cons] at hi
    have h1 := h i (by omega)
    have e : (x :: l).length - 1 - (i + 1) = l.length - 1 - i := by simp only [List.length_cons]; omega
    rw [e, ru_n _ _ (by omega), h1]; simp
theorem s_Law_fact {g : sh_G} {d : Nat} {mem : sh_Mem} {Q : Option sh_V → sh_Mem → Prop} {op mu ol so da : Int} (hop : -12 ≤ op ∧ op ≤ 9999) (h : Q (some (sh_i (factF mu ol so da op))) (mem)) : sh_Cal g d m_Law_fact [sh_i op, sh_i mu, sh_i ol, sh_i so, sh_i da] mem Q := by
  apply v_Law_fact
  rw [i3s (by omega) (by omega)]
  unfold factF at h
  grind
theorem s_Law_join {g : sh_G} {d : Nat} {mem : sh_Mem} {Q : Option sh_V → sh_Mem → Prop} {op x y : Int} (hop : -12 ≤ op ∧ op ≤ 9999) (h : Q (some (sh_i (joinF op x y))) (mem)) : sh_Cal g d m_Law_join [sh_i op, sh_i x, sh_i y] mem Q := by
  apply v_Law_join
  rw [i3s (by omega) (by omega)]
  unfold joinF at h
  refine ⟨fun c => ?_, fun c => ?_, fun c => ⟨fun c2 => ?_, fun c2 => ?_⟩, fun c => ⟨fun c2 => ?_, fun c2 => ?_⟩, fun c => ⟨fun c2 => ?_, fun c2 => ⟨fun c3 => ?_, fun c3 => ?_⟩⟩, fun c => ⟨fun c2 => ?_, fun c2 => ⟨fun c3 => ?_, fun c3 => ?_⟩⟩, fun c => ?_⟩ <;> grind
theorem l_Law_priceOf {g : sh_G} {d L len : Nat} {mu ol so da : Int} {mem0 : sh_Mem} {Q : Option sh_V → sh_Mem → Prop} (hL : ob2 L) (hl : mem0 L 2 = (len : Int)) (hl2 : len ≤ 1000) (hc : ∀ i, i < len → -12 ≤ mem0 (L + 1) i ∧ mem0 (L + 1) i ≤ 9999) : ∀ (k x6 : Nat) (l : List Int) (r : Nat → Int), x6 + k = len → l.length ≤ 32 → Rst r l → (∀ r', Q (some (sh_i (smR (factF mu ol so da) (mem0 (L + 1)) k x6 l))) (ms mem0 (L + 2) r')) →
    sh_X g (d + 1) m_Law_priceOf 6 [(0, sh_r L), (1, sh_i mu), (2, sh_i ol), (3, sh_i so), (4, sh_i da), (5, sh_i (l.length : Int)), (6, sh_i (x6 : Int))] [] (ms mem0 (L + 2) r) (sh_K m_Law_priceOf Q) := by
  have n0 : L ≠ L + 2 := by omega
  have n1 : L + 1 ≠ L + 2 := by omega
  intro k
  induction k with
  | zero =>
    intro x6 l r hx hll hr h
    apply v_Law_priceOf_6 hL
    rw [ms_n _ _ n0, hl, i3n (by omega), i3n (by omega), i3n (x := l.length) (by omega)]
    refine ⟨fun _ => ⟨fun q => ?_, fun q => ⟨by omega, ?_⟩⟩, fun q => absurd (by omega) q⟩
    · cases l with
      | nil => exact h r
      | cons x l => simp only [List.length_cons] at q; omega
    · cases l with
      | nil => simp at q
      | cons x l =>
        have e : (((x :: l).length : Int) - 1).toNat = l.length := by simp only [List.length_cons]; omega
        rw [e, ms_s, Rst_0 hr]
        exact h r
  | succ k ih =>
    intro x6 l r hx hll hr h
    have hop := hc x6 (by omega)
    rw [smR] at h
    generalize hopg : mem0 (L + 1) x6 = op at hop h
    apply v_Law_priceOf_6 hL
    rw [ms_n _ _ n0, ms_n _ _ n1, hl, hopg, i3n (by omega), i3n (by omega), i3n (x := l.length) (by omega), i3s (x := op) (by omega) (by omega)]
    refine ⟨fun q => absurd q (by omega), fun _ => ⟨by omega, fun c1 => ⟨fun c2 => ⟨fun c3 => ?_, fun c3 => ?_⟩, fun c2 => ⟨fun c3 => ?_, fun c3 => ?_⟩⟩, fun c1 => ⟨fun c2 => ?_, fun c2 => ⟨fun c3 => ?_, fun c3 => ?_⟩⟩⟩⟩
    · refine ih (x6 + 1) l r (by omega) hll hr ?_
      have e : smL (factF mu ol so da) op l = l := by
        unfold smL; rw [if_pos c1, if_neg c2]
        match l, c3 with
        | [], _ => rfl
        | [x], _ => rfl
        | x :: y :: z, c3 => simp only [List.length_cons] at c3; omega
      rw [e] at h; exact h
    · match l, hll, hr, h, c3 with
      | [], _, _, _, c3 => simp at c3
      | [x], _, _, _, c3 => simp at c3
      | y :: x :: l, hll, hr, h, c3 =>
        simp only [List.length_cons] at hll
        have e1 : ((((y :: x :: l).length : Int) + -1) - 1).toNat = l.length := by simp only [List.length_cons]; omega
        have e2 : (((y :: x :: l).length : Int) + -1).toNat = (x :: l).length := by simp only [List.length_cons]; omega
        refine ⟨by simp only [List.length_cons]; omega, by simp only [List.length_cons]; omega, ?_⟩
        rw [e1, e2, ms_s, Rst_0 hr, Rst_0 (Rst_t hr)]
        refine s_Law_join hop ⟨_, rfl, by simp only [List.length_cons]; omega, ?_⟩
        rintro _ rfl
        rw [ms_ms, ms_s]
        have e3 : ((y :: x :: l).length : Int) + -1 = ((joinF op x y :: l).length : Int) := by simp only [List.length_cons]; omega
        rw [e3]
        refine ih (x6 + 1) _ _ (by omega) (by simp only [List.length_cons]; omega) (Rst_c (Rst_t (Rst_t hr))) ?_
        have e : smL (factF mu ol so da) op (y :: x :: l) = joinF op x y :: l := by unfold smL; rw [if_pos c1, if_neg c2]
        rw [e] at h; exact h
    · refine ih (x6 + 1) l r (by omega) hll hr ?_
      have e : smL (factF mu ol so da) op l = l := by
        unfold smL; rw [if_pos c1, if_pos c2]
        match l, c3 with
        | [], _ => rfl
        | x :: y, c3 => simp only [List.length_cons] at c3; omega
      rw [e] at h; exact h
    · match l, hll, hr, h, c3 with
      | [], _, _, _, c3 => simp at c3
      | x :: l, hll, hr, h, c3 =>
        simp only [List.length_cons] at hll
        have e1 : (((x :: l).length : Int) - 1).toNat = l.length := by simp only [List.length_cons]; omega
        have es : smL (factF mu ol so da) op (x :: l) = (if i3 x = 0 then 1 else 0) :: l := by unfold smL; rw [if_pos c1, if_pos c2]
        rw [es] at h
        refine ⟨by simp only [List.length_cons]; omega, ?_⟩
        rw [e1, ms_s, Rst_0 hr]
        refine ⟨fun c4 => ⟨by simp only [List.length_cons]; omega, ?_⟩, fun c4 => ⟨by simp only [List.length_cons]; omega, ?_⟩⟩
        · rintro _ rfl
          rw [if_neg c4] at h
          rw [ms_ms]
          exact ih (x6 + 1) (0 :: l) _ (by omega) (by simp only [List.length_cons]; omega) (Rst_c (Rst_t hr)) h
        · rintro _ rfl
          rw [if_pos c4] at h
          rw [ms_ms]
          exact ih (x6 + 1) (1 :: l) _ (by omega) (by simp only [List.length_cons]; omega) (Rst_c (Rst_t hr)) h
    · refine ih (x6 + 1) l r (by omega) hll hr ?_
      have e : smL (factF mu ol so da) op l = l := by unfold smL; rw [if_neg c1, if_pos (by omega)]
      rw [e] at h; exact h
    · have e1 : (l.length : Int).toNat = l.length := by omega
      have es : smL (factF mu ol so da) op l = factF mu ol so da op :: l := by unfold smL; rw [if_neg c1, if_neg (by omega), if_pos c3]
      rw [es] at h
      refine s_Law_fact hop ⟨_, rfl, by omega, ?_⟩
      rintro _ rfl
      rw [e1, ms_ms, ms_s]
      exact ih (x6 + 1) (_ :: l) _ (by omega) (by simp only [List.length_cons]; omega) (Rst_c hr) h
    · have e1 : (l.length : Int).toNat = l.length := by omega
      have es : smL (factF mu ol so da) op l = op :: l := by unfold smL; rw [if_neg c1, if_neg (by omega), if_neg c3]
      rw [es] at h
      refine ⟨by omega, ?_⟩
      rintro _ rfl
      rw [e1, ms_ms, ms_s]
      exact ih (x6 + 1) (_ :: l) _ (by omega) (by simp only [List.length_cons]; omega) (Rst_c hr) h
/-- the law of a book -/
def CL (mem : sh_Mem) (B : Nat) (b : Bk) : Prop := ∃ len : Nat, mem (B + 8) 2 = (len : Int) ∧ len ≤ 1000 ∧ (∀ i, i < len → -12 ≤ mem (B + 9) i ∧ mem (B + 9) i ≤ 9999) ∧ (0 < b_nt b → ∀ mu ol so da, i3 (prC (mem (B + 9)) len mu ol so da) = b_pr b mu ol so da)
theorem s_Law_priceOf {g : sh_G} {d : Nat} {mem : sh_Mem} {Q : Option sh_V → sh_Mem → Prop} {B : Nat} {mu ol so da : Int} {b : Bk} (hB : ob0 B) (hl : CL mem B b) (hnt : 0 < b_nt b) (h : ∀ r, Q (some (sh_i (b_pr b mu ol so da))) (ms mem (B + 10) r)) : sh_Cal g (d + 1) m_Law_priceOf [sh_r (B + 8), sh_i mu, sh_i ol, sh_i so, sh_i da] mem Q := by
  obtain ⟨len, h1, h2, h3, h4⟩ := hl
  apply sh_nrm
  apply v_Law_priceOf (ob0_o8 hB)
  have q := l_Law_priceOf (g := g) (d := d) (mu := mu) (ol := ol) (so := so) (da := da) (Q := fun rv m => ∃ x : Int, rv = some (sh_i x) ∧ Q (some (sh_i (i3 x))) m) (ob0_o8 hB) h1 h2 h3 len 0 [] (mem (B + 8 + 2)) (by omega) (by simp) (fun i hi => by simp at hi) (fun r' => ⟨_, rfl, by have := h4 hnt mu ol so da; unfold prC at this; rw [this]; exact h r'⟩)
  rw [ms_id] at q
  exact q
theorem s_State_paidBehind {g : sh_G} {d : Nat} {mem : sh_Mem} {Q : Option sh_V → sh_Mem → Prop} {S B t n : Nat} {b : Bk} (hS : ob8 S) (hB : ob0 B) (hI3 : InvT (mem (S + 1)) t) (hb : BkOk b) (hl : CL mem B b) (ht : t < b_nt b) (hn : n ≤ 1000) (h : ∀ r, Q (some (sh_i (if 0 < mbF (mem (S + 1) (20 + t)) (mem (S + 1) (16 + t)) (mem (S + 1) (24 + t)) n then b_pr b (mbF (mem (S + 1) (20 + t)) (mem (S + 1) (16 + t)) (mem (S + 1) (24 + t)) n) (mem (S + 1) (24 + t) + n) (mem (S + 1) (20 + t)) (mem (S + 1) 44 + n) else 0))) (ms mem (B + 10) r)) : sh_Cal g (d + 2) m_State_paidBehind [sh_r S, sh_r B, sh_i t, sh_i (n : Int)] mem Q := by
  have k2 := hb.2.1
  obtain ⟨i1, i2, i3x, i4, i5, i6, i7⟩ := id hI3
  have hm := mbF_rng (mem (S + 1) (20 + t)) n (mem (S + 1) (16 + t)) (mem (S + 1) (24 + t)) (by omega)
  apply v_State_paidBehind hS hB
  refine s_State_muchBehind hS hI3 ht hb hn ⟨_, rfl, ?_⟩
  rw [i3s (by omega) (by omega)]
  refine ⟨fun c => ⟨by omega, by omega, s_Law_priceOf hB hl (Nat.lt_of_le_of_lt (Nat.zero_le t) ht) (fun r => ⟨_, rfl, ?_⟩)⟩, fun c => ?_⟩
  · have := h r; rw [if_pos c] at this; exact this
  · have := h (mem (B + 10)); rw [if_neg c, ms_id] at this; exact this

theorem s_State_paidFor {g : sh_G} {d : Nat} {mem : sh_Mem} {Q : Option sh_V → sh_Mem → Prop} {S B t : Nat} {b : Bk} (hS : ob8 S) (hB : ob0 B) (hI3 : InvT (mem (S + 1)) t) (hb : BkOk b) (hl : CL mem B b) (ht : t < b_nt b) (hp : 0 < mem (S + 1) (16 + t)) (h : ∀ r, Q (some (sh_i (b_pr b (mem (S + 1) (16 + t)) (mem (S + 1) (24 + t)) (mem (S + 1) (20 + t)) (mem (S + 1) 44)))) (ms mem (B + 10) r)) : sh_Cal g (d + 3) m_State_paidFor [sh_r S, sh_r B, sh_i t] mem Q := by
  apply v_State_paidFor hS hB
  refine s_State_paidBehind (n := 0) hS hB hI3 hb hl ht (by omega) (fun r => ⟨_, rfl, ?_⟩)
  rw [mbF, if_pos hp]
  simpa using h r
theorem s_State_cashIn {g : sh_G} {d : Nat} {mem : sh_Mem} {Q : Option sh_V → sh_Mem → Prop} {S B t : Nat} {b : Bk} (hS : ob8 S) (hB : ob0 B) (hI3 : InvT (mem (S + 1)) t) (hb : BkOk b) (hl : CL mem B b) (ht : t < b_nt b) (hp : 0 < mem (S + 1) (16 + t)) (h : ∀ r, Q (some (sh_i (b_pr b (mem (S + 1) (16 + t)) (mem (S + 1) (24 + t)) (mem (S + 1) (20 + t)) (mem (S + 1) 44)))) (ms (ms mem (B + 10) r) (S + 1) (cashR (mem (S + 1)) t (b_pr b (mem (S + 1) (16 + t)) (mem (S + 1) (24 + t)) (mem (S + 1) (20 + t)) (mem (S + 1) 44))))) : sh_Cal g (d + 4) m_State_cashIn [sh_r S, sh_r B, sh_i t] mem Q := by
  have k2 := hb.2.1
  have n10 := ob8_ne hS hB (k := 10) (by omega)
  apply v_State_cashIn hS hB
  refine s_State_paidFor hS hB hI3 hb hl ht hp (fun r => ⟨_, rfl, by omega, by omega, ?_⟩)
  rintro _ rfl
  refine ⟨by omega, ?_⟩
  rintro _ rfl
  simp only [ms_ms, ms_s, ms_n _ _ (Ne.symm n10)]
  exact h r
