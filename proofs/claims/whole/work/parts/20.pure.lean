/-! ===== pure functions: a book, a row of 45 numbers that is how it is (0 left, 8 guard, 16 much, 20 sort, 24 old, 28 caught, 32 guilt, 36 coins, 40 joy, 44 night) ===== -/
/-- days, thieves, kind, worth, guard, skill, sack, price -/
abbrev Bk : Type := Nat × Nat × (Nat → Int) × (Nat → Int) × (Nat → Int) × (Nat → Int) × (Nat → Int) × (Int → Int → Int → Int → Int)
abbrev b_nd (b : Bk) : Nat := b.1
abbrev b_nt (b : Bk) : Nat := b.2.1
abbrev b_ki (b : Bk) : Nat → Int := b.2.2.1
abbrev b_wo (b : Bk) : Nat → Int := b.2.2.2.1
abbrev b_gu (b : Bk) : Nat → Int := b.2.2.2.2.1
abbrev b_sk (b : Bk) : Nat → Int := b.2.2.2.2.2.1
abbrev b_sa (b : Bk) : Nat → Int := b.2.2.2.2.2.2.1
abbrev b_pr (b : Bk) : Int → Int → Int → Int → Int := b.2.2.2.2.2.2.2
def BkOk (b : Bk) : Prop := b_nd b ≤ 8 ∧ b_nt b ≤ 4 ∧ (∀ i, i < b_nd b → 0 ≤ b_ki b i ∧ b_ki b i ≤ 3 ∧ 1 ≤ b_wo b i ∧ b_wo b i ≤ 24 ∧ 0 ≤ b_gu b i ∧ b_gu b i ≤ 9) ∧ (∀ t, t < b_nt b → 0 ≤ b_sk b t ∧ b_sk b t ≤ 9 ∧ 1 ≤ b_sa b t ∧ b_sa b t ≤ 12) ∧ ∀ x y z w, 0 ≤ b_pr b x y z w ∧ b_pr b x y z w ≤ 99
/-- what is so of every row -/
def Inv (b : Bk) (c : Nat → Int) : Prop :=
  (∀ i, i < b_nd b → 0 ≤ c i ∧ c i ≤ b_wo b i ∧ b_gu b i ≤ c (8 + i) ∧ c (8 + i) ≤ 9) ∧ (∀ i, b_nd b ≤ i → i < 8 → c i = 0 ∧ c (8 + i) = 0) ∧
  (∀ t, t < b_nt b → 0 ≤ c (16 + t) ∧ c (16 + t) ≤ 12 ∧ 0 ≤ c (28 + t) ∧ c (28 + t) ≤ 9 ∧ 0 ≤ c (32 + t) ∧ c (32 + t) ≤ 9 ∧ (0 < c (16 + t) → 0 ≤ c (20 + t) ∧ c (20 + t) ≤ 3)) ∧
  (∀ t, b_nt b ≤ t → t < 4 → c (16 + t) = 0 ∧ c (28 + t) = 0 ∧ c (32 + t) = 0 ∧ c (36 + t) = 0 ∧ c (40 + t) = 0)
abbrev InvT (c : Nat → Int) (t : Nat) : Prop := 0 ≤ c (16 + t) ∧ c (16 + t) ≤ 12 ∧ 0 ≤ c (28 + t) ∧ c (28 + t) ≤ 9 ∧ 0 ≤ c (32 + t) ∧ c (32 + t) ≤ 9 ∧ (0 < c (16 + t) → 0 ≤ c (20 + t) ∧ c (20 + t) ≤ 3)
abbrev InvD (b : Bk) (c : Nat → Int) (i : Nat) : Prop := 0 ≤ c i ∧ c i ≤ b_wo b i ∧ b_gu b i ≤ c (8 + i) ∧ c (8 + i) ≤ 9
def bag (b : Bk) (c : Nat → Int) (t e : Nat) : Int := if c (28 + t) = 0 ∧ c (16 + t) = 0 ∧ 0 < c e ∧ c (8 + e) ≤ b_sk b t then min (b_sa b t) (c e) else 0
def takeR (b : Bk) (c : Nat → Int) (t e : Nat) : Nat → Int :=
  if 0 < bag b c t e then ru (ru (ru (ru (ru c (16 + t) (bag b c t e)) (20 + t) (b_ki b e)) (24 + t) 0) e (c e - bag b c t e)) (8 + e) (min 9 (c (8 + e) + 2))
  else ru (ru c (28 + t) (c (8 + e) - b_sk b t)) (8 + e) (min 9 (c (8 + e) + 1))
def cashR (c : Nat → Int) (t : Nat) (p : Int) : Nat → Int := ru (ru c (36 + t) (c (36 + t) + p)) (16 + t) 0
def joyV (c : Nat → Int) (t : Nat) : Int := max 0 (c (16 + t) - c (32 + t))
def enjoyR (c : Nat → Int) (t : Nat) : Nat → Int := ru (ru (ru c (40 + t) (c (40 + t) + joyV c t)) (32 + t) 0) (16 + t) 0
def xch (c : Nat → Int) (i j : Nat) : Nat → Int := ru (ru c i (c j)) j (c i)
def tradeR (c : Nat → Int) (t u : Nat) : Nat → Int := xch (xch (xch c (16 + t) (16 + u)) (20 + t) (20 + u)) (24 + t) (24 + u)
/-- how much a piece is once it has become so old -/
def spo (s m o : Int) : Int := if s = 0 then (if i3 o ≤ 3 then m else m - 1) else if s = 2 then m / 2 else if s = 3 then (if i3 o < 4 then m else 0) else m
/-- .. behind so many nights -/
def mbF (s m o : Int) : Nat → Int
  | 0 => m
  | n + 1 => if 0 < m then mbF s (spo s m (o + 1)) (o + 1) n else m
def gbF (c : Nat → Int) (t : Nat) (n : Int) : Int := if c (20 + t) = 1 then min 9 (c (32 + t) + n) else c (32 + t)
/-- a night -/
def sleepR (b : Bk) (c : Nat → Int) : Nat → Int := fun k =>
  if k < 8 then (if k < b_nd b then min (b_wo b k) (c k + 1) else c k)
  else if k < 16 then (if k - 8 < b_nd b then max (b_gu b (k - 8)) (c k - 1) else c k)
  else if k < 20 then (if k - 16 < b_nt b ∧ 0 < c k then spo (c (k + 4)) (c k) (c (k + 8) + 1) else c k)
  else if k < 24 then c k
  else if k < 28 then (if k - 24 < b_nt b ∧ 0 < c (k - 8) then c k + 1 else c k)
  else if k < 32 then (if k - 28 < b_nt b then max 0 (c k - 1) else c k)
  else if k < 36 then (if k - 32 < b_nt b ∧ 0 < c (k - 16) ∧ c (k - 12) = 1 then min 9 (c k + 1) else c k)
  else if k = 44 then c k + 1 else c k
def nightsR (b : Bk) (c : Nat → Int) : Nat → Nat → Int
  | 0 => c
  | n + 1 => nightsR b (sleepR b c) n
/-- as a row begins -/
def freshR (b : Bk) : Nat → Int := fun k => if k < 8 then (if k < b_nd b then b_wo b k else 0) else if k < 16 then (if k - 8 < b_nd b then b_gu b (k - 8) else 0) else 0
/-- the reference's row of a row -/
def enc (c : Nat → Int) : Nat → Int := fun k => if k = 0 then c 44 else if 21 ≤ k ∧ k < 25 then (if 0 < c (k - 5) then c (k - 1) else -1) else if 25 ≤ k ∧ k < 29 then (if 0 < c (k - 9) then c (k - 1) else -1) else c (k - 1)
/-- the class's book in the memory -/
def CB (mem : sh_Mem) (B : Nat) (b : Bk) : Prop := BkOk b ∧ mem B 0 = (b_nd b : Int) ∧ mem B 1 = (b_nt b : Int) ∧ (∀ i, i < b_nd b → mem (B + 2) i = b_ki b i ∧ mem (B + 3) i = b_wo b i ∧ mem (B + 4) i = b_gu b i) ∧ ∀ t, t < b_nt b → mem (B + 6) t = b_sk b t ∧ mem (B + 7) t = b_sa b t
theorem i3s {x : Int} (h1 : -1000000 ≤ x) (h2 : x ≤ 1000000) : i3 x = x := i3_id (by omega) (by omega)
theorem i3n {x : Nat} (h2 : x ≤ 1000000) : i3 (x : Int) = (x : Int) := i3_id (by omega) (by omega)
theorem i_div2 {x : Int} (h1 : 0 ≤ x) (h2 : x ≤ 1000000) : i_div x 2 = x / 2 := by
  have e : Int32.ofInt x = nI x.toNat := by
    unfold nI; rw [← Int32.ofInt_eq_ofNat, Int.toNat_of_nonneg h1]
  have e2 : Int32.ofInt 2 = nI 2 := rfl
  unfold i_div
  rw [e, e2, pk_div (by omega) (by omega) (by omega), nI_toInt (by omega)]
  omega
theorem ob8_ne {S B k : Nat} (hS : ob8 S) (hB : ob0 B) (hk : k ≤ 10) : B + k ≠ S + 1 := by
  have key : ∀ x ∈ ([22, 33] : List Nat), ∀ y ∈ ([5, 7, 53, 64, 75, 86] : List Nat), ∀ k, k ≤ 10 → x + k ≠ y + 1 := by decide
  exact key B hB S hS k hk
theorem CB_ms {mem : sh_Mem} {B S : Nat} {b : Bk} {r : Nat → Int} (h : CB mem B b) (hS : ob8 S) (hB : ob0 B) : CB (ms mem (S + 1) r) B b := by
  obtain ⟨h1, h2, h3, h4, h5⟩ := h
  have n0 : B ≠ S + 1 := ob8_ne hS hB (k := 0) (by omega)
  have n2 := ob8_ne hS hB (k := 2) (by omega)
  have n3 := ob8_ne hS hB (k := 3) (by omega)
  have n4 := ob8_ne hS hB (k := 4) (by omega)
  have n6 := ob8_ne hS hB (k := 6) (by omega)
  have n7 := ob8_ne hS hB (k := 7) (by omega)
  refine ⟨h1, ?_, ?_, ?_, ?_⟩
  · rw [ms_n _ _ n0]; exact h2
  · rw [ms_n _ _ n0]; exact h3
  · intro i hi; rw [ms_n _ _ n2, ms_n _ _ n3, ms_n _ _ n4]; exact h4 i hi
  · intro i hi; rw [ms_n _ _ n6, ms_n _ _ n7]; exact h5 i hi
/-- an answer may be told as the machine sees it -/
theorem sh_nrm {g : sh_G} {d : Nat} {M : sh_M} {av : List sh_V} {mem : sh_Mem} {Q : Option sh_V → sh_Mem → Prop} (h : sh_Cal g d M av mem (fun rv m => ∃ x : Int, rv = some (sh_i x) ∧ Q (some (sh_i (i3 x))) m)) : sh_Cal g d M av mem Q := by
  intro p e ha hc hk s m args below hf happ hP hK
  obtain ⟨n, o, h1, h2, h3, ⟨⟨⟨rv, mem', q1, ⟨x, rfl, q2⟩, q3⟩, h4⟩, h5⟩⟩ := h p e ha hc hk s m args below hf happ hP hK
  refine ⟨n, o, h1, h2, h3, ⟨⟨⟨some (sh_i (i3 x)), mem', ?_, q2, q3⟩, h4⟩, h5⟩⟩
  rw [q1]
  show Outcome.returned (some (Value.int (Int32.ofInt x))) = Outcome.returned (some (Value.int (Int32.ofInt (i3 x))))
  rw [i3_of]
