/-! ===== bits ===== -/
def kB (f : Nat → Bool) : Nat := (f 0).toNat + 2 * (f 1).toNat + 4 * (f 2).toNat + 8 * (f 3).toNat + 16 * (f 4).toNat + 32 * (f 5).toNat + 64 * (f 6).toNat + 128 * (f 7).toNat
theorem kB_bool : ∀ b0 b1 b2 b3 b4 b5 b6 b7 : Bool, ∀ i, i < 8 → (b0.toNat + 2 * b1.toNat + 4 * b2.toNat + 8 * b3.toNat + 16 * b4.toNat + 32 * b5.toNat + 64 * b6.toNat + 128 * b7.toNat).testBit i = [b0, b1, b2, b3, b4, b5, b6, b7].getD i false := by decide +kernel
theorem kB_bit (f : Nat → Bool) {i : Nat} (h : i < 8) : (kB f).testBit i = f i := by
  have := kB_bool (f 0) (f 1) (f 2) (f 3) (f 4) (f 5) (f 6) (f 7) i h
  unfold kB; rw [this]
  rcases (by omega : i = 0 ∨ i = 1 ∨ i = 2 ∨ i = 3 ∨ i = 4 ∨ i = 5 ∨ i = 6 ∨ i = 7) with rfl | rfl | rfl | rfl | rfl | rfl | rfl | rfl <;> rfl
theorem kB_lt (f : Nat → Bool) : kB f < 256 := by
  have q : ∀ b : Bool, b.toNat ≤ 1 := by decide
  have := q (f 0); have := q (f 1); have := q (f 2); have := q (f 3); have := q (f 4); have := q (f 5); have := q (f 6); have := q (f 7)
  unfold kB; omega
theorem bitsF_cong {P P' : Nat → Bool} : ∀ n, (∀ i, i < n → P i = P' i) → bitsF P n = bitsF P' n
  | 0, _ => rfl
  | n + 1, h => by rw [bitsF, bitsF, bitsF_cong n (fun i hi => h i (by omega)), h n (by omega)]
theorem bitsF_k : ∀ k, k < 256 → ∀ n, n < 9 → bitsF (fun i => k.testBit i) n = ((k % 2 ^ n : Nat) : Int) := by decide +kernel
theorem bit_k : ∀ k, k < 256 → ∀ e, e < 8 → i_and (i_shr ((k : Nat) : Int) ((e : Nat) : Int)) 1 = if k.testBit e then 1 else 0 := by decide +kernel
theorem bitsF_v (P : Nat → Bool) {n : Nat} (h : n ≤ 8) : bitsF P n = ((kB P % 2 ^ n : Nat) : Int) := by
  rw [← bitsF_k _ (kB_lt P) n (by omega)]
  exact bitsF_cong n (fun i hi => (kB_bit P (by omega)).symm)
theorem bitsF_bit (P : Nat → Bool) {n e : Nat} (h : n ≤ 8) (he : e < n) : i_and (i_shr (bitsF P n) ((e : Nat) : Int)) 1 = if P e = true then 1 else 0 := by
  have h2 : kB P % 2 ^ n < 256 := Nat.lt_of_le_of_lt (Nat.mod_le _ _) (kB_lt P)
  rw [bitsF_v P h, bit_k _ h2 e (by omega), Nat.testBit_mod_two_pow, kB_bit P (by omega)]
  simp [he]
