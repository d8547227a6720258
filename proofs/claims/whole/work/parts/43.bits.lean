/-! PURE: bits, weights -/
def bt (σ a : Nat) : Bool := σ / 2 ^ a % 2 == 1
def wdn (x : Int) (σ : Nat) : Nat → Int → Int
  | 0, v => v
  | a + 1, v => wdn x σ a (v * (if bt σ a = true then x else 10 - x))
noncomputable def bc (σ : Nat) : Int := (f_J6_bitCount (σ : Int)).getD 0
def sumF (f : Nat → Int) : Nat → Nat → Int
  | 0, _ => 0
  | d + 1, a => f a + sumF f d (a + 1)
theorem bt_z : ∀ σ : Nat, σ < 128 → ∀ a : Nat, a < 7 → zAnd (zShr (σ : Int) (a : Int)) 1 = if bt σ a = true then 1 else 0 := by decide +kernel
theorem bt_co : ∀ n : Nat, n < 8 → ∀ σ : Nat, σ < 2 ^ n → ∀ a : Nat, a < n → bt (2 ^ n - 1 - σ) a = !bt σ a := by decide +kernel
theorem bc_s : ∀ σ : Nat, σ < 128 → f_J6_bitCount (σ : Int) = some (bc σ) := by decide +kernel
theorem bc_bd : ∀ n : Nat, n < 8 → ∀ σ : Nat, σ < 2 ^ n → 0 ≤ bc σ ∧ bc σ ≤ (n : Int) := by decide +kernel
theorem w_eq : ∀ n : Nat, n < 8 → ∀ σ : Nat, σ < 2 ^ n → ∀ x : Nat, x < 11 → wdn (x : Int) σ n 1 = (10 - (x : Int)) ^ (bc (2 ^ n - 1 - σ)).toNat * (x : Int) ^ ((n : Int) - bc (2 ^ n - 1 - σ)).toNat := by decide +kernel
theorem w_sum : ∀ n : Nat, n < 8 → ∀ x : Nat, x < 11 → sumF (fun σ => wdn (x : Int) σ n 1) (2 ^ n) 0 = 10 ^ n := by decide +kernel
theorem shl_p : ∀ n : Nat, n < 8 → zShl 1 (n : Int) = ((2 ^ n : Nat) : Int) := by decide +kernel
theorem p2_le : ∀ n : Nat, n < 8 → 2 ^ n ≤ 128 := by decide +kernel
theorem p10_le : ∀ n : Nat, n < 8 → (0 : Int) < 10 ^ n ∧ (10 : Int) ^ n ≤ 10000000 := by decide +kernel
theorem wdn_bd : ∀ n : Nat, n < 8 → ∀ σ : Nat, σ < 2 ^ n → ∀ x : Nat, x < 11 → 0 ≤ wdn (x : Int) σ n 1 ∧ wdn (x : Int) σ n 1 ≤ 10000000 := by decide +kernel
