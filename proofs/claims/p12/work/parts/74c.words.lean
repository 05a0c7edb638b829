/-! words for what the pictures hold -/
def cZ (z : Int) : Nat := ((z % 64) * 128 + z / 64).toNat
/-- the least and the greatest over those that differ; 100 if none does -/
def EXT (df : Nat → Bool) (v : Nat → Int) (q : Nat) (lo hi : Int) : Prop := ((∀ k, k < q → df k = false) ∧ lo = 100 ∧ hi = 100) ∨ ((∃ k, k < q ∧ df k = true ∧ v k = lo) ∧ (∃ k, k < q ∧ df k = true ∧ v k = hi) ∧ ∀ k, k < q → df k = true → lo ≤ v k ∧ v k ≤ hi)
/-! seen and changed, exactly -/
def dR (Pc Pf : Nat → Int) : Nat → Bool := fun k => decide (Pc k ≠ Pf k)
def vR (p : Int) (k : Nat) : Int := if p < 3 then (k : Int) % 64 - 32 else (k : Int) / 64 - 64
def sR (Pc : Nat → Int) (v : Int) : Nat → Bool := fun k => decide (Pc k ≠ -1) && decide (Pc k % 32 = v)
/-! what the class holds of a look, and what the reference holds -/
def LKR (x y : Int) : Prop := (x = 0 ∧ y = -1) ∨ ∃ n f k c : Int, (0 ≤ n ∧ n < 24) ∧ (0 ≤ f ∧ f < 3) ∧ (1 ≤ k ∧ k < 4) ∧ (0 ≤ c ∧ c < 16) ∧ x = n * 256 + f * 64 + k * 16 + c ∧ y = n + 32 * f + 128 * (c + 16 * k)
def LK (Fc Pc : Nat → Int) : Prop := ∀ z : Int, 0 ≤ z → z < 8192 → LKR (Fc (cZ z) % 65536) (Pc z.toNat)
