/-! bits -/
theorem crd_split (S : Nat → Bool) (a : Nat) : ∀ m : Nat, crd S (a + m) = crd S a + crd (fun k => S (a + k)) m := by
  intro m
  induction m with
  | zero => rfl
  | succ m ih =>
    show crd S (a + m) + (if S (a + m) then 1 else 0) = crd S a + (crd (fun k => S (a + k)) m + (if S (a + m) then 1 else 0))
    rw [ih]
    omega
def sB (p : Nat → Nat) : Nat → Nat → Nat
  | 0, _ => 0
  | n + 1, x => p (x % 256) + sB p n (x / 256)
theorem pop_crd : ∀ b : Nat, b < 256 → crd (fun k => b.testBit k) 8 = pop8 b := by decide +kernel
theorem crd_bytes : ∀ n x : Nat, crd (fun k => x.testBit k) (8 * n) = sB pop8 n x := by
  intro n
  induction n with
  | zero => intro x; rfl
  | succ n ih =>
    intro x
    rw [show 8 * (n + 1) = 8 + 8 * n by omega, crd_split]
    show _ = pop8 (x % 256) + sB pop8 n (x / 256)
    rw [← pop_crd (x % 256) (Nat.mod_lt _ (by omega)), ← ih (x / 256)]
    congr 1
    · refine crd_off 8 (fun j hj => ?_)
      rw [show (256 : Nat) = 2 ^ 8 from rfl, Nat.testBit_mod_two_pow]
      simp [hj]
    · refine crd_off (8 * n) (fun j hj => ?_)
      rw [show (256 : Nat) = 2 ^ 8 from rfl, Nat.testBit_div_two_pow, Nat.add_comm]
