/-! bits -/
theorem pop_fn {p : Nat → Nat} (hp : ∀ y, p (y % 256) ≤ 8) (x : Nat) : (((apB p 8 x + apB p 8 x / 2 ^ 8) % 18446744073709551616 + (apB p 8 x + apB p 8 x / 2 ^ 8) % 18446744073709551616 / 2 ^ 16) % 18446744073709551616 + ((apB p 8 x + apB p 8 x / 2 ^ 8) % 18446744073709551616 + (apB p 8 x + apB p 8 x / 2 ^ 8) % 18446744073709551616 / 2 ^ 16) % 18446744073709551616 / 2 ^ 32) % 18446744073709551616 % 128 = sB p 8 x := by
  have e1 : ∀ n y, apB p (n + 1) y = p (y % 256) + 256 * apB p n (y / 256) := fun _ _ => rfl
  have e2 : ∀ n y, sB p (n + 1) y = p (y % 256) + sB p n (y / 256) := fun _ _ => rfl
  have z1 : ∀ y, apB p 0 y = 0 := fun _ => rfl
  have z2 : ∀ y, sB p 0 y = 0 := fun _ => rfl
  rw [pop_fin (hp x) (hp (x / 256)) (hp (x / 256 / 256)) (hp (x / 256 / 256 / 256)) (hp (x / 256 / 256 / 256 / 256)) (hp (x / 256 / 256 / 256 / 256 / 256)) (hp (x / 256 / 256 / 256 / 256 / 256 / 256)) (hp (x / 256 / 256 / 256 / 256 / 256 / 256 / 256)) (e1 7 _) (e1 6 _) (e1 5 _) (e1 4 _) (e1 3 _) (e1 2 _) (e1 1 _) ((e1 0 _).trans (by rw [z1, Nat.mul_zero, Nat.add_zero])), e2 7, e2 6, e2 5, e2 4, e2 3, e2 2, e2 1, e2 0, z2]
theorem lbc_crd (w : Int64) : lbc w = ((crd (fun k => gb w k) 64 : Nat) : Int) := by
  have e0 := (lbc_pop w).2
  have ec : crd (fun k => gb w k) 64 = sB pop8 8 (nW w) := (crd_off (S' := fun k => (nW w).testBit k) 64 (fun j _ => rfl)).trans (crd_bytes 8 (nW w))
  have h8 : ∀ v, nW (lb4 8 v) = (nW v + nW v / 2 ^ 8) % 18446744073709551616 := fun v => nW_lb4 v (by decide +kernel)
  have h16 : ∀ v, nW (lb4 16 v) = (nW v + nW v / 2 ^ 16) % 18446744073709551616 := fun v => nW_lb4 v (by decide +kernel)
  have h32 : ∀ v, nW (lb4 32 v) = (nW v + nW v / 2 ^ 32) % 18446744073709551616 := fun v => nW_lb4 v (by decide +kernel)
  have hp : ∀ y : Nat, pop8 (y % 256) ≤ 8 := fun y => (bp_all (y % 256) (Nat.mod_lt _ (by omega))).2.2.2.2
  unfold lbc
  rw [show (127 : Int) = 2 ^ 7 - 1 by decide, yand_mask _ 7 (by omega), show (2 : Int) ^ 7 = 128 by decide, nW_low, ec, h32, h16, h8, e0, pop_fn hp]
