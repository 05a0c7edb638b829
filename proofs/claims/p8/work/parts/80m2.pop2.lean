/-! how many bits are set: the words -/
def nW (w : Int64) : Nat := w.toBitVec.toNat
theorem nW_lt (w : Int64) : nW w < 18446744073709551616 := w.toBitVec.isLt
theorem nW_and (x y : Int64) : nW (x &&& y) = nW x &&& nW y := BitVec.toNat_and _ _
theorem p64 : (2 : Nat) ^ 64 = 18446744073709551616 := by decide +kernel
theorem nW_add (x y : Int64) : nW (x + y) = (nW x + nW y) % 18446744073709551616 := by
  have h := BitVec.toNat_add x.toBitVec y.toBitVec
  rw [p64] at h
  exact h
theorem nW_sub {x y : Int64} (h : nW y ≤ nW x) : nW (x - y) = nW x - nW y := by
  have e : nW (x - y) = (18446744073709551616 - nW y + nW x) % 18446744073709551616 := by
    have h := BitVec.toNat_sub x.toBitVec y.toBitVec
    rw [p64] at h
    exact h
  have := nW_lt x
  have := nW_lt y
  omega
theorem nW_lsr {x : Int64} {k : Int} {s : Nat} (hs : ((iI k).toInt64.toUInt64 &&& Int64.toUInt64 63).toNat % 64 = s) : nW (lsr x k) = nW x / 2 ^ s := by
  show (x.toUInt64 >>> ((iI k).toInt64.toUInt64 &&& Int64.toUInt64 63)).toNat = _
  rw [UInt64.toNat_shiftRight, hs, Nat.shiftRight_eq_div_pow]
  rfl
