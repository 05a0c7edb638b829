/-! bits -/
theorem nW_lb4 (w : Int64) {k : Int} {s : Nat} (hs : ((iI k).toInt64.toUInt64 &&& Int64.toUInt64 63).toNat % 64 = s) : nW (lb4 k w) = (nW w + nW w / 2 ^ s) % 18446744073709551616 := by
  unfold lb4
  rw [nW_add, nW_lsr hs]
theorem nW_low (v : Int64) : v.toInt32.toInt % 128 = ((nW v % 128 : Nat) : Int) := by
  rw [Int64.toInt_toInt32]
  have h1 := Int.bmod_emod (x := v.toInt) (m := 2 ^ 32)
  have h2 : v.toInt = if 2 * v.toBitVec.toNat < 2 ^ 64 then (v.toBitVec.toNat : Int) else (v.toBitVec.toNat : Int) - (2 ^ 64 : Nat) := BitVec.toInt_eq_toNat_cond v.toBitVec
  have e1 : ((2 ^ 32 : Nat) : Int) = 4294967296 := by decide +kernel
  have e2 : ((2 ^ 64 : Nat) : Int) = 18446744073709551616 := by decide +kernel
  rw [e1] at h1
  rw [e2] at h2
  have h3 := nW_lt v
  unfold nW at h3 ⊢
  generalize v.toBitVec.toNat = N at *
  generalize v.toInt = z at *
  generalize Int.bmod z (2 ^ 32) = y at *
  split at h2 <;> omega
