/-! bits -/
theorem pf_d (a r : Nat) (h : a ≤ 8) : (a + 256 * r) / 256 = r := by omega
theorem pf_1 (a0 a1 a2 y3 : Nat) (h0 : a0 ≤ 8) (h1 : a1 ≤ 8) (h2 : a2 ≤ 8) : (a0 + 256 * (a1 + 256 * (a2 + 256 * y3)) + (a1 + 256 * (a2 + 256 * y3))) / 65536 = a2 + 256 * y3 + y3 := by
  have e : a0 + 256 * (a1 + 256 * (a2 + 256 * y3)) + (a1 + 256 * (a2 + 256 * y3)) = (a0 + a1 + 256 * (a1 + a2)) + 65536 * (a2 + 256 * y3 + y3) := by omega
  have l : a0 + a1 + 256 * (a1 + a2) < 65536 := by omega
  rw [e, Nat.add_mul_div_left _ _ (by decide), Nat.div_eq_of_lt l, Nat.zero_add]
theorem pf_2 (L M : Nat) (h : L < 4294967296) : (L + 4294967296 * M) / 4294967296 = M := by rw [Nat.add_mul_div_left _ _ (by decide), Nat.div_eq_of_lt h, Nat.zero_add]
theorem pf_3 (A q : Nat) (h : A ≤ 64) : (A + 256 * q) % 128 = A := by omega
theorem pf_b {a r R : Nat} (h : a ≤ 8) (hr : r ≤ R) : a + 256 * r ≤ 8 + 256 * R := by omega
theorem pf_q3 (a0 a1 a2 a3 a4 a5 a6 Y4 Y5 Y6 Y7 : Nat) (e4 : Y4 = a4 + 256 * Y5) (e5 : Y5 = a5 + 256 * Y6) (e6 : Y6 = a6 + 256 * Y7) : (a0 + 256 * (a1 + 256 * (a2 + 256 * (a3 + 256 * Y4)))) + (a1 + 256 * (a2 + 256 * (a3 + 256 * Y4))) + ((a2 + 256 * (a3 + 256 * Y4)) + (a3 + 256 * Y4)) = ((a0 + 256 * (a1 + 256 * (a2 + 256 * a3))) + (a1 + 256 * (a2 + 256 * (a3 + 256 * a4))) + (a2 + 256 * (a3 + 256 * (a4 + 256 * a5))) + (a3 + 256 * (a4 + 256 * (a5 + 256 * a6)))) + 4294967296 * (Y4 + Y5 + Y6 + Y7) := by
  subst e6
  subst e5
  subst e4
  omega
theorem pf_l3 {a0 a1 a2 a3 a4 a5 a6 : Nat} (h0 : a0 ≤ 8) (h1 : a1 ≤ 8) (h2 : a2 ≤ 8) (h3 : a3 ≤ 8) (h4 : a4 ≤ 8) (h5 : a5 ≤ 8) (h6 : a6 ≤ 8) : (a0 + 256 * (a1 + 256 * (a2 + 256 * a3))) + (a1 + 256 * (a2 + 256 * (a3 + 256 * a4))) + (a2 + 256 * (a3 + 256 * (a4 + 256 * a5))) + (a3 + 256 * (a4 + 256 * (a5 + 256 * a6))) < 4294967296 := by omega
theorem pop_fin {a0 a1 a2 a3 a4 a5 a6 a7 Y0 Y1 Y2 Y3 Y4 Y5 Y6 Y7 : Nat} (h0 : a0 ≤ 8) (h1 : a1 ≤ 8) (h2 : a2 ≤ 8) (h3 : a3 ≤ 8) (h4 : a4 ≤ 8) (h5 : a5 ≤ 8) (h6 : a6 ≤ 8) (h7 : a7 ≤ 8) (e0 : Y0 = a0 + 256 * Y1) (e1 : Y1 = a1 + 256 * Y2) (e2 : Y2 = a2 + 256 * Y3) (e3 : Y3 = a3 + 256 * Y4) (e4 : Y4 = a4 + 256 * Y5) (e5 : Y5 = a5 + 256 * Y6) (e6 : Y6 = a6 + 256 * Y7) (e7 : Y7 = a7) : (((Y0 + Y0 / 2 ^ 8) % 18446744073709551616 + (Y0 + Y0 / 2 ^ 8) % 18446744073709551616 / 2 ^ 16) % 18446744073709551616 + ((Y0 + Y0 / 2 ^ 8) % 18446744073709551616 + (Y0 + Y0 / 2 ^ 8) % 18446744073709551616 / 2 ^ 16) % 18446744073709551616 / 2 ^ 32) % 18446744073709551616 % 128 = a0 + (a1 + (a2 + (a3 + (a4 + (a5 + (a6 + (a7 + 0))))))) := by
  rw [show (2 : Nat) ^ 8 = 256 from rfl, show (2 : Nat) ^ 16 = 65536 from rfl, show (2 : Nat) ^ 32 = 4294967296 from rfl]
  have b7 : Y7 ≤ 8 := by rw [e7]; exact h7
  have b6 : Y6 ≤ 8 + 256 * 8 := by rw [e6]; exact pf_b h6 b7
  have b5 : Y5 ≤ 8 + 256 * (8 + 256 * 8) := by rw [e5]; exact pf_b h5 b6
  have b4 : Y4 ≤ 8 + 256 * (8 + 256 * (8 + 256 * 8)) := by rw [e4]; exact pf_b h4 b5
  have b3 : Y3 ≤ 8 + 256 * (8 + 256 * (8 + 256 * (8 + 256 * 8))) := by rw [e3]; exact pf_b h3 b4
  have b2 : Y2 ≤ 8 + 256 * (8 + 256 * (8 + 256 * (8 + 256 * (8 + 256 * 8)))) := by rw [e2]; exact pf_b h2 b3
  have b1 : Y1 ≤ 8 + 256 * (8 + 256 * (8 + 256 * (8 + 256 * (8 + 256 * (8 + 256 * 8))))) := by rw [e1]; exact pf_b h1 b2
  have b0 : Y0 ≤ 8 + 256 * (8 + 256 * (8 + 256 * (8 + 256 * (8 + 256 * (8 + 256 * (8 + 256 * 8)))))) := by rw [e0]; exact pf_b h0 b1
  have m1 : (Y0 + Y1) % 18446744073709551616 = Y0 + Y1 := Nat.mod_eq_of_lt (Nat.lt_of_le_of_lt (Nat.add_le_add b0 b1) (by decide))
  have m2 : (Y0 + Y1 + (Y2 + Y3)) % 18446744073709551616 = Y0 + Y1 + (Y2 + Y3) := Nat.mod_eq_of_lt (Nat.lt_of_le_of_lt (Nat.add_le_add (Nat.add_le_add b0 b1) (Nat.add_le_add b2 b3)) (by decide))
  have m3 : (Y0 + Y1 + (Y2 + Y3) + (Y4 + Y5 + Y6 + Y7)) % 18446744073709551616 = Y0 + Y1 + (Y2 + Y3) + (Y4 + Y5 + Y6 + Y7) := Nat.mod_eq_of_lt (Nat.lt_of_le_of_lt (Nat.add_le_add (Nat.add_le_add (Nat.add_le_add b0 b1) (Nat.add_le_add b2 b3)) (Nat.add_le_add (Nat.add_le_add (Nat.add_le_add b4 b5) b6) b7)) (by decide))
  have s1 : Y0 / 256 = Y1 := by rw [e0]; exact pf_d a0 Y1 h0
  have s2 : (Y0 + Y1) / 65536 = Y2 + Y3 := by rw [e0, e1, e2]; exact pf_1 a0 a1 a2 Y3 h0 h1 h2
  have s3 : (Y0 + Y1 + (Y2 + Y3)) / 4294967296 = Y4 + Y5 + Y6 + Y7 := by
    rw [e0, e1, e2, e3, pf_q3 a0 a1 a2 a3 a4 a5 a6 Y4 Y5 Y6 Y7 e4 e5 e6]
    exact pf_2 _ _ (pf_l3 h0 h1 h2 h3 h4 h5 h6)
  have q4 : Y0 + Y1 + (Y2 + Y3) + (Y4 + Y5 + Y6 + Y7) = (a0 + (a1 + (a2 + (a3 + (a4 + (a5 + (a6 + (a7 + 0)))))))) + 256 * (Y1 + Y2 + Y3 + Y4 + Y5 + Y6 + Y7) := by
    clear b0 b1 b2 b3 b4 b5 b6 b7 m1 m2 m3 s1 s2 s3 h0 h1 h2 h3 h4 h5 h6 h7
    omega
  rw [s1, m1, s2, m2, s3, m3, q4]
  refine pf_3 _ _ ?_
  clear b0 b1 b2 b3 b4 b5 b6 b7 m1 m2 m3 s1 s2 s3 q4 e0 e1 e2 e3 e4 e5 e6 e7
  omega
