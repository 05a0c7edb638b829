/-! bits -/
theorem lbc_pop (w : Int64) : lb3 (lb2 (lb1 w)) = lb3 (lb2 (lb1 w)) ∧ nW (lb3 (lb2 (lb1 w))) = apB pop8 8 (nW w) := by
  refine ⟨rfl, ?_⟩
  have hX := nW_lt w
  have hb : (256 : Nat) ^ 8 = 18446744073709551616 := by decide +kernel
  have h1 : ∀ v, nW (lsr v 1) = nW v / 2 := fun v => nW_lsr (k := 1) (s := 1) (by decide +kernel)
  have h2 : ∀ v, nW (lsr v 2) = nW v / 4 := fun v => nW_lsr (k := 2) (s := 2) (by decide +kernel)
  have h4 : ∀ v, nW (lsr v 4) = nW v / 16 := fun v => nW_lsr (k := 4) (s := 4) (by decide +kernel)
  have e1 : nW (lb1 w) = apB bp2 8 (nW w) := by
    have a1 : nW (lsr w 1 &&& 6148914691236517205) = apB bp1 8 (nW w) := by
      rw [nW_and, h1, show nW 6148914691236517205 = mkB 85 8 by decide +kernel, st1]
    obtain ⟨b1, b2⟩ := apB_sub bp1 (fun b hb => (bp_all b hb).1) 8 (nW w) (by rw [hb]; exact hX)
    unfold lb1
    rw [nW_sub (by rw [a1]; exact b1), a1, b2]
    exact apB_cg (fun _ => rfl) 8 (nW w)
  have q2 : ∀ b, b < 256 → bp2 b < 256 := fun b hb => by unfold bp2; omega
  have e2 : nW (lb2 (lb1 w)) = apB (fun b => bp3 (bp2 b)) 8 (nW w) := by
    have a1 : nW (lb1 w &&& 3689348814741910323) = apB (fun b => b &&& 51) 8 (nW (lb1 w)) := by
      rw [nW_and, show nW 3689348814741910323 = mkB 51 8 by decide +kernel, st3]
    have a2 : nW (lsr (lb1 w) 2 &&& 3689348814741910323) = apB (fun b => (b / 4) &&& 51) 8 (nW (lb1 w)) := by
      rw [nW_and, h2, show nW 3689348814741910323 = mkB 51 8 by decide +kernel, st2]
    unfold lb2
    rw [nW_add, a1, a2, apB_add, e1]
    have := apB_b (f := bp3) (fun b hb => (bp_all b hb).2.1) 8 (apB bp2 8 (nW w))
    rw [hb] at this
    have a3 : apB (fun b => (b &&& 51) + ((b / 4) &&& 51)) 8 (apB bp2 8 (nW w)) = apB bp3 8 (apB bp2 8 (nW w)) := apB_cg (fun _ => rfl) 8 _
    rw [a3, Nat.mod_eq_of_lt this, apB_comp q2]
  have q3 : ∀ b, b < 256 → bp3 (bp2 b) < 128 ∧ bp3 (bp2 b) % 16 ≤ 4 := fun b hb => ⟨(bp_all b hb).2.2.1, (bp_all b hb).2.2.2.1⟩
  unfold lb3
  rw [nW_and, nW_add, h4, show nW 1085102592571150095 = mkB 15 8 by decide +kernel, e2]
  have hz : ∀ z : Nat, 2 * z + 1 ≤ 18446744073709551616 → z + z / 16 < 18446744073709551616 := fun z h => by omega
  have l2 := apB_b2 q3 8 (nW w)
  rw [hb] at l2
  rw [Nat.mod_eq_of_lt (hz _ l2), st4 q3]
  exact apB_cg (fun _ => rfl) 8 (nW w)
