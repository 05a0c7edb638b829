section C70
variable {l : Launch} {G : xG} {M : xM} {d kc ks mc ms : Nat} {Φ Ψ : Option xV → yH → Nat → Prop} {h : yH} {n : Nat} {pc : Nat} {L : List (Option xV)} {st av : List xV}
theorem YM.imp (hX : YM l G M d mc ms av h n Φ) (hi : ∀ r h' n', Φ r h' n' → Ψ r h' n') : YM l G M d mc ms av h n Ψ := by
  intro p e h1 h2 h3 s m args below h4 h5 h6 h7
  obtain ⟨k, o, a1, a2, a3, a4, a5⟩ := hX p e h1 h2 h3 s m args below h4 h5 h6 h7
  refine ⟨k, o, a1, a2, a3, ?_, a5⟩
  obtain ⟨v, h', n', q1, ⟨u, g, e1, e2, hu⟩, q3⟩ := a4
  exact ⟨v, h', n', q1, ⟨u, g, e1, e2, hi _ _ _ hu⟩, q3⟩
theorem y_ldcw (hM : xOK M) {idx : Nat} {z : Int} (hd : xat M pc = some (.ldc_w idx, 3)) (hl : xmem (.constant M.1.cls idx (iI z)) = true) (k : YW l G M d kc ks Φ (pc + 3) L (vi z :: st) h n) : YW l G M d kc ks Φ pc L st h n := by
  intro p e R s m args below meth c H locs cells slots ls A hC hR hS hI hA h1 h2 h3 h4 hL
  exact lv_ldcw hC.1 hC.2.1 hC.2.2.2.1 (hC.2.2.2.2.1 _ (xmem_of hl)) (hM.dec hd) (k p e R s m args below meth c H locs cells slots ls A hC hR hS hI hA h1 h2 h3 h4 hL)
end C70
def lsr (x : Int64) (k : Int) : Int64 := (x.toUInt64 >>> ((iI k).toInt64.toUInt64 &&& Int64.toUInt64 63)).toInt64
def lb1 (w : Int64) : Int64 := w - (lsr w 1 &&& 6148914691236517205)
def lb2 (w : Int64) : Int64 := (w &&& 3689348814741910323) + (lsr w 2 &&& 3689348814741910323)
def lb3 (w : Int64) : Int64 := (w + lsr w 4) &&& 1085102592571150095
def lb4 (k : Int) (w : Int64) : Int64 := w + lsr w k
def lbc (w : Int64) : Int := yand (lb4 32 (lb4 16 (lb4 8 (lb3 (lb2 (lb1 w)))))).toInt32.toInt 127
theorem lbc_pow : ∀ m : Nat, m < 64 → lbc (Int64.ofNat (2 ^ m - 1)) = (m : Int) := by decide +kernel
theorem lbc_b (w : Int64) : 0 ≤ lbc w ∧ lbc w ≤ 127 := by
  unfold lbc
  rw [show (127 : Int) = 2 ^ 7 - 1 by decide, yand_mask _ 7 (by omega)]
  omega
def ib4 (k w : Int) : Int := w + yushr w k
def ibc (w : Int) : Int := yand (ib4 16 (ib4 8 (yand (ib4 4 ((fun a => yand a 858993459 + yand (yushr a 2) 858993459) (w - yand (yushr w 1) 1431655765))) 252645135))) 63
theorem ibc_b (w : Int) : 0 ≤ ibc w ∧ ibc w ≤ 63 := by
  unfold ibc
  rw [show (63 : Int) = 2 ^ 6 - 1 by decide, yand_mask _ 6 (by omega)]
  omega
section C71
variable {l : Launch} {G : xG} {h : yH} {n : Nat}
theorem c_Lbit (w : Int64) : YM l G mJ13_bitCount_95d88 0 0 0 [vl w] h n (fun r h' n' => r = some (vi (lbc w)) ∧ h' = h ∧ n' = n) := by
  refine YM.of kJ13_bitCount_95d88 (Nat.le_of_ble_eq_true rfl) (L0 := [some (vl w), none]) rfl ?_
  refine y_run kJ13_bitCount_95d88 rfl ?_
  refine y_ldc2 (v := 6148914691236517205) kJ13_bitCount_95d88 rfl (by decide +kernel) ?_
  refine y_run kJ13_bitCount_95d88 rfl ?_
  refine y_ldc2 (v := 3689348814741910323) kJ13_bitCount_95d88 rfl (by decide +kernel) ?_
  refine y_run kJ13_bitCount_95d88 rfl ?_
  refine y_ldc2 (v := 3689348814741910323) kJ13_bitCount_95d88 rfl (by decide +kernel) ?_
  refine y_run kJ13_bitCount_95d88 rfl ?_
  refine y_ldc2 (v := 1085102592571150095) kJ13_bitCount_95d88 rfl (by decide +kernel) ?_
  refine y_run kJ13_bitCount_95d88 rfl ?_
  exact y_ir kJ13_bitCount_95d88 rfl rfl ⟨rfl, rfl, rfl⟩
theorem c_Ibit (w : Int) : YM l G mJ6_bitCount_0f7a4 0 0 0 [vi w] h n (fun r h' n' => r = some (vi (ibc w)) ∧ h' = h ∧ n' = n) := by
  refine YM.of kJ6_bitCount_0f7a4 (Nat.le_of_ble_eq_true rfl) (L0 := [some (vi w)]) rfl ?_
  refine y_run kJ6_bitCount_0f7a4 rfl ?_
  refine y_ldcw (z := 1431655765) kJ6_bitCount_0f7a4 rfl (by decide +kernel) ?_
  refine y_run kJ6_bitCount_0f7a4 rfl ?_
  refine y_ldcw (z := 858993459) kJ6_bitCount_0f7a4 rfl (by decide +kernel) ?_
  refine y_run kJ6_bitCount_0f7a4 rfl ?_
  refine y_ldcw (z := 858993459) kJ6_bitCount_0f7a4 rfl (by decide +kernel) ?_
  refine y_run kJ6_bitCount_0f7a4 rfl ?_
  refine y_ldcw (z := 252645135) kJ6_bitCount_0f7a4 rfl (by decide +kernel) ?_
  refine y_run kJ6_bitCount_0f7a4 rfl ?_
  exact y_ir kJ6_bitCount_0f7a4 rfl rfl ⟨rfl, rfl, rfl⟩
end C71
/-- the lowest bit that is set -/
theorem low_bit {w : Int64} (hw : w ≠ Int64.ofNat 0) : ∃ m : Nat, m < 64 ∧ gb w m = true ∧ (∀ j, j < m → gb w j = false) ∧ (w &&& -w) - Int64.ofNat 1 = Int64.ofNat (2 ^ m - 1) := by
  have hex : ∃ m : Nat, m < 64 ∧ gb w m = true ∧ ∀ j, j < m → gb w j = false := by
    have h1 : ∃ k, k < 64 ∧ gb w k = true := by
      rcases Classical.em (∃ k, k < 64 ∧ gb w k = true) with q | q
      · exact q
      · refine absurd (gb_z.mpr (fun k hk => ?_)) hw
        cases e : gb w k with
        | false => rfl
        | true => exact absurd ⟨k, hk, e⟩ q
    obtain ⟨k, hk, e⟩ := h1
    have : ∀ f k : Nat, k < f → k < 64 → gb w k = true → ∃ m : Nat, m < 64 ∧ gb w m = true ∧ ∀ j, j < m → gb w j = false := by
      intro f
      induction f with
      | zero => intro k h; omega
      | succ f ih =>
        intro k hf hk e
        by_cases c : ∃ j, j < k ∧ gb w j = true
        · obtain ⟨j, j1, j2⟩ := c
          exact ih j (by omega) (by omega) j2
        · refine ⟨k, hk, e, fun j hj => ?_⟩
          cases e2 : gb w j with
          | false => rfl
          | true => exact absurd ⟨j, hj, e2⟩ c
    exact this (k + 1) k (by omega) hk e
  obtain ⟨m, hm, e, hl⟩ := hex
  refine ⟨m, hm, e, hl, ?_⟩
  have h2 : w &&& -w = Int64.ofBitVec (BitVec.twoPow 64 m) := by
    apply Int64.toBitVec.inj
    rw [Int64.toBitVec_and, Int64.toBitVec_neg]
    apply BitVec.eq_of_getLsbD_eq
    intro i hi
    rw [BitVec.getLsbD_and, BitVec.getLsbD_neg]
    show _ = (BitVec.twoPow 64 m).getLsbD i
    rw [BitVec.getLsbD_twoPow]
    by_cases c : i < m
    · have := hl i c
      unfold gb at this
      rw [this]
      have : m ≠ i := by omega
      simp [this]
    · by_cases c2 : i = m
      · subst c2
        have hn : ¬ ∃ j, j < i ∧ w.toBitVec.getLsbD j = true := fun ⟨j, j1, j2⟩ => by
          have := hl j j1
          unfold gb at this
          rw [this] at j2
          cases j2
        unfold gb at e
        simp [e, hm, hn]
      · have hy : ∃ j, j < i ∧ w.toBitVec.getLsbD j = true := ⟨m, by omega, e⟩
        have : m ≠ i := by omega
        simp [hi, hy, this]
  rw [h2]
  have : ∀ m : Nat, m < 64 → Int64.ofBitVec (BitVec.twoPow 64 m) - Int64.ofNat 1 = Int64.ofNat (2 ^ m - 1) := by decide +kernel
  exact this m hm
section C72
variable {l : Launch} {G : xG} {h : yH} {n : Nat}
theorem c_Nsize {a : Nat} {lo hi : Int64} (ha : h a = some (ob 0 [vl lo, vl hi])) : YM l G mX0_size 1 0 0 [vr a] h n (fun r h' n' => r = some (vi (lbc lo + lbc hi)) ∧ h' = h ∧ n' = n) := by
  refine YM.of kX0_size (Nat.le_of_ble_eq_true rfl) (L0 := [some (vr a)]) rfl ?_
  refine y_run kX0_size rfl ?_
  refine y_get kX0_size rfl rfl ha rfl ?_
  refine y_cs kX0_size kJ13_bitCount_95d88 1 rfl (by decide +kernel) (c_Lbit _) rfl rfl ?_
  rintro _ _ _ ⟨rfl, rfl, rfl⟩
  refine y_run kX0_size rfl ?_
  refine y_get kX0_size rfl rfl ha rfl ?_
  refine y_cs kX0_size kJ13_bitCount_95d88 1 rfl (by decide +kernel) (c_Lbit _) rfl rfl ?_
  rintro _ _ _ ⟨rfl, rfl, rfl⟩
  refine y_run kX0_size rfl ?_
  exact y_ir kX0_size rfl rfl ⟨rfl, rfl, rfl⟩
theorem c_Nlowest {a : Nat} {S : Nat → Bool} (ha : NA h a S) (hne : ¬ ∀ k, k < 128 → S k = false) : YM l G mX0_lowest 1 0 0 [vr a] h n (fun r h' n' => (∃ m : Nat, m < 128 ∧ S m = true ∧ (∀ j, j < m → S j = false) ∧ r = some (vi (m : Int))) ∧ h' = h ∧ n' = n) := by
  obtain ⟨lo, hi, ha, hb⟩ := ha
  refine YM.of kX0_lowest (Nat.le_of_ble_eq_true rfl) (L0 := [some (vr a)]) rfl ?_
  refine y_run kX0_lowest rfl ?_
  refine y_get kX0_lowest rfl rfl ha rfl ?_
  refine y_run kX0_lowest rfl ?_
  refine y_if_eq kX0_lowest rfl rfl (fun c1 => ?_) (fun c1 => ?_) (iI_rng _).1 (iI_rng _).2
  · have c2 : lo = Int64.ofNat 0 := (lg_cmp0 lo).mp c1
    have c3 : hi ≠ Int64.ofNat 0 := fun q => hne ((NB.emp hb).mp ⟨c2, q⟩)
    obtain ⟨m, hm, e1, e2, e3⟩ := low_bit c3
    refine y_run kX0_lowest rfl ?_
    refine y_get kX0_lowest rfl rfl ha rfl ?_
    refine y_run kX0_lowest rfl ?_
    refine y_get kX0_lowest rfl rfl ha rfl ?_
    refine y_run kX0_lowest rfl ?_
    refine y_cs kX0_lowest kJ13_bitCount_95d88 1 rfl (by decide +kernel) (c_Lbit _) rfl rfl ?_
    rintro _ _ _ ⟨rfl, rfl, rfl⟩
    refine y_run kX0_lowest rfl ?_
    refine y_ir kX0_lowest rfl rfl ⟨⟨64 + m, by omega, ?_, fun j hj => ?_, ?_⟩, rfl, rfl⟩
    · rw [← (hb m hm).2]; exact e1
    · by_cases c : j < 64
      · rw [← (hb j c).1]; exact gb_z.mp c2 j c
      · have := (hb (j - 64) (by omega)).2
        rw [show 64 + (j - 64) = j by omega] at this
        rw [← this]
        exact e2 _ (by omega)
    · show some (vi (64 + lbc ((hi &&& -hi) - Int64.ofNat 1))) = _
      rw [e3, lbc_pow m hm]
      rfl
  · have c2 : lo ≠ Int64.ofNat 0 := fun q => c1 ((lg_cmp0 lo).mpr q)
    obtain ⟨m, hm, e1, e2, e3⟩ := low_bit c2
    refine y_run kX0_lowest rfl ?_
    refine y_get kX0_lowest rfl rfl ha rfl ?_
    refine y_run kX0_lowest rfl ?_
    refine y_get kX0_lowest rfl rfl ha rfl ?_
    refine y_run kX0_lowest rfl ?_
    refine y_cs kX0_lowest kJ13_bitCount_95d88 1 rfl (by decide +kernel) (c_Lbit _) rfl rfl ?_
    rintro _ _ _ ⟨rfl, rfl, rfl⟩
    refine y_run kX0_lowest rfl ?_
    refine y_ir kX0_lowest rfl rfl ⟨⟨m, by omega, ?_, fun j hj => ?_, ?_⟩, rfl, rfl⟩
    · rw [← (hb m hm).1]; exact e1
    · rw [← (hb j (by omega)).1]; exact e2 j hj
    · show some (vi (lbc ((lo &&& -lo) - Int64.ofNat 1))) = _
      rw [e3, lbc_pow m hm]
end C72
