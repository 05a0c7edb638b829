/-! sets of numbers below 128, in two longs -/
def gb (w : Int64) (k : Nat) : Bool := w.toBitVec.getLsbD k
theorem gb_or (a b : Int64) (k : Nat) : gb (a ||| b) k = (gb a k || gb b k) := by simp [gb]
theorem gb_and (a b : Int64) (k : Nat) : gb (a &&& b) k = (gb a k && gb b k) := by simp [gb]
theorem gb_xor (a b : Int64) (k : Nat) : gb (a ^^^ b) k = (gb a k ^^ gb b k) := by simp [gb]
theorem gb_ext {a b : Int64} (h : ∀ k, k < 64 → gb a k = gb b k) : a = b := by
  apply Int64.toBitVec_inj.mp
  apply BitVec.eq_of_getLsbD_eq
  intro i hi
  exact h i hi
theorem gb_0 (k : Nat) : gb (Int64.ofNat 0) k = false := by
  show (0#64).getLsbD k = false
  simp
theorem gb_m1 : ∀ k : Nat, k < 64 → gb (-1) k = true := by decide +kernel
theorem gb_one : ∀ k : Nat, k < 64 → (Int64.ofNat 1 <<< ((iI (k : Int)).toInt64 &&& 63)).toBitVec = BitVec.twoPow 64 k := by decide +kernel
theorem gb_sh : ∀ k : Nat, k < 64 → (((iI (k : Int)).toInt64 &&& 63).toBitVec.smod 64).toNat = k := by decide +kernel
theorem gb_bit {k : Nat} (hk : k < 64) (j : Nat) : gb (Int64.ofNat 1 <<< ((iI (k : Int)).toInt64 &&& 63)) j = decide (j = k) := by
  unfold gb
  rw [gb_one k hk, BitVec.getLsbD_twoPow]
  by_cases c : j = k
  · subst c; simp [hk]
  · have : k ≠ j := fun q => c q.symm
    simp [c, this]
theorem gb_bitF {k : Nat} (hk : k < 64) (j : Nat) : gb (Int64.ofNat ((1 : Fin 2) : Nat) <<< ((iI (k : Int)).toInt64 &&& 63)) j = decide (j = k) := gb_bit hk j
theorem gb_shr {k : Nat} (hk : k < 64) (w : Int64) : ((w >>> ((iI (k : Int)).toInt64 &&& 63)) &&& Int64.ofNat 1 = Int64.ofNat 0) ↔ gb w k = false := by
  have e : gb (w >>> ((iI (k : Int)).toInt64 &&& 63)) 0 = gb w k := by
    unfold gb
    rw [Int64.toBitVec_shiftRight]
    simp only [BitVec.sshiftRight', gb_sh k hk, BitVec.getLsbD_sshiftRight]
    simp [hk]
  have e1 : ∀ j, gb (Int64.ofNat 1) j = decide (j = 0) := by
    intro j
    have := gb_bit (k := 0) (by omega) j
    exact this
  constructor
  · intro q
    have := congrArg (fun z => gb z 0) q
    simp only [gb_and, e, e1, gb_0] at this
    simpa using this
  · intro q
    apply gb_ext
    intro j hj
    rw [gb_and, e1, gb_0]
    by_cases c : j = 0
    · subst c; rw [e, q]; rfl
    · simp [c]
theorem lg_cmp0 (x : Int64) : (lg_cmp x (Int64.ofNat 0)).toInt = 0 ↔ x = Int64.ofNat 0 := by
  unfold lg_cmp
  split
  · rename_i q
    constructor
    · intro z; exact absurd z (by decide)
    · intro z; subst z; exact absurd q (by decide)
  · split
    · rename_i q
      exact ⟨fun _ => q, fun _ => rfl⟩
    · rename_i q1 q2
      exact ⟨fun z => absurd z (by decide), fun z => absurd z q2⟩
def NB (lo hi : Int64) (S : Nat → Bool) : Prop := ∀ k, k < 64 → gb lo k = S k ∧ gb hi k = S (64 + k)
def NA (h : yH) (a : Nat) (S : Nat → Bool) : Prop := ∃ lo hi, h a = some (ob 0 [vl lo, vl hi]) ∧ NB lo hi S
def NU (h h' : yH) (a : Nat) (S : Nat → Bool) : Prop := ∃ lo hi, h' = yup h a (ob 0 [vl lo, vl hi]) ∧ NB lo hi S
theorem gb_z {w : Int64} : w = Int64.ofNat 0 ↔ ∀ k, k < 64 → gb w k = false := ⟨fun e k _ => by rw [e]; exact gb_0 k, fun q => gb_ext (fun k hk => by rw [q k hk, gb_0])⟩
theorem nat_of {v : Int} {m : Nat} (h1 : 0 ≤ v) (h2 : v < m) : ∃ k : Nat, k < m ∧ v = (k : Int) := ⟨v.toNat, by omega, by omega⟩
section C2
variable {l : Launch} {G : xG} {h : yH} {n : Nat}
theorem c_Nclear {a : Nat} {S : Nat → Bool} (ha : NA h a S) : YM l G mX0_clear 0 0 0 [vr a] h n (fun r h' n' => r = none ∧ NU h h' a (fun _ => false) ∧ n' = n) := by
  obtain ⟨lo, hi, ha, hb⟩ := ha
  refine YM.of kX0_clear (Nat.le_of_ble_eq_true rfl) (L0 := [some (vr a)]) rfl ?_
  refine y_run kX0_clear rfl ?_
  refine y_put kX0_clear rfl rfl ha rfl rfl rfl ?_
  refine y_run kX0_clear rfl ?_
  refine y_put kX0_clear rfl rfl (yup_eq _ _ _) rfl rfl rfl ?_
  exact y_vr kX0_clear rfl rfl ⟨rfl, ⟨_, _, yup_yup _ _ _ _, fun k hk => ⟨gb_0 k, gb_0 k⟩⟩, rfl⟩
theorem c_NcopyFrom {a b : Nat} {S S2 : Nat → Bool} (ha : NA h a S) (hb : NA h b S2) (hab : b ≠ a) : YM l G mX0_copyFrom 0 0 0 [vr a, vr b] h n (fun r h' n' => r = none ∧ NU h h' a S2 ∧ n' = n) := by
  obtain ⟨lo, hi, ha, -⟩ := ha
  obtain ⟨lo2, hi2, hb, hb2⟩ := hb
  refine YM.of kX0_copyFrom (Nat.le_of_ble_eq_true rfl) (L0 := [some (vr a), some (vr b)]) rfl ?_
  refine y_run kX0_copyFrom rfl ?_
  refine y_get kX0_copyFrom rfl rfl hb rfl ?_
  refine y_put kX0_copyFrom rfl rfl ha rfl rfl rfl ?_
  refine y_run kX0_copyFrom rfl ?_
  refine y_get kX0_copyFrom rfl rfl ((yup_ne _ _ hab).trans hb) rfl ?_
  refine y_put kX0_copyFrom rfl rfl (yup_eq _ _ _) rfl rfl rfl ?_
  exact y_vr kX0_copyFrom rfl rfl ⟨rfl, ⟨_, _, yup_yup _ _ _ _, hb2⟩, rfl⟩
theorem c_Nadd {a : Nat} {S : Nat → Bool} {v : Int} (ha : NA h a S) (h1 : 0 ≤ v) (h2 : v < 128) : YM l G mX0_add 0 0 0 [vr a, vi v] h n (fun r h' n' => r = none ∧ NU h h' a (fun j => S j || decide (j = v.toNat)) ∧ n' = n) := by
  obtain ⟨lo, hi, ha, hb⟩ := ha
  refine YM.of kX0_add (Nat.le_of_ble_eq_true rfl) (L0 := [some (vr a), some (vi v)]) rfl ?_
  refine y_run kX0_add rfl ?_
  refine y_ic_ge kX0_add rfl rfl (fun c1 => ?_) (fun c1 => ?_)
  · refine y_run kX0_add rfl ?_
    refine y_get kX0_add rfl rfl ha rfl ?_
    refine y_run kX0_add rfl ?_
    refine y_put kX0_add rfl rfl ha rfl rfl rfl ?_
    obtain ⟨k, hk, e⟩ := nat_of (v := v - 64) (m := 64) (by omega) (by omega)
    refine y_vr kX0_add rfl rfl ⟨rfl, ⟨_, _, rfl, fun j hj => ⟨?_, ?_⟩⟩, rfl⟩
    · show gb lo j = (S j || decide (j = v.toNat))
      rw [(hb j hj).1, show decide (j = v.toNat) = false from decide_eq_false (by omega), Bool.or_false]
    · rw [e]
      dsimp only
      rw [gb_or, gb_bitF hk, (hb j hj).2]
      rw [show decide (64 + j = v.toNat) = decide (j = k) from decide_eq_decide.mpr (by omega)]
  · refine y_run kX0_add rfl ?_
    refine y_get kX0_add rfl rfl ha rfl ?_
    refine y_run kX0_add rfl ?_
    refine y_put kX0_add rfl rfl ha rfl rfl rfl ?_
    refine y_run kX0_add rfl ?_
    obtain ⟨k, hk, e⟩ := nat_of (v := v) (m := 64) (by omega) (by omega)
    refine y_vr kX0_add rfl rfl ⟨rfl, ⟨_, _, rfl, fun j hj => ⟨?_, ?_⟩⟩, rfl⟩
    · rw [e]
      dsimp only
      rw [gb_or, gb_bitF hk, (hb j hj).1]
      rfl
    · show gb hi j = (S (64 + j) || decide (64 + j = v.toNat))
      rw [(hb j hj).2, show decide (64 + j = v.toNat) = false from decide_eq_false (by omega), Bool.or_false]
theorem c_Nremove {a : Nat} {S : Nat → Bool} {v : Int} (ha : NA h a S) (h1 : 0 ≤ v) (h2 : v < 128) : YM l G mX0_remove 0 0 0 [vr a, vi v] h n (fun r h' n' => r = none ∧ NU h h' a (fun j => S j && !decide (j = v.toNat)) ∧ n' = n) := by
  obtain ⟨lo, hi, ha, hb⟩ := ha
  refine YM.of kX0_remove (Nat.le_of_ble_eq_true rfl) (L0 := [some (vr a), some (vi v)]) rfl ?_
  refine y_run kX0_remove rfl ?_
  refine y_ic_ge kX0_remove rfl rfl (fun c1 => ?_) (fun c1 => ?_)
  · refine y_run kX0_remove rfl ?_
    refine y_get kX0_remove rfl rfl ha rfl ?_
    refine y_run kX0_remove rfl ?_
    refine y_ldc2 (v := -1) kX0_remove rfl (by decide +kernel) ?_
    refine y_run kX0_remove rfl ?_
    refine y_put kX0_remove rfl rfl ha rfl rfl rfl ?_
    obtain ⟨k, hk, e⟩ := nat_of (v := v - 64) (m := 64) (by omega) (by omega)
    refine y_vr kX0_remove rfl rfl ⟨rfl, ⟨_, _, rfl, fun j hj => ⟨?_, ?_⟩⟩, rfl⟩
    · show gb lo j = (S j && !decide (j = v.toNat))
      rw [(hb j hj).1, show decide (j = v.toNat) = false from decide_eq_false (by omega)]; simp
    · rw [e]
      dsimp only
      rw [gb_and, gb_xor, gb_bitF hk, gb_m1 j hj, (hb j hj).2, show decide (64 + j = v.toNat) = decide (j = k) from decide_eq_decide.mpr (by omega)]; simp
  · refine y_run kX0_remove rfl ?_
    refine y_get kX0_remove rfl rfl ha rfl ?_
    refine y_run kX0_remove rfl ?_
    refine y_ldc2 (v := -1) kX0_remove rfl (by decide +kernel) ?_
    refine y_run kX0_remove rfl ?_
    refine y_put kX0_remove rfl rfl ha rfl rfl rfl ?_
    refine y_run kX0_remove rfl ?_
    obtain ⟨k, hk, e⟩ := nat_of (v := v) (m := 64) (by omega) (by omega)
    refine y_vr kX0_remove rfl rfl ⟨rfl, ⟨_, _, rfl, fun j hj => ⟨?_, ?_⟩⟩, rfl⟩
    · rw [e]
      dsimp only
      rw [gb_and, gb_xor, gb_bitF hk, gb_m1 j hj, (hb j hj).1, show decide (j = (k : Int).toNat) = decide (j = k) from decide_eq_decide.mpr (by omega)]; simp
    · show gb hi j = (S (64 + j) && !decide (64 + j = v.toNat))
      rw [(hb j hj).2, show decide (64 + j = v.toNat) = false from decide_eq_false (by omega)]; simp
theorem c_Nhas {a : Nat} {S : Nat → Bool} {v : Int} (ha : NA h a S) (h1 : 0 ≤ v) (h2 : v < 128) : YM l G mX0_has 0 0 0 [vr a, vi v] h n (fun r h' n' => r = some (vi (if S v.toNat then 1 else 0)) ∧ h' = h ∧ n' = n) := by
  obtain ⟨lo, hi, ha, hb⟩ := ha
  refine YM.of kX0_has (Nat.le_of_ble_eq_true rfl) (L0 := [some (vr a), some (vi v)]) rfl ?_
  refine y_run kX0_has rfl ?_
  refine y_ic_ge kX0_has rfl rfl (fun c1 => ?_) (fun c1 => ?_)
  · refine y_run kX0_has rfl ?_
    refine y_get kX0_has rfl rfl ha rfl ?_
    refine y_run kX0_has rfl ?_
    obtain ⟨k, hk, e⟩ := nat_of (v := v - 64) (m := 64) (by omega) (by omega)
    have hS : S v.toNat = gb hi k := by rw [(hb k hk).2]; congr 1; omega
    rw [e, hS]
    refine y_if_eq kX0_has rfl rfl (fun c2 => ?_) (fun c2 => ?_) (iI_rng _).1 (iI_rng _).2
    · refine y_run kX0_has rfl ?_
      exact y_zr kX0_has rfl rfl (Or.inl rfl) ⟨by rw [(gb_shr hk hi).mp ((lg_cmp0 _).mp c2)]; rfl, rfl, rfl⟩
    · refine y_run kX0_has rfl ?_
      refine y_zr kX0_has rfl rfl (Or.inr rfl) ⟨?_, rfl, rfl⟩
      cases q : gb hi k with
      | false => exact absurd ((lg_cmp0 _).mpr ((gb_shr hk hi).mpr q)) c2
      | true => rfl
  · refine y_run kX0_has rfl ?_
    refine y_get kX0_has rfl rfl ha rfl ?_
    refine y_run kX0_has rfl ?_
    obtain ⟨k, hk, e⟩ := nat_of (v := v) (m := 64) (by omega) (by omega)
    have hS : S v.toNat = gb lo k := by rw [(hb k hk).1]; congr 1; omega
    rw [hS]
    rw [e]
    refine y_if_eq kX0_has rfl rfl (fun c2 => ?_) (fun c2 => ?_) (iI_rng _).1 (iI_rng _).2
    · refine y_run kX0_has rfl ?_
      exact y_zr kX0_has rfl rfl (Or.inl rfl) ⟨by rw [(gb_shr hk lo).mp ((lg_cmp0 _).mp c2)]; rfl, rfl, rfl⟩
    · refine y_run kX0_has rfl ?_
      refine y_zr kX0_has rfl rfl (Or.inr rfl) ⟨?_, rfl, rfl⟩
      cases q : gb lo k with
      | false => exact absurd ((lg_cmp0 _).mpr ((gb_shr hk lo).mpr q)) c2
      | true => rfl
end C2
