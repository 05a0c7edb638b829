/-! bits -/
theorem crd_split (S : Nat → Bool) (a : Nat) : ∀ m : Nat, crd S (a + m) = crd S a + crd (fun k => S (a + k)) m := by
  intro m
  induction m with
  | zero => rfl
  | succ m ih =>
    show crd S (a + m) + (if S (a + m) then 1 else 0) = crd S a + (crd (fun k => S (a + k)) m + (if S (a + m) then 1 else 0))
    rw [ih]
    omega
theorem crd_le (S : Nat → Bool) : ∀ m : Nat, crd S m ≤ m := by
  intro m
  induction m with
  | zero => exact Nat.le_refl _
  | succ m ih =>
    unfold crd
    split <;> omega
section C80o
variable {l : Launch} {G : xG} {h : yH} {n : Nat} {b : Nat} {g : yH}
variable {i0 i1 i2 i3 i4 i5 i6 : Int} {B J : Nat → Int}
theorem e_isTangled {R : Nat → Int} (hf : RF b g B J i0 i1 i2 i3 i4 i5 i6) {p q : Nat} (p2 : p < 128) (q2 : q < 128) (hI : MI b g h) (e47 : h (b + 547) = some (az 16384 R)) : YM l G mX7_isTangled 0 0 0 [vr (b + 540), vi (p : Int), vi (q : Int)] h n (fun r h' n' => ((r = some (vi 1) ∧ p ≠ q ∧ R (128 * p + q) = 1 ∧ R (128 * q + p) = 1) ∨ (r = some (vi 0) ∧ ¬ (p ≠ q ∧ R (128 * p + q) = 1 ∧ R (128 * q + p) = 1))) ∧ h' = h ∧ n' = n) := by
  refine YM.of kX7_isTangled (Nat.le_of_ble_eq_true rfl) (L0 := [some (vr (b + 540)), some (vi (p : Int)), some (vi (q : Int))]) rfl ?_
  obtain ⟨hm, -⟩ := id hf
  have hRb : ∀ j, R j = 0 ∨ R j = 1 := by
    obtain ⟨F, e, hF⟩ := hI.z (k := 547) (N := 16384) (lo := 0) (hi := 0) rfl
    rw [az_inj e47 e]
    exact hF
  have r1 := hRb (128 * p + q)
  have r2 := hRb (128 * q + p)
  refine y_run kX7_isTangled rfl ?_
  refine y_ic_eq kX7_isTangled rfl rfl (fun c1 => ?_) (fun c1 => ?_)
  · refine y_run kX7_isTangled rfl ?_
    exact y_zr kX7_isTangled rfl rfl (by omega) ⟨Or.inr ⟨rfl, fun k => k.1 (by omega)⟩, rfl, rfl⟩
  · refine y_run kX7_isTangled rfl ?_
    refine m_get kX7_isTangled (540) hI hm ?_
    refine y_run kX7_isTangled rfl ?_
    refine y_za kX7_isTangled rfl e47 (by omega) (by omega) ?_
    rw [show (128 * (p : Int) + (q : Int)).toNat = 128 * p + q by omega]
    refine y_if_eq kX7_isTangled rfl rfl (fun c2 => ?_) (fun c2 => ?_)
    · refine y_run kX7_isTangled rfl ?_
      exact y_zr kX7_isTangled rfl rfl (by omega) ⟨Or.inr ⟨rfl, fun k => by have := k.2.1; omega⟩, rfl, rfl⟩
    · refine y_run kX7_isTangled rfl ?_
      refine m_get kX7_isTangled (540) hI hm ?_
      refine y_run kX7_isTangled rfl ?_
      refine y_za kX7_isTangled rfl e47 (by omega) (by omega) ?_
      rw [show (128 * (q : Int) + (p : Int)).toNat = 128 * q + p by omega]
      refine y_if_eq kX7_isTangled rfl rfl (fun c3 => ?_) (fun c3 => ?_)
      · refine y_run kX7_isTangled rfl ?_
        exact y_zr kX7_isTangled rfl rfl (by omega) ⟨Or.inr ⟨rfl, fun k => by have := k.2.2; omega⟩, rfl, rfl⟩
      · refine y_run kX7_isTangled rfl ?_
        exact y_zr kX7_isTangled rfl rfl (by omega) ⟨Or.inl ⟨rfl, by omega, by omega, by omega⟩, rfl, rfl⟩
/-- how many of the first m are tangled with p -/
def tgB (R : Nat → Int) (p : Nat) : Nat → Bool := fun q => decide (p ≠ q) && (decide (R (128 * p + q) = 1) && decide (R (128 * q + p) = 1))
theorem tgB_iff (R : Nat → Int) (p q : Nat) : tgB R p q = true ↔ p ≠ q ∧ R (128 * p + q) = 1 ∧ R (128 * q + p) = 1 := by
  unfold tgB
  simp only [Bool.and_eq_true, decide_eq_true_eq]
end C80o
