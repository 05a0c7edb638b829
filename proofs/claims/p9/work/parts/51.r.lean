section C60
variable {l : Launch} {G : xG} {h : yH} {n : Nat}
theorem c_malongX {p : Int} (h1 : 0 ≤ p) (h2 : p < 8192) : YM l G mX7_alongX 0 0 0 [vi p] h n (fun r h' n' => r = some (vi (2 * (p / 64 - 64) + 2 * (p % 64 - 32) + 1)) ∧ h' = h ∧ n' = n) := by
  refine YM.of kX7_alongX (Nat.le_of_ble_eq_true rfl) (L0 := [some (vi p)]) rfl ?_
  refine y_run kX7_alongX rfl ?_
  refine y_idiv kX7_alongX rfl (by omega) (by omega) (by omega) (by omega) ?_
  refine y_run kX7_alongX rfl ?_
  refine y_irem kX7_alongX rfl (by omega) (by omega) (by omega) (by omega) ?_
  refine y_run kX7_alongX rfl ?_
  exact y_ir kX7_alongX rfl rfl ⟨rfl, rfl, rfl⟩
theorem c_malongY {p : Int} (h1 : 0 ≤ p) (h2 : p < 8192) : YM l G mX7_alongY 0 0 0 [vi p] h n (fun r h' n' => r = some (vi (2 * (p / 64 - 64) - 2 * (p % 64 - 32) - 1)) ∧ h' = h ∧ n' = n) := by
  refine YM.of kX7_alongY (Nat.le_of_ble_eq_true rfl) (L0 := [some (vi p)]) rfl ?_
  refine y_run kX7_alongY rfl ?_
  refine y_idiv kX7_alongY rfl (by omega) (by omega) (by omega) (by omega) ?_
  refine y_run kX7_alongY rfl ?_
  refine y_irem kX7_alongY rfl (by omega) (by omega) (by omega) (by omega) ?_
  refine y_run kX7_alongY rfl ?_
  exact y_ir kX7_alongY rfl rfl ⟨rfl, rfl, rfl⟩
theorem c_mgreater {x y : Int} (h1 : inI x) (h2 : inI y) : YM l G mX7_greater 0 0 0 [vi x, vi y] h n (fun r h' n' => r = some (vi (max x y)) ∧ h' = h ∧ n' = n) := by
  refine YM.of kX7_greater (Nat.le_of_ble_eq_true rfl) (L0 := [some (vi x), some (vi y)]) rfl ?_
  obtain ⟨_, _⟩ := h1
  obtain ⟨_, _⟩ := h2
  refine y_run kX7_greater rfl ?_
  refine y_ic_le kX7_greater rfl rfl (fun c1 => ?_) (fun c1 => ?_)
  · refine y_run kX7_greater rfl ?_
    refine y_ir kX7_greater rfl rfl ?_
    exact ⟨by congr 2; omega, rfl, rfl⟩
  · refine y_run kX7_greater rfl ?_
    refine y_ir kX7_greater rfl rfl ?_
    exact ⟨by congr 2; omega, rfl, rfl⟩
def mex (x0 x1 y0 y1 z0 z1 a b : Int) : Int := if max (4 * x0 - a) (max (4 * y0 - b) (4 * z0)) < -max (a - 4 * x1) (max (b - 4 * y1) (-4 * z1)) then -max (a - 4 * x1) (max (b - 4 * y1) (-4 * z1)) else 0
theorem c_mexit {a N : Nat} {F : Nat → Int} {z A B : Int} (ha : h a = some (ai N F)) (hz : 0 ≤ z) (hN : z + 6 ≤ N) (hM : N ≤ 100000) (hF : ∀ j, sm (F j)) (hA : sm A) (hB : sm B) : YM l G mX7_exit 1 0 0 [vr a, vi z, vi A, vi B] h n (fun r h' n' => r = some (vi (mex (F z.toNat) (F (z + 1).toNat) (F (z + 2).toNat) (F (z + 3).toNat) (F (z + 4).toNat) (F (z + 5).toNat) A B)) ∧ h' = h ∧ n' = n) := by
  refine YM.of kX7_exit (Nat.le_of_ble_eq_true rfl) (L0 := [some (vr a), some (vi z), some (vi A), some (vi B), none, none]) rfl ?_
  obtain ⟨_, _⟩ := hA
  obtain ⟨_, _⟩ := hB
  obtain ⟨_, _⟩ := hF z.toNat
  obtain ⟨_, _⟩ := hF (z + 1).toNat
  obtain ⟨_, _⟩ := hF (z + 2).toNat
  obtain ⟨_, _⟩ := hF (z + 3).toNat
  obtain ⟨_, _⟩ := hF (z + 4).toNat
  obtain ⟨_, _⟩ := hF (z + 5).toNat
  refine y_run kX7_exit rfl ?_
  refine y_ia kX7_exit rfl ha (by omega) (by omega) ?_
  refine y_run kX7_exit rfl ?_
  refine y_ia kX7_exit rfl ha (by omega) (by omega) ?_
  refine y_run kX7_exit rfl ?_
  refine y_ia kX7_exit rfl ha (by omega) (by omega) ?_
  refine y_run kX7_exit rfl ?_
  refine y_cs kX7_exit kX7_greater 2 rfl (by decide +kernel) (c_mgreater ⟨by omega, by omega⟩ ⟨by omega, by omega⟩) rfl rfl ?_
  rintro _ _ _ ⟨rfl, rfl, rfl⟩
  refine y_cs kX7_exit kX7_greater 2 rfl (by decide +kernel) (c_mgreater ⟨by omega, by omega⟩ ⟨by omega, by omega⟩) rfl rfl ?_
  rintro _ _ _ ⟨rfl, rfl, rfl⟩
  refine y_run kX7_exit rfl ?_
  refine y_ia kX7_exit rfl ha (by omega) (by omega) ?_
  refine y_run kX7_exit rfl ?_
  refine y_ia kX7_exit rfl ha (by omega) (by omega) ?_
  refine y_run kX7_exit rfl ?_
  refine y_ia kX7_exit rfl ha (by omega) (by omega) ?_
  refine y_run kX7_exit rfl ?_
  refine y_cs kX7_exit kX7_greater 2 rfl (by decide +kernel) (c_mgreater ⟨by omega, by omega⟩ ⟨by omega, by omega⟩) rfl rfl ?_
  rintro _ _ _ ⟨rfl, rfl, rfl⟩
  refine y_cs kX7_exit kX7_greater 2 rfl (by decide +kernel) (c_mgreater ⟨by omega, by omega⟩ ⟨by omega, by omega⟩) rfl rfl ?_
  rintro _ _ _ ⟨rfl, rfl, rfl⟩
  refine y_run kX7_exit rfl ?_
  refine y_ic_ge kX7_exit rfl rfl (fun c1 => ?_) (fun c1 => ?_)
  · refine y_run kX7_exit rfl ?_
    refine y_ir kX7_exit rfl rfl ?_
    refine ⟨?_, rfl, rfl⟩
    unfold mex
    first | rw [if_pos (by omega)] | rw [if_neg (by omega)]
  · refine y_run kX7_exit rfl ?_
    refine y_ir kX7_exit rfl rfl ?_
    refine ⟨?_, rfl, rfl⟩
    unfold mex
    first | rw [if_pos (by omega)] | rw [if_neg (by omega)]
theorem mex_rng {x0 x1 y0 y1 z0 z1 a b : Int} (h0 : sm x0) (h1 : sm x1) (h2 : sm y0) (h3 : sm y1) (h4 : sm z0) (h5 : sm z1) (ha : sm a) (hb : sm b) : -1000000 ≤ mex x0 x1 y0 y1 z0 z1 a b ∧ mex x0 x1 y0 y1 z0 z1 a b ≤ 1000000 := by
  obtain ⟨_, _⟩ := h0
  obtain ⟨_, _⟩ := h1
  obtain ⟨_, _⟩ := h2
  obtain ⟨_, _⟩ := h3
  obtain ⟨_, _⟩ := h4
  obtain ⟨_, _⟩ := h5
  obtain ⟨_, _⟩ := ha
  obtain ⟨_, _⟩ := hb
  unfold mex
  split <;> omega
theorem mex_small {x0 x1 y0 y1 z0 z1 a b : Int} (h0 : -1 ≤ x0 ∧ x0 ≤ 127) (h1 : -1 ≤ x1 ∧ x1 ≤ 127) (h2 : -1 ≤ y0 ∧ y0 ≤ 127) (h3 : -1 ≤ y1 ∧ y1 ≤ 127) (h4 : -1 ≤ z0 ∧ z0 ≤ 127) (h5 : -1 ≤ z1 ∧ z1 ≤ 127) (ha : -1000 ≤ a ∧ a ≤ 1000) (hb : -1000 ≤ b ∧ b ≤ 1000) : -100000 ≤ mex x0 x1 y0 y1 z0 z1 a b ∧ mex x0 x1 y0 y1 z0 z1 a b ≤ 100000 := by
  unfold mex
  split <;> omega
/-- where a box is hit -/
theorem mex_pos {x0 x1 y0 y1 z0 z1 a b : Int} (h4 : 0 ≤ z0) (hp : mex x0 x1 y0 y1 z0 z1 a b ≠ 0) : 0 < mex x0 x1 y0 y1 z0 z1 a b ∧ 4 * x0 < mex x0 x1 y0 y1 z0 z1 a b + a ∧ 4 * y0 < mex x0 x1 y0 y1 z0 z1 a b + b ∧ 4 * z0 < mex x0 x1 y0 y1 z0 z1 a b ∧ mex x0 x1 y0 y1 z0 z1 a b + a ≤ 4 * x1 ∧ mex x0 x1 y0 y1 z0 z1 a b + b ≤ 4 * y1 ∧ mex x0 x1 y0 y1 z0 z1 a b ≤ 4 * z1 := by
  unfold mex at hp ⊢
  split
  · omega
  · rename_i q; rw [if_neg q] at hp; omega
theorem mex_nn {x0 x1 y0 y1 z0 z1 a b : Int} (h4 : 0 ≤ z0) : 0 ≤ mex x0 x1 y0 y1 z0 z1 a b := by
  unfold mex
  split <;> omega
theorem c_mpixelOf {i j : Int} (h1 : inI i) (h2 : inI j) : YM l G mX7_pixelOf 1 0 0 [vi i, vi j] h n (fun r h' n' => r = some (vi (if -32 ≤ i ∧ i < 32 ∧ -64 ≤ j ∧ j < 64 then 64 * (j + 64) + i + 32 else -1)) ∧ h' = h ∧ n' = n) := by
  refine YM.of kX7_pixelOf (Nat.le_of_ble_eq_true rfl) (L0 := [some (vi i), some (vi j)]) rfl ?_
  obtain ⟨_, _⟩ := h1
  obtain ⟨_, _⟩ := h2
  have hno : ¬ (-32 ≤ i ∧ i < 32 ∧ -64 ≤ j ∧ j < 64) → YW l (gT G) mX7_pixelOf 1 0 0 (fun r h' n' => r = some (vi (if -32 ≤ i ∧ i < 32 ∧ -64 ≤ j ∧ j < 64 then 64 * (j + 64) + i + 32 else -1)) ∧ h' = h ∧ n' = n) 40 [some (vi i), some (vi j)] [] h n := fun q => by
    refine y_run kX7_pixelOf rfl ?_
    exact y_ir kX7_pixelOf rfl rfl ⟨by rw [if_neg q], rfl, rfl⟩
  refine y_run kX7_pixelOf rfl ?_
  refine YW.nr2 ?_
  refine y_cs kX7_pixelOf kX7_in 2 rfl (by decide +kernel) (c_in _ _ ⟨(nrm_rng _).1, Int.lt_of_le_of_lt (nrm_rng _).2 (by omega)⟩ ⟨by omega, by omega⟩) rfl rfl ?_
  rintro _ _ _ ⟨rfl, rfl, rfl⟩
  have e1 : (0 ≤ nrm (i + 32) ∧ nrm (i + 32) < 64) ↔ (-32 ≤ i ∧ i < 32) := by
    by_cases q : i + 32 < 2147483648
    · rw [nrm_id (by omega) q]; omega
    · rw [nrm_hi (by omega) (by omega)]; omega
  refine y_beq kX7_pixelOf rfl rfl (fun q => hno (fun y => q (e1.mpr ⟨y.1, y.2.1⟩))) (fun q1 => ?_)
  refine y_run kX7_pixelOf rfl ?_
  refine YW.nr2 ?_
  refine y_cs kX7_pixelOf kX7_in 2 rfl (by decide +kernel) (c_in _ _ ⟨(nrm_rng _).1, Int.lt_of_le_of_lt (nrm_rng _).2 (by omega)⟩ ⟨by omega, by omega⟩) rfl rfl ?_
  rintro _ _ _ ⟨rfl, rfl, rfl⟩
  have e2 : (0 ≤ nrm (j + 64) ∧ nrm (j + 64) < 128) ↔ (-64 ≤ j ∧ j < 64) := by
    by_cases q : j + 64 < 2147483648
    · rw [nrm_id (by omega) q]; omega
    · rw [nrm_hi (by omega) (by omega)]; omega
  refine y_beq kX7_pixelOf rfl rfl (fun q => hno (fun y => q (e2.mpr ⟨y.2.2.1, y.2.2.2⟩))) (fun q2 => ?_)
  refine y_run kX7_pixelOf rfl ?_
  exact y_ir kX7_pixelOf rfl rfl ⟨by rw [if_pos ⟨(e1.mp q1).1, (e1.mp q1).2, (e2.mp q2).1, (e2.mp q2).2⟩], rfl, rfl⟩
end C60
