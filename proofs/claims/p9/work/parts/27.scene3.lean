theorem iI_tn (x : Int) : (iI x).toBitVec.toNat = (x % 4294967296).toNat := by
  show (BitVec.ofInt 32 x).toNat = _
  rw [BitVec.toNat_ofInt]
  rfl
theorem yand_mask (x : Int) (k : Nat) (hk : k ≤ 30) : yand x (2 ^ k - 1) = x % 2 ^ k := by
  have hp : (2 : Int) ^ k ≤ 2 ^ 30 := by
    have := Nat.pow_le_pow_right (n := 2) (by omega) hk
    have h2 : ((2 ^ k : Nat) : Int) ≤ ((2 ^ 30 : Nat) : Int) := by exact_mod_cast this
    simpa using h2
  have hp0 : (0 : Int) < 2 ^ k := Int.pow_pos (by omega)
  have hm : (iI (2 ^ k - 1)).toBitVec.toNat = 2 ^ k - 1 := by
    rw [iI_tn, Int.emod_eq_of_lt (by omega) (by omega)]
    have : ((2 ^ k : Nat) : Int) = (2 : Int) ^ k := by simp
    omega
  unfold yand
  rw [pk_and (iI x) k hm, nI_toInt, iI_tn]
  · have e : ((2 ^ k : Nat) : Int) = (2 : Int) ^ k := by simp
    have h3 : ((x % 4294967296).toNat : Int) = x % 4294967296 := Int.toNat_of_nonneg (Int.emod_nonneg _ (by omega))
    rw [Int.natCast_emod, h3, e]
    apply Int.emod_emod_of_dvd
    have : (4294967296 : Int) = 2 ^ k * 2 ^ (32 - k) := by
      rw [← Int.pow_add, show k + (32 - k) = 32 by omega]
      rfl
    exact ⟨_, this⟩
  · have := Nat.mod_lt (iI x).toBitVec.toNat (show 0 < 2 ^ k from Nat.pow_pos (by omega))
    have h4 := Nat.pow_le_pow_right (n := 2) (by omega) hk
    omega
theorem yand_7 (x : Int) : yand x 7 = x % 8 := yand_mask x 3 (by omega)
theorem yand_3 (x : Int) : yand x 3 = x % 4 := yand_mask x 2 (by omega)
theorem yand_1 (x : Int) : yand x 1 = x % 2 := yand_mask x 1 (by omega)
theorem yand_31 (x : Int) : yand x 31 = x % 32 := yand_mask x 5 (by omega)
theorem yand_63 (x : Int) : yand x 63 = x % 64 := yand_mask x 6 (by omega)
theorem yand_65535 (x : Int) : yand x 65535 = x % 65536 := yand_mask x 16 (by omega)
theorem yshr_div {x : Int} (h1 : -2147483648 ≤ x) (h2 : x < 2147483648) {k : Int} (hk0 : 0 ≤ k) (hk : k < 32) : yshr x k = x / 2 ^ k.toNat := by
  obtain ⟨j, hj, rfl⟩ := nat_of hk0 hk
  unfold yshr
  rw [pk_shr (iI x) (iI (j : Int) &&& 31) j (s32 j hj), iI_toInt h1 h2, Int.shiftRight_eq_div_pow, Int.toNat_natCast]
  simp
theorem yshr_2 {x : Int} (h1 : -2147483648 ≤ x) (h2 : x < 2147483648) : yshr x 2 = x / 4 := yshr_div h1 h2 (by omega) (by omega)
section C9
variable {l : Launch} {G : xG} {h : yH} {n : Nat}
theorem c_Rwh {q : Int} (h1 : -2147483648 ≤ q) (h2 : q < 2147483648) : YM l G mX4_wholeInSprite 0 0 0 [vi q] h n (fun r h' n' => r = some (vi (q / 4 % 8)) ∧ h' = h ∧ n' = n) := by
  have := c_Rwhole (l := l) (G := G) (h := h) (n := n) (q := q)
  rw [yand_7, yshr_2 h1 h2] at this
  exact this
theorem c_RspotRow {a : Nat} {r0 r1 e f : Int} (ha : h a = some (ob 4 [vi r0, vi r1, vi e, vi f])) (h0 : sm r0) (h1 : sm r1) (h2 : sm e) (h3 : sm f) : YM l G mX4_spotRow 1 0 0 [vr a] h n (fun r h' n' => r = some (vi ((if f = 2 then e + r1 else e) / 4 % 8)) ∧ h' = h ∧ n' = n) := by
  refine YM.of kX4_spotRow (Nat.le_of_ble_eq_true rfl) (L0 := [some (vr a)]) rfl ?_
  obtain ⟨_, _⟩ := h0
  obtain ⟨_, _⟩ := h1
  obtain ⟨_, _⟩ := h2
  obtain ⟨_, _⟩ := h3
  refine y_run kX4_spotRow rfl ?_
  refine y_get kX4_spotRow rfl rfl ha rfl ?_
  refine y_run kX4_spotRow rfl ?_
  refine y_ic_ne kX4_spotRow rfl rfl (fun c1 => ?_) (fun c1 => ?_)
  · refine y_run kX4_spotRow rfl ?_
    refine y_get kX4_spotRow rfl rfl ha rfl ?_
    refine y_cs kX4_spotRow kX4_wholeInSprite 1 (rest := []) rfl (by decide +kernel) (c_Rwh (by omega) (by omega)) rfl rfl ?_
    rintro r h' n' ⟨rfl, rfl, rfl⟩
    exact y_ir kX4_spotRow rfl rfl ⟨by rw [if_neg c1], rfl, rfl⟩
  · refine y_run kX4_spotRow rfl ?_
    refine y_get kX4_spotRow rfl rfl ha rfl ?_
    refine y_run kX4_spotRow rfl ?_
    refine y_get kX4_spotRow rfl rfl ha rfl ?_
    refine y_run kX4_spotRow rfl ?_
    refine y_cs kX4_spotRow kX4_wholeInSprite 1 (rest := []) rfl (by decide +kernel) (c_Rwh (by omega) (by omega)) rfl rfl ?_
    rintro r h' n' ⟨rfl, rfl, rfl⟩
    exact y_ir kX4_spotRow rfl rfl ⟨by rw [if_pos c1], rfl, rfl⟩
theorem c_RspotPlace {a : Nat} {r0 r1 e f : Int} (ha : h a = some (ob 4 [vi r0, vi r1, vi e, vi f])) (h0 : sm r0) (h1 : sm r1) (h2 : sm e) (h3 : sm f) : YM l G mX4_spotPlace 1 0 0 [vr a] h n (fun r h' n' => r = some (vi ((if f = 0 then e + r1 else e + r0) / 4 % 8)) ∧ h' = h ∧ n' = n) := by
  refine YM.of kX4_spotPlace (Nat.le_of_ble_eq_true rfl) (L0 := [some (vr a)]) rfl ?_
  obtain ⟨_, _⟩ := h0
  obtain ⟨_, _⟩ := h1
  obtain ⟨_, _⟩ := h2
  obtain ⟨_, _⟩ := h3
  refine y_run kX4_spotPlace rfl ?_
  refine y_get kX4_spotPlace rfl rfl ha rfl ?_
  refine y_if_ne kX4_spotPlace rfl rfl (fun c1 => ?_) (fun c1 => ?_)
  · refine y_run kX4_spotPlace rfl ?_
    refine y_get kX4_spotPlace rfl rfl ha rfl ?_
    refine y_run kX4_spotPlace rfl ?_
    refine y_get kX4_spotPlace rfl rfl ha rfl ?_
    refine y_run kX4_spotPlace rfl ?_
    refine y_cs kX4_spotPlace kX4_wholeInSprite 1 (rest := []) rfl (by decide +kernel) (c_Rwh (by omega) (by omega)) rfl rfl ?_
    rintro r h' n' ⟨rfl, rfl, rfl⟩
    exact y_ir kX4_spotPlace rfl rfl ⟨by rw [if_neg c1], rfl, rfl⟩
  · refine y_run kX4_spotPlace rfl ?_
    refine y_get kX4_spotPlace rfl rfl ha rfl ?_
    refine y_run kX4_spotPlace rfl ?_
    refine y_get kX4_spotPlace rfl rfl ha rfl ?_
    refine y_run kX4_spotPlace rfl ?_
    refine y_cs kX4_spotPlace kX4_wholeInSprite 1 (rest := []) rfl (by decide +kernel) (c_Rwh (by omega) (by omega)) rfl rfl ?_
    rintro r h' n' ⟨rfl, rfl, rfl⟩
    exact y_ir kX4_spotPlace rfl rfl ⟨by rw [if_pos c1], rfl, rfl⟩
theorem c_ScopyFrom {a b : Nat} {t t2 : Int} {E K R T E2 K2 R2 T2 : Nat → Int} (hs : SC h a t E K R T) (hs2 : SC h b t2 E2 K2 R2 T2) (hab : a + 5 ≤ b ∨ b + 5 ≤ a) : YM l G mX5_copyFrom 1 0 0 [vr a, vr b] h n (fun r h' n' => r = none ∧ SC h' a t2 (cpZ E2 E 0 0 144) (cpZ K2 K 0 0 96) (cpZ R2 R 0 0 64) T ∧ (∀ q, q < a ∨ a + 5 ≤ q → h' q = h q) ∧ n' = n) := by
  refine YM.of kX5_copyFrom (Nat.le_of_ble_eq_true rfl) (L0 := [some (vr a), some (vr b)]) rfl ?_
  have k1 := hs.up0 t2
  have k2 := k1.up1 (cpZ E2 E 0 0 144)
  have k3 := k2.up2 (cpZ K2 K 0 0 96)
  have k4 := k3.up3 (cpZ R2 R 0 0 64)
  have q1 := hs2.frame1 (h' := yup h a (ob 5 [vi t2, vr (a + 1), vr (a + 2), vr (a + 3), vr (a + 4)])) (fun q _ _ => yup_ne _ _ (by omega))
  have q2 := q1.frame1 (h' := yup (yup h a (ob 5 [vi t2, vr (a + 1), vr (a + 2), vr (a + 3), vr (a + 4)])) (a + 1) (ai 144 (cpZ E2 E 0 0 144))) (fun q _ _ => yup_ne _ _ (by omega))
  have q3 := q2.frame1 (h' := yup (yup (yup h a (ob 5 [vi t2, vr (a + 1), vr (a + 2), vr (a + 3), vr (a + 4)])) (a + 1) (ai 144 (cpZ E2 E 0 0 144))) (a + 2) (ai 96 (cpZ K2 K 0 0 96))) (fun q _ _ => yup_ne _ _ (by omega))
  refine y_run kX5_copyFrom rfl ?_
  refine y_get kX5_copyFrom rfl rfl hs2.1 rfl ?_
  refine y_put kX5_copyFrom rfl rfl hs.1 rfl rfl rfl ?_
  refine y_run kX5_copyFrom rfl ?_
  refine y_get kX5_copyFrom rfl rfl q1.1 rfl ?_
  refine y_run kX5_copyFrom rfl ?_
  refine y_get kX5_copyFrom rfl rfl k1.1 rfl ?_
  refine y_run kX5_copyFrom rfl ?_
  refine y_get kX5_copyFrom rfl rfl k1.1 rfl ?_
  refine y_al kX5_copyFrom rfl k1.2.1 ?_
  refine y_copy kX5_copyFrom rfl (by decide +kernel) q1.2.1 k1.2.1 (by omega) (by omega) (by omega) (by omega) (by omega) (by omega) (by omega) ?_
  refine y_run kX5_copyFrom rfl ?_
  refine y_get kX5_copyFrom rfl rfl q2.1 rfl ?_
  refine y_run kX5_copyFrom rfl ?_
  refine y_get kX5_copyFrom rfl rfl k2.1 rfl ?_
  refine y_run kX5_copyFrom rfl ?_
  refine y_get kX5_copyFrom rfl rfl k2.1 rfl ?_
  refine y_al kX5_copyFrom rfl k2.2.2.1 ?_
  refine y_copy kX5_copyFrom rfl (by decide +kernel) q2.2.2.1 k2.2.2.1 (by omega) (by omega) (by omega) (by omega) (by omega) (by omega) (by omega) ?_
  refine y_run kX5_copyFrom rfl ?_
  refine y_get kX5_copyFrom rfl rfl q3.1 rfl ?_
  refine y_run kX5_copyFrom rfl ?_
  refine y_get kX5_copyFrom rfl rfl k3.1 rfl ?_
  refine y_run kX5_copyFrom rfl ?_
  refine y_get kX5_copyFrom rfl rfl k3.1 rfl ?_
  refine y_al kX5_copyFrom rfl k3.2.2.2.1 ?_
  refine y_copy kX5_copyFrom rfl (by decide +kernel) q3.2.2.2.1 k3.2.2.2.1 (by omega) (by omega) (by omega) (by omega) (by omega) (by omega) (by omega) ?_
  exact y_vr kX5_copyFrom rfl rfl ⟨rfl, k4, fun q hq => (yup_ne _ _ (by omega)).trans ((yup_ne _ _ (by omega)).trans ((yup_ne _ _ (by omega)).trans (yup_ne _ _ (by omega)))), rfl⟩
end C9
