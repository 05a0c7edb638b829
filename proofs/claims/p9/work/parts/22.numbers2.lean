section C3
variable {l : Launch} {G : xG} {h : yH} {n : Nat}
theorem c_Ninit {a : Nat} {lo hi : Int64} (ha : h a = some (ob 0 [vl lo, vl hi])) : YM l G mX0_init 1 0 0 [vr a] h n (fun r h' n' => r = none ∧ h' = h ∧ n' = n) := by
  refine YM.of kX0_init (Nat.le_of_ble_eq_true rfl) (L0 := [some (vr a)]) rfl ?_
  refine y_run kX0_init rfl ?_
  refine y_ob kX0_init rfl (by decide +kernel) ?_
  exact y_vr kX0_init rfl rfl ⟨rfl, rfl, rfl⟩
theorem c_NaddAll {a b : Nat} {S S2 : Nat → Bool} (ha : NA h a S) (hb : NA h b S2) (hab : b ≠ a) : YM l G mX0_addAll 0 0 0 [vr a, vr b] h n (fun r h' n' => r = none ∧ NU h h' a (fun j => S j || S2 j) ∧ n' = n) := by
  obtain ⟨lo, hi, ha, ha2⟩ := ha
  obtain ⟨lo2, hi2, hb, hb2⟩ := hb
  refine YM.of kX0_addAll (Nat.le_of_ble_eq_true rfl) (L0 := [some (vr a), some (vr b)]) rfl ?_
  refine y_run kX0_addAll rfl ?_
  refine y_get kX0_addAll rfl rfl ha rfl ?_
  refine y_run kX0_addAll rfl ?_
  refine y_get kX0_addAll rfl rfl hb rfl ?_
  refine y_run kX0_addAll rfl ?_
  refine y_put kX0_addAll rfl rfl ha rfl rfl rfl ?_
  refine y_run kX0_addAll rfl ?_
  refine y_get kX0_addAll rfl rfl (yup_eq _ _ _) rfl ?_
  refine y_run kX0_addAll rfl ?_
  refine y_get kX0_addAll rfl rfl ((yup_ne _ _ hab).trans hb) rfl ?_
  refine y_run kX0_addAll rfl ?_
  refine y_put kX0_addAll rfl rfl (yup_eq _ _ _) rfl rfl rfl ?_
  refine y_vr kX0_addAll rfl rfl ⟨rfl, ⟨_, _, yup_yup _ _ _ _, fun j hj => ⟨?_, ?_⟩⟩, rfl⟩
  · dsimp only
    rw [gb_or, (ha2 j hj).1, (hb2 j hj).1]
  · dsimp only
    rw [gb_or, (ha2 j hj).2, (hb2 j hj).2]
theorem c_NremoveAll {a b : Nat} {S S2 : Nat → Bool} (ha : NA h a S) (hb : NA h b S2) (hab : b ≠ a) : YM l G mX0_removeAll 0 0 0 [vr a, vr b] h n (fun r h' n' => r = none ∧ NU h h' a (fun j => S j && !S2 j) ∧ n' = n) := by
  obtain ⟨lo, hi, ha, ha2⟩ := ha
  obtain ⟨lo2, hi2, hb, hb2⟩ := hb
  refine YM.of kX0_removeAll (Nat.le_of_ble_eq_true rfl) (L0 := [some (vr a), some (vr b)]) rfl ?_
  refine y_run kX0_removeAll rfl ?_
  refine y_get kX0_removeAll rfl rfl ha rfl ?_
  refine y_run kX0_removeAll rfl ?_
  refine y_get kX0_removeAll rfl rfl hb rfl ?_
  refine y_ldc2 (v := -1) kX0_removeAll rfl (by decide +kernel) ?_
  refine y_run kX0_removeAll rfl ?_
  refine y_put kX0_removeAll rfl rfl ha rfl rfl rfl ?_
  refine y_run kX0_removeAll rfl ?_
  refine y_get kX0_removeAll rfl rfl (yup_eq _ _ _) rfl ?_
  refine y_run kX0_removeAll rfl ?_
  refine y_get kX0_removeAll rfl rfl ((yup_ne _ _ hab).trans hb) rfl ?_
  refine y_ldc2 (v := -1) kX0_removeAll rfl (by decide +kernel) ?_
  refine y_run kX0_removeAll rfl ?_
  refine y_put kX0_removeAll rfl rfl (yup_eq _ _ _) rfl rfl rfl ?_
  refine y_vr kX0_removeAll rfl rfl ⟨rfl, ⟨_, _, yup_yup _ _ _ _, fun j hj => ⟨?_, ?_⟩⟩, rfl⟩
  · dsimp only
    rw [gb_and, gb_xor, gb_m1 j hj, (ha2 j hj).1, (hb2 j hj).1]; simp
  · dsimp only
    rw [gb_and, gb_xor, gb_m1 j hj, (ha2 j hj).2, (hb2 j hj).2]; simp
theorem c_NkeepThoseIn {a b : Nat} {S S2 : Nat → Bool} (ha : NA h a S) (hb : NA h b S2) (hab : b ≠ a) : YM l G mX0_keepThoseIn 0 0 0 [vr a, vr b] h n (fun r h' n' => r = none ∧ NU h h' a (fun j => S j && S2 j) ∧ n' = n) := by
  obtain ⟨lo, hi, ha, ha2⟩ := ha
  obtain ⟨lo2, hi2, hb, hb2⟩ := hb
  refine YM.of kX0_keepThoseIn (Nat.le_of_ble_eq_true rfl) (L0 := [some (vr a), some (vr b)]) rfl ?_
  refine y_run kX0_keepThoseIn rfl ?_
  refine y_get kX0_keepThoseIn rfl rfl ha rfl ?_
  refine y_run kX0_keepThoseIn rfl ?_
  refine y_get kX0_keepThoseIn rfl rfl hb rfl ?_
  refine y_run kX0_keepThoseIn rfl ?_
  refine y_put kX0_keepThoseIn rfl rfl ha rfl rfl rfl ?_
  refine y_run kX0_keepThoseIn rfl ?_
  refine y_get kX0_keepThoseIn rfl rfl (yup_eq _ _ _) rfl ?_
  refine y_run kX0_keepThoseIn rfl ?_
  refine y_get kX0_keepThoseIn rfl rfl ((yup_ne _ _ hab).trans hb) rfl ?_
  refine y_run kX0_keepThoseIn rfl ?_
  refine y_put kX0_keepThoseIn rfl rfl (yup_eq _ _ _) rfl rfl rfl ?_
  refine y_vr kX0_keepThoseIn rfl rfl ⟨rfl, ⟨_, _, yup_yup _ _ _ _, fun j hj => ⟨?_, ?_⟩⟩, rfl⟩
  · dsimp only
    rw [gb_and, (ha2 j hj).1, (hb2 j hj).1]
  · dsimp only
    rw [gb_and, (ha2 j hj).2, (hb2 j hj).2]
theorem NB.emp {lo hi : Int64} {S : Nat → Bool} (hb : NB lo hi S) : (lo = Int64.ofNat 0 ∧ hi = Int64.ofNat 0) ↔ ∀ k, k < 128 → S k = false := by
  rw [gb_z, gb_z]
  constructor
  · rintro ⟨q1, q2⟩ k hk
    by_cases c : k < 64
    · rw [← (hb k c).1]; exact q1 k c
    · have := (hb (k - 64) (by omega)).2
      rw [show 64 + (k - 64) = k by omega] at this
      rw [← this]; exact q2 _ (by omega)
  · intro q
    exact ⟨fun k hk => by rw [(hb k hk).1]; exact q k (by omega), fun k hk => by rw [(hb k hk).2]; exact q _ (by omega)⟩
theorem c_NisEmpty {a : Nat} {S : Nat → Bool} (ha : NA h a S) : YM l G mX0_isEmpty 0 0 0 [vr a] h n (fun r h' n' => ((r = some (vi 1) ∧ ∀ k, k < 128 → S k = false) ∨ (r = some (vi 0) ∧ ¬ ∀ k, k < 128 → S k = false)) ∧ h' = h ∧ n' = n) := by
  obtain ⟨lo, hi, ha, hb⟩ := ha
  have he := hb.emp
  refine YM.of kX0_isEmpty (Nat.le_of_ble_eq_true rfl) (L0 := [some (vr a)]) rfl ?_
  refine y_run kX0_isEmpty rfl ?_
  refine y_get kX0_isEmpty rfl rfl ha rfl ?_
  refine y_run kX0_isEmpty rfl ?_
  refine y_if_ne kX0_isEmpty rfl rfl (fun c1 => ?_) (fun c1 => ?_) (iI_rng _).1 (iI_rng _).2
  · refine y_run kX0_isEmpty rfl ?_
    exact y_zr kX0_isEmpty rfl rfl (Or.inl rfl) ⟨Or.inr ⟨rfl, fun q => c1 ((lg_cmp0 _).mpr (he.mpr q).1)⟩, rfl, rfl⟩
  · refine y_run kX0_isEmpty rfl ?_
    refine y_get kX0_isEmpty rfl rfl ha rfl ?_
    refine y_run kX0_isEmpty rfl ?_
    refine y_if_ne kX0_isEmpty rfl rfl (fun c2 => ?_) (fun c2 => ?_) (iI_rng _).1 (iI_rng _).2
    · refine y_run kX0_isEmpty rfl ?_
      exact y_zr kX0_isEmpty rfl rfl (Or.inl rfl) ⟨Or.inr ⟨rfl, fun q => c2 ((lg_cmp0 _).mpr (he.mpr q).2)⟩, rfl, rfl⟩
    · refine y_run kX0_isEmpty rfl ?_
      exact y_zr kX0_isEmpty rfl rfl (Or.inr rfl) ⟨Or.inl ⟨rfl, he.mp ⟨(lg_cmp0 _).mp c1, (lg_cmp0 _).mp c2⟩⟩, rfl, rfl⟩
theorem NB.and {lo hi lo2 hi2 : Int64} {S S2 : Nat → Bool} (h1 : NB lo hi S) (h2 : NB lo2 hi2 S2) : NB (lo &&& lo2) (hi &&& hi2) (fun k => S k && S2 k) := fun k hk => ⟨by rw [gb_and, (h1 k hk).1, (h2 k hk).1], by rw [gb_and, (h1 k hk).2, (h2 k hk).2]⟩
theorem c_Nmeets {a b : Nat} {S S2 : Nat → Bool} (ha : NA h a S) (hb : NA h b S2) : YM l G mX0_meets 0 0 0 [vr a, vr b] h n (fun r h' n' => ((r = some (vi 0) ∧ ∀ k, k < 128 → (S k && S2 k) = false) ∨ (r = some (vi 1) ∧ ¬ ∀ k, k < 128 → (S k && S2 k) = false)) ∧ h' = h ∧ n' = n) := by
  obtain ⟨lo, hi, ha, ha2⟩ := ha
  obtain ⟨lo2, hi2, hb, hb2⟩ := hb
  have he := (ha2.and hb2).emp
  refine YM.of kX0_meets (Nat.le_of_ble_eq_true rfl) (L0 := [some (vr a), some (vr b)]) rfl ?_
  refine y_run kX0_meets rfl ?_
  refine y_get kX0_meets rfl rfl ha rfl ?_
  refine y_run kX0_meets rfl ?_
  refine y_get kX0_meets rfl rfl hb rfl ?_
  refine y_run kX0_meets rfl ?_
  refine y_if_ne kX0_meets rfl rfl (fun c1 => ?_) (fun c1 => ?_) (iI_rng _).1 (iI_rng _).2
  · refine y_run kX0_meets rfl ?_
    exact y_zr kX0_meets rfl rfl (Or.inr rfl) ⟨Or.inr ⟨rfl, fun q => c1 ((lg_cmp0 _).mpr (he.mpr q).1)⟩, rfl, rfl⟩
  · refine y_run kX0_meets rfl ?_
    refine y_get kX0_meets rfl rfl ha rfl ?_
    refine y_run kX0_meets rfl ?_
    refine y_get kX0_meets rfl rfl hb rfl ?_
    refine y_run kX0_meets rfl ?_
    refine y_if_eq kX0_meets rfl rfl (fun c2 => ?_) (fun c2 => ?_) (iI_rng _).1 (iI_rng _).2
    · refine y_run kX0_meets rfl ?_
      exact y_zr kX0_meets rfl rfl (Or.inl rfl) ⟨Or.inl ⟨rfl, he.mp ⟨(lg_cmp0 _).mp c1, (lg_cmp0 _).mp c2⟩⟩, rfl, rfl⟩
    · refine y_run kX0_meets rfl ?_
      exact y_zr kX0_meets rfl rfl (Or.inr rfl) ⟨Or.inr ⟨rfl, fun q => c2 ((lg_cmp0 _).mpr (he.mpr q).2)⟩, rfl, rfl⟩
end C3
