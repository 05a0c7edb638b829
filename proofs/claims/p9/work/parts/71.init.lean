/-! THE CONSTRUCTORS: what a new object of each class holds; the cells that it makes follow its own -/
def nw0 : List xV := [vl 0, vl 0]
theorem nw0_ok : ∀ j, j < 2 → defaultValue (xty 0 j) = vp_V (nw0.map den) j
  | 0, _ => rfl
  | 1, _ => rfl
  | j + 2, hj => absurd hj (by omega)
def nw1 : List xV := [vi 0, vi 0, vi 0, vi 0, vi 0, vi 0]
theorem nw1_ok : ∀ j, j < 6 → defaultValue (xty 1 j) = vp_V (nw1.map den) j
  | 0, _ => rfl
  | 1, _ => rfl
  | 2, _ => rfl
  | 3, _ => rfl
  | 4, _ => rfl
  | 5, _ => rfl
  | j + 6, hj => absurd hj (by omega)
def nw2 : List xV := [vn, vn, vn, vn, vi 0, vi 0, vn, vn]
theorem nw2_ok : ∀ j, j < 8 → defaultValue (xty 2 j) = vp_V (nw2.map den) j
  | 0, _ => rfl
  | 1, _ => rfl
  | 2, _ => rfl
  | 3, _ => rfl
  | 4, _ => rfl
  | 5, _ => rfl
  | 6, _ => rfl
  | 7, _ => rfl
  | j + 8, hj => absurd hj (by omega)
def nw3 : List xV := [vn, vn, vn, vi 0, vi 0, vi 0, vn, vn, vn, vn, vn, vn]
theorem nw3_ok : ∀ j, j < 12 → defaultValue (xty 3 j) = vp_V (nw3.map den) j
  | 0, _ => rfl
  | 1, _ => rfl
  | 2, _ => rfl
  | 3, _ => rfl
  | 4, _ => rfl
  | 5, _ => rfl
  | 6, _ => rfl
  | 7, _ => rfl
  | 8, _ => rfl
  | 9, _ => rfl
  | 10, _ => rfl
  | 11, _ => rfl
  | j + 12, hj => absurd hj (by omega)
def nw4 : List xV := [vi 0, vi 0, vi 0, vi 0]
theorem nw4_ok : ∀ j, j < 4 → defaultValue (xty 4 j) = vp_V (nw4.map den) j
  | 0, _ => rfl
  | 1, _ => rfl
  | 2, _ => rfl
  | 3, _ => rfl
  | j + 4, hj => absurd hj (by omega)
def nw5 : List xV := [vi 0, vn, vn, vn, vn]
theorem nw5_ok : ∀ j, j < 5 → defaultValue (xty 5 j) = vp_V (nw5.map den) j
  | 0, _ => rfl
  | 1, _ => rfl
  | 2, _ => rfl
  | 3, _ => rfl
  | 4, _ => rfl
  | j + 5, hj => absurd hj (by omega)
def nw6 : List xV := [vn, vn, vn, vn, vn, vn, vn, vn, vn, vn, vn, vi 0]
theorem nw6_ok : ∀ j, j < 12 → defaultValue (xty 6 j) = vp_V (nw6.map den) j
  | 0, _ => rfl
  | 1, _ => rfl
  | 2, _ => rfl
  | 3, _ => rfl
  | 4, _ => rfl
  | 5, _ => rfl
  | 6, _ => rfl
  | 7, _ => rfl
  | 8, _ => rfl
  | 9, _ => rfl
  | 10, _ => rfl
  | 11, _ => rfl
  | j + 12, hj => absurd hj (by omega)
def nw7 : List xV := [vn, vn, vn, vn, vn, vn, vn, vn, vn, vn, vi 0, vi 0, vi 0, vi 0, vi 0, vi 0, vn, vn, vn, vn, vn, vi 0]
theorem nw7_ok : ∀ j, j < 22 → defaultValue (xty 7 j) = vp_V (nw7.map den) j
  | 0, _ => rfl
  | 1, _ => rfl
  | 2, _ => rfl
  | 3, _ => rfl
  | 4, _ => rfl
  | 5, _ => rfl
  | 6, _ => rfl
  | 7, _ => rfl
  | 8, _ => rfl
  | 9, _ => rfl
  | 10, _ => rfl
  | 11, _ => rfl
  | 12, _ => rfl
  | 13, _ => rfl
  | 14, _ => rfl
  | 15, _ => rfl
  | 16, _ => rfl
  | 17, _ => rfl
  | 18, _ => rfl
  | 19, _ => rfl
  | 20, _ => rfl
  | 21, _ => rfl
  | j + 22, hj => absurd hj (by omega)
section C71
variable {l : Launch} {G : xG} {h : yH} {n : Nat}
theorem n_Ninit {a : Nat} : YM l G mX0_init 1 0 0 [vr a] h n (fun r h' n' => r = none ∧ h' = h ∧ n' = n) := by
  refine YM.of kX0_init (Nat.le_of_ble_eq_true rfl) (L0 := [some (vr a)]) rfl ?_
  refine y_run kX0_init rfl ?_
  refine y_ob kX0_init rfl (by decide +kernel) ?_
  exact y_vr kX0_init rfl rfl ⟨rfl, rfl, rfl⟩
theorem n_Oinit {a : Nat} : YM l G mX1_init 1 0 0 [vr a] h n (fun r h' n' => r = none ∧ h' = h ∧ n' = n) := by
  refine YM.of kX1_init (Nat.le_of_ble_eq_true rfl) (L0 := [some (vr a)]) rfl ?_
  refine y_run kX1_init rfl ?_
  refine y_ob kX1_init rfl (by decide +kernel) ?_
  exact y_vr kX1_init rfl rfl ⟨rfl, rfl, rfl⟩
theorem n_Rinit {a : Nat} : YM l G mX4_init 1 0 0 [vr a] h n (fun r h' n' => r = none ∧ h' = h ∧ n' = n) := by
  refine YM.of kX4_init (Nat.le_of_ble_eq_true rfl) (L0 := [some (vr a)]) rfl ?_
  refine y_run kX4_init rfl ?_
  refine y_ob kX4_init rfl (by decide +kernel) ?_
  exact y_vr kX4_init rfl rfl ⟨rfl, rfl, rfl⟩
set_option maxHeartbeats 2000000 in
theorem c_Sinit {a : Nat} (ha : h a = some (ob 5 nw5)) (hn : n = a + 1) : YM l G mX5_init 1 4 310 [vr a] h n (fun r h' n' => r = none ∧ SC h' a 0 (fun _ => 0) (fun _ => 0) (flF (fun _ => 0) 21845 64) (fun _ => 0) ∧ (∀ q, q < a → h' q = h q) ∧ n' = a + 5) := by
  subst hn
  refine YM.of kX5_init (Nat.le_of_ble_eq_true rfl) (L0 := [some (vr a)]) rfl ?_
  refine y_run kX5_init rfl ?_
  refine y_ob kX5_init rfl (by decide +kernel) ?_
  refine y_run kX5_init rfl ?_
  refine y_put kX5_init rfl rfl ha rfl rfl rfl ?_
  refine y_run kX5_init rfl ?_
  refine y_newi kX5_init rfl (by decide +kernel) (N := 144) rfl (by omega) ?_
  refine y_putF kX5_init rfl rfl (by repeat (first | exact yup_eq _ _ _ | rw [yup_ne _ _ (by omega)])) rfl rfl rfl rfl rfl ?_
  refine y_run kX5_init rfl ?_
  refine y_newi kX5_init rfl (by decide +kernel) (N := 96) rfl (by omega) ?_
  refine y_putF kX5_init rfl rfl (by repeat (first | exact yup_eq _ _ _ | rw [yup_ne _ _ (by omega)])) rfl rfl rfl rfl rfl ?_
  refine y_run kX5_init rfl ?_
  refine y_newi kX5_init rfl (by decide +kernel) (N := 64) rfl (by omega) ?_
  refine y_putF kX5_init rfl rfl (by repeat (first | exact yup_eq _ _ _ | rw [yup_ne _ _ (by omega)])) rfl rfl rfl rfl rfl ?_
  refine y_run kX5_init rfl ?_
  refine y_newi kX5_init rfl (by decide +kernel) (N := 6) rfl (by omega) ?_
  refine y_putF kX5_init rfl rfl (by repeat (first | exact yup_eq _ _ _ | rw [yup_ne _ _ (by omega)])) rfl rfl rfl rfl rfl ?_
  refine y_run kX5_init rfl ?_
  refine y_get kX5_init rfl rfl (by repeat (first | exact yup_eq _ _ _ | rw [yup_ne _ _ (by omega)])) rfl ?_
  refine y_run kX5_init rfl ?_
  refine y_cs kX5_init kJ7_fill_53178 2 rfl (by decide +kernel) (c_fill (a := a + 3) (N := 64) (F := fun _ => 0) (v := 21845) (by repeat (first | exact yup_eq _ _ _ | rw [yup_ne _ _ (by omega)])) (by omega)) rfl rfl ?_
  rintro _ _ _ ⟨rfl, rfl, rfl⟩
  refine y_vr kX5_init rfl rfl ⟨rfl, ⟨(by repeat (first | exact yup_eq _ _ _ | rw [yup_ne _ _ (by omega)])), (by repeat (first | exact yup_eq _ _ _ | rw [yup_ne _ _ (by omega)])), (by repeat (first | exact yup_eq _ _ _ | rw [yup_ne _ _ (by omega)])), (by repeat (first | exact yup_eq _ _ _ | rw [yup_ne _ _ (by omega)])), (by repeat (first | exact yup_eq _ _ _ | rw [yup_ne _ _ (by omega)]))⟩, fun q hq => ?_, rfl⟩
  repeat rw [yup_ne _ _ (by omega)]
end C71
