section C1
variable {l : Launch} {G : xG} {h : yH} {n : Nat}
theorem c_isBelow (v b : Int) (hv : inI v) (hb : inI b) : YM l G mX6_isBelow 0 0 0 [vi v, vi b] h n (fun r h' n' => r = some (vi (if 0 ≤ v ∧ v < b then 1 else 0)) ∧ h' = h ∧ n' = n) := by
  obtain ⟨hv1, hv2⟩ := hv
  obtain ⟨hb1, hb2⟩ := hb
  refine YM.of kX6_isBelow (Nat.le_of_ble_eq_true rfl) (L0 := [some (vi v), some (vi b)]) rfl ?_
  refine y_run kX6_isBelow rfl ?_
  refine y_if_lt kX6_isBelow rfl rfl (fun c1 => ?_) (fun c1 => ?_)
  · refine y_run kX6_isBelow rfl ?_
    exact y_zr kX6_isBelow rfl rfl (Or.inl rfl) ⟨by rw [if_neg (by omega)], rfl, rfl⟩
  · refine y_run kX6_isBelow rfl ?_
    refine y_ic_ge kX6_isBelow rfl rfl (fun c2 => ?_) (fun c2 => ?_)
    · refine y_run kX6_isBelow rfl ?_
      exact y_zr kX6_isBelow rfl rfl (Or.inl rfl) ⟨by rw [if_neg (by omega)], rfl, rfl⟩
    · refine y_run kX6_isBelow rfl ?_
      exact y_zr kX6_isBelow rfl rfl (Or.inr rfl) ⟨by rw [if_pos (by omega)], rfl, rfl⟩
theorem c_has {a : Nat} {t : Int} {fs : List xV} (v : Int) (hv : inI v) (ha : h a = some (ob 5 (vi t :: fs))) : YM l G mX5_has 1 0 0 [vr a, vi v] h n (fun r h' n' => r = some (vi (if (0 ≤ v ∧ v < 24) ∧ yand (yshr t v) 1 ≠ 0 then 1 else 0)) ∧ h' = h ∧ n' = n) := by
  refine YM.of kX5_has (Nat.le_of_ble_eq_true rfl) (L0 := [some (vr a), some (vi v)]) rfl ?_
  refine y_run kX5_has rfl ?_
  refine y_csn kX5_has kX6_isBelow "BoxStage" 2 (rest := []) rfl (by decide +kernel) (c_isBelow v 24 hv ⟨by omega, by omega⟩) rfl rfl ?_
  rintro r h' n' ⟨rfl, rfl, rfl⟩
  refine y_if_eq kX5_has rfl rfl (fun c1 => ?_) (fun c1 => ?_) (by split <;> omega) (by split <;> omega)
  · refine y_run kX5_has rfl ?_
    refine y_zr kX5_has rfl rfl (Or.inl rfl) ⟨?_, rfl, rfl⟩
    split at c1
    · omega
    · rename_i q
      rw [if_neg (fun z => q z.1)]
  · refine y_run kX5_has rfl ?_
    refine y_get kX5_has rfl rfl ha rfl ?_
    refine y_run kX5_has rfl ?_
    have hq : 0 ≤ v ∧ v < 24 := by
      by_cases q : 0 ≤ v ∧ v < 24
      · exact q
      · rw [if_neg q] at c1; omega
    refine y_if_eq kX5_has rfl rfl (fun c2 => ?_) (fun c2 => ?_) (iI_rng _).1 (iI_rng _).2
    · refine y_run kX5_has rfl ?_
      exact y_zr kX5_has rfl rfl (Or.inl rfl) ⟨by rw [if_neg (fun z => z.2 c2)], rfl, rfl⟩
    · refine y_run kX5_has rfl ?_
      exact y_zr kX5_has rfl rfl (Or.inr rfl) ⟨by rw [if_pos ⟨hq, c2⟩], rfl, rfl⟩
end C1
