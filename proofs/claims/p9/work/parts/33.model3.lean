section C22
variable {l : Launch} {G : xG} {h : yH} {n : Nat}
theorem c_mlift {c : Nat} {i0 i1 i2 i3 i4 i5 i6 : Int} {B : Nat → Int} {v : Int} (hm : h c = some (mo c i0 i1 i2 i3 i4 i5 i6)) (hB : h (c + 1) = some (ai 264 B)) (hsm : ∀ j, sm (B j)) (hv : inI v) : YM l G mX7_lift 2 0 0 [vr c, vi v] h n (fun r h' n' => ((¬ mT B v ∧ r = some (vi 0) ∧ h' = h) ∨ (mT B v ∧ r = some (vi 1) ∧ h' = yup h (c + 1) (ai 264 (upZ B (11 * v).toNat 0)))) ∧ n' = n) := by
  refine YM.of kX7_lift (Nat.le_of_ble_eq_true rfl) (L0 := [some (vr c), some (vi v)]) rfl ?_
  refine y_run kX7_lift rfl ?_
  refine y_cv kX7_lift kX7_isThere 1 (rest := []) rfl hm (by decide +kernel) (c_isThere hm hB hsm hv) rfl rfl ?_
  rintro r h' n' ⟨hr, rfl, rfl⟩
  rcases hr with ⟨rfl, hr⟩ | ⟨rfl, hr⟩
  · refine y_if_ne kX7_lift rfl rfl (fun _ => ?_) (fun q => absurd q (by omega))
    have h1 := hr.1
    refine y_run kX7_lift rfl ?_
    refine y_get kX7_lift rfl rfl hm rfl ?_
    refine y_run kX7_lift rfl ?_
    refine y_is kX7_lift rfl hB (by omega) (by omega) ?_
    refine y_run kX7_lift rfl ?_
    exact y_zr kX7_lift rfl rfl (Or.inr rfl) ⟨Or.inr ⟨hr, rfl, rfl⟩, rfl⟩
  · refine y_if_ne kX7_lift rfl rfl (fun q => absurd rfl q) (fun _ => ?_)
    refine y_run kX7_lift rfl ?_
    exact y_zr kX7_lift rfl rfl (Or.inl rfl) ⟨Or.inl ⟨hr, rfl, rfl⟩, rfl⟩
def mpnt (B : Nat → Int) (v a p q u : Int) : Prop := mT B v ∧ (0 ≤ a ∧ a < 16) ∧ (0 ≤ p ∧ p < 8) ∧ (0 ≤ q ∧ q < 8) ∧ (0 ≤ u ∧ u < 8)
def mlk (B : Nat → Int) (v a p q u : Int) : Nat → Int := upZ (upZ (upZ (upZ B (11 * v + 7).toNat a) (11 * v + 8).toNat p) (11 * v + 9).toNat q) (11 * v + 10).toNat u
theorem c_mpaint {c : Nat} {i0 i1 i2 i3 i4 i5 i6 : Int} {B : Nat → Int} {v a p q u : Int} (hm : h c = some (mo c i0 i1 i2 i3 i4 i5 i6)) (hB : h (c + 1) = some (ai 264 B)) (hsm : ∀ j, sm (B j)) (hv : inI v) (ha : inI a) (hp : inI p) (hq : inI q) (hu : inI u) : YM l G mX7_paint 2 0 0 [vr c, vi v, vi a, vi p, vi q, vi u] h n (fun r h' n' => ((¬ mpnt B v a p q u ∧ r = some (vi 0) ∧ h' = h) ∨ (mpnt B v a p q u ∧ r = some (vi 1) ∧ h' = yup h (c + 1) (ai 264 (mlk B v a p q u)))) ∧ n' = n) := by
  refine YM.of kX7_paint (Nat.le_of_ble_eq_true rfl) (L0 := [some (vr c), some (vi v), some (vi a), some (vi p), some (vi q), some (vi u)]) rfl ?_
  have hno : ¬ mpnt B v a p q u → YW l (gT G) mX7_paint 2 0 0 (fun r h' n' => ((¬ mpnt B v a p q u ∧ r = some (vi 0) ∧ h' = h) ∨ (mpnt B v a p q u ∧ r = some (vi 1) ∧ h' = yup h (c + 1) (ai 264 (mlk B v a p q u)))) ∧ n' = n) 46 [some (vr c), some (vi v), some (vi a), some (vi p), some (vi q), some (vi u)] [] h n := fun g => by
    refine y_run kX7_paint rfl ?_
    exact y_zr kX7_paint rfl rfl (Or.inl rfl) ⟨Or.inl ⟨g, rfl, rfl⟩, rfl⟩
  refine y_run kX7_paint rfl ?_
  refine y_cv kX7_paint kX7_isThere 1 (rest := []) rfl hm (by decide +kernel) (c_isThere hm hB hsm hv) rfl rfl ?_
  rintro r h' n' ⟨hr, rfl, rfl⟩
  rcases hr with ⟨rfl, hr⟩ | ⟨rfl, hr⟩
  case inr => exact y_if_eq kX7_paint rfl rfl (fun _ => hno (fun g => hr g.1)) (fun q => absurd rfl q)
  refine y_if_eq kX7_paint rfl rfl (fun q => absurd q (by omega)) (fun _ => ?_)
  refine y_run kX7_paint rfl ?_
  refine y_cs kX7_paint kX7_in 2 (rest := []) rfl (by decide +kernel) (c_in a 16 ha ⟨by omega, by omega⟩) rfl rfl ?_
  rintro r h' n' ⟨rfl, rfl, rfl⟩
  refine y_beq kX7_paint rfl rfl (fun d => hno (fun g => d g.2.1)) (fun d0 => ?_)
  refine y_run kX7_paint rfl ?_
  refine y_cs kX7_paint kX7_in 2 (rest := []) rfl (by decide +kernel) (c_in p 8 hp ⟨by omega, by omega⟩) rfl rfl ?_
  rintro r h' n' ⟨rfl, rfl, rfl⟩
  refine y_beq kX7_paint rfl rfl (fun d => hno (fun g => d g.2.2.1)) (fun d1 => ?_)
  refine y_run kX7_paint rfl ?_
  refine y_cs kX7_paint kX7_in 2 (rest := []) rfl (by decide +kernel) (c_in q 8 hq ⟨by omega, by omega⟩) rfl rfl ?_
  rintro r h' n' ⟨rfl, rfl, rfl⟩
  refine y_beq kX7_paint rfl rfl (fun d => hno (fun g => d g.2.2.2.1)) (fun d2 => ?_)
  refine y_run kX7_paint rfl ?_
  refine y_cs kX7_paint kX7_in 2 (rest := []) rfl (by decide +kernel) (c_in u 8 hu ⟨by omega, by omega⟩) rfl rfl ?_
  rintro r h' n' ⟨rfl, rfl, rfl⟩
  refine y_bne kX7_paint rfl rfl (fun d3 => ?_) (fun d => hno (fun g => d g.2.2.2.2))
  have h1 := hr.1
  refine y_run kX7_paint rfl ?_
  refine y_get kX7_paint rfl rfl hm rfl ?_
  refine y_run kX7_paint rfl ?_
  refine y_is kX7_paint rfl hB (by omega) (by omega) ?_
  refine y_run kX7_paint rfl ?_
  refine y_get kX7_paint rfl rfl ((yup_ne _ _ (by omega)).trans hm) rfl ?_
  refine y_run kX7_paint rfl ?_
  refine y_is2 kX7_paint rfl (by omega) (by omega) ?_
  refine y_run kX7_paint rfl ?_
  refine y_get kX7_paint rfl rfl ((yup_ne _ _ (by omega)).trans hm) rfl ?_
  refine y_run kX7_paint rfl ?_
  refine y_is2 kX7_paint rfl (by omega) (by omega) ?_
  refine y_run kX7_paint rfl ?_
  refine y_get kX7_paint rfl rfl ((yup_ne _ _ (by omega)).trans hm) rfl ?_
  refine y_run kX7_paint rfl ?_
  refine y_is2 kX7_paint rfl (by omega) (by omega) ?_
  refine y_run kX7_paint rfl ?_
  exact y_zr kX7_paint rfl rfl (Or.inr rfl) ⟨Or.inr ⟨⟨hr, d0, d1, d2, d3⟩, rfl, rfl⟩, rfl⟩
theorem c_mink {c : Nat} {i0 i1 i2 i3 i4 i5 i6 : Int} {I : Nat → Int} {p r0 wd : Int} (hm : h c = some (mo c i0 i1 i2 i3 i4 i5 i6)) (hI : h (c + 2) = some (ai 64 I)) (hp : inI p) (hr : inI r0) : YM l G mX7_ink 1 0 0 [vr c, vi p, vi r0, vi wd] h n (fun r h' n' => ((¬ ((0 ≤ p ∧ p < 8) ∧ (0 ≤ r0 ∧ r0 < 8)) ∧ r = some (vi 0) ∧ h' = h) ∨ (((0 ≤ p ∧ p < 8) ∧ (0 ≤ r0 ∧ r0 < 8)) ∧ r = some (vi 1) ∧ h' = yup h (c + 2) (ai 64 (upZ I (8 * p + r0).toNat (wd % 65536))))) ∧ n' = n) := by
  refine YM.of kX7_ink (Nat.le_of_ble_eq_true rfl) (L0 := [some (vr c), some (vi p), some (vi r0), some (vi wd)]) rfl ?_
  have hno : ¬ ((0 ≤ p ∧ p < 8) ∧ (0 ≤ r0 ∧ r0 < 8)) → YW l (gT G) mX7_ink 1 0 0 (fun r h' n' => ((¬ ((0 ≤ p ∧ p < 8) ∧ (0 ≤ r0 ∧ r0 < 8)) ∧ r = some (vi 0) ∧ h' = h) ∨ (((0 ≤ p ∧ p < 8) ∧ (0 ≤ r0 ∧ r0 < 8)) ∧ r = some (vi 1) ∧ h' = yup h (c + 2) (ai 64 (upZ I (8 * p + r0).toNat (wd % 65536))))) ∧ n' = n) 18 [some (vr c), some (vi p), some (vi r0), some (vi wd)] [] h n := fun g => by
    refine y_run kX7_ink rfl ?_
    exact y_zr kX7_ink rfl rfl (Or.inl rfl) ⟨Or.inl ⟨g, rfl, rfl⟩, rfl⟩
  refine y_run kX7_ink rfl ?_
  refine y_cs kX7_ink kX7_in 2 (rest := []) rfl (by decide +kernel) (c_in p 8 hp ⟨by omega, by omega⟩) rfl rfl ?_
  rintro r h' n' ⟨rfl, rfl, rfl⟩
  refine y_beq kX7_ink rfl rfl (fun d => hno (fun g => d g.1)) (fun d0 => ?_)
  refine y_run kX7_ink rfl ?_
  refine y_cs kX7_ink kX7_in 2 (rest := []) rfl (by decide +kernel) (c_in r0 8 hr ⟨by omega, by omega⟩) rfl rfl ?_
  rintro r h' n' ⟨rfl, rfl, rfl⟩
  refine y_bne kX7_ink rfl rfl (fun d1 => ?_) (fun d => hno (fun g => d g.2))
  refine y_run kX7_ink rfl ?_
  refine y_get kX7_ink rfl rfl hm rfl ?_
  refine y_run kX7_ink rfl ?_
  refine y_ldc (z := 65535) kX7_ink rfl (by decide +kernel) ?_
  refine y_run kX7_ink rfl ?_
  refine y_is kX7_ink rfl hI (by omega) (by omega) ?_
  refine y_run kX7_ink rfl ?_
  rw [yand_65535]
  exact y_zr kX7_ink rfl rfl (Or.inr rfl) ⟨Or.inr ⟨⟨d0, d1⟩, rfl, rfl⟩, rfl⟩
theorem c_mbox {c : Nat} {i0 i1 i2 i3 i4 i5 i6 : Int} {B : Nat → Int} {v wh : Int} (hm : h c = some (mo c i0 i1 i2 i3 i4 i5 i6)) (hB : h (c + 1) = some (ai 264 B)) (hsm : ∀ j, sm (B j)) (hv : inI v) (hw : inI wh) : YM l G mX7_box 2 0 0 [vr c, vi v, vi wh] h n (fun r h' n' => ((mT B v ∧ (0 ≤ wh ∧ wh < 10) ∧ r = some (vi (B (11 * v + 1 + wh).toNat))) ∨ (¬ (mT B v ∧ (0 ≤ wh ∧ wh < 10)) ∧ r = some (vi (-1)))) ∧ h' = h ∧ n' = n) := by
  refine YM.of kX7_box (Nat.le_of_ble_eq_true rfl) (L0 := [some (vr c), some (vi v), some (vi wh)]) rfl ?_
  refine y_run kX7_box rfl ?_
  refine y_cv kX7_box kX7_isThere 1 (rest := []) rfl hm (by decide +kernel) (c_isThere hm hB hsm hv) rfl rfl ?_
  rintro r h' n' ⟨hr, rfl, rfl⟩
  rcases hr with ⟨rfl, hr⟩ | ⟨rfl, hr⟩
  · refine y_if_eq kX7_box rfl rfl (fun q => absurd q (by omega)) (fun _ => ?_)
    refine y_run kX7_box rfl ?_
    refine y_cs kX7_box kX7_in 2 (rest := []) rfl (by decide +kernel) (c_in wh 10 hw ⟨by omega, by omega⟩) rfl rfl ?_
    rintro r h' n' ⟨rfl, rfl, rfl⟩
    have h1 := hr.1
    refine y_beq kX7_box rfl rfl (fun d => ?_) (fun d => ?_)
    · refine y_run kX7_box rfl ?_
      exact y_ir kX7_box rfl rfl ⟨Or.inr ⟨fun g => d g.2, rfl⟩, rfl, rfl⟩
    · refine y_run kX7_box rfl ?_
      refine y_get kX7_box rfl rfl hm rfl ?_
      refine y_run kX7_box rfl ?_
      refine y_ia kX7_box rfl hB (by omega) (by omega) ?_
      refine y_run kX7_box rfl ?_
      exact y_ir kX7_box rfl rfl ⟨Or.inl ⟨hr, d, rfl⟩, rfl, rfl⟩
  · refine y_if_eq kX7_box rfl rfl (fun _ => ?_) (fun q => absurd rfl q)
    refine y_run kX7_box rfl ?_
    exact y_ir kX7_box rfl rfl ⟨Or.inr ⟨fun g => hr g.1, rfl⟩, rfl, rfl⟩
theorem c_mplace {c : Nat} {i0 i1 i2 i3 i4 i5 i6 : Int} {B : Nat → Int} {T : Nat → Int} {v x y z dx dy dz : Int} (hm : h c = some (mo c i0 i1 i2 i3 i4 i5 i6)) (hB : h (c + 1) = some (ai 264 B)) (hsm : ∀ j, sm (B j)) (hT : h (c + 14) = some (ai 6 T)) (hTb : ∀ j, -1 ≤ T j ∧ T j ≤ 33) (hv : inI v) (h1 : inI x) (h2 : inI y) (h3 : inI z) (h4 : inI dx) (h5 : inI dy) (h6 : inI dz) : YM l G mX7_place 3 0 0 [vr c, vi v, vi x, vi y, vi z, vi dx, vi dy, vi dz] h n (fun r h' n' => ((¬ plc v x y z dx dy dz ∧ r = some (vi 1) ∧ h' = h) ∨ (plc v x y z dx dy dz ∧ ∃ g, least24 (mway B (tr6 T x y z dx dy dz) v) g ∧ ((g ≠ -1 ∧ r = some (vi (2 + 8 * g)) ∧ h' = yup h (c + 14) (ai 6 (tr6 T x y z dx dy dz))) ∨ (g = -1 ∧ r = some (vi 0) ∧ ((mT B v ∧ h' = yup (yup h (c + 14) (ai 6 (tr6 T x y z dx dy dz))) (c + 1) (ai 264 (bcp (upZ B (11 * v).toNat 1) (tr6 T x y z dx dy dz) v 6))) ∨ (¬ mT B v ∧ h' = yup (yup h (c + 14) (ai 6 (tr6 T x y z dx dy dz))) (c + 1) (ai 264 (bcp (upZ (bz B v 11) (11 * v).toNat 1) (tr6 T x y z dx dy dz) v 6)))))))) ∧ n' = n) := by
  refine YM.of kX7_place (Nat.le_of_ble_eq_true rfl) (L0 := [some (vr c), some (vi v), some (vi x), some (vi y), some (vi z), some (vi dx), some (vi dy), some (vi dz), none, none]) rfl ?_
  generalize hΦ : (fun (r : Option xV) (h' : yH) (n' : Nat) => ((¬ plc v x y z dx dy dz ∧ r = some (vi 1) ∧ h' = h) ∨ (plc v x y z dx dy dz ∧ ∃ g, least24 (mway B (tr6 T x y z dx dy dz) v) g ∧ ((g ≠ -1 ∧ r = some (vi (2 + 8 * g)) ∧ h' = yup h (c + 14) (ai 6 (tr6 T x y z dx dy dz))) ∨ (g = -1 ∧ r = some (vi 0) ∧ ((mT B v ∧ h' = yup (yup h (c + 14) (ai 6 (tr6 T x y z dx dy dz))) (c + 1) (ai 264 (bcp (upZ B (11 * v).toNat 1) (tr6 T x y z dx dy dz) v 6))) ∨ (¬ mT B v ∧ h' = yup (yup h (c + 14) (ai 6 (tr6 T x y z dx dy dz))) (c + 1) (ai 264 (bcp (upZ (bz B v 11) (11 * v).toNat 1) (tr6 T x y z dx dy dz) v 6)))))))) ∧ n' = n) = Φ
  have hno : ¬ plc v x y z dx dy dz → YW l (gT G) mX7_place 3 0 0 Φ 37 [some (vr c), some (vi v), some (vi x), some (vi y), some (vi z), some (vi dx), some (vi dy), some (vi dz), none, none] [] h n := fun g => by
    refine y_run kX7_place rfl ?_
    refine y_ir kX7_place rfl rfl ?_
    rw [← hΦ]
    exact ⟨Or.inl ⟨g, rfl, rfl⟩, rfl⟩
  refine y_run kX7_place rfl ?_
  refine y_cs kX7_place kX7_in 2 (rest := []) rfl (by decide +kernel) (c_in v 24 hv ⟨by omega, by omega⟩) rfl rfl ?_
  rintro r h' n' ⟨rfl, rfl, rfl⟩
  refine y_beq kX7_place rfl rfl (fun g => hno (fun q => g q.1)) (fun c0 => ?_)
  refine y_run kX7_place rfl ?_
  refine y_cs kX7_place kX7_lies 2 (rest := []) rfl (by decide +kernel) (c_mlies (f := x) (s := dx) h1 h4) rfl rfl ?_
  rintro r h' n' ⟨hr0, rfl, rfl⟩
  rcases hr0 with ⟨rfl, c1⟩ | ⟨rfl, c1⟩
  case inr => exact y_if_eq kX7_place rfl rfl (fun _ => hno (fun q => c1 q.2.1)) (fun q => absurd rfl q)
  refine y_if_eq kX7_place rfl rfl (fun q => absurd q (by omega)) (fun _ => ?_)
  refine y_run kX7_place rfl ?_
  refine y_cs kX7_place kX7_lies 2 (rest := []) rfl (by decide +kernel) (c_mlies (f := y) (s := dy) h2 h5) rfl rfl ?_
  rintro r h' n' ⟨hr1, rfl, rfl⟩
  rcases hr1 with ⟨rfl, c2⟩ | ⟨rfl, c2⟩
  case inr => exact y_if_eq kX7_place rfl rfl (fun _ => hno (fun q => c2 q.2.2.1)) (fun q => absurd rfl q)
  refine y_if_eq kX7_place rfl rfl (fun q => absurd q (by omega)) (fun _ => ?_)
  refine y_run kX7_place rfl ?_
  refine y_cs kX7_place kX7_lies 2 (rest := []) rfl (by decide +kernel) (c_mlies (f := z) (s := dz) h3 h6) rfl rfl ?_
  rintro r h' n' ⟨hr2, rfl, rfl⟩
  rcases hr2 with ⟨rfl, c3⟩ | ⟨rfl, c3⟩
  case inr => exact y_if_ne kX7_place rfl rfl (fun q => absurd rfl q) (fun _ => hno (fun q => c3 q.2.2.2))
  refine y_if_ne kX7_place rfl rfl (fun _ => ?_) (fun q => absurd q (by omega))
  have hp : plc v x y z dx dy dz := ⟨c0, c1, c2, c3⟩
  have hTb2 := tr6_b hp hTb
  refine y_run kX7_place rfl ?_
  refine y_get kX7_place rfl rfl hm rfl ?_
  refine y_run kX7_place rfl ?_
  refine y_is kX7_place rfl hT (by omega) (by omega) ?_
  refine y_run kX7_place rfl ?_
  refine y_get kX7_place rfl rfl ((yup_ne _ _ (by omega)).trans hm) rfl ?_
  refine y_run kX7_place rfl ?_
  refine y_is2 kX7_place rfl (by omega) (by omega) ?_
  refine y_run kX7_place rfl ?_
  refine y_get kX7_place rfl rfl ((yup_ne _ _ (by omega)).trans hm) rfl ?_
  refine y_run kX7_place rfl ?_
  refine y_is2 kX7_place rfl (by omega) (by omega) ?_
  refine y_run kX7_place rfl ?_
  refine y_get kX7_place rfl rfl ((yup_ne _ _ (by omega)).trans hm) rfl ?_
  refine y_run kX7_place rfl ?_
  refine y_is2 kX7_place rfl (by omega) (by omega) ?_
  refine y_run kX7_place rfl ?_
  refine y_get kX7_place rfl rfl ((yup_ne _ _ (by omega)).trans hm) rfl ?_
  refine y_run kX7_place rfl ?_
  refine y_is2 kX7_place rfl (by omega) (by omega) ?_
  refine y_run kX7_place rfl ?_
  refine y_get kX7_place rfl rfl ((yup_ne _ _ (by omega)).trans hm) rfl ?_
  refine y_run kX7_place rfl ?_
  refine y_is2 kX7_place rfl (by omega) (by omega) ?_
  refine YW.he (h' := yup h' (c + 14) (ai 6 (tr6 T x y z dx dy dz))) rfl ?_
  have hm2 : yup h' (c + 14) (ai 6 (tr6 T x y z dx dy dz)) c = some (mo c i0 i1 i2 i3 i4 i5 i6) := (yup_ne _ _ (by omega)).trans hm
  have hB2 : yup h' (c + 14) (ai 6 (tr6 T x y z dx dy dz)) (c + 1) = some (ai 264 B) := (yup_ne _ _ (by omega)).trans hB
  refine y_run kX7_place rfl ?_
  refine y_get kX7_place rfl rfl hm2 rfl ?_
  refine y_cv kX7_place kX7_meets 2 (rest := []) rfl hm2 (by decide +kernel) (c_meets hm2 hB2 (yup_eq _ _ _) hsm (fun j => ⟨by have := hTb2 j; omega, by have := hTb2 j; omega⟩) hv) rfl rfl ?_
  rintro r h1 n' ⟨⟨g, rfl, hg⟩, rfl, rfl⟩
  have hgb : -1 ≤ g ∧ g < 24 := by rcases hg with ⟨a1, a2, -⟩ | ⟨a1, -⟩ <;> omega
  refine y_run kX7_place rfl ?_
  refine y_ic_eq kX7_place rfl rfl (fun cg => ?_) (fun cg => ?_)
  · refine y_run kX7_place rfl ?_
    refine y_cv kX7_place kX7_isThere 1 (rest := []) rfl hm2 (by decide +kernel) (c_isThere hm2 hB2 hsm hv) rfl rfl ?_
    rintro r h1 n' ⟨hr, rfl, rfl⟩
    rcases hr with ⟨rfl, hr⟩ | ⟨rfl, hr⟩
    · refine y_if_ne kX7_place rfl rfl (fun _ => ?_) (fun q => absurd q (by omega))
      refine y_run kX7_place rfl ?_
      refine y_get kX7_place rfl rfl hm2 rfl ?_
      refine y_run kX7_place rfl ?_
      refine y_is kX7_place rfl hB2 (by omega) (by omega) ?_
      refine y_run kX7_place rfl ?_
      have := s_pl2 (l := l) (G := gT G) (n := n') (Φ := Φ) (x := x) (y := y) (z := z) (dx := dx) (dy := dy) (dz := dz) (u := g) (B := upZ B (11 * v).toNat 1) c0.1 c0.2 hm2 (yup_eq _ _ _) (by
        rw [← hΦ]
        exact ⟨Or.inr ⟨hp, g, hg, Or.inr ⟨cg, rfl, Or.inl ⟨hr, rfl⟩⟩⟩, rfl⟩) 6 0 (by omega) (by omega)
      rw [bcp_0] at this
      exact this
    · refine y_if_ne kX7_place rfl rfl (fun q => absurd rfl q) (fun _ => ?_)
      refine y_run kX7_place rfl ?_
      have := s_pl1 (l := l) (G := gT G) (n := n') (Φ := Φ) (x := x) (y := y) (z := z) (dx := dx) (dy := dy) (dz := dz) (u := g) (B := B) c0.1 c0.2 hm2 (yup_eq _ _ _) (by
        rw [← hΦ]
        exact ⟨Or.inr ⟨hp, g, hg, Or.inr ⟨cg, rfl, Or.inr ⟨hr, rfl⟩⟩⟩, rfl⟩) 4 7 (by omega) (by omega)
      rw [bz_7] at this
      refine YW.he ?_ this
      funext q
      by_cases cq : q = c + 1
      · subst cq; rw [yup_eq]; exact hB2
      · rw [yup_ne _ _ cq]
  · refine y_run kX7_place rfl ?_
    refine y_ir kX7_place rfl rfl ?_
    rw [← hΦ]
    exact ⟨Or.inr ⟨hp, g, hg, Or.inl ⟨cg, rfl, rfl⟩⟩, rfl⟩
end C22
