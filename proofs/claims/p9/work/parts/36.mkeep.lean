theorem cpZ_0 (f g : Nat → Int) (sp dp : Nat) : cpZ f g sp dp 0 = g := by
  funext j
  unfold cpZ
  rw [if_neg (by omega)]
theorem cpZ_s (f g : Nat → Int) (sp dp k : Nat) : upZ (cpZ f g sp dp k) (dp + k) (f (sp + k)) = cpZ f g sp dp (k + 1) := by
  funext j
  unfold upZ cpZ
  by_cases c : j = dp + k
  · rw [if_pos c, if_pos (by omega)]
    congr 1
    omega
  · rw [if_neg c]
    by_cases c2 : dp ≤ j ∧ j < dp + k
    · rw [if_pos c2, if_pos (by omega)]
    · rw [if_neg c2, if_neg (by omega)]
section C25
variable {l : Launch} {G : xG} {n : Nat}
theorem s_mkeep2 {Φ : Option xV → yH → Nat → Prop} {h0 : yH} {c : Nat} {p i0 i1 i2 i3 i4 i5 i6 : Int} {I Kp Z : Nat → Int} (hm : h0 c = some (mo c i0 i1 i2 i3 i4 i5 i6)) (hI : h0 (c + 2) = some (ai 64 I)) (hZ : h0 (c + 4) = some (az 4 Z)) (hp : 0 ≤ p) (hp2 : p < 4)
    (hΦ : Φ (some (vi 1)) (yup (yup h0 (c + 3) (ai 1312 (cpZ I Kp 0 (328 * p + 264).toNat 64))) (c + 4) (az 4 (upZ Z p.toNat 1))) n) :
    ∀ (m k : Nat), k = 64 - m → m ≤ 64 → YW l G mX7_keep 2 0 0 Φ 45 [some (vr c), some (vi p), some (vi (k : Int))] [] (yup h0 (c + 3) (ai 1312 (cpZ I Kp 0 (328 * p + 264).toNat k))) n := by
  intro m
  induction m with
  | zero =>
    intro k hk hk0
    have e : k = 64 := by omega
    subst e
    refine y_run kX7_keep rfl ?_
    refine y_ic_ge kX7_keep rfl rfl (fun c1 => ?_) (fun c1 => absurd c1 (by omega))
    refine y_run kX7_keep rfl ?_
    refine y_get kX7_keep rfl rfl ((yup_ne _ _ (by omega)).trans hm) rfl ?_
    refine y_run kX7_keep rfl ?_
    refine y_zs kX7_keep rfl ((yup_ne _ _ (by omega)).trans hZ) (by omega) (by omega) (Or.inr rfl) ?_
    refine y_run kX7_keep rfl ?_
    exact y_zr kX7_keep rfl rfl (Or.inr rfl) hΦ
  | succ m ih =>
    intro k hk hk0
    refine y_run kX7_keep rfl ?_
    refine y_ic_ge kX7_keep rfl rfl (fun c1 => absurd c1 (by omega)) (fun c1 => ?_)
    refine y_run kX7_keep rfl ?_
    refine y_get kX7_keep rfl rfl ((yup_ne _ _ (by omega)).trans hm) rfl ?_
    refine y_run kX7_keep rfl ?_
    refine y_get kX7_keep rfl rfl ((yup_ne _ _ (by omega)).trans hm) rfl ?_
    refine y_run kX7_keep rfl ?_
    refine y_ie kX7_keep rfl ((yup_ne _ _ (by omega)).trans hI) (by omega) (by omega) (v := I (0 + k)) (by congr 1; omega) ?_
    refine y_is2 kX7_keep rfl (by omega) (by omega) ?_
    refine y_run kX7_keep rfl ?_
    rw [show (328 * p + 264 + (k : Int)).toNat = (328 * p + 264).toNat + k by omega, cpZ_s]
    exact ih (k + 1) (by omega) (by omega)
theorem s_mkeep1 {Φ : Option xV → yH → Nat → Prop} {h0 : yH} {c : Nat} {p i0 i1 i2 i3 i4 i5 i6 : Int} {B I Kp Z : Nat → Int} (hm : h0 c = some (mo c i0 i1 i2 i3 i4 i5 i6)) (hB : h0 (c + 1) = some (ai 264 B)) (hI : h0 (c + 2) = some (ai 64 I)) (hZ : h0 (c + 4) = some (az 4 Z)) (hp : 0 ≤ p) (hp2 : p < 4)
    (hΦ : Φ (some (vi 1)) (yup (yup h0 (c + 3) (ai 1312 (cpZ I (cpZ B Kp 0 (328 * p).toNat 264) 0 (328 * p + 264).toNat 64))) (c + 4) (az 4 (upZ Z p.toNat 1))) n) :
    ∀ (m k : Nat), k = 264 - m → m ≤ 264 → YW l G mX7_keep 2 0 0 Φ 12 [some (vr c), some (vi p), some (vi (k : Int))] [] (yup h0 (c + 3) (ai 1312 (cpZ B Kp 0 (328 * p).toNat k))) n := by
  intro m
  induction m with
  | zero =>
    intro k hk hk0
    have e : k = 264 := by omega
    subst e
    refine y_run kX7_keep rfl ?_
    refine y_ic_ge kX7_keep rfl rfl (fun c1 => ?_) (fun c1 => absurd c1 (by omega))
    refine y_run kX7_keep rfl ?_
    have := s_mkeep2 (l := l) (G := G) (n := n) (Φ := Φ) (Kp := cpZ B Kp 0 (328 * p).toNat 264) hm hI hZ hp hp2 hΦ 64 0 (by omega) (by omega)
    rw [cpZ_0] at this
    exact this
  | succ m ih =>
    intro k hk hk0
    refine y_run kX7_keep rfl ?_
    refine y_ic_ge kX7_keep rfl rfl (fun c1 => absurd c1 (by omega)) (fun c1 => ?_)
    refine y_run kX7_keep rfl ?_
    refine y_get kX7_keep rfl rfl ((yup_ne _ _ (by omega)).trans hm) rfl ?_
    refine y_run kX7_keep rfl ?_
    refine y_get kX7_keep rfl rfl ((yup_ne _ _ (by omega)).trans hm) rfl ?_
    refine y_run kX7_keep rfl ?_
    refine y_ie kX7_keep rfl ((yup_ne _ _ (by omega)).trans hB) (by omega) (by omega) (v := B (0 + k)) (by congr 1; omega) ?_
    refine y_is2 kX7_keep rfl (by omega) (by omega) ?_
    refine y_run kX7_keep rfl ?_
    rw [show (328 * p + (k : Int)).toNat = (328 * p).toNat + k by omega, cpZ_s]
    exact ih (k + 1) (by omega) (by omega)
theorem yup_self {h : yH} {a : Nat} {e : yE} (ha : h a = some e) : h = yup h a e := by
  funext q
  by_cases c : q = a
  · subst c; rw [yup_eq]; exact ha
  · rw [yup_ne _ _ c]
theorem c_mkeep {h : yH} {c : Nat} {p i0 i1 i2 i3 i4 i5 i6 : Int} {B I Kp Z : Nat → Int} (hm : h c = some (mo c i0 i1 i2 i3 i4 i5 i6)) (hB : h (c + 1) = some (ai 264 B)) (hI : h (c + 2) = some (ai 64 I)) (hK : h (c + 3) = some (ai 1312 Kp)) (hZ : h (c + 4) = some (az 4 Z)) (hp : inI p) :
    YM l G mX7_keep 2 0 0 [vr c, vi p] h n (fun r h' n' => ((¬ (0 ≤ p ∧ p < 4) ∧ r = some (vi 0) ∧ h' = h) ∨ ((0 ≤ p ∧ p < 4) ∧ r = some (vi 1) ∧ h' = yup (yup h (c + 3) (ai 1312 (cpZ I (cpZ B Kp 0 (328 * p).toNat 264) 0 (328 * p + 264).toNat 64))) (c + 4) (az 4 (upZ Z p.toNat 1)))) ∧ n' = n) := by
  refine YM.of kX7_keep (Nat.le_of_ble_eq_true rfl) (L0 := [some (vr c), some (vi p), none]) rfl ?_
  refine y_run kX7_keep rfl ?_
  refine y_cs kX7_keep kX7_in 2 (rest := []) rfl (by decide +kernel) (c_in p 4 hp ⟨by omega, by omega⟩) rfl rfl ?_
  rintro r h' n' ⟨rfl, rfl, rfl⟩
  refine y_bne kX7_keep rfl rfl (fun d => ?_) (fun d => ?_)
  · refine y_run kX7_keep rfl ?_
    refine YW.he (yup_self hK) ?_
    have := s_mkeep1 (l := l) (G := gT G) (n := n') (Kp := Kp) (Φ := fun r g m => ((¬ (0 ≤ p ∧ p < 4) ∧ r = some (vi 0) ∧ g = h') ∨ ((0 ≤ p ∧ p < 4) ∧ r = some (vi 1) ∧ g = yup (yup h' (c + 3) (ai 1312 (cpZ I (cpZ B Kp 0 (328 * p).toNat 264) 0 (328 * p + 264).toNat 64))) (c + 4) (az 4 (upZ Z p.toNat 1)))) ∧ m = n') hm hB hI hZ d.1 d.2 ⟨Or.inr ⟨d, rfl, rfl⟩, rfl⟩ 264 0 (by omega) (by omega)
    rw [cpZ_0] at this
    exact this
  · refine y_run kX7_keep rfl ?_
    exact y_zr kX7_keep rfl rfl (Or.inl rfl) ⟨Or.inl ⟨d, rfl, rfl⟩, rfl⟩
theorem s_mback2 {Φ : Option xV → yH → Nat → Prop} {h0 : yH} {c : Nat} {p i0 i1 i2 i3 i4 i5 i6 : Int} {I Kp : Nat → Int} (hm : h0 c = some (mo c i0 i1 i2 i3 i4 i5 i6)) (hK : h0 (c + 3) = some (ai 1312 Kp)) (hp : 0 ≤ p) (hp2 : p < 4)
    (hΦ : Φ (some (vi 1)) (yup h0 (c + 2) (ai 64 (cpZ Kp I (328 * p + 264).toNat 0 64))) n) :
    ∀ (m k : Nat), k = 64 - m → m ≤ 64 → YW l G mX7_back 2 0 0 Φ 54 [some (vr c), some (vi p), some (vi (k : Int))] [] (yup h0 (c + 2) (ai 64 (cpZ Kp I (328 * p + 264).toNat 0 k))) n := by
  intro m
  induction m with
  | zero =>
    intro k hk hk0
    have e : k = 64 := by omega
    subst e
    refine y_run kX7_back rfl ?_
    refine y_ic_ge kX7_back rfl rfl (fun c1 => ?_) (fun c1 => absurd c1 (by omega))
    refine y_run kX7_back rfl ?_
    exact y_zr kX7_back rfl rfl (Or.inr rfl) hΦ
  | succ m ih =>
    intro k hk hk0
    refine y_run kX7_back rfl ?_
    refine y_ic_ge kX7_back rfl rfl (fun c1 => absurd c1 (by omega)) (fun c1 => ?_)
    refine y_run kX7_back rfl ?_
    refine y_get kX7_back rfl rfl ((yup_ne _ _ (by omega)).trans hm) rfl ?_
    refine y_run kX7_back rfl ?_
    refine y_get kX7_back rfl rfl ((yup_ne _ _ (by omega)).trans hm) rfl ?_
    refine y_run kX7_back rfl ?_
    refine y_ie kX7_back rfl ((yup_ne _ _ (by omega)).trans hK) (by omega) (by omega) (v := Kp ((328 * p + 264).toNat + k)) (by congr 1; omega) ?_
    refine y_is2 kX7_back rfl (by omega) (by omega) ?_
    refine y_run kX7_back rfl ?_
    rw [show ((k : Int)).toNat = 0 + k by omega, cpZ_s]
    exact ih (k + 1) (by omega) (by omega)
theorem s_mback1 {Φ : Option xV → yH → Nat → Prop} {h0 : yH} {c : Nat} {p i0 i1 i2 i3 i4 i5 i6 : Int} {B I Kp : Nat → Int} (hm : h0 c = some (mo c i0 i1 i2 i3 i4 i5 i6)) (hI : h0 (c + 2) = some (ai 64 I)) (hK : h0 (c + 3) = some (ai 1312 Kp)) (hp : 0 ≤ p) (hp2 : p < 4)
    (hΦ : Φ (some (vi 1)) (yup (yup h0 (c + 1) (ai 264 (cpZ Kp B (328 * p).toNat 0 264))) (c + 2) (ai 64 (cpZ Kp I (328 * p + 264).toNat 0 64))) n) :
    ∀ (m k : Nat), k = 264 - m → m ≤ 264 → YW l G mX7_back 2 0 0 Φ 21 [some (vr c), some (vi p), some (vi (k : Int))] [] (yup h0 (c + 1) (ai 264 (cpZ Kp B (328 * p).toNat 0 k))) n := by
  intro m
  induction m with
  | zero =>
    intro k hk hk0
    have e : k = 264 := by omega
    subst e
    refine y_run kX7_back rfl ?_
    refine y_ic_ge kX7_back rfl rfl (fun c1 => ?_) (fun c1 => absurd c1 (by omega))
    refine y_run kX7_back rfl ?_
    have hI1 : yup h0 (c + 1) (ai 264 (cpZ Kp B (328 * p).toNat 0 264)) (c + 2) = some (ai 64 I) := (yup_ne _ _ (by omega)).trans hI
    refine YW.he (yup_self hI1) ?_
    have := s_mback2 (l := l) (G := G) (n := n) (Φ := Φ) (I := I) (h0 := yup h0 (c + 1) (ai 264 (cpZ Kp B (328 * p).toNat 0 264))) ((yup_ne _ _ (by omega)).trans hm) ((yup_ne _ _ (by omega)).trans hK) hp hp2 hΦ 64 0 (by omega) (by omega)
    rw [cpZ_0] at this
    exact this
  | succ m ih =>
    intro k hk hk0
    refine y_run kX7_back rfl ?_
    refine y_ic_ge kX7_back rfl rfl (fun c1 => absurd c1 (by omega)) (fun c1 => ?_)
    refine y_run kX7_back rfl ?_
    refine y_get kX7_back rfl rfl ((yup_ne _ _ (by omega)).trans hm) rfl ?_
    refine y_run kX7_back rfl ?_
    refine y_get kX7_back rfl rfl ((yup_ne _ _ (by omega)).trans hm) rfl ?_
    refine y_run kX7_back rfl ?_
    refine y_ie kX7_back rfl ((yup_ne _ _ (by omega)).trans hK) (by omega) (by omega) (v := Kp ((328 * p).toNat + k)) (by congr 1; omega) ?_
    refine y_is2 kX7_back rfl (by omega) (by omega) ?_
    refine y_run kX7_back rfl ?_
    rw [show ((k : Int)).toNat = 0 + k by omega, cpZ_s]
    exact ih (k + 1) (by omega) (by omega)
theorem c_mback {h : yH} {c : Nat} {p i0 i1 i2 i3 i4 i5 i6 : Int} {B I Kp Z : Nat → Int} (hm : h c = some (mo c i0 i1 i2 i3 i4 i5 i6)) (hB : h (c + 1) = some (ai 264 B)) (hI : h (c + 2) = some (ai 64 I)) (hK : h (c + 3) = some (ai 1312 Kp)) (hZ : h (c + 4) = some (az 4 Z)) (hZb : ∀ j, Z j = 0 ∨ Z j = 1) (hp : inI p) :
    YM l G mX7_back 2 0 0 [vr c, vi p] h n (fun r h' n' => ((¬ ((0 ≤ p ∧ p < 4) ∧ Z p.toNat = 1) ∧ r = some (vi 0) ∧ h' = h) ∨ (((0 ≤ p ∧ p < 4) ∧ Z p.toNat = 1) ∧ r = some (vi 1) ∧ h' = yup (yup h (c + 1) (ai 264 (cpZ Kp B (328 * p).toNat 0 264))) (c + 2) (ai 64 (cpZ Kp I (328 * p + 264).toNat 0 64)))) ∧ n' = n) := by
  refine YM.of kX7_back (Nat.le_of_ble_eq_true rfl) (L0 := [some (vr c), some (vi p), none]) rfl ?_
  refine y_run kX7_back rfl ?_
  refine y_cs kX7_back kX7_in 2 (rest := []) rfl (by decide +kernel) (c_in p 4 hp ⟨by omega, by omega⟩) rfl rfl ?_
  rintro r h' n' ⟨rfl, rfl, rfl⟩
  refine y_beq kX7_back rfl rfl (fun d => ?_) (fun d => ?_)
  · refine y_run kX7_back rfl ?_
    exact y_zr kX7_back rfl rfl (Or.inl rfl) ⟨Or.inl ⟨fun g => d g.1, rfl, rfl⟩, rfl⟩
  · refine y_run kX7_back rfl ?_
    refine y_get kX7_back rfl rfl hm rfl ?_
    refine y_run kX7_back rfl ?_
    refine y_za kX7_back rfl hZ (by omega) (by omega) ?_
    have hZp := hZb p.toNat
    refine y_if_ne kX7_back rfl rfl (fun d2 => ?_) (fun d2 => ?_)
    · refine y_run kX7_back rfl ?_
      refine YW.he (yup_self hB) ?_
      have := s_mback1 (l := l) (G := gT G) (n := n') (B := B) (Φ := fun r g m => ((¬ ((0 ≤ p ∧ p < 4) ∧ Z p.toNat = 1) ∧ r = some (vi 0) ∧ g = h') ∨ (((0 ≤ p ∧ p < 4) ∧ Z p.toNat = 1) ∧ r = some (vi 1) ∧ g = yup (yup h' (c + 1) (ai 264 (cpZ Kp B (328 * p).toNat 0 264))) (c + 2) (ai 64 (cpZ Kp I (328 * p + 264).toNat 0 64)))) ∧ m = n') hm hI hK d.1 d.2 ⟨Or.inr ⟨⟨d, by omega⟩, rfl, rfl⟩, rfl⟩ 264 0 (by omega) (by omega)
      rw [cpZ_0] at this
      exact this
    · refine y_run kX7_back rfl ?_
      exact y_zr kX7_back rfl rfl (Or.inl rfl) ⟨Or.inl ⟨fun g => by omega, rfl, rfl⟩, rfl⟩
end C25
