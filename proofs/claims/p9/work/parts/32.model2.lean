/-- the looks of box v all 0, up to place k; then there; then its ends -/
def bz (B : Nat → Int) (v k : Int) : Nat → Int := fun j => if 11 * v + 7 ≤ (j : Int) ∧ (j : Int) < 11 * v + k then 0 else B j
def bcp (B T : Nat → Int) (v k : Int) : Nat → Int := fun j => if 11 * v + 1 ≤ (j : Int) ∧ (j : Int) < 11 * v + 1 + k then T (j - (11 * v + 1).toNat) else B j
theorem bz_7 (B : Nat → Int) (v : Int) : bz B v 7 = B := by
  funext j
  unfold bz
  rw [if_neg (by omega)]
theorem bz_s (B : Nat → Int) {v k : Int} (hv : 0 ≤ v) (hk : 7 ≤ k) : upZ (bz B v k) (11 * v + k).toNat 0 = bz B v (k + 1) := by
  funext j
  unfold upZ bz
  by_cases c : j = (11 * v + k).toNat
  · rw [if_pos c, if_pos (by omega)]
  · rw [if_neg c]
    by_cases c2 : 11 * v + 7 ≤ (j : Int) ∧ (j : Int) < 11 * v + k
    · rw [if_pos c2, if_pos (by omega)]
    · rw [if_neg c2, if_neg (by omega)]
theorem bcp_0 (B T : Nat → Int) (v : Int) : bcp B T v 0 = B := by
  funext j
  unfold bcp
  rw [if_neg (by omega)]
theorem bcp_s (B T : Nat → Int) {v k : Int} (hv : 0 ≤ v) (hk : 0 ≤ k) : upZ (bcp B T v k) (11 * v + 1 + k).toNat (T k.toNat) = bcp B T v (k + 1) := by
  funext j
  unfold upZ bcp
  by_cases c : j = (11 * v + 1 + k).toNat
  · rw [if_pos c, if_pos (by omega)]
    congr 1
    omega
  · rw [if_neg c]
    by_cases c2 : 11 * v + 1 ≤ (j : Int) ∧ (j : Int) < 11 * v + 1 + k
    · rw [if_pos c2, if_pos (by omega)]
    · rw [if_neg c2, if_neg (by omega)]
section C21
variable {l : Launch} {G : xG} {h : yH} {n : Nat}
/-- the two loops of place -/
theorem s_pl2 {Φ : Option xV → yH → Nat → Prop} {c : Nat} {v x y z dx dy dz u i0 i1 i2 i3 i4 i5 i6 : Int} {B T : Nat → Int} {h0 : yH} (hv : 0 ≤ v) (hv2 : v < 24) (hm : h0 c = some (mo c i0 i1 i2 i3 i4 i5 i6)) (hT : h0 (c + 14) = some (ai 6 T)) (hΦ : Φ (some (vi 0)) (yup h0 (c + 1) (ai 264 (bcp B T v 6))) n) :
    ∀ (m : Nat) (k : Int), k = 6 - (m : Int) → 0 ≤ k → YW l G mX7_place 3 0 0 Φ 168 [some (vr c), some (vi v), some (vi x), some (vi y), some (vi z), some (vi dx), some (vi dy), some (vi dz), some (vi u), some (vi k)] [] (yup h0 (c + 1) (ai 264 (bcp B T v k))) n := by
  intro m
  induction m with
  | zero =>
    intro k hk hk0
    have e : k = 6 := by omega
    subst e
    refine y_run kX7_place rfl ?_
    refine y_ic_ge kX7_place rfl rfl (fun c1 => ?_) (fun c1 => absurd c1 (by omega))
    refine y_run kX7_place rfl ?_
    exact y_ir kX7_place rfl rfl hΦ
  | succ m ih =>
    intro k hk hk0
    refine y_run kX7_place rfl ?_
    refine y_ic_ge kX7_place rfl rfl (fun c1 => absurd c1 (by omega)) (fun c1 => ?_)
    refine y_run kX7_place rfl ?_
    refine y_get kX7_place rfl rfl ((yup_ne _ _ (by omega)).trans hm) rfl ?_
    refine y_run kX7_place rfl ?_
    refine y_get kX7_place rfl rfl ((yup_ne _ _ (by omega)).trans hm) rfl ?_
    refine y_run kX7_place rfl ?_
    refine y_ia kX7_place rfl ((yup_ne _ _ (by omega)).trans hT) (by omega) (by omega) ?_
    refine y_is2 kX7_place rfl (by omega) (by omega) ?_
    refine y_run kX7_place rfl ?_
    rw [bcp_s B T hv hk0]
    exact ih (k + 1) (by omega) (by omega)
theorem s_pl1 {Φ : Option xV → yH → Nat → Prop} {c : Nat} {v x y z dx dy dz u i0 i1 i2 i3 i4 i5 i6 : Int} {B T : Nat → Int} {h0 : yH} (hv : 0 ≤ v) (hv2 : v < 24) (hm : h0 c = some (mo c i0 i1 i2 i3 i4 i5 i6)) (hT : h0 (c + 14) = some (ai 6 T)) (hΦ : Φ (some (vi 0)) (yup h0 (c + 1) (ai 264 (bcp (upZ (bz B v 11) (11 * v).toNat 1) T v 6))) n) :
    ∀ (m : Nat) (k : Int), k = 11 - (m : Int) → 7 ≤ k → YW l G mX7_place 3 0 0 Φ 129 [some (vr c), some (vi v), some (vi x), some (vi y), some (vi z), some (vi dx), some (vi dy), some (vi dz), some (vi u), some (vi k)] [] (yup h0 (c + 1) (ai 264 (bz B v k))) n := by
  intro m
  induction m with
  | zero =>
    intro k hk hk0
    have e : k = 11 := by omega
    subst e
    refine y_run kX7_place rfl ?_
    refine y_ic_ge kX7_place rfl rfl (fun c1 => ?_) (fun c1 => absurd c1 (by omega))
    refine y_run kX7_place rfl ?_
    refine y_get kX7_place rfl rfl ((yup_ne _ _ (by omega)).trans hm) rfl ?_
    refine y_run kX7_place rfl ?_
    refine y_is2 kX7_place rfl (by omega) (by omega) ?_
    refine y_run kX7_place rfl ?_
    have := s_pl2 (l := l) (G := G) (n := n) (Φ := Φ) (x := x) (y := y) (z := z) (dx := dx) (dy := dy) (dz := dz) (u := u) (B := upZ (bz B v 11) (11 * v).toNat 1) hv hv2 hm hT hΦ 6 0 (by omega) (by omega)
    rw [bcp_0] at this
    exact this
  | succ m ih =>
    intro k hk hk0
    refine y_run kX7_place rfl ?_
    refine y_ic_ge kX7_place rfl rfl (fun c1 => absurd c1 (by omega)) (fun c1 => ?_)
    refine y_run kX7_place rfl ?_
    refine y_get kX7_place rfl rfl ((yup_ne _ _ (by omega)).trans hm) rfl ?_
    refine y_run kX7_place rfl ?_
    refine y_is2 kX7_place rfl (by omega) (by omega) ?_
    refine y_run kX7_place rfl ?_
    rw [bz_s B hv hk0]
    exact ih (k + 1) (by omega) (by omega)
end C21
