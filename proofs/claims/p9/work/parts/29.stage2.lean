section C12
variable {l : Launch} {G : xG} {h : yH} {n : Nat}
def pnt (t v c p q u : Int) : Prop := isT t v ∧ (0 ≤ c ∧ c < 16) ∧ (0 ≤ p ∧ p < 8) ∧ (0 ≤ q ∧ q < 8) ∧ (0 ≤ u ∧ u < 8)
def lkS (K : Nat → Int) (v c p q u : Int) : Nat → Int := upZ (upZ (upZ (upZ K (v * 4).toNat c) (v * 4 + 1).toNat p) (v * 4 + 2).toNat q) (v * 4 + 3).toNat u
theorem c_paint {b : Nat} {t v c p q u : Int} {E K R T : Nat → Int} {fs : List xV} (hx : h b = some (ob 6 (vr (b + 1) :: fs))) (hs : SC h (b + 1) t E K R T) (hv : inI v) (hc : inI c) (hp : inI p) (hq : inI q) (hu : inI u) : YM l G mX6_paint 2 0 0 [vr b, vi v, vi c, vi p, vi q, vi u] h n (fun r h' n' => ((¬ pnt t v c p q u ∧ r = some (vi 0) ∧ h' = h) ∨ (pnt t v c p q u ∧ r = some (vi 1) ∧ SC h' (b + 1) t E (lkS K v c p q u) R T ∧ ∀ z, z ≠ b + 3 → h' z = h z)) ∧ n' = n) := by
  refine YM.of kX6_paint (Nat.le_of_ble_eq_true rfl) (L0 := [some (vr b), some (vi v), some (vi c), some (vi p), some (vi q), some (vi u), none]) rfl ?_
  have tail : ∀ z : Int, ((z = 1 ∧ ((0 ≤ c ∧ c < 16) ∧ (0 ≤ p ∧ p < 8) ∧ (0 ≤ q ∧ q < 8) ∧ (0 ≤ u ∧ u < 8))) ∨ (z = 0 ∧ ¬ ((0 ≤ c ∧ c < 16) ∧ (0 ≤ p ∧ p < 8) ∧ (0 ≤ q ∧ q < 8) ∧ (0 ≤ u ∧ u < 8)))) → YW l (gT G) mX6_paint 2 0 0 (fun r h' n' => ((¬ pnt t v c p q u ∧ r = some (vi 0) ∧ h' = h) ∨ (pnt t v c p q u ∧ r = some (vi 1) ∧ SC h' (b + 1) t E (lkS K v c p q u) R T ∧ ∀ z, z ≠ b + 3 → h' z = h z)) ∧ n' = n) 46 [some (vr b), some (vi v), some (vi c), some (vi p), some (vi q), some (vi u), some (vi z)] [vr b] h n := by
    intro z hz
    refine y_get kX6_paint rfl rfl hx rfl ?_
    refine y_run kX6_paint rfl ?_
    refine y_cv kX6_paint kX5_has 1 (rest := []) rfl hs.1 (by decide +kernel) (c_Shas hs hv) rfl rfl ?_
    rintro r h' n' ⟨rfl, rfl, rfl⟩
    refine y_beq kX6_paint rfl rfl (fun c1 => ?_) (fun c1 => ?_)
    · refine y_run kX6_paint rfl ?_
      exact y_zr kX6_paint rfl rfl (Or.inl rfl) ⟨Or.inl ⟨fun q => c1 q.1, rfl, rfl⟩, rfl⟩
    · refine y_run kX6_paint rfl ?_
      rcases hz with ⟨rfl, hz⟩ | ⟨rfl, hz⟩
      · refine y_if_ne kX6_paint rfl rfl (fun _ => ?_) (fun q => absurd q (by omega))
        refine y_run kX6_paint rfl ?_
        refine y_get kX6_paint rfl rfl hx rfl ?_
        refine y_run kX6_paint rfl ?_
        refine y_cv kX6_paint kX5_setLooks 5 (rest := []) rfl hs.1 (by decide +kernel) (c_SsetLooks hs (v := v) (c := c) (p := p) (q := q) (u := u) c1.1.1 c1.1.2) rfl rfl ?_
        rintro r h' n' ⟨rfl, rfl, rfl⟩
        refine y_run kX6_paint rfl ?_
        exact y_zr kX6_paint rfl rfl (Or.inr rfl) ⟨Or.inr ⟨⟨c1, hz⟩, rfl, hs.up2 _, fun q hq => yup_ne _ _ (by omega)⟩, rfl⟩
      · refine y_if_ne kX6_paint rfl rfl (fun q => absurd rfl q) (fun _ => ?_)
        refine y_run kX6_paint rfl ?_
        exact y_zr kX6_paint rfl rfl (Or.inl rfl) ⟨Or.inl ⟨fun q => hz q.2, rfl, rfl⟩, rfl⟩
  refine y_run kX6_paint rfl ?_
  refine y_cs kX6_paint kX6_isBelow 2 (rest := []) rfl (by decide +kernel) (c_isBelow c 16 hc ⟨by omega, by omega⟩) rfl rfl ?_
  rintro r h' n' ⟨rfl, rfl, rfl⟩
  refine y_beq kX6_paint rfl rfl (fun d0 => ?_) (fun d0 => ?_)
  · refine y_run kX6_paint rfl ?_
    exact tail 0 (Or.inr ⟨rfl, fun g => d0 g.1⟩)
  refine y_run kX6_paint rfl ?_
  refine y_cs kX6_paint kX6_isBelow 2 (rest := []) rfl (by decide +kernel) (c_isBelow p 8 hp ⟨by omega, by omega⟩) rfl rfl ?_
  rintro r h' n' ⟨rfl, rfl, rfl⟩
  refine y_beq kX6_paint rfl rfl (fun d1 => ?_) (fun d1 => ?_)
  · refine y_run kX6_paint rfl ?_
    exact tail 0 (Or.inr ⟨rfl, fun g => d1 g.2.1⟩)
  refine y_run kX6_paint rfl ?_
  refine y_cs kX6_paint kX6_isBelow 2 (rest := []) rfl (by decide +kernel) (c_isBelow q 8 hq ⟨by omega, by omega⟩) rfl rfl ?_
  rintro r h' n' ⟨rfl, rfl, rfl⟩
  refine y_beq kX6_paint rfl rfl (fun d2 => ?_) (fun d2 => ?_)
  · refine y_run kX6_paint rfl ?_
    exact tail 0 (Or.inr ⟨rfl, fun g => d2 g.2.2.1⟩)
  refine y_run kX6_paint rfl ?_
  refine y_cs kX6_paint kX6_isBelow 2 (rest := []) rfl (by decide +kernel) (c_isBelow u 8 hu ⟨by omega, by omega⟩) rfl rfl ?_
  rintro r h' n' ⟨rfl, rfl, rfl⟩
  refine y_beq kX6_paint rfl rfl (fun d3 => ?_) (fun d3 => ?_)
  · refine y_run kX6_paint rfl ?_
    exact tail 0 (Or.inr ⟨rfl, fun g => d3 g.2.2.2⟩)
  refine y_run kX6_paint rfl ?_
  exact tail 1 (Or.inl ⟨rfl, d0, d1, d2, d3⟩)
def plc (v x y z dx dy dz : Int) : Prop := (0 ≤ v ∧ v < 24) ∧ lies x dx ∧ lies y dy ∧ lies z dz
def tr6 (T : Nat → Int) (x y z dx dy dz : Int) : Nat → Int := upZ (upZ (upZ (upZ (upZ (upZ T 0 x) 1 (x + dx)) 2 y) 3 (y + dy)) 4 z) 5 (z + dz)
theorem tr6_b {T : Nat → Int} {v x y z dx dy dz : Int} (hp : plc v x y z dx dy dz) (hT : ∀ j, -1 ≤ T j ∧ T j ≤ 33) : ∀ j, -1 ≤ tr6 T x y z dx dy dz j ∧ tr6 T x y z dx dy dz j ≤ 33 := by
  intro j
  obtain ⟨-, ⟨_, _, _, _⟩, ⟨_, _, _, _⟩, _, _, _, _⟩ := hp
  unfold tr6 upZ
  have := hT j
  repeat' split
  all_goals omega
theorem c_place {b : Nat} {t v x y z dx dy dz : Int} {E K R T : Nat → Int} {fs : List xV} (hx : h b = some (ob 6 (vr (b + 1) :: fs))) (hs : SC h (b + 1) t E K R T) (hv : inI v) (h1 : inI x) (h2 : inI y) (h3 : inI z) (h4 : inI dx) (h5 : inI dy) (h6 : inI dz) (hE : ∀ j, 0 ≤ E j ∧ E j ≤ 32) (hT : ∀ j, -1 ≤ T j ∧ T j ≤ 33) : YM l G mX6_place 3 0 0 [vr b, vi v, vi x, vi y, vi z, vi dx, vi dy, vi dz] h n (fun r h' n' => ((¬ plc v x y z dx dy dz ∧ r = some (vi 1) ∧ h' = h) ∨ (plc v x y z dx dy dz ∧ ∃ g, least24 (wayP t E (tr6 T x y z dx dy dz) v) g ∧ ((g ≠ -1 ∧ r = some (vi (2 + 8 * g)) ∧ SC h' (b + 1) t E K R (tr6 T x y z dx dy dz)) ∨ (g = -1 ∧ r = some (vi 0) ∧ SC h' (b + 1) (if tbt t v.toNat then t else yor t (yshl 1 v)) (cpZ (tr6 T x y z dx dy dz) E 0 (v * 6).toNat 6) (if tbt t v.toNat then K else lk0 K v) R (tr6 T x y z dx dy dz))))) ∧ (∀ q, q < b + 1 ∨ b + 6 ≤ q → h' q = h q) ∧ n' = n) := by
  refine YM.of kX6_place (Nat.le_of_ble_eq_true rfl) (L0 := [some (vr b), some (vi v), some (vi x), some (vi y), some (vi z), some (vi dx), some (vi dy), some (vi dz), none]) rfl ?_
  generalize hΦ : (fun (r : Option xV) (h' : yH) (n' : Nat) => ((¬ plc v x y z dx dy dz ∧ r = some (vi 1) ∧ h' = h) ∨ (plc v x y z dx dy dz ∧ ∃ g, least24 (wayP t E (tr6 T x y z dx dy dz) v) g ∧ ((g ≠ -1 ∧ r = some (vi (2 + 8 * g)) ∧ SC h' (b + 1) t E K R (tr6 T x y z dx dy dz)) ∨ (g = -1 ∧ r = some (vi 0) ∧ SC h' (b + 1) (if tbt t v.toNat then t else yor t (yshl 1 v)) (cpZ (tr6 T x y z dx dy dz) E 0 (v * 6).toNat 6) (if tbt t v.toNat then K else lk0 K v) R (tr6 T x y z dx dy dz))))) ∧ (∀ q, q < b + 1 ∨ b + 6 ≤ q → h' q = h q) ∧ n' = n) = Φ
  have hno : ¬ plc v x y z dx dy dz → YW l (gT G) mX6_place 3 0 0 Φ 37 [some (vr b), some (vi v), some (vi x), some (vi y), some (vi z), some (vi dx), some (vi dy), some (vi dz), none] [] h n := fun c => by
    refine y_run kX6_place rfl ?_
    refine y_ir kX6_place rfl rfl ?_
    rw [← hΦ]
    exact ⟨Or.inl ⟨c, rfl, rfl⟩, fun q _ => rfl, rfl⟩
  refine y_run kX6_place rfl ?_
  refine y_cs kX6_place kX6_isBelow 2 (rest := []) rfl (by decide +kernel) (c_isBelow v 24 hv ⟨by omega, by omega⟩) rfl rfl ?_
  rintro r h' n' ⟨rfl, rfl, rfl⟩
  refine y_beq kX6_place rfl rfl (fun c => hno (fun q => c q.1)) (fun c0 => ?_)
  refine y_run kX6_place rfl ?_
  refine y_cs kX6_place kX6_liesInRoom 2 (rest := []) rfl (by decide +kernel) (c_liesInRoom (f := x) (s := dx) h1 h4) rfl rfl ?_
  rintro r h' n' ⟨hr0, rfl, rfl⟩
  rcases hr0 with ⟨rfl, c1⟩ | ⟨rfl, c1⟩
  case inr => exact y_if_eq kX6_place rfl rfl (fun _ => hno (fun q => c1 q.2.1)) (fun q => absurd rfl q)
  refine y_if_eq kX6_place rfl rfl (fun q => absurd q (by omega)) (fun _ => ?_)
  refine y_run kX6_place rfl ?_
  refine y_cs kX6_place kX6_liesInRoom 2 (rest := []) rfl (by decide +kernel) (c_liesInRoom (f := y) (s := dy) h2 h5) rfl rfl ?_
  rintro r h' n' ⟨hr1, rfl, rfl⟩
  rcases hr1 with ⟨rfl, c2⟩ | ⟨rfl, c2⟩
  case inr => exact y_if_eq kX6_place rfl rfl (fun _ => hno (fun q => c2 q.2.2.1)) (fun q => absurd rfl q)
  refine y_if_eq kX6_place rfl rfl (fun q => absurd q (by omega)) (fun _ => ?_)
  refine y_run kX6_place rfl ?_
  refine y_cs kX6_place kX6_liesInRoom 2 (rest := []) rfl (by decide +kernel) (c_liesInRoom (f := z) (s := dz) h3 h6) rfl rfl ?_
  rintro r h' n' ⟨hr2, rfl, rfl⟩
  rcases hr2 with ⟨rfl, c3⟩ | ⟨rfl, c3⟩
  case inr => exact y_if_ne kX6_place rfl rfl (fun q => absurd rfl q) (fun _ => hno (fun q => c3 q.2.2.2))
  refine y_if_ne kX6_place rfl rfl (fun _ => ?_) (fun q => absurd q (by omega))
  have hp : plc v x y z dx dy dz := ⟨c0, c1, c2, c3⟩
  have hTb := tr6_b hp hT
  have s1 := hs.up4 (upZ (upZ T 0 x) 1 (x + dx))
  have s2 := s1.up4 (upZ (upZ (upZ (upZ T 0 x) 1 (x + dx)) 2 y) 3 (y + dy))
  have s3 := s2.up4 (tr6 T x y z dx dy dz)
  have f0 : ∀ {g : yH} {e : yE}, g b = some (ob 6 (vr (b + 1) :: fs)) → yup g (b + 1 + 4) e b = some (ob 6 (vr (b + 1) :: fs)) := fun hg => (yup_ne _ _ (by omega)).trans hg
  refine y_run kX6_place rfl ?_
  refine y_get kX6_place rfl rfl hx rfl ?_
  refine y_run kX6_place rfl ?_
  refine y_cv kX6_place kX5_tryAlong 3 (rest := []) rfl hs.1 (by decide +kernel) (c_StryAlong hs (x := 0) (f := x) (s := dx) (by omega) (by omega)) rfl rfl ?_
  rintro r h' n' ⟨rfl, rfl, rfl⟩
  refine y_run kX6_place rfl ?_
  refine y_get kX6_place rfl rfl (f0 hx) rfl ?_
  refine y_run kX6_place rfl ?_
  refine y_cv kX6_place kX5_tryAlong 3 (rest := []) rfl s1.1 (by decide +kernel) (c_StryAlong s1 (x := 1) (f := y) (s := dy) (by omega) (by omega)) rfl rfl ?_
  rintro r h' n' ⟨rfl, rfl, rfl⟩
  refine y_run kX6_place rfl ?_
  refine y_get kX6_place rfl rfl (f0 (f0 hx)) rfl ?_
  refine y_run kX6_place rfl ?_
  refine y_cv kX6_place kX5_tryAlong 3 (rest := []) rfl s2.1 (by decide +kernel) (c_StryAlong s2 (x := 2) (f := z) (s := dz) (by omega) (by omega)) rfl rfl ?_
  rintro r h' n' ⟨rfl, rfl, rfl⟩
  refine y_run kX6_place rfl ?_
  refine y_get kX6_place rfl rfl (f0 (f0 (f0 hx))) rfl ?_
  refine y_run kX6_place rfl ?_
  refine y_cv kX6_place kX5_lowestInTheWay 1 (rest := []) rfl s3.1 (by decide +kernel) (c_Slowest s3 hv (fun j => ⟨by have := hE j; omega, by have := hE j; omega⟩) (fun j => ⟨by have := hTb j; omega, by have := hTb j; omega⟩)) rfl rfl ?_
  rintro r h' n' ⟨⟨g, rfl, hg⟩, rfl, rfl⟩
  have hfr : ∀ q, q < b + 1 ∨ b + 6 ≤ q → yup (yup (yup h' (b + 1 + 4) (ai 6 (upZ (upZ T 0 x) 1 (x + dx)))) (b + 1 + 4) (ai 6 (upZ (upZ (upZ (upZ T 0 x) 1 (x + dx)) 2 y) 3 (y + dy)))) (b + 1 + 4) (ai 6 (tr6 T x y z dx dy dz)) q = h' q := fun q hq => (yup_ne _ _ (by omega)).trans ((yup_ne _ _ (by omega)).trans (yup_ne _ _ (by omega)))
  have hgb : -1 ≤ g ∧ g < 24 := by rcases hg with ⟨a1, a2, -⟩ | ⟨a1, -⟩ <;> omega
  refine y_run kX6_place rfl ?_
  refine y_ic_eq kX6_place rfl rfl (fun c => ?_) (fun c => ?_)
  · refine y_run kX6_place rfl ?_
    refine y_get kX6_place rfl rfl (f0 (f0 (f0 hx))) rfl ?_
    refine y_run kX6_place rfl ?_
    refine y_cv kX6_place kX5_settle 1 (rest := []) rfl s3.1 (by decide +kernel) (c_Ssettle s3 c0.1 c0.2) rfl rfl ?_
    rintro r h' n' ⟨rfl, k1, k2, rfl⟩
    refine y_run kX6_place rfl ?_
    refine y_ir kX6_place rfl rfl ?_
    rw [← hΦ]
    exact ⟨Or.inr ⟨hp, g, hg, Or.inr ⟨c, rfl, k1⟩⟩, fun q hq => (k2 q (by omega)).trans (hfr q hq), rfl⟩
  · refine y_run kX6_place rfl ?_
    refine y_ir kX6_place rfl rfl ?_
    rw [← hΦ]
    exact ⟨Or.inr ⟨hp, g, hg, Or.inl ⟨c, rfl, s3⟩⟩, hfr, rfl⟩
end C12
