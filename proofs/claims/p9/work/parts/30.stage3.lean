section C13
variable {l : Launch} {G : xG} {h : yH} {n : Nat}
/-- which slides are asked for rightly -/
def sld (t v x M : Int) : Prop := isT t v ∧ (0 ≤ x ∧ x < 6) ∧ (0 ≤ M ∧ M < 33)
def sAx (x : Int) : Int := if x < 3 then x else x - 3
def sSt (x : Int) : Int := if x < 3 then 1 else -1
/-- w is how far box v goes -/
def went (t : Int) (E : Nat → Int) (v x s M w : Int) : Prop := 0 ≤ w ∧ w ≤ M ∧ (∀ i, 1 ≤ i → i ≤ w → goOK t E v x (s * i)) ∧ (w = M ∨ ¬ goOK t E v x (s * (w + 1)))
theorem c_slide {b : Nat} {t v x M : Int} {E K R T : Nat → Int} {fs : List xV} (hx : h b = some (ob 6 (vr (b + 1) :: fs))) (hs : SC h (b + 1) t E K R T) (hv : inI v) (hi : inI x) (hm : inI M) (hE : ∀ j, 0 ≤ E j ∧ E j ≤ 32) (hT : ∀ j, -1 ≤ T j ∧ T j ≤ 33) (hwd : ∀ v, isT t v → ∀ x, 0 ≤ x → x < 3 → E (v * 6 + 2 * x).toNat ≤ E (v * 6 + 2 * x + 1).toNat) :
    YM l G mX6_slide 4 0 0 [vr b, vi v, vi x, vi M] h n (fun r h' n' => ((¬ sld t v x M ∧ r = some (vi (-1)) ∧ h' = h) ∨ (sld t v x M ∧ ∃ w T', r = some (vi w) ∧ went t E v (sAx x) (sSt x) M w ∧ SC h' (b + 1) t (shE E v (sAx x) (sSt x * w)) K R T' ∧ (∀ j, -1 ≤ T' j ∧ T' j ≤ 33) ∧ (∀ q, q < b + 1 ∨ b + 6 ≤ q → h' q = h q))) ∧ n' = n) := by
  refine YM.of kX6_slide (Nat.le_of_ble_eq_true rfl) (L0 := [some (vr b), some (vi v), some (vi x), some (vi M)]) rfl ?_
  generalize hΦ : (fun (r : Option xV) (h' : yH) (n' : Nat) => ((¬ sld t v x M ∧ r = some (vi (-1)) ∧ h' = h) ∨ (sld t v x M ∧ ∃ w T', r = some (vi w) ∧ went t E v (sAx x) (sSt x) M w ∧ SC h' (b + 1) t (shE E v (sAx x) (sSt x * w)) K R T' ∧ (∀ j, -1 ≤ T' j ∧ T' j ≤ 33) ∧ (∀ q, q < b + 1 ∨ b + 6 ≤ q → h' q = h q))) ∧ n' = n) = Φ
  have hno : ¬ sld t v x M → YW l (gT G) mX6_slide 4 0 0 Φ 29 [some (vr b), some (vi v), some (vi x), some (vi M)] [] h n := fun c => by
    refine y_run kX6_slide rfl ?_
    refine y_ir kX6_slide rfl rfl ?_
    rw [← hΦ]
    exact ⟨Or.inl ⟨c, rfl, rfl⟩, rfl⟩
  refine y_run kX6_slide rfl ?_
  refine y_get kX6_slide rfl rfl hx rfl ?_
  refine y_run kX6_slide rfl ?_
  refine y_cv kX6_slide kX5_has 1 (rest := []) rfl hs.1 (by decide +kernel) (c_Shas hs hv) rfl rfl ?_
  rintro r h' n' ⟨rfl, rfl, rfl⟩
  refine y_beq kX6_slide rfl rfl (fun c => hno (fun q => c q.1)) (fun c0 => ?_)
  refine y_run kX6_slide rfl ?_
  refine y_cs kX6_slide kX6_isBelow 2 (rest := []) rfl (by decide +kernel) (c_isBelow x 6 hi ⟨by omega, by omega⟩) rfl rfl ?_
  rintro r h' n' ⟨rfl, rfl, rfl⟩
  refine y_beq kX6_slide rfl rfl (fun c => hno (fun q => c q.2.1)) (fun c1 => ?_)
  refine y_run kX6_slide rfl ?_
  refine y_cs kX6_slide kX6_isBelow 2 (rest := []) rfl (by decide +kernel) (c_isBelow M 33 hm ⟨by omega, by omega⟩) rfl rfl ?_
  rintro r h' n' ⟨rfl, rfl, rfl⟩
  refine y_bne kX6_slide rfl rfl (fun c2 => ?_) (fun c => hno (fun q => c q.2.2))
  refine y_run kX6_slide rfl ?_
  refine y_ic_ge kX6_slide rfl rfl (fun c3 => ?_) (fun c3 => ?_)
  · have e1 : sAx x = x - 3 := by unfold sAx; rw [if_neg (by omega)]
    have e2 : sSt x = -1 := by unfold sSt; rw [if_neg (by omega)]
    refine y_run kX6_slide rfl ?_
    refine y_get kX6_slide rfl rfl hx rfl ?_
    refine y_run kX6_slide rfl ?_
    refine y_cv kX6_slide kX5_go 4 (rest := []) rfl hs.1 (by decide +kernel) (c_Sgo hs c0.1.1 c0.1.2 (x := x - 3) (s := -1) (M := M) (by omega) (by omega) (Or.inr rfl) (by omega) (by omega) c0.2 hE (hwd v c0 (x - 3) (by omega) (by omega)) hT) rfl rfl ?_
    rintro r h' n' ⟨w, T', rfl, a1, a2, a3, a4, a5, a6, a7, rfl⟩
    refine y_ir kX6_slide rfl rfl ?_
    rw [← hΦ, e1, e2]
    exact ⟨Or.inr ⟨⟨c0, c1, c2⟩, w, T', rfl, ⟨a1, a2, a3, a4⟩, a5, a6, fun q hq => a7 q (by omega)⟩, rfl⟩
  · have e1 : sAx x = x := by unfold sAx; rw [if_pos (by omega)]
    have e2 : sSt x = 1 := by unfold sSt; rw [if_pos (by omega)]
    refine y_run kX6_slide rfl ?_
    refine y_get kX6_slide rfl rfl hx rfl ?_
    refine y_run kX6_slide rfl ?_
    refine y_cv kX6_slide kX5_go 4 (rest := []) rfl hs.1 (by decide +kernel) (c_Sgo hs c0.1.1 c0.1.2 (x := x) (s := 1) (M := M) (by omega) (by omega) (Or.inl rfl) (by omega) (by omega) c0.2 hE (hwd v c0 x (by omega) (by omega)) hT) rfl rfl ?_
    rintro r h' n' ⟨w, T', rfl, a1, a2, a3, a4, a5, a6, a7, rfl⟩
    refine y_run kX6_slide rfl ?_
    refine y_ir kX6_slide rfl rfl ?_
    rw [← hΦ, e1, e2]
    exact ⟨Or.inr ⟨⟨c0, c1, c2⟩, w, T', rfl, ⟨a1, a2, a3, a4⟩, a5, a6, fun q hq => a7 q (by omega)⟩, rfl⟩
/-- keep: the scene is copied into the kept one of that place -/
theorem c_keep {b : Nat} {t p : Int} {E K R T : Nat → Int} {fs : List xV} {Q : Nat → Option Nat} {Z : Nat → Int} {tk : Int} {Ek Kk Rk Tk : Nat → Int} {kb : Nat} (hx : h b = some (ob 6 (vr (b + 1) :: vr (b + 6) :: vr (b + 7) :: fs))) (hs : SC h (b + 1) t E K R T) (hq : h (b + 6) = some (aq 2 4 Q)) (hz : h (b + 7) = some (az 4 Z)) (hp : inI p) (hQ : 0 ≤ p → p < 4 → Q p.toNat = some kb) (hk : 0 ≤ p → p < 4 → SC h kb tk Ek Kk Rk Tk) (hkb : b + 8 ≤ kb) :
    YM l G mX6_keep 2 0 0 [vr b, vi p] h n (fun r h' n' => ((¬ (0 ≤ p ∧ p < 4) ∧ r = some (vi 0) ∧ h' = h) ∨ ((0 ≤ p ∧ p < 4) ∧ r = some (vi 1) ∧ SC h' kb t (cpZ E Ek 0 0 144) (cpZ K Kk 0 0 96) (cpZ R Rk 0 0 64) Tk ∧ h' (b + 7) = some (az 4 (upZ Z p.toNat 1)) ∧ ∀ q, q ≠ b + 7 → q < kb ∨ kb + 5 ≤ q → h' q = h q)) ∧ n' = n) := by
  refine YM.of kX6_keep (Nat.le_of_ble_eq_true rfl) (L0 := [some (vr b), some (vi p)]) rfl ?_
  refine y_run kX6_keep rfl ?_
  refine y_cs kX6_keep kX6_isBelow 2 (rest := []) rfl (by decide +kernel) (c_isBelow p 4 hp ⟨by omega, by omega⟩) rfl rfl ?_
  rintro r h' n' ⟨rfl, rfl, rfl⟩
  refine y_bne kX6_keep rfl rfl (fun c => ?_) (fun c => ?_)
  · refine y_run kX6_keep rfl ?_
    refine y_get kX6_keep rfl rfl hx rfl ?_
    refine y_run kX6_keep rfl ?_
    refine y_qa kX6_keep rfl hq rfl (by omega) (by omega) (hQ c.1 c.2) ?_
    refine y_run kX6_keep rfl ?_
    refine y_get kX6_keep rfl rfl hx rfl ?_
    refine y_cv kX6_keep kX5_copyFrom 1 (rest := []) rfl (hk c.1 c.2).1 (by decide +kernel) (c_ScopyFrom (hk c.1 c.2) hs (by omega)) rfl rfl ?_
    rintro r h1 n' ⟨rfl, k1, k2, rfl⟩
    refine y_run kX6_keep rfl ?_
    refine y_get kX6_keep rfl rfl ((k2 b (by omega)).trans hx) rfl ?_
    refine y_run kX6_keep rfl ?_
    refine y_zs kX6_keep rfl ((k2 (b + 7) (by omega)).trans hz) (by omega) (by omega) (Or.inr rfl) ?_
    refine y_run kX6_keep rfl ?_
    exact y_zr kX6_keep rfl rfl (Or.inr rfl) ⟨Or.inr ⟨c, rfl, k1.frame1 (fun q q1 q2 => yup_ne _ _ (by omega)), yup_eq _ _ _, fun q q1 q2 => (yup_ne _ _ q1).trans (k2 q q2)⟩, rfl⟩
  · refine y_run kX6_keep rfl ?_
    exact y_zr kX6_keep rfl rfl (Or.inl rfl) ⟨Or.inl ⟨c, rfl, rfl⟩, rfl⟩
theorem c_back {b : Nat} {t p : Int} {E K R T : Nat → Int} {fs : List xV} {Q : Nat → Option Nat} {Z : Nat → Int} {tk : Int} {Ek Kk Rk Tk : Nat → Int} {kb : Nat} (hx : h b = some (ob 6 (vr (b + 1) :: vr (b + 6) :: vr (b + 7) :: fs))) (hs : SC h (b + 1) t E K R T) (hq : h (b + 6) = some (aq 2 4 Q)) (hz : h (b + 7) = some (az 4 Z)) (hp : inI p) (hZ : ∀ j, Z j = 0 ∨ Z j = 1) (hQ : 0 ≤ p → p < 4 → Q p.toNat = some kb) (hk : 0 ≤ p → p < 4 → SC h kb tk Ek Kk Rk Tk) (hkb : b + 8 ≤ kb) :
    YM l G mX6_back 2 0 0 [vr b, vi p] h n (fun r h' n' => ((¬ ((0 ≤ p ∧ p < 4) ∧ Z p.toNat = 1) ∧ r = some (vi 0) ∧ h' = h) ∨ (((0 ≤ p ∧ p < 4) ∧ Z p.toNat = 1) ∧ r = some (vi 1) ∧ SC h' (b + 1) tk (cpZ Ek E 0 0 144) (cpZ Kk K 0 0 96) (cpZ Rk R 0 0 64) T ∧ ∀ q, q < b + 1 ∨ b + 6 ≤ q → h' q = h q)) ∧ n' = n) := by
  refine YM.of kX6_back (Nat.le_of_ble_eq_true rfl) (L0 := [some (vr b), some (vi p)]) rfl ?_
  refine y_run kX6_back rfl ?_
  refine y_cs kX6_back kX6_isBelow 2 (rest := []) rfl (by decide +kernel) (c_isBelow p 4 hp ⟨by omega, by omega⟩) rfl rfl ?_
  rintro r h' n' ⟨rfl, rfl, rfl⟩
  refine y_beq kX6_back rfl rfl (fun c => ?_) (fun c => ?_)
  · refine y_run kX6_back rfl ?_
    exact y_zr kX6_back rfl rfl (Or.inl rfl) ⟨Or.inl ⟨fun q => c q.1, rfl, rfl⟩, rfl⟩
  · refine y_run kX6_back rfl ?_
    refine y_get kX6_back rfl rfl hx rfl ?_
    refine y_run kX6_back rfl ?_
    refine y_za kX6_back rfl hz (by omega) (by omega) ?_
    have hZp := hZ p.toNat
    refine y_if_ne kX6_back rfl rfl (fun c2 => ?_) (fun c2 => ?_)
    · refine y_run kX6_back rfl ?_
      refine y_get kX6_back rfl rfl hx rfl ?_
      refine y_run kX6_back rfl ?_
      refine y_get kX6_back rfl rfl hx rfl ?_
      refine y_run kX6_back rfl ?_
      refine y_qa kX6_back rfl hq rfl (by omega) (by omega) (hQ c.1 c.2) ?_
      refine y_cv kX6_back kX5_copyFrom 1 (rest := []) rfl hs.1 (by decide +kernel) (c_ScopyFrom hs (hk c.1 c.2) (by omega)) rfl rfl ?_
      rintro r h1 n' ⟨rfl, k1, k2, rfl⟩
      refine y_run kX6_back rfl ?_
      exact y_zr kX6_back rfl rfl (Or.inr rfl) ⟨Or.inr ⟨⟨c, by omega⟩, rfl, k1, fun q q1 => k2 q (by omega)⟩, rfl⟩
    · refine y_run kX6_back rfl ?_
      exact y_zr kX6_back rfl rfl (Or.inl rfl) ⟨Or.inl ⟨fun q => by omega, rfl, rfl⟩, rfl⟩
end C13
