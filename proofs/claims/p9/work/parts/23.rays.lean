/-- a block of six numbers in a row of ints, from z on -/
def BK (F : Nat → Int) (z x0 x1 y0 y1 z0 z1 : Int) : Prop := F z.toNat = x0 ∧ F (z + 1).toNat = x1 ∧ F (z + 2).toNat = y0 ∧ F (z + 3).toNat = y1 ∧ F (z + 4).toNat = z0 ∧ F (z + 5).toNat = z1
/-- small enough -/
def sm (x : Int) : Prop := -100000 ≤ x ∧ x ≤ 100000
section C4
variable {l : Launch} {G : xG} {h : yH} {n : Nat}
theorem c_Oinit {a : Nat} {fs : List xV} (ha : h a = some (ob 1 fs)) : YM l G mX1_init 1 0 0 [vr a] h n (fun r h' n' => r = none ∧ h' = h ∧ n' = n) := by
  refine YM.of kX1_init (Nat.le_of_ble_eq_true rfl) (L0 := [some (vr a)]) rfl ?_
  refine y_run kX1_init rfl ?_
  refine y_ob kX1_init rfl (by decide +kernel) ?_
  exact y_vr kX1_init rfl rfl ⟨rfl, rfl, rfl⟩
theorem c_Rinit {a : Nat} {fs : List xV} (ha : h a = some (ob 4 fs)) : YM l G mX4_init 1 0 0 [vr a] h n (fun r h' n' => r = none ∧ h' = h ∧ n' = n) := by
  refine YM.of kX4_init (Nat.le_of_ble_eq_true rfl) (L0 := [some (vr a)]) rfl ?_
  refine y_run kX4_init rfl ?_
  refine y_ob kX4_init rfl (by decide +kernel) ?_
  exact y_vr kX4_init rfl rfl ⟨rfl, rfl, rfl⟩
theorem c_OsetTo {a b N : Nat} {F : Nat → Int} {z x0 x1 y0 y1 z0 z1 o0 o1 o2 o3 o4 o5 : Int} (ha : h a = some (ob 1 [vi o0, vi o1, vi o2, vi o3, vi o4, vi o5])) (hb : h b = some (ai N F)) (hab : b ≠ a) (hz : 0 ≤ z) (hN : z + 6 ≤ N) (hM : N ≤ 100000) (hB : BK F z x0 x1 y0 y1 z0 z1) : YM l G mX1_setTo 0 0 0 [vr a, vr b, vi z] h n (fun r h' n' => r = none ∧ h' = yup h a (ob 1 [vi (x0 - z1), vi (x1 - z0), vi (y0 - z1), vi (y1 - z0), vi (x0 - y1), vi (x1 - y0 - 1)]) ∧ n' = n) := by
  refine YM.of kX1_setTo (Nat.le_of_ble_eq_true rfl) (L0 := [some (vr a), some (vr b), some (vi z)]) rfl ?_
  obtain ⟨e0, e1, e2, e3, e4, e5⟩ := hB
  refine y_run kX1_setTo rfl ?_
  refine y_ie kX1_setTo rfl hb (by omega) (by omega) (by assumption) ?_
  refine y_run kX1_setTo rfl ?_
  refine y_ie kX1_setTo rfl hb (by omega) (by omega) (by assumption) ?_
  refine y_run kX1_setTo rfl ?_
  refine y_put kX1_setTo rfl rfl ha rfl rfl rfl ?_
  refine y_run kX1_setTo rfl ?_
  refine y_ie kX1_setTo rfl ((yup_ne _ _ hab).trans hb) (by omega) (by omega) (by assumption) ?_
  refine y_run kX1_setTo rfl ?_
  refine y_ie kX1_setTo rfl ((yup_ne _ _ hab).trans hb) (by omega) (by omega) (by assumption) ?_
  refine y_run kX1_setTo rfl ?_
  refine y_put2 kX1_setTo rfl rfl rfl rfl rfl ?_
  refine y_run kX1_setTo rfl ?_
  refine y_ie kX1_setTo rfl ((yup_ne _ _ hab).trans hb) (by omega) (by omega) (by assumption) ?_
  refine y_run kX1_setTo rfl ?_
  refine y_ie kX1_setTo rfl ((yup_ne _ _ hab).trans hb) (by omega) (by omega) (by assumption) ?_
  refine y_run kX1_setTo rfl ?_
  refine y_put2 kX1_setTo rfl rfl rfl rfl rfl ?_
  refine y_run kX1_setTo rfl ?_
  refine y_ie kX1_setTo rfl ((yup_ne _ _ hab).trans hb) (by omega) (by omega) (by assumption) ?_
  refine y_run kX1_setTo rfl ?_
  refine y_ie kX1_setTo rfl ((yup_ne _ _ hab).trans hb) (by omega) (by omega) (by assumption) ?_
  refine y_run kX1_setTo rfl ?_
  refine y_put2 kX1_setTo rfl rfl rfl rfl rfl ?_
  refine y_run kX1_setTo rfl ?_
  refine y_ie kX1_setTo rfl ((yup_ne _ _ hab).trans hb) (by omega) (by omega) (by assumption) ?_
  refine y_run kX1_setTo rfl ?_
  refine y_ie kX1_setTo rfl ((yup_ne _ _ hab).trans hb) (by omega) (by omega) (by assumption) ?_
  refine y_run kX1_setTo rfl ?_
  refine y_put2 kX1_setTo rfl rfl rfl rfl rfl ?_
  refine y_run kX1_setTo rfl ?_
  refine y_ie kX1_setTo rfl ((yup_ne _ _ hab).trans hb) (by omega) (by omega) (by assumption) ?_
  refine y_run kX1_setTo rfl ?_
  refine y_ie kX1_setTo rfl ((yup_ne _ _ hab).trans hb) (by omega) (by omega) (by assumption) ?_
  refine y_run kX1_setTo rfl ?_
  refine y_put2 kX1_setTo rfl rfl rfl rfl rfl ?_
  refine y_vr kX1_setTo rfl rfl ?_
  exact ⟨rfl, rfl, rfl⟩
theorem c_Omeet {a b : Nat} {o0 o1 o2 o3 o4 o5 p0 p1 p2 p3 p4 p5 : Int} (ha : h a = some (ob 1 [vi o0, vi o1, vi o2, vi o3, vi o4, vi o5])) (hb : h b = some (ob 1 [vi p0, vi p1, vi p2, vi p3, vi p4, vi p5])) (hab : b ≠ a) (ho : sm o0 ∧ sm o1 ∧ sm o2 ∧ sm o3 ∧ sm o4 ∧ sm o5) (hp : sm p0 ∧ sm p1 ∧ sm p2 ∧ sm p3 ∧ sm p4 ∧ sm p5) : YM l G mX1_meet 1 0 0 [vr a, vr b] h n (fun r h' n' => r = none ∧ h' = yup h a (ob 1 [vi (max o0 p0), vi (min o1 p1), vi (max o2 p2), vi (min o3 p3), vi (max o4 p4), vi (min o5 p5)]) ∧ n' = n) := by
  refine YM.of kX1_meet (Nat.le_of_ble_eq_true rfl) (L0 := [some (vr a), some (vr b)]) rfl ?_
  obtain ⟨⟨_, _⟩, ⟨_, _⟩, ⟨_, _⟩, ⟨_, _⟩, ⟨_, _⟩, _, _⟩ := ho
  obtain ⟨⟨_, _⟩, ⟨_, _⟩, ⟨_, _⟩, ⟨_, _⟩, ⟨_, _⟩, _, _⟩ := hp
  refine y_run kX1_meet rfl ?_
  refine y_get kX1_meet rfl rfl ha rfl ?_
  refine y_run kX1_meet rfl ?_
  refine y_get kX1_meet rfl rfl hb rfl ?_
  refine y_mx kX1_meet rfl (by decide +kernel) ?_
  refine y_put kX1_meet rfl rfl ha rfl rfl rfl ?_
  refine y_run kX1_meet rfl ?_
  refine y_get kX1_meet rfl rfl (yup_eq _ _ _) rfl ?_
  refine y_run kX1_meet rfl ?_
  refine y_get kX1_meet rfl rfl ((yup_ne _ _ hab).trans hb) rfl ?_
  refine y_mn kX1_meet rfl (by decide +kernel) ?_
  refine y_put2 kX1_meet rfl rfl rfl rfl rfl ?_
  refine y_run kX1_meet rfl ?_
  refine y_get kX1_meet rfl rfl (yup_eq _ _ _) rfl ?_
  refine y_run kX1_meet rfl ?_
  refine y_get kX1_meet rfl rfl ((yup_ne _ _ hab).trans hb) rfl ?_
  refine y_mx kX1_meet rfl (by decide +kernel) ?_
  refine y_put2 kX1_meet rfl rfl rfl rfl rfl ?_
  refine y_run kX1_meet rfl ?_
  refine y_get kX1_meet rfl rfl (yup_eq _ _ _) rfl ?_
  refine y_run kX1_meet rfl ?_
  refine y_get kX1_meet rfl rfl ((yup_ne _ _ hab).trans hb) rfl ?_
  refine y_mn kX1_meet rfl (by decide +kernel) ?_
  refine y_put2 kX1_meet rfl rfl rfl rfl rfl ?_
  refine y_run kX1_meet rfl ?_
  refine y_get kX1_meet rfl rfl (yup_eq _ _ _) rfl ?_
  refine y_run kX1_meet rfl ?_
  refine y_get kX1_meet rfl rfl ((yup_ne _ _ hab).trans hb) rfl ?_
  refine y_mx kX1_meet rfl (by decide +kernel) ?_
  refine y_put2 kX1_meet rfl rfl rfl rfl rfl ?_
  refine y_run kX1_meet rfl ?_
  refine y_get kX1_meet rfl rfl (yup_eq _ _ _) rfl ?_
  refine y_run kX1_meet rfl ?_
  refine y_get kX1_meet rfl rfl ((yup_ne _ _ hab).trans hb) rfl ?_
  refine y_mn kX1_meet rfl (by decide +kernel) ?_
  refine y_put2 kX1_meet rfl rfl rfl rfl rfl ?_
  refine y_vr kX1_meet rfl rfl ?_
  exact ⟨rfl, rfl, rfl⟩
theorem c_OfirstJ {a : Nat} {o0 o1 o2 o3 o4 o5 i : Int} (ha : h a = some (ob 1 [vi o0, vi o1, vi o2, vi o3, vi o4, vi o5])) (ho : sm o0 ∧ sm o1 ∧ sm o2 ∧ sm o3) (hi : sm i) : YM l G mX1_firstJ 1 0 0 [vr a, vi i] h n (fun r h' n' => r = some (vi (max (2 * o0 - i) (2 * o2 + i + 1))) ∧ h' = h ∧ n' = n) := by
  refine YM.of kX1_firstJ (Nat.le_of_ble_eq_true rfl) (L0 := [some (vr a), some (vi i)]) rfl ?_
  obtain ⟨⟨_, _⟩, ⟨_, _⟩, ⟨_, _⟩, _, _⟩ := ho
  obtain ⟨_, _⟩ := hi
  refine y_run kX1_firstJ rfl ?_
  refine y_get kX1_firstJ rfl rfl ha rfl ?_
  refine y_run kX1_firstJ rfl ?_
  refine y_get kX1_firstJ rfl rfl ha rfl ?_
  refine y_run kX1_firstJ rfl ?_
  refine y_mx kX1_firstJ rfl (by decide +kernel) ?_
  refine y_ir kX1_firstJ rfl rfl ?_
  exact ⟨rfl, rfl, rfl⟩
theorem c_OlastJ {a : Nat} {o0 o1 o2 o3 o4 o5 i : Int} (ha : h a = some (ob 1 [vi o0, vi o1, vi o2, vi o3, vi o4, vi o5])) (ho : sm o0 ∧ sm o1 ∧ sm o2 ∧ sm o3) (hi : sm i) : YM l G mX1_lastJ 1 0 0 [vr a, vi i] h n (fun r h' n' => r = some (vi (min (2 * o1 - i - 1) (2 * o3 + i))) ∧ h' = h ∧ n' = n) := by
  refine YM.of kX1_lastJ (Nat.le_of_ble_eq_true rfl) (L0 := [some (vr a), some (vi i)]) rfl ?_
  obtain ⟨⟨_, _⟩, ⟨_, _⟩, ⟨_, _⟩, _, _⟩ := ho
  obtain ⟨_, _⟩ := hi
  refine y_run kX1_lastJ rfl ?_
  refine y_get kX1_lastJ rfl rfl ha rfl ?_
  refine y_run kX1_lastJ rfl ?_
  refine y_get kX1_lastJ rfl rfl ha rfl ?_
  refine y_run kX1_lastJ rfl ?_
  refine y_mn kX1_lastJ rfl (by decide +kernel) ?_
  refine y_ir kX1_lastJ rfl rfl ?_
  exact ⟨rfl, rfl, rfl⟩
theorem c_Raim {a : Nat} {r0 r1 r2 r3 i j : Int} (ha : h a = some (ob 4 [vi r0, vi r1, vi r2, vi r3])) : YM l G mX4_aim 0 0 0 [vr a, vi i, vi j] h n (fun r h' n' => r = none ∧ h' = yup h a (ob 4 [vi (2 * j + 2 * i + 1), vi (2 * j - 2 * i - 1), vi r2, vi r3]) ∧ n' = n) := by
  refine YM.of kX4_aim (Nat.le_of_ble_eq_true rfl) (L0 := [some (vr a), some (vi i), some (vi j)]) rfl ?_
  refine y_run kX4_aim rfl ?_
  refine y_put kX4_aim rfl rfl ha rfl rfl rfl ?_
  refine y_run kX4_aim rfl ?_
  refine y_put2 kX4_aim rfl rfl rfl rfl rfl ?_
  refine y_vr kX4_aim rfl rfl ?_
  exact ⟨rfl, rfl, rfl⟩
theorem c_Rhits {a b N : Nat} {F : Nat → Int} {z x0 x1 y0 y1 z0 z1 r0 r1 r2 r3 : Int} (ha : h a = some (ob 4 [vi r0, vi r1, vi r2, vi r3])) (hb : h b = some (ai N F)) (hz : 0 ≤ z) (hN : z + 6 ≤ N) (hM : N ≤ 100000) (hB : BK F z x0 x1 y0 y1 z0 z1) (hr : sm r0 ∧ sm r1) (hx : sm x0 ∧ sm x1 ∧ sm y0 ∧ sm y1 ∧ sm z0 ∧ sm z1) : YM l G mX4_hits 1 0 0 [vr a, vr b, vi z] h n (fun r h' n' => r = some (vi (if max (4 * x0 - r0) (max (4 * y0 - r1) (4 * z0)) < min (4 * x1 - r0) (min (4 * y1 - r1) (4 * z1)) then 1 else 0)) ∧ h' = h ∧ n' = n) := by
  refine YM.of kX4_hits (Nat.le_of_ble_eq_true rfl) (L0 := [some (vr a), some (vr b), some (vi z), none, none]) rfl ?_
  obtain ⟨e0, e1, e2, e3, e4, e5⟩ := hB
  obtain ⟨⟨_, _⟩, ⟨_, _⟩, ⟨_, _⟩, ⟨_, _⟩, ⟨_, _⟩, _, _⟩ := hx
  obtain ⟨⟨_, _⟩, _, _⟩ := hr
  refine y_run kX4_hits rfl ?_
  refine y_ie kX4_hits rfl hb (by omega) (by omega) (by assumption) ?_
  refine y_run kX4_hits rfl ?_
  refine y_get kX4_hits rfl rfl ha rfl ?_
  refine y_run kX4_hits rfl ?_
  refine y_ie kX4_hits rfl hb (by omega) (by omega) (by assumption) ?_
  refine y_run kX4_hits rfl ?_
  refine y_get kX4_hits rfl rfl ha rfl ?_
  refine y_run kX4_hits rfl ?_
  refine y_ie kX4_hits rfl hb (by omega) (by omega) (by assumption) ?_
  refine y_run kX4_hits rfl ?_
  refine y_mx kX4_hits rfl (by decide +kernel) ?_
  refine y_mx kX4_hits rfl (by decide +kernel) ?_
  refine y_run kX4_hits rfl ?_
  refine y_ie kX4_hits rfl hb (by omega) (by omega) (by assumption) ?_
  refine y_run kX4_hits rfl ?_
  refine y_get kX4_hits rfl rfl ha rfl ?_
  refine y_run kX4_hits rfl ?_
  refine y_ie kX4_hits rfl hb (by omega) (by omega) (by assumption) ?_
  refine y_run kX4_hits rfl ?_
  refine y_get kX4_hits rfl rfl ha rfl ?_
  refine y_run kX4_hits rfl ?_
  refine y_ie kX4_hits rfl hb (by omega) (by omega) (by assumption) ?_
  refine y_run kX4_hits rfl ?_
  refine y_mn kX4_hits rfl (by decide +kernel) ?_
  refine y_mn kX4_hits rfl (by decide +kernel) ?_
  refine y_run kX4_hits rfl ?_
  refine y_ic_ge kX4_hits rfl rfl (fun c1 => ?_) (fun c1 => ?_)
  · refine y_run kX4_hits rfl ?_
    refine y_zr kX4_hits rfl rfl (Or.inl rfl) ?_
    exact ⟨by rw [if_neg (by omega)], rfl, rfl⟩
  · refine y_run kX4_hits rfl ?_
    refine y_zr kX4_hits rfl rfl (Or.inr rfl) ?_
    exact ⟨by rw [if_pos (by omega)], rfl, rfl⟩
/-- the exit in quarters, and its face -/
def rex (x1 y1 z1 a b : Int) : Int := if 4 * y1 - b < (if 4 * x1 - a < 4 * z1 then 4 * x1 - a else 4 * z1) then 4 * y1 - b else if 4 * x1 - a < 4 * z1 then 4 * x1 - a else 4 * z1
def rfc (x1 y1 z1 a b : Int) : Int := if 4 * y1 - b < (if 4 * x1 - a < 4 * z1 then 4 * x1 - a else 4 * z1) then 1 else if 4 * x1 - a < 4 * z1 then 0 else 2
theorem c_Rleave {a b N : Nat} {F : Nat → Int} {z x0 x1 y0 y1 z0 z1 r0 r1 r2 r3 : Int} (ha : h a = some (ob 4 [vi r0, vi r1, vi r2, vi r3])) (hb : h b = some (ai N F)) (hab : b ≠ a) (hz : 0 ≤ z) (hN : z + 6 ≤ N) (hM : N ≤ 100000) (hB : BK F z x0 x1 y0 y1 z0 z1) (hr : sm r0 ∧ sm r1) (hx : sm x1 ∧ sm y1 ∧ sm z1) : YM l G mX4_leave 0 0 0 [vr a, vr b, vi z] h n (fun r h' n' => r = none ∧ h' = yup h a (ob 4 [vi r0, vi r1, vi (rex x1 y1 z1 r0 r1), vi (rfc x1 y1 z1 r0 r1)]) ∧ n' = n) := by
  refine YM.of kX4_leave (Nat.le_of_ble_eq_true rfl) (L0 := [some (vr a), some (vr b), some (vi z), none, none]) rfl ?_
  obtain ⟨e0, e1, e2, e3, e4, e5⟩ := hB
  obtain ⟨⟨_, _⟩, ⟨_, _⟩, _, _⟩ := hx
  obtain ⟨⟨_, _⟩, _, _⟩ := hr
  refine y_run kX4_leave rfl ?_
  refine y_ie kX4_leave rfl hb (by omega) (by omega) (by assumption) ?_
  refine y_run kX4_leave rfl ?_
  refine y_get kX4_leave rfl rfl ha rfl ?_
  refine y_run kX4_leave rfl ?_
  refine y_ie kX4_leave rfl hb (by omega) (by omega) (by assumption) ?_
  refine y_run kX4_leave rfl ?_
  refine y_get kX4_leave rfl rfl ha rfl ?_
  refine y_run kX4_leave rfl ?_
  refine y_put kX4_leave rfl rfl ha rfl rfl rfl ?_
  refine y_run kX4_leave rfl ?_
  refine y_ie kX4_leave rfl ((yup_ne _ _ hab).trans hb) (by omega) (by omega) (by assumption) ?_
  refine y_run kX4_leave rfl ?_
  refine y_put2 kX4_leave rfl rfl rfl rfl rfl ?_
  refine y_run kX4_leave rfl ?_
  refine y_get kX4_leave rfl rfl (yup_eq _ _ _) rfl ?_
  refine y_ic_ge kX4_leave rfl rfl (fun c1 => ?_) (fun c1 => ?_)
  · refine y_run kX4_leave rfl ?_
    refine y_get kX4_leave rfl rfl (yup_eq _ _ _) rfl ?_
    refine y_ic_ge kX4_leave rfl rfl (fun c2 => ?_) (fun c2 => ?_)
    · refine y_vr kX4_leave rfl rfl ?_
      refine ⟨rfl, ?_, rfl⟩
      unfold rex rfc
      rw [if_neg (c := 4 * x1 - r0 < 4 * z1) (by omega), if_neg (c := 4 * x1 - r0 < 4 * z1) (by omega), if_neg (by omega), if_neg (by omega)]
      rfl
    · refine y_run kX4_leave rfl ?_
      refine y_put2 kX4_leave rfl rfl rfl rfl rfl ?_
      refine y_run kX4_leave rfl ?_
      refine y_put2 kX4_leave rfl rfl rfl rfl rfl ?_
      refine y_vr kX4_leave rfl rfl ?_
      refine ⟨rfl, ?_, rfl⟩
      unfold rex rfc
      rw [if_neg (c := 4 * x1 - r0 < 4 * z1) (by omega), if_neg (c := 4 * x1 - r0 < 4 * z1) (by omega), if_pos (by omega), if_pos (by omega)]
      rfl
  · refine y_run kX4_leave rfl ?_
    refine y_put2 kX4_leave rfl rfl rfl rfl rfl ?_
    refine y_run kX4_leave rfl ?_
    refine y_put2 kX4_leave rfl rfl rfl rfl rfl ?_
    refine y_run kX4_leave rfl ?_
    refine y_get kX4_leave rfl rfl (yup_eq _ _ _) rfl ?_
    refine y_ic_ge kX4_leave rfl rfl (fun c3 => ?_) (fun c3 => ?_)
    · refine y_vr kX4_leave rfl rfl ?_
      refine ⟨rfl, ?_, rfl⟩
      unfold rex rfc
      rw [if_pos (c := 4 * x1 - r0 < 4 * z1) (by omega), if_pos (c := 4 * x1 - r0 < 4 * z1) (by omega), if_neg (by omega), if_neg (by omega)]
      rfl
    · refine y_run kX4_leave rfl ?_
      refine y_put2 kX4_leave rfl rfl rfl rfl rfl ?_
      refine y_run kX4_leave rfl ?_
      refine y_put2 kX4_leave rfl rfl rfl rfl rfl ?_
      refine y_vr kX4_leave rfl rfl ?_
      refine ⟨rfl, ?_, rfl⟩
      unfold rex rfc
      rw [if_pos (c := 4 * x1 - r0 < 4 * z1) (by omega), if_pos (c := 4 * x1 - r0 < 4 * z1) (by omega), if_pos (by omega), if_pos (by omega)]
      rfl
theorem c_Rwhole {q : Int} : YM l G mX4_wholeInSprite 0 0 0 [vi q] h n (fun r h' n' => r = some (vi (yand (yshr q 2) 7)) ∧ h' = h ∧ n' = n) := by
  refine YM.of kX4_wholeInSprite (Nat.le_of_ble_eq_true rfl) (L0 := [some (vi q)]) rfl ?_
  refine y_run kX4_wholeInSprite rfl ?_
  exact y_ir kX4_wholeInSprite rfl rfl ⟨rfl, rfl, rfl⟩
end C4
