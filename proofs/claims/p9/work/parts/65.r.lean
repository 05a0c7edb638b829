/-! the picture, as far as bounds go -/
theorem nrm_mod (z : Int) : nrm z % 4294967296 = z % 4294967296 := by
  unfold nrm
  have : (iI z).toInt = Int.bmod z (2 ^ 32) := Int32.toInt_ofInt
  rw [this]
  exact Int.bmod_emod
theorem iI_nrm (z : Int) : iI (nrm z) = iI z := (iI_of (iI z)).symm
theorem box_bits (z : Int) : yand (yshr z 8) 31 = z / 256 % 32 := by
  have e : yshr z 8 = nrm z / 256 := by
    have h := nrm_rng z
    have := yshr_div (x := nrm z) h.1 (by omega) (k := 8) (by omega) (by omega)
    unfold yshr at this ⊢
    rw [iI_nrm] at this
    exact this
  rw [yand_31, e]
  have := nrm_mod z
  omega
theorem look_bits : ∀ p : Nat, p < 24 → ∀ f : Nat, f < 3 → ∀ c : Nat, c < 16 → ∀ i : Nat, i < 4 → yor (yor (yor (yshl p 8) (yshl f 6)) (yshl i 4)) c = (p * 256 + f * 64 + i * 16 + c : Int) := by decide +kernel
theorem hi_bits (x : Int) : yand x (-65536) % 65536 = 0 := by
  rw [← yand_65535]
  unfold yand
  rw [← iI_of, Int32.and_assoc, show iI (-65536) &&& iI 65535 = 0 by decide +kernel, Int32.and_zero]
  rfl
def flF (F : Nat → Int) (v : Int) (k : Nat) : Nat → Int := fun j => if j < k then v else F j
theorem flF_s (F : Nat → Int) (v : Int) (k : Nat) : upZ (flF F v k) k v = flF F v (k + 1) := by
  funext j
  unfold upZ flF
  by_cases c : j = k
  · rw [if_pos c, if_pos (by omega)]
  · rw [if_neg c]
    by_cases c2 : j < k
    · rw [if_pos c2, if_pos (by omega)]
    · rw [if_neg c2, if_neg (by omega)]
section C80
variable {l : Launch} {G : xG} {h : yH} {n : Nat}
theorem s_fill {Φ : Option xV → yH → Nat → Prop} {a N : Nat} {F : Nat → Int} {v : Int} (hN : (N : Int) < 2147483648) (kk : Φ none (yup h a (ai N (flF F v N))) n) : ∀ (m k : Nat), k + m = N → YW l G mJ7_fill_53178 0 0 0 Φ 5 [some (vr a), some (vi v), some (vi (k : Int)), some (vi (N : Int))] [] (yup h a (ai N (flF F v k))) n := by
  intro m
  induction m with
  | zero =>
    intro k hk
    refine y_run kJ7_fill_53178 rfl ?_
    refine y_ic_ge kJ7_fill_53178 rfl rfl (fun c1 => ?_) (fun c1 => absurd c1 (by omega))
    refine y_vr kJ7_fill_53178 rfl rfl ?_
    rw [show k = N by omega]
    exact kk
  | succ m ih =>
    intro k hk
    refine y_run kJ7_fill_53178 rfl ?_
    refine y_ic_ge kJ7_fill_53178 rfl rfl (fun c1 => absurd c1 (by omega)) (fun c1 => ?_)
    refine y_run kJ7_fill_53178 rfl ?_
    refine y_is2 kJ7_fill_53178 rfl (by omega) (by omega) ?_
    refine y_run kJ7_fill_53178 rfl ?_
    rw [Int.toNat_natCast, flF_s]
    exact ih (k + 1) (by omega)
theorem c_fill {a N : Nat} {F : Nat → Int} {v : Int} (ha : h a = some (ai N F)) (hN : (N : Int) < 2147483648) : YM l G mJ7_fill_53178 0 0 0 [vr a, vi v] h n (fun r h' n' => r = none ∧ h' = yup h a (ai N (flF F v N)) ∧ n' = n) := by
  refine YM.of kJ7_fill_53178 (Nat.le_of_ble_eq_true rfl) (L0 := [some (vr a), some (vi v), none, none]) rfl ?_
  refine y_run kJ7_fill_53178 rfl ?_
  refine y_al kJ7_fill_53178 rfl ha ?_
  refine y_run kJ7_fill_53178 rfl ?_
  have e0 : flF F v 0 = F := by
    funext j
    unfold flF
    rw [if_neg (by omega)]
  refine YW.he (yup_self ha) ?_
  have := s_fill (l := l) (G := gT G) (h := h) (n := n) (a := a) (N := N) (F := F) (v := v) (Φ := fun r h' n' => r = none ∧ h' = yup h a (ai N (flF F v N)) ∧ n' = n) hN ⟨rfl, rfl, rfl⟩ N 0 (by omega)
  rw [e0] at this
  exact this
variable {b : Nat} {g : yH} {k : Nat}
theorem w_fill {N : Nat} {lo hi v : Int} (hI : MI b g h) (hk : rTb k = some (0, N, lo, hi)) (hN : (N : Int) < 2147483648) (v1 : lo ≤ v) (v2 : v ≤ hi) (hx : pcE (0, N, lo, hi) = true → g (b + k) = none := by first | exact fun q => absurd (show false = true from q) (by decide) | exact fun _ => (by assumption)) : YM l G mJ7_fill_53178 0 0 0 [vr (b + k), vi v] h n (PV b g n) := by
  obtain ⟨F, e, hF⟩ := hI.i hk
  refine (c_fill e hN).imp (fun r h' n' q => ?_)
  obtain ⟨q1, rfl, q3⟩ := q
  refine ⟨q1, hI.up hk ⟨_, rfl, fun j => ?_⟩ hx, q3⟩
  unfold flF
  split
  · exact ⟨v1, v2⟩
  · exact hF j
theorem w_fillc {N : Nat} {lo hi v : Int} (hI : MI b g h) (hk : rTb k = some (2, N, lo, hi)) (hN : (N : Int) < 2147483648) (v1 : v / 256 % 32 < 24) : YM l G mJ7_fill_53178 0 0 0 [vr (b + k), vi v] h n (PV b g n) := by
  obtain ⟨F, e, hF⟩ := hI.c hk
  refine (c_fill e hN).imp (fun r h' n' q => ?_)
  obtain ⟨q1, rfl, q3⟩ := q
  refine ⟨q1, hI.up hk ⟨_, rfl, fun j => ?_⟩, q3⟩
  unfold flF
  split
  · exact v1
  · exact hF j
/- outlines and rays -/
theorem w_OsetTo {a N : Nat} {F : Nat → Int} {z : Int} (hI : MI b g h) (hk : rTb k = some (5, 0, 0, 0)) (ha : h a = some (ai N F)) (hF : ∀ j, 0 ≤ F j ∧ F j ≤ 32) (hz : 0 ≤ z) (hN : z + 6 ≤ N) (hM : N ≤ 100000) : YM l G mX1_setTo 0 0 0 [vr (b + k), vr a, vi z] h n (PV b g n) := by
  obtain ⟨r0, r1, r2, r3, r4, r5, e, _⟩ := hI.o hk
  have hab : a ≠ b + k := fun q => by rw [q, e] at ha; cases ha
  refine (c_OsetTo e ha hab hz hN hM ⟨rfl, rfl, rfl, rfl, rfl, rfl⟩).imp (fun r h' n' q => ?_)
  obtain ⟨q1, rfl, q3⟩ := q
  have f0 := hF z.toNat
  have f1 := hF (z + 1).toNat
  have f2 := hF (z + 2).toNat
  have f3 := hF (z + 3).toNat
  have f4 := hF (z + 4).toNat
  have f5 := hF (z + 5).toNat
  exact ⟨q1, hI.up hk ⟨_, _, _, _, _, _, rfl, by omega, by omega, by omega, by omega, by omega, by omega⟩, q3⟩
theorem w_Omeet {k2 : Nat} (hI : MI b g h) (hk : rTb k = some (5, 0, 0, 0)) (hk2 : rTb k2 = some (5, 0, 0, 0)) (hne : b + k2 ≠ b + k) : YM l G mX1_meet 1 0 0 [vr (b + k), vr (b + k2)] h n (PV b g n) := by
  obtain ⟨r0, r1, r2, r3, r4, r5, e, s0, s1, s2, s3, s4, s5⟩ := hI.o hk
  obtain ⟨p0, p1, p2, p3, p4, p5, e2, t0, t1, t2, t3, t4, t5⟩ := hI.o hk2
  refine (c_Omeet e e2 hne ⟨⟨by omega, by omega⟩, ⟨by omega, by omega⟩, ⟨by omega, by omega⟩, ⟨by omega, by omega⟩, ⟨by omega, by omega⟩, ⟨by omega, by omega⟩⟩ ⟨⟨by omega, by omega⟩, ⟨by omega, by omega⟩, ⟨by omega, by omega⟩, ⟨by omega, by omega⟩, ⟨by omega, by omega⟩, ⟨by omega, by omega⟩⟩).imp (fun r h' n' q => ?_)
  obtain ⟨q1, rfl, q3⟩ := q
  exact ⟨q1, hI.up hk ⟨_, _, _, _, _, _, rfl, by omega, by omega, by omega, by omega, by omega, by omega⟩, q3⟩
theorem w_OfirstJ {i : Int} (hI : MI b g h) (hk : rTb k = some (5, 0, 0, 0)) (i1 : -1000 ≤ i) (i2 : i ≤ 1000) : YM l G mX1_firstJ 1 0 0 [vr (b + k), vi i] h n (PZ b g n (-63) 2000) := by
  obtain ⟨r0, r1, r2, r3, r4, r5, e, s0, s1, s2, s3, s4, s5⟩ := hI.o hk
  refine (c_OfirstJ e ⟨⟨by omega, by omega⟩, ⟨by omega, by omega⟩, ⟨by omega, by omega⟩, ⟨by omega, by omega⟩⟩ ⟨by omega, by omega⟩).imp (fun r h' n' q => ?_)
  obtain ⟨q1, rfl, q3⟩ := q
  exact ⟨_, q1, by omega, by omega, hI, q3⟩
theorem w_OlastJ {i : Int} (hI : MI b g h) (hk : rTb k = some (5, 0, 0, 0)) (i1 : -1000 ≤ i) (i2 : i ≤ 1000) : YM l G mX1_lastJ 1 0 0 [vr (b + k), vi i] h n (PZ b g n (-2000) 63) := by
  obtain ⟨r0, r1, r2, r3, r4, r5, e, s0, s1, s2, s3, s4, s5⟩ := hI.o hk
  refine (c_OlastJ e ⟨⟨by omega, by omega⟩, ⟨by omega, by omega⟩, ⟨by omega, by omega⟩, ⟨by omega, by omega⟩⟩ ⟨by omega, by omega⟩).imp (fun r h' n' q => ?_)
  obtain ⟨q1, rfl, q3⟩ := q
  exact ⟨_, q1, by omega, by omega, hI, q3⟩
theorem w_Raim {i j : Int} (hI : MI b g h) (hk : rTb k = some (4, 0, 0, 0)) (i1 : -200 ≤ i) (i2 : i ≤ 200) (j1 : -200 ≤ j) (j2 : j ≤ 200) : YM l G mX4_aim 0 0 0 [vr (b + k), vi i, vi j] h n (PV b g n) := by
  obtain ⟨r0, r1, r2, r3, e, s0, s1, s2, s3⟩ := hI.r hk
  refine (c_Raim e).imp (fun r h' n' q => ?_)
  obtain ⟨q1, rfl, q3⟩ := q
  exact ⟨q1, hI.up hk ⟨_, _, _, _, rfl, by omega, by omega, s2, s3⟩, q3⟩
theorem rfc_b (x1 y1 z1 a b : Int) : 0 ≤ rfc x1 y1 z1 a b ∧ rfc x1 y1 z1 a b ≤ 2 := by
  unfold rfc
  split
  · omega
  · split <;> omega
theorem rex_b {x1 y1 z1 a b : Int} (hz : 0 ≤ z1 ∧ z1 ≤ 32) (hx : 0 ≤ x1 ∧ x1 ≤ 32) (hy : 0 ≤ y1 ∧ y1 ≤ 32) (ha : -1000 ≤ a ∧ a ≤ 1000) (hb : -1000 ≤ b ∧ b ≤ 1000) : -10000 ≤ rex x1 y1 z1 a b ∧ rex x1 y1 z1 a b ≤ 10000 := by
  unfold rex
  split
  · omega
  · split <;> omega
theorem w_Rleave {a N : Nat} {F : Nat → Int} {z : Int} (hI : MI b g h) (hk : rTb k = some (4, 0, 0, 0)) (ha : h a = some (ai N F)) (hF : ∀ j, 0 ≤ F j ∧ F j ≤ 32) (hz : 0 ≤ z) (hN : z + 6 ≤ N) (hM : N ≤ 100000) : YM l G mX4_leave 0 0 0 [vr (b + k), vr a, vi z] h n (PV b g n) := by
  obtain ⟨r0, r1, r2, r3, e, s0, s1, s2, s3⟩ := hI.r hk
  have hab : a ≠ b + k := fun q => by rw [q, e] at ha; cases ha
  have f1 := hF (z + 1).toNat
  have f3 := hF (z + 3).toNat
  have f5 := hF (z + 5).toNat
  refine (c_Rleave e ha hab hz hN hM ⟨rfl, rfl, rfl, rfl, rfl, rfl⟩ ⟨⟨by omega, by omega⟩, ⟨by omega, by omega⟩⟩ ⟨⟨by omega, by omega⟩, ⟨by omega, by omega⟩, ⟨by omega, by omega⟩⟩).imp (fun r h' n' q => ?_)
  obtain ⟨q1, rfl, q3⟩ := q
  exact ⟨q1, hI.up hk ⟨_, _, _, _, rfl, s0, s1, rex_b f5 f1 f3 s0 s1, (rfc_b _ _ _ _ _).1, (rfc_b _ _ _ _ _).2⟩, q3⟩
theorem w_Rhits {a N : Nat} {F : Nat → Int} {z : Int} (hI : MI b g h) (hk : rTb k = some (4, 0, 0, 0)) (ha : h a = some (ai N F)) (hF : ∀ j, 0 ≤ F j ∧ F j ≤ 32) (hz : 0 ≤ z) (hN : z + 6 ≤ N) (hM : N ≤ 100000) : YM l G mX4_hits 1 0 0 [vr (b + k), vr a, vi z] h n (PZ b g n 0 1) := by
  obtain ⟨r0, r1, r2, r3, e, s0, s1, s2, s3⟩ := hI.r hk
  have f0 := hF z.toNat
  have f1 := hF (z + 1).toNat
  have f2 := hF (z + 2).toNat
  have f3 := hF (z + 3).toNat
  have f4 := hF (z + 4).toNat
  have f5 := hF (z + 5).toNat
  refine (c_Rhits e ha hz hN hM ⟨rfl, rfl, rfl, rfl, rfl, rfl⟩ ⟨⟨by omega, by omega⟩, ⟨by omega, by omega⟩⟩ ⟨⟨by omega, by omega⟩, ⟨by omega, by omega⟩, ⟨by omega, by omega⟩, ⟨by omega, by omega⟩, ⟨by omega, by omega⟩, ⟨by omega, by omega⟩⟩).imp (fun r h' n' q => ?_)
  obtain ⟨q1, rfl, q3⟩ := q
  exact ⟨_, q1, by split <;> omega, by split <;> omega, hI, q3⟩
theorem w_RspotRow (hI : MI b g h) (hk : rTb k = some (4, 0, 0, 0)) : YM l G mX4_spotRow 1 0 0 [vr (b + k)] h n (PZ b g n 0 7) := by
  obtain ⟨r0, r1, r2, r3, e, s0, s1, s2, s3⟩ := hI.r hk
  refine (c_RspotRow e ⟨by omega, by omega⟩ ⟨by omega, by omega⟩ ⟨by omega, by omega⟩ ⟨by omega, by omega⟩).imp (fun r h' n' q => ?_)
  obtain ⟨q1, rfl, q3⟩ := q
  exact ⟨_, q1, by omega, by omega, hI, q3⟩
theorem w_RspotPlace (hI : MI b g h) (hk : rTb k = some (4, 0, 0, 0)) : YM l G mX4_spotPlace 1 0 0 [vr (b + k)] h n (PZ b g n 0 7) := by
  obtain ⟨r0, r1, r2, r3, e, s0, s1, s2, s3⟩ := hI.r hk
  refine (c_RspotPlace e ⟨by omega, by omega⟩ ⟨by omega, by omega⟩ ⟨by omega, by omega⟩ ⟨by omega, by omega⟩).imp (fun r h' n' q => ?_)
  obtain ⟨q1, rfl, q3⟩ := q
  exact ⟨_, q1, by omega, by omega, hI, q3⟩
end C80
