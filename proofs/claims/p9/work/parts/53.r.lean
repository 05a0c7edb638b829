section C62
variable {l : Launch} {G : xG} {M : xM} {d kc ks : Nat} {Φ : Option xV → yH → Nat → Prop} {h : yH} {n : Nat} {pc : Nat} {L : List (Option xV)} {st : List xV}
theorem YW.gz {lo hi z : Int} (hz : lo ≤ z ∧ z ≤ hi) (kk : ∀ v, lo ≤ v → v ≤ hi → YW l G M d kc ks Φ pc L (vi v :: st) h n) : YW l G M d kc ks Φ pc L (vi z :: st) h n := kk z hz.1 hz.2
end C62
def mexO (B : Nat → Int) (v p : Int) : Int := if (0 ≤ v ∧ v < 24) ∧ B (11 * v).toNat = 1 then mex (B (11 * v + 1).toNat) (B (11 * v + 1 + 1).toNat) (B (11 * v + 1 + 2).toNat) (B (11 * v + 1 + 3).toNat) (B (11 * v + 1 + 4).toNat) (B (11 * v + 1 + 5).toNat) (2 * (p / 64 - 64) + 2 * (p % 64 - 32) + 1) (2 * (p / 64 - 64) - 2 * (p % 64 - 32) - 1) else 0
theorem mexO_b {B : Nat → Int} (hb : ∀ j, 0 ≤ B j ∧ B j ≤ 32) (v p : Int) : 0 ≤ mexO B v p ∧ mexO B v p ≤ 128 ∧ (mexO B v p ≠ 0 → ((0 ≤ v ∧ v < 24) ∧ B (11 * v).toNat = 1) ∧ 0 < mexO B v p + (2 * (p / 64 - 64) + 2 * (p % 64 - 32) + 1) ∧ 0 < mexO B v p + (2 * (p / 64 - 64) - 2 * (p % 64 - 32) - 1) ∧ mexO B v p + (2 * (p / 64 - 64) + 2 * (p % 64 - 32) + 1) ≤ 128 ∧ mexO B v p + (2 * (p / 64 - 64) - 2 * (p % 64 - 32) - 1) ≤ 128) := by
  unfold mexO
  by_cases c : (0 ≤ v ∧ v < 24) ∧ B (11 * v).toNat = 1
  · rw [if_pos c]
    have b0 := hb (11 * v + 1).toNat
    have b1 := hb (11 * v + 1 + 1).toNat
    have b2 := hb (11 * v + 1 + 2).toNat
    have b3 := hb (11 * v + 1 + 3).toNat
    have b4 := hb (11 * v + 1 + 4).toNat
    have b5 := hb (11 * v + 1 + 5).toNat
    generalize 2 * (p / 64 - 64) + 2 * (p % 64 - 32) + 1 = A
    generalize 2 * (p / 64 - 64) - 2 * (p % 64 - 32) - 1 = A'
    by_cases z : mex (B (11 * v + 1).toNat) (B (11 * v + 1 + 1).toNat) (B (11 * v + 1 + 2).toNat) (B (11 * v + 1 + 3).toNat) (B (11 * v + 1 + 4).toNat) (B (11 * v + 1 + 5).toNat) A A' = 0
    · rw [z]; exact ⟨by omega, by omega, fun q => absurd rfl q⟩
    · have k := mex_pos b4.1 z
      refine ⟨by omega, by omega, fun _ => ⟨c, by omega, by omega, by omega, by omega⟩⟩
  · rw [if_neg c]; exact ⟨by omega, by omega, fun q => absurd rfl q⟩
section C63
variable {l : Launch} {G : xG} {h : yH} {n : Nat}
theorem c_mexitOf {b : Nat} {g : yH} {i0 i1 i2 i3 i4 i5 i6 : Int} {B J : Nat → Int} (hf : RF b g B J i0 i1 i2 i3 i4 i5 i6) {v p : Int} (hv : inI v) (p1 : 0 ≤ p) (p2 : p < 8192) (hI : MI b g h) : YM l G mX7_exitOf 2 0 0 [vr (b + 540), vi v, vi p] h n (fun r h' n' => r = some (vi (mexO B v p)) ∧ h' = h ∧ n' = n) := by
  refine YM.of kX7_exitOf (Nat.le_of_ble_eq_true rfl) (L0 := [some (vr (b + 540)), some (vi v), some (vi p)]) rfl ?_
  obtain ⟨hm, hB, hJ, hBb, hBs, hBc, hJb, hi1, hi2, hi3, hi4⟩ := id hf
  refine y_run kX7_exitOf rfl ?_
  refine y_cv kX7_exitOf kX7_isThere 1 rfl (hI.x (k := 540) rfl hm) (by decide +kernel) (c_isThere (hI.x (k := 540) rfl hm) (hI.x (k := 541) rfl hB) (fun j => ⟨by have := hBb j; omega, by have := hBb j; omega⟩) hv) rfl rfl ?_
  rintro _ _ _ ⟨⟨rfl, t⟩ | ⟨rfl, t⟩, rfl, rfl⟩
  · refine y_if_eq kX7_exitOf rfl rfl (fun q => absurd q (by omega)) (fun _ => ?_)
    have t1 := t.1
    refine y_run kX7_exitOf rfl ?_
    refine m_get kX7_exitOf (540) hI hm ?_
    refine y_run kX7_exitOf rfl ?_
    refine y_cs kX7_exitOf kX7_alongX 1 rfl (by decide +kernel) (c_malongX (by omega) (by omega)) rfl rfl ?_
    rintro _ _ _ ⟨rfl, rfl, rfl⟩
    refine y_run kX7_exitOf rfl ?_
    refine y_cs kX7_exitOf kX7_alongY 1 rfl (by decide +kernel) (c_malongY (by omega) (by omega)) rfl rfl ?_
    rintro _ _ _ ⟨rfl, rfl, rfl⟩
    refine y_cs kX7_exitOf kX7_exit 4 rfl (by decide +kernel) (c_mexit (hI.x (k := 541) rfl hB) (by omega) (by omega) (by omega) (fun j => ⟨by have := hBb j; omega, by have := hBb j; omega⟩) ⟨by omega, by omega⟩ ⟨by omega, by omega⟩) rfl rfl ?_
    rintro _ _ _ ⟨rfl, rfl, rfl⟩
    refine y_run kX7_exitOf rfl ?_
    exact y_ir kX7_exitOf rfl rfl ⟨by unfold mexO; rw [if_pos (show (0 ≤ v ∧ v < 24) ∧ B (11 * v).toNat = 1 from t)], rfl, rfl⟩
  · refine y_if_eq kX7_exitOf rfl rfl (fun _ => ?_) (fun q => absurd rfl q)
    refine y_run kX7_exitOf rfl ?_
    exact y_ir kX7_exitOf rfl rfl ⟨by unfold mexO; rw [if_neg (show ¬ ((0 ≤ v ∧ v < 24) ∧ B (11 * v).toNat = 1) from t)], rfl, rfl⟩
theorem w_faceOf {b : Nat} {g : yH} {i0 i1 i2 i3 i4 i5 i6 : Int} {B J : Nat → Int} (hf : RF b g B J i0 i1 i2 i3 i4 i5 i6) {v p e : Int} (n1 : 0 ≤ v) (n2 : v < 24) (p1 : 0 ≤ p) (p2 : p < 8192) (e1 : 0 ≤ e) (e2 : e ≤ 128) (hI : MI b g h) : YM l G mX7_faceOf 1 0 0 [vr (b + 540), vi v, vi p, vi e] h n (PZ b g n 0 2) := by
  refine YM.of kX7_faceOf (Nat.le_of_ble_eq_true rfl) (L0 := [some (vr (b + 540)), some (vi v), some (vi p), some (vi e)]) rfl ?_
  obtain ⟨hm, hB, hJ, hBb, hBs, hBc, hJb, hi1, hi2, hi3, hi4⟩ := id hf
  refine y_run kX7_faceOf rfl ?_
  refine m_get kX7_faceOf (540) hI hm ?_
  refine y_run kX7_faceOf rfl ?_
  refine m_ix kX7_faceOf (hI.x (k := 541) rfl hB) hBb (fun v1 v1e v1a v1b => ?_)
  refine y_run kX7_faceOf rfl ?_
  refine y_cs kX7_faceOf kX7_alongX 1 rfl (by decide +kernel) (c_malongX (by omega) (by omega)) rfl rfl ?_
  rintro _ _ _ ⟨rfl, rfl, rfl⟩
  refine y_run kX7_faceOf rfl ?_
  refine y_ic_ne kX7_faceOf rfl rfl (fun c1 => ?_) (fun c1 => ?_)
  · refine y_run kX7_faceOf rfl ?_
    refine m_get kX7_faceOf (540) hI hm ?_
    refine y_run kX7_faceOf rfl ?_
    refine m_ix kX7_faceOf (hI.x (k := 541) rfl hB) hBb (fun v3 v3e v3a v3b => ?_)
    refine y_run kX7_faceOf rfl ?_
    refine y_cs kX7_faceOf kX7_alongY 1 rfl (by decide +kernel) (c_malongY (by omega) (by omega)) rfl rfl ?_
    rintro _ _ _ ⟨rfl, rfl, rfl⟩
    refine y_run kX7_faceOf rfl ?_
    refine y_ic_ne kX7_faceOf rfl rfl (fun c2 => ?_) (fun c2 => ?_)
    · refine y_run kX7_faceOf rfl ?_
      exact y_ir kX7_faceOf rfl rfl ⟨_, rfl, by omega, by omega, hI, rfl⟩
    · refine y_run kX7_faceOf rfl ?_
      exact y_ir kX7_faceOf rfl rfl ⟨_, rfl, by omega, by omega, hI, rfl⟩
  · refine y_run kX7_faceOf rfl ?_
    exact y_ir kX7_faceOf rfl rfl ⟨_, rfl, by omega, by omega, hI, rfl⟩
theorem w_inkOf {b : Nat} {g : yH} {i0 i1 i2 i3 i4 i5 i6 : Int} {B J : Nat → Int} (hf : RF b g B J i0 i1 i2 i3 i4 i5 i6) {v p e : Int} (n1 : 0 ≤ v) (n2 : v < 24) (p1 : 0 ≤ p) (p2 : p < 8192) (e1 : 0 ≤ e) (e2 : e ≤ 128) (e3 : 0 < e + (2 * (p / 64 - 64) + 2 * (p % 64 - 32) + 1)) (e4 : 0 < e + (2 * (p / 64 - 64) - 2 * (p % 64 - 32) - 1)) (hI : MI b g h) : YM l G mX7_inkOf 2 0 0 [vr (b + 540), vi v, vi p, vi e] h n (PZ b g n 0 3) := by
  refine YM.of kX7_inkOf (Nat.le_of_ble_eq_true rfl) (L0 := [some (vr (b + 540)), some (vi v), some (vi p), some (vi e), none, none, none, none, none, none]) rfl ?_
  obtain ⟨hm, hB, hJ, hBb, hBs, hBc, hJb, hi1, hi2, hi3, hi4⟩ := id hf
  refine y_run kX7_inkOf rfl ?_
  refine y_cv kX7_inkOf kX7_faceOf 3 rfl (hI.x (k := 540) rfl hm) (by decide +kernel) (w_faceOf hf (by omega) (by omega) (by omega) (by omega) (by omega) (by omega) hI) rfl rfl ?_
  rintro _ h _ ⟨v1, rfl, v1a, v1b, hI, rfl⟩
  refine y_run kX7_inkOf rfl ?_
  refine y_cs kX7_inkOf kX7_alongX 1 rfl (by decide +kernel) (c_malongX (by omega) (by omega)) rfl rfl ?_
  rintro _ _ _ ⟨rfl, rfl, rfl⟩
  refine y_run kX7_inkOf rfl ?_
  refine y_idiv kX7_inkOf rfl (by omega) (by omega) (by omega) (by omega) ?_
  refine y_run kX7_inkOf rfl ?_
  refine y_irem kX7_inkOf rfl (by omega) (by omega) (by omega) (by omega) ?_
  refine y_run kX7_inkOf rfl ?_
  refine y_cs kX7_inkOf kX7_alongY 1 rfl (by decide +kernel) (c_malongY (by omega) (by omega)) rfl rfl ?_
  rintro _ _ _ ⟨rfl, rfl, rfl⟩
  refine y_run kX7_inkOf rfl ?_
  refine y_idiv kX7_inkOf rfl (by omega) (by omega) (by omega) (by omega) ?_
  refine y_run kX7_inkOf rfl ?_
  refine y_irem kX7_inkOf rfl (by omega) (by omega) (by omega) (by omega) ?_
  refine y_run kX7_inkOf rfl ?_
  refine y_idiv kX7_inkOf rfl (by omega) (by omega) (by omega) (by omega) ?_
  refine y_run kX7_inkOf rfl ?_
  refine y_irem kX7_inkOf rfl (by omega) (by omega) (by omega) (by omega) ?_
  refine y_run kX7_inkOf rfl ?_
  refine y_ic_ne kX7_inkOf rfl rfl (fun c1 => ?_) (fun c1 => ?_)
  · refine y_run kX7_inkOf rfl ?_
    refine y_if_ne kX7_inkOf rfl rfl (fun c2 => ?_) (fun c2 => ?_)
    · refine y_run kX7_inkOf rfl ?_
      refine m_get kX7_inkOf (540) hI hm ?_
      refine y_run kX7_inkOf rfl ?_
      refine m_get kX7_inkOf (540) hI hm ?_
      refine y_run kX7_inkOf rfl ?_
      refine m_ix kX7_inkOf (hI.x (k := 541) rfl hB) hBb (fun s se sa sb => ?_)
      have s8 : s < 8 := by
        rw [se]
        have := hBs v (1 + v1) n1 n2 (by omega) (by omega)
        rwa [show 11 * v + 7 + (1 + v1) = 11 * v + 8 + v1 by omega] at this
      refine y_run kX7_inkOf rfl ?_
      refine m_ix kX7_inkOf (hI.x (k := 542) rfl hJ) (lo := -2147483648) (hi := 2147483647) hJb (fun s9 _ _ _ => ?_)
      refine y_run kX7_inkOf rfl ?_
      rw [yand_3]
      exact y_ir kX7_inkOf rfl rfl ⟨_, rfl, by omega, by omega, hI, rfl⟩
    · refine y_run kX7_inkOf rfl ?_
      refine m_get kX7_inkOf (540) hI hm ?_
      refine y_run kX7_inkOf rfl ?_
      refine m_get kX7_inkOf (540) hI hm ?_
      refine y_run kX7_inkOf rfl ?_
      refine m_ix kX7_inkOf (hI.x (k := 541) rfl hB) hBb (fun s se sa sb => ?_)
      have s8 : s < 8 := by
        rw [se]
        have := hBs v (1 + v1) n1 n2 (by omega) (by omega)
        rwa [show 11 * v + 7 + (1 + v1) = 11 * v + 8 + v1 by omega] at this
      refine y_run kX7_inkOf rfl ?_
      refine m_ix kX7_inkOf (hI.x (k := 542) rfl hJ) (lo := -2147483648) (hi := 2147483647) hJb (fun s9 _ _ _ => ?_)
      refine y_run kX7_inkOf rfl ?_
      rw [yand_3]
      exact y_ir kX7_inkOf rfl rfl ⟨_, rfl, by omega, by omega, hI, rfl⟩
  · refine y_run kX7_inkOf rfl ?_
    refine y_if_ne kX7_inkOf rfl rfl (fun c3 => ?_) (fun c3 => ?_)
    · refine y_run kX7_inkOf rfl ?_
      refine m_get kX7_inkOf (540) hI hm ?_
      refine y_run kX7_inkOf rfl ?_
      refine m_get kX7_inkOf (540) hI hm ?_
      refine y_run kX7_inkOf rfl ?_
      refine m_ix kX7_inkOf (hI.x (k := 541) rfl hB) hBb (fun s se sa sb => ?_)
      have s8 : s < 8 := by
        rw [se]
        have := hBs v (1 + v1) n1 n2 (by omega) (by omega)
        rwa [show 11 * v + 7 + (1 + v1) = 11 * v + 8 + v1 by omega] at this
      refine y_run kX7_inkOf rfl ?_
      refine m_ix kX7_inkOf (hI.x (k := 542) rfl hJ) (lo := -2147483648) (hi := 2147483647) hJb (fun s9 _ _ _ => ?_)
      refine y_run kX7_inkOf rfl ?_
      rw [yand_3]
      exact y_ir kX7_inkOf rfl rfl ⟨_, rfl, by omega, by omega, hI, rfl⟩
    · refine y_run kX7_inkOf rfl ?_
      refine m_get kX7_inkOf (540) hI hm ?_
      refine y_run kX7_inkOf rfl ?_
      refine m_get kX7_inkOf (540) hI hm ?_
      refine y_run kX7_inkOf rfl ?_
      refine m_ix kX7_inkOf (hI.x (k := 541) rfl hB) hBb (fun s se sa sb => ?_)
      have s8 : s < 8 := by
        rw [se]
        have := hBs v (1 + v1) n1 n2 (by omega) (by omega)
        rwa [show 11 * v + 7 + (1 + v1) = 11 * v + 8 + v1 by omega] at this
      refine y_run kX7_inkOf rfl ?_
      refine m_ix kX7_inkOf (hI.x (k := 542) rfl hJ) (lo := -2147483648) (hi := 2147483647) hJb (fun s9 _ _ _ => ?_)
      refine y_run kX7_inkOf rfl ?_
      rw [yand_3]
      exact y_ir kX7_inkOf rfl rfl ⟨_, rfl, by omega, by omega, hI, rfl⟩
end C63
