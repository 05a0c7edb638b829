/-! the reference, as far as its bounds go -/
def RF (b : Nat) (g : yH) (B J : Nat → Int) (i0 i1 i2 i3 i4 i5 i6 : Int) : Prop := g (b + 540) = some (mo (b + 540) i0 i1 i2 i3 i4 i5 i6) ∧ g (b + 541) = some (ai 264 B) ∧ g (b + 542) = some (ai 64 J) ∧ (∀ j, 0 ≤ B j ∧ B j ≤ 32) ∧ (∀ v k : Int, 0 ≤ v → v < 24 → 1 ≤ k → k < 4 → B (11 * v + 7 + k).toNat < 8) ∧ (∀ v : Int, 0 ≤ v → v < 24 → B (11 * v + 7).toNat < 16) ∧ (∀ j, -2147483648 ≤ J j ∧ J j ≤ 2147483647) ∧ 0 ≤ i0 ∧ i0 ≤ 96 ∧ -2147483648 ≤ i5 ∧ i5 ≤ 2147483647
section C61
variable {l : Launch} {G : xG} {h : yH} {n : Nat}
theorem w_isLeft {b : Nat} {g : yH} {i0 i1 i2 i3 i4 i5 i6 : Int} {B J : Nat → Int} (hf : RF b g B J i0 i1 i2 i3 i4 i5 i6) {p : Int} (p1 : 0 ≤ p) (p2 : p < 128) (hI : MI b g h) : YM l G mX7_isLeft 0 0 0 [vr (b + 540), vi p] h n (PZ b g n 0 1) := by
  refine YM.of kX7_isLeft (Nat.le_of_ble_eq_true rfl) (L0 := [some (vr (b + 540)), some (vi p)]) rfl ?_
  obtain ⟨hm, hB, hJ, hBb, hBs, hBc, hJb, hi1, hi2, hi3, hi4⟩ := id hf
  refine y_run kX7_isLeft rfl ?_
  refine m_get kX7_isLeft (540) hI hm ?_
  refine y_run kX7_isLeft rfl ?_
  refine m_ia kX7_isLeft (545) hI rfl (fun v1 v1a v1b => ?_)
  refine y_run kX7_isLeft rfl ?_
  refine y_ic_eq kX7_isLeft rfl rfl (fun c1 => ?_) (fun c1 => ?_)
  · refine y_run kX7_isLeft rfl ?_
    exact y_zr kX7_isLeft rfl rfl (by omega) ⟨_, rfl, by omega, by omega, hI, rfl⟩
  · refine y_run kX7_isLeft rfl ?_
    refine m_get kX7_isLeft (540) hI hm ?_
    refine y_run kX7_isLeft rfl ?_
    refine m_ia kX7_isLeft (545) hI rfl (fun v2 v2a v2b => ?_)
    refine y_if_ne kX7_isLeft rfl rfl (fun c2 => ?_) (fun c2 => ?_)
    · refine y_run kX7_isLeft rfl ?_
      exact y_zr kX7_isLeft rfl rfl (by omega) ⟨_, rfl, by omega, by omega, hI, rfl⟩
    · refine y_run kX7_isLeft rfl ?_
      exact y_zr kX7_isLeft rfl rfl (by omega) ⟨_, rfl, by omega, by omega, hI, rfl⟩
theorem w_isTangled {b : Nat} {g : yH} {i0 i1 i2 i3 i4 i5 i6 : Int} {B J : Nat → Int} (hf : RF b g B J i0 i1 i2 i3 i4 i5 i6) {p q : Int} (p1 : 0 ≤ p) (p2 : p < 128) (q1 : 0 ≤ q) (q2 : q < 128) (hI : MI b g h) : YM l G mX7_isTangled 0 0 0 [vr (b + 540), vi p, vi q] h n (PZ b g n 0 1) := by
  refine YM.of kX7_isTangled (Nat.le_of_ble_eq_true rfl) (L0 := [some (vr (b + 540)), some (vi p), some (vi q)]) rfl ?_
  obtain ⟨hm, hB, hJ, hBb, hBs, hBc, hJb, hi1, hi2, hi3, hi4⟩ := id hf
  refine y_run kX7_isTangled rfl ?_
  refine y_ic_eq kX7_isTangled rfl rfl (fun c1 => ?_) (fun c1 => ?_)
  · refine y_run kX7_isTangled rfl ?_
    exact y_zr kX7_isTangled rfl rfl (by omega) ⟨_, rfl, by omega, by omega, hI, rfl⟩
  · refine y_run kX7_isTangled rfl ?_
    refine m_get kX7_isTangled (540) hI hm ?_
    refine y_run kX7_isTangled rfl ?_
    refine m_za kX7_isTangled (547) hI rfl (fun v1 v1a => ?_)
    refine y_if_eq kX7_isTangled rfl rfl (fun c2 => ?_) (fun c2 => ?_)
    · refine y_run kX7_isTangled rfl ?_
      exact y_zr kX7_isTangled rfl rfl (by omega) ⟨_, rfl, by omega, by omega, hI, rfl⟩
    · refine y_run kX7_isTangled rfl ?_
      refine m_get kX7_isTangled (540) hI hm ?_
      refine y_run kX7_isTangled rfl ?_
      refine m_za kX7_isTangled (547) hI rfl (fun v2 v2a => ?_)
      refine y_if_eq kX7_isTangled rfl rfl (fun c3 => ?_) (fun c3 => ?_)
      · refine y_run kX7_isTangled rfl ?_
        exact y_zr kX7_isTangled rfl rfl (by omega) ⟨_, rfl, by omega, by omega, hI, rfl⟩
      · refine y_run kX7_isTangled rfl ?_
        exact y_zr kX7_isTangled rfl rfl (by omega) ⟨_, rfl, by omega, by omega, hI, rfl⟩
theorem s_with {b : Nat} {g : yH} {i0 i1 i2 i3 i4 i5 i6 : Int} {B J : Nat → Int} (hf : RF b g B J i0 i1 i2 i3 i4 i5 i6) {p : Int} (p1 : 0 ≤ p) (p2 : p < 128) : ∀ (m : Nat) (q : Int) (h : yH), (128 - q).toNat < m → 0 ≤ q → q ≤ 128 → MI b g h → YW l G mX7_with 0 0 0 (PV b g n) 2 [some (vr (b + 540)), some (vi p), some (vi q)] [] h n := by
  intro m
  induction m with
  | zero => intro q h hm; exact absurd hm (Nat.not_lt_zero _)
  | succ m ih =>
    intro q h hmm j0 j1 hI
    obtain ⟨hm, hB, hJ, hBb, hBs, hBc, hJb, hi1, hi2, hi3, hi4⟩ := id hf
    refine y_run kX7_with rfl ?_
    refine y_ic_ge kX7_with rfl rfl (fun c1 => ?_) (fun c1 => ?_)
    · exact y_vr kX7_with rfl rfl ⟨rfl, hI, rfl⟩
    · refine y_run kX7_with rfl ?_
      refine m_get kX7_with (540) hI hm ?_
      refine y_run kX7_with rfl ?_
      refine m_ia kX7_with (548) hI rfl (fun v1 v1a v1b => ?_)
      refine y_if_le kX7_with rfl rfl (fun c2 => ?_) (fun c2 => ?_)
      · exact y_vr kX7_with rfl rfl ⟨rfl, hI, rfl⟩
      · refine y_run kX7_with rfl ?_
        refine m_get kX7_with (540) hI hm ?_
        refine y_run kX7_with rfl ?_
        refine m_ia kX7_with (548) hI rfl (fun v2 v2a v2b => ?_)
        refine y_if_eq kX7_with rfl rfl (fun c3 => ?_) (fun c3 => ?_)
        · refine y_run kX7_with rfl ?_
          exact ih _ _ (by omega) (by omega) (by omega) hI
        · refine y_run kX7_with rfl ?_
          refine y_ic_ne kX7_with rfl rfl (fun c4 => ?_) (fun c4 => ?_)
          · refine y_run kX7_with rfl ?_
            refine m_get kX7_with (540) hI hm ?_
            refine y_run kX7_with rfl ?_
            refine m_ia kX7_with (548) hI rfl (fun v3 v3a v3b => ?_)
            refine y_run kX7_with rfl ?_
            refine m_get kX7_with (540) hI hm ?_
            refine y_run kX7_with rfl ?_
            refine m_ia kX7_with (548) hI rfl (fun v4 v4a v4b => ?_)
            refine y_ic_le kX7_with rfl rfl (fun c5 => ?_) (fun c5 => ?_)
            · refine y_run kX7_with rfl ?_
              refine m_get kX7_with (540) hI hm ?_
              refine y_run kX7_with rfl ?_
              refine m_zs kX7_with (546) hI rfl (fun h hI => ?_)
              refine y_run kX7_with rfl ?_
              exact ih _ _ (by omega) (by omega) (by omega) hI
            · refine y_run kX7_with rfl ?_
              refine m_get kX7_with (540) hI hm ?_
              refine y_run kX7_with rfl ?_
              refine m_zs kX7_with (546) hI rfl (fun h hI => ?_)
              refine y_run kX7_with rfl ?_
              exact ih _ _ (by omega) (by omega) (by omega) hI
          · refine y_run kX7_with rfl ?_
            exact ih _ _ (by omega) (by omega) (by omega) hI
theorem w_with {b : Nat} {g : yH} {i0 i1 i2 i3 i4 i5 i6 : Int} {B J : Nat → Int} (hf : RF b g B J i0 i1 i2 i3 i4 i5 i6) {p : Int} (p1 : 0 ≤ p) (p2 : p < 128) (hI : MI b g h) : YM l G mX7_with 0 0 0 [vr (b + 540), vi p] h n (PV b g n) := by
  refine YM.of kX7_with (Nat.le_of_ble_eq_true rfl) (L0 := [some (vr (b + 540)), some (vi p), none]) rfl ?_
  obtain ⟨hm, hB, hJ, hBb, hBs, hBc, hJb, hi1, hi2, hi3, hi4⟩ := id hf
  refine y_run kX7_with rfl ?_
  exact s_with hf p1 p2 _ 0 _ (Nat.lt_succ_self _) (by omega) (by omega) hI
theorem s_pairs {b : Nat} {g : yH} {i0 i1 i2 i3 i4 i5 i6 : Int} {B J : Nat → Int} (hf : RF b g B J i0 i1 i2 i3 i4 i5 i6)  : ∀ (m : Nat) (q : Int) (h : yH), (128 - q).toNat < m → 0 ≤ q → q ≤ 128 → MI b g h → YW l G mX7_pairs 1 0 0 (PV b g n) 2 [some (vr (b + 540)), some (vi q)] [] h n := by
  intro m
  induction m with
  | zero => intro q h hm; exact absurd hm (Nat.not_lt_zero _)
  | succ m ih =>
    intro q h hmm j0 j1 hI
    obtain ⟨hm, hB, hJ, hBb, hBs, hBc, hJb, hi1, hi2, hi3, hi4⟩ := id hf
    refine y_run kX7_pairs rfl ?_
    refine y_ic_ge kX7_pairs rfl rfl (fun c1 => ?_) (fun c1 => ?_)
    · exact y_vr kX7_pairs rfl rfl ⟨rfl, hI, rfl⟩
    · refine y_run kX7_pairs rfl ?_
      refine m_get kX7_pairs (540) hI hm ?_
      refine y_run kX7_pairs rfl ?_
      refine m_ia kX7_pairs (548) hI rfl (fun v1 v1a v1b => ?_)
      refine y_if_le kX7_pairs rfl rfl (fun c2 => ?_) (fun c2 => ?_)
      · refine y_run kX7_pairs rfl ?_
        exact ih _ _ (by omega) (by omega) (by omega) hI
      · refine y_run kX7_pairs rfl ?_
        refine y_cv kX7_pairs kX7_with 1 rfl (hI.x (k := 540) rfl hm) (by decide +kernel) (w_with hf (by omega) (by omega) hI) rfl rfl ?_
        rintro _ h _ ⟨rfl, hI, rfl⟩
        refine y_run kX7_pairs rfl ?_
        exact ih _ _ (by omega) (by omega) (by omega) hI
theorem w_pairs {b : Nat} {g : yH} {i0 i1 i2 i3 i4 i5 i6 : Int} {B J : Nat → Int} (hf : RF b g B J i0 i1 i2 i3 i4 i5 i6)  (hI : MI b g h) : YM l G mX7_pairs 1 0 0 [vr (b + 540)] h n (PV b g n) := by
  refine YM.of kX7_pairs (Nat.le_of_ble_eq_true rfl) (L0 := [some (vr (b + 540)), none]) rfl ?_
  obtain ⟨hm, hB, hJ, hBb, hBs, hBc, hJb, hi1, hi2, hi3, hi4⟩ := id hf
  refine y_run kX7_pairs rfl ?_
  exact s_pairs hf _ 0 _ (Nat.lt_succ_self _) (by omega) (by omega) hI
theorem s_close2 {b : Nat} {g : yH} {i0 i1 i2 i3 i4 i5 i6 : Int} {B J : Nat → Int} (hf : RF b g B J i0 i1 i2 i3 i4 i5 i6) {p : Int} (p1 : 0 ≤ p) (p2 : p < 128) (kk : ∀ (u2 : Option xV) (u3 : Option xV) (h : yH), MI b g h → YW l G mX7_close 1 0 0 (PV b g n) 72 [some (vr (b + 540)), some (vi p), u2, u3] [] h n) : ∀ (m : Nat) (q : Int) (u3 : Option xV) (h : yH), (128 - q).toNat < m → 0 ≤ q → q ≤ 128 → MI b g h → YW l G mX7_close 1 0 0 (PV b g n) 11 [some (vr (b + 540)), some (vi p), some (vi q), u3] [] h n := by
  intro m
  induction m with
  | zero => intro q u3 h hm; exact absurd hm (Nat.not_lt_zero _)
  | succ m ih =>
    intro q u3 h hmm j0 j1 hI
    obtain ⟨hm, hB, hJ, hBb, hBs, hBc, hJb, hi1, hi2, hi3, hi4⟩ := id hf
    refine y_run kX7_close rfl ?_
    refine y_ic_ge kX7_close rfl rfl (fun c1 => ?_) (fun c1 => ?_)
    · exact kk _ _ _  hI
    · refine y_run kX7_close rfl ?_
      refine m_get kX7_close (540) hI hm ?_
      refine y_run kX7_close rfl ?_
      refine m_get kX7_close (540) hI hm ?_
      refine y_run kX7_close rfl ?_
      refine m_za kX7_close (546) hI rfl (fun v1 v1a => ?_)
      refine y_if_eq kX7_close rfl rfl (fun c2 => ?_) (fun c2 => ?_)
      · refine y_run kX7_close rfl ?_
        refine m_zs kX7_close (547) hI rfl (fun h hI => ?_)
        refine y_run kX7_close rfl ?_
        exact ih _ _ _ (by omega) (by omega) (by omega) hI
      · refine y_run kX7_close rfl ?_
        refine y_cv kX7_close kX7_isLeft 1 rfl (hI.x (k := 540) rfl hm) (by decide +kernel) (w_isLeft hf (by omega) (by omega) hI) rfl rfl ?_
        rintro _ h _ ⟨v2, rfl, v2a, v2b, hI, rfl⟩
        refine y_if_eq kX7_close rfl rfl (fun c3 => ?_) (fun c3 => ?_)
        · refine y_run kX7_close rfl ?_
          refine m_zs kX7_close (547) hI rfl (fun h hI => ?_)
          refine y_run kX7_close rfl ?_
          exact ih _ _ _ (by omega) (by omega) (by omega) hI
        · refine y_run kX7_close rfl ?_
          refine y_cv kX7_close kX7_isLeft 1 rfl (hI.x (k := 540) rfl hm) (by decide +kernel) (w_isLeft hf (by omega) (by omega) hI) rfl rfl ?_
          rintro _ h _ ⟨v3, rfl, v3a, v3b, hI, rfl⟩
          refine y_if_eq kX7_close rfl rfl (fun c4 => ?_) (fun c4 => ?_)
          · refine y_run kX7_close rfl ?_
            refine m_zs kX7_close (547) hI rfl (fun h hI => ?_)
            refine y_run kX7_close rfl ?_
            exact ih _ _ _ (by omega) (by omega) (by omega) hI
          · refine y_run kX7_close rfl ?_
            refine m_zs kX7_close (547) hI rfl (fun h hI => ?_)
            refine y_run kX7_close rfl ?_
            exact ih _ _ _ (by omega) (by omega) (by omega) hI
theorem s_close5 {b : Nat} {g : yH} {i0 i1 i2 i3 i4 i5 i6 : Int} {B J : Nat → Int} (hf : RF b g B J i0 i1 i2 i3 i4 i5 i6) {p q : Int} (p1 : 0 ≤ p) (p2 : p < 128) (q1 : 0 ≤ q) (q2 : q < 128) (kk : ∀ (u3 : Option xV) (h : yH), MI b g h → YW l G mX7_close 1 0 0 (PV b g n) 187 [some (vr (b + 540)), some (vi p), some (vi q), u3] [] h n) : ∀ (m : Nat) (r : Int) (h : yH), (128 - r).toNat < m → 0 ≤ r → r ≤ 128 → MI b g h → YW l G mX7_close 1 0 0 (PV b g n) 127 [some (vr (b + 540)), some (vi p), some (vi q), some (vi r)] [] h n := by
  intro m
  induction m with
  | zero => intro r h hm; exact absurd hm (Nat.not_lt_zero _)
  | succ m ih =>
    intro r h hmm j0 j1 hI
    obtain ⟨hm, hB, hJ, hBb, hBs, hBc, hJb, hi1, hi2, hi3, hi4⟩ := id hf
    refine y_run kX7_close rfl ?_
    refine y_ic_ge kX7_close rfl rfl (fun c1 => ?_) (fun c1 => ?_)
    · exact kk _ _  hI
    · refine y_run kX7_close rfl ?_
      refine m_get kX7_close (540) hI hm ?_
      refine y_run kX7_close rfl ?_
      refine m_get kX7_close (540) hI hm ?_
      refine y_run kX7_close rfl ?_
      refine m_za kX7_close (547) hI rfl (fun v1 v1a => ?_)
      refine y_if_ne kX7_close rfl rfl (fun c2 => ?_) (fun c2 => ?_)
      · refine y_run kX7_close rfl ?_
        refine m_zs kX7_close (547) hI rfl (fun h hI => ?_)
        refine y_run kX7_close rfl ?_
        exact ih _ _ (by omega) (by omega) (by omega) hI
      · refine y_run kX7_close rfl ?_
        refine m_get kX7_close (540) hI hm ?_
        refine y_run kX7_close rfl ?_
        refine m_za kX7_close (547) hI rfl (fun v2 v2a => ?_)
        refine y_if_eq kX7_close rfl rfl (fun c3 => ?_) (fun c3 => ?_)
        · refine y_run kX7_close rfl ?_
          refine m_zs kX7_close (547) hI rfl (fun h hI => ?_)
          refine y_run kX7_close rfl ?_
          exact ih _ _ (by omega) (by omega) (by omega) hI
        · refine y_run kX7_close rfl ?_
          refine m_zs kX7_close (547) hI rfl (fun h hI => ?_)
          refine y_run kX7_close rfl ?_
          exact ih _ _ (by omega) (by omega) (by omega) hI
theorem s_close4 {b : Nat} {g : yH} {i0 i1 i2 i3 i4 i5 i6 : Int} {B J : Nat → Int} (hf : RF b g B J i0 i1 i2 i3 i4 i5 i6) {p : Int} (p1 : 0 ≤ p) (p2 : p < 128) (kk : ∀ (u2 : Option xV) (u3 : Option xV) (h : yH), MI b g h → YW l G mX7_close 1 0 0 (PV b g n) 193 [some (vr (b + 540)), some (vi p), u2, u3] [] h n) : ∀ (m : Nat) (q : Int) (u3 : Option xV) (h : yH), (128 - q).toNat < m → 0 ≤ q → q ≤ 128 → MI b g h → YW l G mX7_close 1 0 0 (PV b g n) 100 [some (vr (b + 540)), some (vi p), some (vi q), u3] [] h n := by
  intro m
  induction m with
  | zero => intro q u3 h hm; exact absurd hm (Nat.not_lt_zero _)
  | succ m ih =>
    intro q u3 h hmm j0 j1 hI
    obtain ⟨hm, hB, hJ, hBb, hBs, hBc, hJb, hi1, hi2, hi3, hi4⟩ := id hf
    refine y_run kX7_close rfl ?_
    refine y_ic_ge kX7_close rfl rfl (fun c1 => ?_) (fun c1 => ?_)
    · exact kk _ _ _  hI
    · refine y_run kX7_close rfl ?_
      refine m_get kX7_close (540) hI hm ?_
      refine y_run kX7_close rfl ?_
      refine m_za kX7_close (547) hI rfl (fun v1 v1a => ?_)
      refine y_if_ne kX7_close rfl rfl (fun c2 => ?_) (fun c2 => ?_)
      · refine y_run kX7_close rfl ?_
        exact s_close5 hf p1 p2 (by omega) (by omega) (fun u3 h hI => by
          refine y_run kX7_close rfl ?_
          exact ih _ _ _ (by omega) (by omega) (by omega) hI) _ 0  _ (Nat.lt_succ_self _) (by omega) (by omega) hI
      · refine y_run kX7_close rfl ?_
        exact ih _ _ _ (by omega) (by omega) (by omega) hI
theorem s_close3 {b : Nat} {g : yH} {i0 i1 i2 i3 i4 i5 i6 : Int} {B J : Nat → Int} (hf : RF b g B J i0 i1 i2 i3 i4 i5 i6)  : ∀ (m : Nat) (p : Int) (u2 : Option xV) (u3 : Option xV) (h : yH), (128 - p).toNat < m → 0 ≤ p → p ≤ 128 → MI b g h → YW l G mX7_close 1 0 0 (PV b g n) 80 [some (vr (b + 540)), some (vi p), u2, u3] [] h n := by
  intro m
  induction m with
  | zero => intro p u2 u3 h hm; exact absurd hm (Nat.not_lt_zero _)
  | succ m ih =>
    intro p u2 u3 h hmm j0 j1 hI
    obtain ⟨hm, hB, hJ, hBb, hBs, hBc, hJb, hi1, hi2, hi3, hi4⟩ := id hf
    refine y_run kX7_close rfl ?_
    refine y_ic_ge kX7_close rfl rfl (fun c1 => ?_) (fun c1 => ?_)
    · exact y_vr kX7_close rfl rfl ⟨rfl, hI, rfl⟩
    · refine y_run kX7_close rfl ?_
      refine y_cv kX7_close kX7_isLeft 1 rfl (hI.x (k := 540) rfl hm) (by decide +kernel) (w_isLeft hf (by omega) (by omega) hI) rfl rfl ?_
      rintro _ h _ ⟨v1, rfl, v1a, v1b, hI, rfl⟩
      refine y_if_ne kX7_close rfl rfl (fun c2 => ?_) (fun c2 => ?_)
      · refine y_run kX7_close rfl ?_
        exact s_close4 hf (by omega) (by omega) (fun u2 u3 h hI => by
          refine y_run kX7_close rfl ?_
          exact ih _ _ _ _ (by omega) (by omega) (by omega) hI) _ 0 _ _ (Nat.lt_succ_self _) (by omega) (by omega) hI
      · refine y_run kX7_close rfl ?_
        exact ih _ _ _ _ (by omega) (by omega) (by omega) hI
theorem s_close1 {b : Nat} {g : yH} {i0 i1 i2 i3 i4 i5 i6 : Int} {B J : Nat → Int} (hf : RF b g B J i0 i1 i2 i3 i4 i5 i6)  (kk : ∀ (u1 : Option xV) (u2 : Option xV) (u3 : Option xV) (h : yH), MI b g h → YW l G mX7_close 1 0 0 (PV b g n) 78 [some (vr (b + 540)), u1, u2, u3] [] h n) : ∀ (m : Nat) (p : Int) (u2 : Option xV) (u3 : Option xV) (h : yH), (128 - p).toNat < m → 0 ≤ p → p ≤ 128 → MI b g h → YW l G mX7_close 1 0 0 (PV b g n) 2 [some (vr (b + 540)), some (vi p), u2, u3] [] h n := by
  intro m
  induction m with
  | zero => intro p u2 u3 h hm; exact absurd hm (Nat.not_lt_zero _)
  | succ m ih =>
    intro p u2 u3 h hmm j0 j1 hI
    obtain ⟨hm, hB, hJ, hBb, hBs, hBc, hJb, hi1, hi2, hi3, hi4⟩ := id hf
    refine y_run kX7_close rfl ?_
    refine y_ic_ge kX7_close rfl rfl (fun c1 => ?_) (fun c1 => ?_)
    · exact kk _ _ _ _  hI
    · refine y_run kX7_close rfl ?_
      exact s_close2 hf (by omega) (by omega) (fun u2 u3 h hI => by
        refine y_run kX7_close rfl ?_
        exact ih _ _ _ _ (by omega) (by omega) (by omega) hI) _ 0 _ _ (Nat.lt_succ_self _) (by omega) (by omega) hI
theorem w_close {b : Nat} {g : yH} {i0 i1 i2 i3 i4 i5 i6 : Int} {B J : Nat → Int} (hf : RF b g B J i0 i1 i2 i3 i4 i5 i6)  (hI : MI b g h) : YM l G mX7_close 1 0 0 [vr (b + 540)] h n (PV b g n) := by
  refine YM.of kX7_close (Nat.le_of_ble_eq_true rfl) (L0 := [some (vr (b + 540)), none, none, none]) rfl ?_
  obtain ⟨hm, hB, hJ, hBb, hBs, hBc, hJb, hi1, hi2, hi3, hi4⟩ := id hf
  refine y_run kX7_close rfl ?_
  exact s_close1 hf (fun u1 u2 u3 h hI => by
    refine y_run kX7_close rfl ?_
    exact s_close3 hf  _ 0 _ _ _ (Nat.lt_succ_self _) (by omega) (by omega) hI) _ 0 _ _ _ (Nat.lt_succ_self _) (by omega) (by omega) hI
end C61
