section C65
variable {l : Launch} {G : xG} {h : yH} {n : Nat}
theorem w_mpiece {b : Nat} {g : yH} {i0 i1 i2 i3 i4 i5 i6 : Int} {B J : Nat → Int} (hf : RF b g B J i0 i1 i2 i3 i4 i5 i6) {p q : Int} (p1 : -2147483648 ≤ p) (p2 : p < 2147483648) (q1 : -2147483648 ≤ q) (q2 : q < 2147483648) (hI : MI b g h) : YM l G mX7_piece 1 0 0 [vr (b + 540), vi p, vi q] h n (PZ b g n (-2147483648) 2147483647) := by
  refine YM.of kX7_piece (Nat.le_of_ble_eq_true rfl) (L0 := [some (vr (b + 540)), some (vi p), some (vi q)]) rfl ?_
  obtain ⟨hm, hB, hJ, hBb, hBs, hBc, hJb, hi1, hi2, hi3, hi4⟩ := id hf
  refine y_run kX7_piece rfl ?_
  refine m_get kX7_piece (540) hI hm ?_
  refine y_cs kX7_piece kX7_in 2 rfl (by decide +kernel) (c_in _ _ ⟨by omega, by omega⟩ ⟨by omega, by omega⟩) rfl rfl ?_
  rintro _ _ _ ⟨rfl, rfl, rfl⟩
  refine y_beq kX7_piece rfl rfl (fun c1 => ?_) (fun c1 => ?_)
  · refine y_run kX7_piece rfl ?_
    exact y_ir kX7_piece rfl rfl ⟨_, rfl, by omega, by omega, hI, rfl⟩
  · refine y_run kX7_piece rfl ?_
    refine y_cs kX7_piece kX7_in 2 rfl (by decide +kernel) (c_in _ _ ⟨by omega, by omega⟩ ⟨by omega, by omega⟩) rfl rfl ?_
    rintro _ _ _ ⟨rfl, rfl, rfl⟩
    refine y_beq kX7_piece rfl rfl (fun c2 => ?_) (fun c2 => ?_)
    · refine y_run kX7_piece rfl ?_
      exact y_ir kX7_piece rfl rfl ⟨_, rfl, by omega, by omega, hI, rfl⟩
    · refine y_run kX7_piece rfl ?_
      refine m_get kX7_piece (540) hI hm ?_
      refine y_run kX7_piece rfl ?_
      refine m_ia kX7_piece (550) hI rfl (fun v3 v3a v3b => ?_)
      refine y_run kX7_piece rfl ?_
      exact y_ir kX7_piece rfl rfl ⟨_, rfl, by omega, by omega, hI, rfl⟩
theorem w_mpixel {b : Nat} {g : yH} {i0 i1 i2 i3 i4 i5 i6 : Int} {B J : Nat → Int} (hf : RF b g B J i0 i1 i2 i3 i4 i5 i6) {p q r : Int} (p1 : -2147483648 ≤ p) (p2 : p < 2147483648) (q1 : -2147483648 ≤ q) (q2 : q < 2147483648) (r1 : -2147483648 ≤ r) (r2 : r < 2147483648) (hI : MI b g h) : YM l G mX7_pixel 2 0 0 [vr (b + 540), vi p, vi q, vi r] h n (PZ b g n (-2147483648) 2147483647) := by
  refine YM.of kX7_pixel (Nat.le_of_ble_eq_true rfl) (L0 := [some (vr (b + 540)), some (vi p), some (vi q), some (vi r), none, none]) rfl ?_
  obtain ⟨hm, hB, hJ, hBb, hBs, hBc, hJb, hi1, hi2, hi3, hi4⟩ := id hf
  refine y_run kX7_pixel rfl ?_
  refine y_cs kX7_pixel kX7_pixelOf 2 rfl (by decide +kernel) (c_mpixelOf ⟨by omega, by omega⟩ ⟨by omega, by omega⟩) rfl rfl ?_
  rintro _ _ _ ⟨rfl, rfl, rfl⟩
  refine YW.gz (pxb _ _) (fun v1 v1a v1b => ?_)
  refine y_run kX7_pixel rfl ?_
  refine y_ic_eq kX7_pixel rfl rfl (fun c1 => ?_) (fun c1 => ?_)
  · refine y_run kX7_pixel rfl ?_
    exact y_ir kX7_pixel rfl rfl ⟨_, rfl, by omega, by omega, hI, rfl⟩
  · refine y_run kX7_pixel rfl ?_
    refine y_cs kX7_pixel kX7_in 2 rfl (by decide +kernel) (c_in _ _ ⟨by omega, by omega⟩ ⟨by omega, by omega⟩) rfl rfl ?_
    rintro _ _ _ ⟨rfl, rfl, rfl⟩
    refine y_beq kX7_pixel rfl rfl (fun c2 => ?_) (fun c2 => ?_)
    · refine y_run kX7_pixel rfl ?_
      exact y_ir kX7_pixel rfl rfl ⟨_, rfl, by omega, by omega, hI, rfl⟩
    · refine y_run kX7_pixel rfl ?_
      refine m_get kX7_pixel (540) hI hm ?_
      refine y_if_ne kX7_pixel rfl rfl (fun c3 => ?_) (fun c3 => ?_)
      · refine y_run kX7_pixel rfl ?_
        refine y_ic_ne kX7_pixel rfl rfl (fun c4 => ?_) (fun c4 => ?_)
        · refine y_run kX7_pixel rfl ?_
          refine m_get kX7_pixel (540) hI hm ?_
          refine y_run kX7_pixel rfl ?_
          refine m_ia kX7_pixel (551) hI rfl (fun v3 v3a v3b => ?_)
          refine y_run kX7_pixel rfl ?_
          refine y_ic_ne kX7_pixel rfl rfl (fun c5 => ?_) (fun c5 => ?_)
          · refine y_run kX7_pixel rfl ?_
            refine y_if_ne kX7_pixel rfl rfl (fun c6 => ?_) (fun c6 => ?_)
            · refine y_run kX7_pixel rfl ?_
              refine y_ic_ne kX7_pixel rfl rfl (fun c7 => ?_) (fun c7 => ?_)
              · refine y_run kX7_pixel rfl ?_
                refine y_idiv kX7_pixel rfl (by omega) (by omega) (by omega) (by omega) ?_
                exact y_ir kX7_pixel rfl rfl ⟨_, rfl, by omega, by omega, hI, rfl⟩
              · refine y_run kX7_pixel rfl ?_
                refine y_idiv kX7_pixel rfl (by omega) (by omega) (by omega) (by omega) ?_
                refine y_run kX7_pixel rfl ?_
                refine y_irem kX7_pixel rfl (by omega) (by omega) (by omega) (by omega) ?_
                refine y_run kX7_pixel rfl ?_
                exact y_ir kX7_pixel rfl rfl ⟨_, rfl, by omega, by omega, hI, rfl⟩
            · refine y_run kX7_pixel rfl ?_
              refine y_irem kX7_pixel rfl (by omega) (by omega) (by omega) (by omega) ?_
              refine y_run kX7_pixel rfl ?_
              exact y_ir kX7_pixel rfl rfl ⟨_, rfl, by omega, by omega, hI, rfl⟩
          · refine y_run kX7_pixel rfl ?_
            exact y_ir kX7_pixel rfl rfl ⟨_, rfl, by omega, by omega, hI, rfl⟩
        · refine y_run kX7_pixel rfl ?_
          refine m_get kX7_pixel (540) hI hm ?_
          refine y_run kX7_pixel rfl ?_
          refine m_ia kX7_pixel (553) hI rfl (fun v4 v4a v4b => ?_)
          exact y_ir kX7_pixel rfl rfl ⟨_, rfl, by omega, by omega, hI, rfl⟩
      · refine y_run kX7_pixel rfl ?_
        exact y_ir kX7_pixel rfl rfl ⟨_, rfl, by omega, by omega, hI, rfl⟩
theorem s_mseen {b : Nat} {g : yH} {i0 i1 i2 i3 i4 i5 i6 : Int} {B J : Nat → Int} (hf : RF b g B J i0 i1 i2 i3 i4 i5 i6) {p : Int} (p1 : -2147483648 ≤ p) (p2 : p < 2147483648) : ∀ (m : Nat) (q : Int) (a : Int) (h : yH), (8192 - q).toNat < m → 0 ≤ q → q ≤ 8192 → 0 ≤ a → a ≤ q → MI b g h → YW l G mX7_seen 0 0 0 (PZ b g n (-2147483648) 2147483647) 4 [some (vr (b + 540)), some (vi p), some (vi a), some (vi q)] [] h n := by
  intro m
  induction m with
  | zero => intro q a h hm; exact absurd hm (Nat.not_lt_zero _)
  | succ m ih =>
    intro q a h hmm j0 j1 j2 j3 hI
    obtain ⟨hm, hB, hJ, hBb, hBs, hBc, hJb, hi1, hi2, hi3, hi4⟩ := id hf
    obtain ⟨F, eF, hF⟩ := hI.i (k := 551) rfl
    have hF0 := hF q.toNat
    refine y_run kX7_seen rfl ?_
    refine y_ic_ge kX7_seen rfl rfl (fun c1 => ?_) (fun c1 => ?_)
    · refine y_run kX7_seen rfl ?_
      exact y_ir kX7_seen rfl rfl ⟨_, rfl, by omega, by omega, hI, rfl⟩
    · refine y_run kX7_seen rfl ?_
      refine m_get kX7_seen (540) hI hm ?_
      refine y_run kX7_seen rfl ?_
      refine y_ia kX7_seen rfl eF (by omega) (by omega) ?_
      refine y_run kX7_seen rfl ?_
      refine y_ic_eq kX7_seen rfl rfl (fun c2 => ?_) (fun c2 => ?_)
      · refine y_run kX7_seen rfl ?_
        exact ih _ _ _ (by omega) (by omega) (by omega) (by omega) (by omega) hI
      · refine y_run kX7_seen rfl ?_
        refine m_get kX7_seen (540) hI hm ?_
        refine y_run kX7_seen rfl ?_
        refine y_ia kX7_seen rfl eF (by omega) (by omega) ?_
        refine y_run kX7_seen rfl ?_
        refine y_irem kX7_seen rfl (by omega) (by omega) (by omega) (by omega) ?_
        refine y_run kX7_seen rfl ?_
        refine y_ic_ne kX7_seen rfl rfl (fun c3 => ?_) (fun c3 => ?_)
        · refine y_run kX7_seen rfl ?_
          exact ih _ _ _ (by omega) (by omega) (by omega) (by omega) (by omega) hI
        · refine y_run kX7_seen rfl ?_
          exact ih _ _ _ (by omega) (by omega) (by omega) (by omega) (by omega) hI
theorem w_mseen {b : Nat} {g : yH} {i0 i1 i2 i3 i4 i5 i6 : Int} {B J : Nat → Int} (hf : RF b g B J i0 i1 i2 i3 i4 i5 i6) {p : Int} (p1 : -2147483648 ≤ p) (p2 : p < 2147483648) (hI : MI b g h) : YM l G mX7_seen 0 0 0 [vr (b + 540), vi p] h n (PZ b g n (-2147483648) 2147483647) := by
  refine YM.of kX7_seen (Nat.le_of_ble_eq_true rfl) (L0 := [some (vr (b + 540)), some (vi p), none, none]) rfl ?_
  obtain ⟨hm, hB, hJ, hBb, hBs, hBc, hJb, hi1, hi2, hi3, hi4⟩ := id hf
  refine y_run kX7_seen rfl ?_
  exact s_mseen hf p1 p2 _ 0 0 _ (Nat.lt_succ_self _) (by omega) (by omega) (by omega) (by omega) hI
theorem s_mchanged {b : Nat} {g : yH} {i0 i1 i2 i3 i4 i5 i6 : Int} {B J : Nat → Int} (hf : RF b g B J i0 i1 i2 i3 i4 i5 i6) {p : Int} (p1 : -2147483648 ≤ p) (p2 : p < 2147483648) (p3 : 0 ≤ p) (p4 : p < 5) : ∀ (m : Nat) (q : Int) (a : Int) (x : Int) (y : Int) (u6 : Option xV) (h : yH), (8192 - q).toNat < m → 0 ≤ q → q ≤ 8192 → 0 ≤ a → a ≤ q → -1000 ≤ x → x ≤ 1000 → -1000 ≤ y → y ≤ 1000 → MI b g h → YW l G mX7_changed 1 0 0 (PZ b g n (-2147483648) 2147483647) 22 [some (vr (b + 540)), some (vi p), some (vi a), some (vi x), some (vi y), some (vi q), u6] [] h n := by
  intro m
  induction m with
  | zero => intro q a x y u6 h hm; exact absurd hm (Nat.not_lt_zero _)
  | succ m ih =>
    intro q a x y u6 h hmm j0 j1 j2 j3 j4 j5 j6 j7 hI
    obtain ⟨hm, hB, hJ, hBb, hBs, hBc, hJb, hi1, hi2, hi3, hi4⟩ := id hf
    refine y_run kX7_changed rfl ?_
    refine y_ic_ge kX7_changed rfl rfl (fun c1 => ?_) (fun c1 => ?_)
    · refine y_run kX7_changed rfl ?_
      refine y_if_ne kX7_changed rfl rfl (fun c2 => ?_) (fun c2 => ?_)
      · refine y_run kX7_changed rfl ?_
        refine y_irem kX7_changed rfl (by omega) (by omega) (by omega) (by omega) ?_
        refine y_run kX7_changed rfl ?_
        refine y_ic_ne kX7_changed rfl rfl (fun c3 => ?_) (fun c3 => ?_)
        · refine y_run kX7_changed rfl ?_
          exact y_ir kX7_changed rfl rfl ⟨_, rfl, by omega, by omega, hI, rfl⟩
        · refine y_run kX7_changed rfl ?_
          exact y_ir kX7_changed rfl rfl ⟨_, rfl, by omega, by omega, hI, rfl⟩
      · refine y_run kX7_changed rfl ?_
        exact y_ir kX7_changed rfl rfl ⟨_, rfl, by omega, by omega, hI, rfl⟩
    · refine y_run kX7_changed rfl ?_
      refine m_get kX7_changed (540) hI hm ?_
      refine y_run kX7_changed rfl ?_
      refine m_ia kX7_changed (551) hI rfl (fun v1 v1a v1b => ?_)
      refine y_run kX7_changed rfl ?_
      refine m_get kX7_changed (540) hI hm ?_
      refine y_run kX7_changed rfl ?_
      refine m_ia kX7_changed (552) hI rfl (fun v2 v2a v2b => ?_)
      refine y_ic_ne kX7_changed rfl rfl (fun c4 => ?_) (fun c4 => ?_)
      · refine y_run kX7_changed rfl ?_
        refine y_ic_ge kX7_changed rfl rfl (fun c5 => ?_) (fun c5 => ?_)
        · refine y_run kX7_changed rfl ?_
          refine y_idiv kX7_changed rfl (by omega) (by omega) (by omega) (by omega) ?_
          refine y_run kX7_changed rfl ?_
          refine y_if_eq kX7_changed rfl rfl (fun c6 => ?_) (fun c6 => ?_)
          · refine y_run kX7_changed rfl ?_
            refine y_if_eq kX7_changed rfl rfl (fun c7 => ?_) (fun c7 => ?_)
            · refine y_run kX7_changed rfl ?_
              exact ih _ _ _ _ _ _ (by omega) (by omega) (by omega) (by omega) (by omega) (by omega) (by omega) (by omega) (by omega) hI
            · refine y_run kX7_changed rfl ?_
              refine y_ic_le kX7_changed rfl rfl (fun c8 => ?_) (fun c8 => ?_)
              · refine y_run kX7_changed rfl ?_
                exact ih _ _ _ _ _ _ (by omega) (by omega) (by omega) (by omega) (by omega) (by omega) (by omega) (by omega) (by omega) hI
              · refine y_run kX7_changed rfl ?_
                exact ih _ _ _ _ _ _ (by omega) (by omega) (by omega) (by omega) (by omega) (by omega) (by omega) (by omega) (by omega) hI
          · refine y_run kX7_changed rfl ?_
            refine y_ic_ge kX7_changed rfl rfl (fun c9 => ?_) (fun c9 => ?_)
            · refine y_run kX7_changed rfl ?_
              refine y_if_eq kX7_changed rfl rfl (fun c10 => ?_) (fun c10 => ?_)
              · refine y_run kX7_changed rfl ?_
                exact ih _ _ _ _ _ _ (by omega) (by omega) (by omega) (by omega) (by omega) (by omega) (by omega) (by omega) (by omega) hI
              · refine y_run kX7_changed rfl ?_
                refine y_ic_le kX7_changed rfl rfl (fun c11 => ?_) (fun c11 => ?_)
                · refine y_run kX7_changed rfl ?_
                  exact ih _ _ _ _ _ _ (by omega) (by omega) (by omega) (by omega) (by omega) (by omega) (by omega) (by omega) (by omega) hI
                · refine y_run kX7_changed rfl ?_
                  exact ih _ _ _ _ _ _ (by omega) (by omega) (by omega) (by omega) (by omega) (by omega) (by omega) (by omega) (by omega) hI
            · refine y_run kX7_changed rfl ?_
              refine y_if_eq kX7_changed rfl rfl (fun c12 => ?_) (fun c12 => ?_)
              · refine y_run kX7_changed rfl ?_
                exact ih _ _ _ _ _ _ (by omega) (by omega) (by omega) (by omega) (by omega) (by omega) (by omega) (by omega) (by omega) hI
              · refine y_run kX7_changed rfl ?_
                refine y_ic_le kX7_changed rfl rfl (fun c13 => ?_) (fun c13 => ?_)
                · refine y_run kX7_changed rfl ?_
                  exact ih _ _ _ _ _ _ (by omega) (by omega) (by omega) (by omega) (by omega) (by omega) (by omega) (by omega) (by omega) hI
                · refine y_run kX7_changed rfl ?_
                  exact ih _ _ _ _ _ _ (by omega) (by omega) (by omega) (by omega) (by omega) (by omega) (by omega) (by omega) (by omega) hI
        · refine y_run kX7_changed rfl ?_
          refine y_irem kX7_changed rfl (by omega) (by omega) (by omega) (by omega) ?_
          refine y_run kX7_changed rfl ?_
          refine y_if_eq kX7_changed rfl rfl (fun c14 => ?_) (fun c14 => ?_)
          · refine y_run kX7_changed rfl ?_
            refine y_if_eq kX7_changed rfl rfl (fun c15 => ?_) (fun c15 => ?_)
            · refine y_run kX7_changed rfl ?_
              exact ih _ _ _ _ _ _ (by omega) (by omega) (by omega) (by omega) (by omega) (by omega) (by omega) (by omega) (by omega) hI
            · refine y_run kX7_changed rfl ?_
              refine y_ic_le kX7_changed rfl rfl (fun c16 => ?_) (fun c16 => ?_)
              · refine y_run kX7_changed rfl ?_
                exact ih _ _ _ _ _ _ (by omega) (by omega) (by omega) (by omega) (by omega) (by omega) (by omega) (by omega) (by omega) hI
              · refine y_run kX7_changed rfl ?_
                exact ih _ _ _ _ _ _ (by omega) (by omega) (by omega) (by omega) (by omega) (by omega) (by omega) (by omega) (by omega) hI
          · refine y_run kX7_changed rfl ?_
            refine y_ic_ge kX7_changed rfl rfl (fun c17 => ?_) (fun c17 => ?_)
            · refine y_run kX7_changed rfl ?_
              refine y_if_eq kX7_changed rfl rfl (fun c18 => ?_) (fun c18 => ?_)
              · refine y_run kX7_changed rfl ?_
                exact ih _ _ _ _ _ _ (by omega) (by omega) (by omega) (by omega) (by omega) (by omega) (by omega) (by omega) (by omega) hI
              · refine y_run kX7_changed rfl ?_
                refine y_ic_le kX7_changed rfl rfl (fun c19 => ?_) (fun c19 => ?_)
                · refine y_run kX7_changed rfl ?_
                  exact ih _ _ _ _ _ _ (by omega) (by omega) (by omega) (by omega) (by omega) (by omega) (by omega) (by omega) (by omega) hI
                · refine y_run kX7_changed rfl ?_
                  exact ih _ _ _ _ _ _ (by omega) (by omega) (by omega) (by omega) (by omega) (by omega) (by omega) (by omega) (by omega) hI
            · refine y_run kX7_changed rfl ?_
              refine y_if_eq kX7_changed rfl rfl (fun c20 => ?_) (fun c20 => ?_)
              · refine y_run kX7_changed rfl ?_
                exact ih _ _ _ _ _ _ (by omega) (by omega) (by omega) (by omega) (by omega) (by omega) (by omega) (by omega) (by omega) hI
              · refine y_run kX7_changed rfl ?_
                refine y_ic_le kX7_changed rfl rfl (fun c21 => ?_) (fun c21 => ?_)
                · refine y_run kX7_changed rfl ?_
                  exact ih _ _ _ _ _ _ (by omega) (by omega) (by omega) (by omega) (by omega) (by omega) (by omega) (by omega) (by omega) hI
                · refine y_run kX7_changed rfl ?_
                  exact ih _ _ _ _ _ _ (by omega) (by omega) (by omega) (by omega) (by omega) (by omega) (by omega) (by omega) (by omega) hI
      · refine y_run kX7_changed rfl ?_
        exact ih _ _ _ _ _ _ (by omega) (by omega) (by omega) (by omega) (by omega) (by omega) (by omega) (by omega) (by omega) hI
theorem w_mchanged {b : Nat} {g : yH} {i0 i1 i2 i3 i4 i5 i6 : Int} {B J : Nat → Int} (hf : RF b g B J i0 i1 i2 i3 i4 i5 i6) {p : Int} (p1 : -2147483648 ≤ p) (p2 : p < 2147483648) (hI : MI b g h) : YM l G mX7_changed 1 0 0 [vr (b + 540), vi p] h n (PZ b g n (-2147483648) 2147483647) := by
  refine YM.of kX7_changed (Nat.le_of_ble_eq_true rfl) (L0 := [some (vr (b + 540)), some (vi p), none, none, none, none, none]) rfl ?_
  obtain ⟨hm, hB, hJ, hBb, hBs, hBc, hJb, hi1, hi2, hi3, hi4⟩ := id hf
  refine y_run kX7_changed rfl ?_
  refine y_cs kX7_changed kX7_in 2 rfl (by decide +kernel) (c_in _ _ ⟨by omega, by omega⟩ ⟨by omega, by omega⟩) rfl rfl ?_
  rintro _ _ _ ⟨rfl, rfl, rfl⟩
  refine y_bne kX7_changed rfl rfl (fun c1 => ?_) (fun c1 => ?_)
  · refine y_run kX7_changed rfl ?_
    exact s_mchanged hf p1 p2 (by omega) (by omega) _ 0 0 100 100 _ _ (Nat.lt_succ_self _) (by omega) (by omega) (by omega) (by omega) (by omega) (by omega) (by omega) (by omega) hI
  · refine y_run kX7_changed rfl ?_
    exact y_ir kX7_changed rfl rfl ⟨_, rfl, by omega, by omega, hI, rfl⟩
theorem s_mcount {b : Nat} {g : yH} {i0 i1 i2 i3 i4 i5 i6 : Int} {B J : Nat → Int} (hf : RF b g B J i0 i1 i2 i3 i4 i5 i6) {p : Int} (p1 : -2147483648 ≤ p) (p2 : p < 2147483648) : ∀ (m : Nat) (q : Int) (a : Int) (h : yH), (24 - q).toNat < m → 0 ≤ q → q ≤ 24 → 0 ≤ a → a ≤ q → MI b g h → YW l G mX7_count 2 0 0 (PZ b g n (-2147483648) 2147483647) 4 [some (vr (b + 540)), some (vi p), some (vi a), some (vi q)] [] h n := by
  intro m
  induction m with
  | zero => intro q a h hm; exact absurd hm (Nat.not_lt_zero _)
  | succ m ih =>
    intro q a h hmm j0 j1 j2 j3 hI
    obtain ⟨hm, hB, hJ, hBb, hBs, hBc, hJb, hi1, hi2, hi3, hi4⟩ := id hf
    refine y_run kX7_count rfl ?_
    refine y_ic_ge kX7_count rfl rfl (fun c1 => ?_) (fun c1 => ?_)
    · refine y_run kX7_count rfl ?_
      by_cases tz : p < 0 ∨ 6 < p
      · refine y_tout kX7_count rfl tz rfl ?_
        refine y_run kX7_count rfl ?_
        refine YW.nr1 ?_
        exact y_ir kX7_count rfl rfl ⟨_, rfl, (nrm_rng _).1, (nrm_rng _).2, hI, rfl⟩
      rcases (show p = 0 ∨ p = 1 ∨ p = 2 ∨ p = 3 ∨ p = 4 ∨ p = 5 ∨ p = 6 by omega) with rfl | rfl | rfl | rfl | rfl | rfl | rfl
      · refine y_tin kX7_count rfl rfl rfl ?_
        refine y_run kX7_count rfl ?_
        refine m_get kX7_count (540) hI hm ?_
        refine YW.nr1 ?_
        exact y_ir kX7_count rfl rfl ⟨_, rfl, (nrm_rng _).1, (nrm_rng _).2, hI, rfl⟩
      · refine y_tin kX7_count rfl rfl rfl ?_
        refine y_run kX7_count rfl ?_
        refine m_get kX7_count (540) hI hm ?_
        refine YW.nr1 ?_
        exact y_ir kX7_count rfl rfl ⟨_, rfl, (nrm_rng _).1, (nrm_rng _).2, hI, rfl⟩
      · refine y_tin kX7_count rfl rfl rfl ?_
        refine y_run kX7_count rfl ?_
        refine m_get kX7_count (540) hI hm ?_
        refine YW.nr1 ?_
        exact y_ir kX7_count rfl rfl ⟨_, rfl, (nrm_rng _).1, (nrm_rng _).2, hI, rfl⟩
      · refine y_tin kX7_count rfl rfl rfl ?_
        refine y_run kX7_count rfl ?_
        refine m_get kX7_count (540) hI hm ?_
        refine YW.nr1 ?_
        exact y_ir kX7_count rfl rfl ⟨_, rfl, (nrm_rng _).1, (nrm_rng _).2, hI, rfl⟩
      · refine y_tin kX7_count rfl rfl rfl ?_
        refine y_run kX7_count rfl ?_
        refine m_get kX7_count (540) hI hm ?_
        refine YW.nr1 ?_
        exact y_ir kX7_count rfl rfl ⟨_, rfl, (nrm_rng _).1, (nrm_rng _).2, hI, rfl⟩
      · refine y_tin kX7_count rfl rfl rfl ?_
        refine y_run kX7_count rfl ?_
        refine YW.nr1 ?_
        exact y_ir kX7_count rfl rfl ⟨_, rfl, (nrm_rng _).1, (nrm_rng _).2, hI, rfl⟩
      · refine y_tin kX7_count rfl rfl rfl ?_
        refine y_run kX7_count rfl ?_
        refine m_get kX7_count (540) hI hm ?_
        refine YW.nr1 ?_
        exact y_ir kX7_count rfl rfl ⟨_, rfl, (nrm_rng _).1, (nrm_rng _).2, hI, rfl⟩
    · refine y_run kX7_count rfl ?_
      refine y_cv kX7_count kX7_isThere 1 rfl (hI.x (k := 540) rfl hm) (by decide +kernel) (c_isThere (hI.x (k := 540) rfl hm) (hI.x (k := 541) rfl hB) (fun j => ⟨by have := hBb j; omega, by have := hBb j; omega⟩) ⟨by omega, by omega⟩) rfl rfl ?_
      rintro _ _ _ ⟨hr, rfl, rfl⟩
      obtain ⟨v1, rfl, v1a, v1b, v1c⟩ := is01 hr
      refine y_if_eq kX7_count rfl rfl (fun c2 => ?_) (fun c2 => ?_)
      · refine y_run kX7_count rfl ?_
        exact ih _ _ _ (by omega) (by omega) (by omega) (by omega) (by omega) hI
      · refine y_run kX7_count rfl ?_
        exact ih _ _ _ (by omega) (by omega) (by omega) (by omega) (by omega) hI
theorem w_mcount {b : Nat} {g : yH} {i0 i1 i2 i3 i4 i5 i6 : Int} {B J : Nat → Int} (hf : RF b g B J i0 i1 i2 i3 i4 i5 i6) {p : Int} (p1 : -2147483648 ≤ p) (p2 : p < 2147483648) (hI : MI b g h) : YM l G mX7_count 2 0 0 [vr (b + 540), vi p] h n (PZ b g n (-2147483648) 2147483647) := by
  refine YM.of kX7_count (Nat.le_of_ble_eq_true rfl) (L0 := [some (vr (b + 540)), some (vi p), none, none]) rfl ?_
  obtain ⟨hm, hB, hJ, hBb, hBs, hBc, hJb, hi1, hi2, hi3, hi4⟩ := id hf
  refine y_run kX7_count rfl ?_
  exact s_mcount hf p1 p2 _ 0 0 _ (Nat.lt_succ_self _) (by omega) (by omega) (by omega) (by omega) hI
theorem s_mcovers {b : Nat} {g : yH} {i0 i1 i2 i3 i4 i5 i6 : Int} {B J : Nat → Int} (hf : RF b g B J i0 i1 i2 i3 i4 i5 i6) {p q : Int} (p1 : -2147483648 ≤ p) (p2 : p < 2147483648) (q1 : -2147483648 ≤ q) (q2 : q < 2147483648) : ∀ (m : Nat) (r : Int) (a : Int) (u5 : Option xV) (u6 : Option xV) (h : yH), (8192 - r).toNat < m → 0 ≤ r → r ≤ 8192 → 0 ≤ a → a ≤ r → MI b g h → YW l G mX7_covers 3 0 0 (PZ b g n (-2147483648) 2147483647) 28 [some (vr (b + 540)), some (vi p), some (vi q), some (vi a), some (vi r), u5, u6] [] h n := by
  intro m
  induction m with
  | zero => intro r a u5 u6 h hm; exact absurd hm (Nat.not_lt_zero _)
  | succ m ih =>
    intro r a u5 u6 h hmm j0 j1 j2 j3 hI
    obtain ⟨hm, hB, hJ, hBb, hBs, hBc, hJb, hi1, hi2, hi3, hi4⟩ := id hf
    refine y_run kX7_covers rfl ?_
    refine y_ic_ge kX7_covers rfl rfl (fun c1 => ?_) (fun c1 => ?_)
    · refine y_run kX7_covers rfl ?_
      exact y_ir kX7_covers rfl rfl ⟨_, rfl, by omega, by omega, hI, rfl⟩
    · refine y_run kX7_covers rfl ?_
      refine y_cv kX7_covers kX7_exitOf 2 rfl (hI.x (k := 540) rfl hm) (by decide +kernel) (c_mexitOf hf ⟨by omega, by omega⟩ (by omega) (by omega) hI) rfl rfl ?_
      rintro _ _ _ ⟨rfl, rfl, rfl⟩
      obtain ⟨v1a, v1b, v1c⟩ := mexO_b hBb _ _
      revert v1a v1b v1c
      generalize mexO B _ _ = v1
      intro v1a v1b v1c
      refine y_run kX7_covers rfl ?_
      refine y_cv kX7_covers kX7_exitOf 2 rfl (hI.x (k := 540) rfl hm) (by decide +kernel) (c_mexitOf hf ⟨by omega, by omega⟩ (by omega) (by omega) hI) rfl rfl ?_
      rintro _ _ _ ⟨rfl, rfl, rfl⟩
      obtain ⟨v2a, v2b, v2c⟩ := mexO_b hBb _ _
      revert v2a v2b v2c
      generalize mexO B _ _ = v2
      intro v2a v2b v2c
      refine y_run kX7_covers rfl ?_
      refine y_if_le kX7_covers rfl rfl (fun c2 => ?_) (fun c2 => ?_)
      · refine y_run kX7_covers rfl ?_
        exact ih _ _ _ _ _ (by omega) (by omega) (by omega) (by omega) (by omega) hI
      · refine y_run kX7_covers rfl ?_
        refine y_if_le kX7_covers rfl rfl (fun c3 => ?_) (fun c3 => ?_)
        · refine y_run kX7_covers rfl ?_
          exact ih _ _ _ _ _ (by omega) (by omega) (by omega) (by omega) (by omega) hI
        · refine y_run kX7_covers rfl ?_
          refine y_ic_le kX7_covers rfl rfl (fun c4 => ?_) (fun c4 => ?_)
          · refine y_run kX7_covers rfl ?_
            exact ih _ _ _ _ _ (by omega) (by omega) (by omega) (by omega) (by omega) hI
          · refine y_run kX7_covers rfl ?_
            exact ih _ _ _ _ _ (by omega) (by omega) (by omega) (by omega) (by omega) hI
theorem w_mcovers {b : Nat} {g : yH} {i0 i1 i2 i3 i4 i5 i6 : Int} {B J : Nat → Int} (hf : RF b g B J i0 i1 i2 i3 i4 i5 i6) {p q : Int} (p1 : -2147483648 ≤ p) (p2 : p < 2147483648) (q1 : -2147483648 ≤ q) (q2 : q < 2147483648) (hI : MI b g h) : YM l G mX7_covers 3 0 0 [vr (b + 540), vi p, vi q] h n (PZ b g n (-2147483648) 2147483647) := by
  refine YM.of kX7_covers (Nat.le_of_ble_eq_true rfl) (L0 := [some (vr (b + 540)), some (vi p), some (vi q), none, none, none, none]) rfl ?_
  obtain ⟨hm, hB, hJ, hBb, hBs, hBc, hJb, hi1, hi2, hi3, hi4⟩ := id hf
  refine y_run kX7_covers rfl ?_
  refine y_cv kX7_covers kX7_isThere 1 rfl (hI.x (k := 540) rfl hm) (by decide +kernel) (c_isThere (hI.x (k := 540) rfl hm) (hI.x (k := 541) rfl hB) (fun j => ⟨by have := hBb j; omega, by have := hBb j; omega⟩) ⟨by omega, by omega⟩) rfl rfl ?_
  rintro _ _ _ ⟨hr, rfl, rfl⟩
  obtain ⟨v1, rfl, v1a, v1b, v1c⟩ := is01 hr
  refine y_if_eq kX7_covers rfl rfl (fun c1 => ?_) (fun c1 => ?_)
  · refine y_run kX7_covers rfl ?_
    exact y_ir kX7_covers rfl rfl ⟨_, rfl, by omega, by omega, hI, rfl⟩
  · refine y_run kX7_covers rfl ?_
    refine y_cv kX7_covers kX7_isThere 1 rfl (hI.x (k := 540) rfl hm) (by decide +kernel) (c_isThere (hI.x (k := 540) rfl hm) (hI.x (k := 541) rfl hB) (fun j => ⟨by have := hBb j; omega, by have := hBb j; omega⟩) ⟨by omega, by omega⟩) rfl rfl ?_
    rintro _ _ _ ⟨hr, rfl, rfl⟩
    obtain ⟨v2, rfl, v2a, v2b, v2c⟩ := is01 hr
    refine y_if_eq kX7_covers rfl rfl (fun c2 => ?_) (fun c2 => ?_)
    · refine y_run kX7_covers rfl ?_
      exact y_ir kX7_covers rfl rfl ⟨_, rfl, by omega, by omega, hI, rfl⟩
    · refine y_run kX7_covers rfl ?_
      refine y_ic_ne kX7_covers rfl rfl (fun c3 => ?_) (fun c3 => ?_)
      · refine y_run kX7_covers rfl ?_
        exact s_mcovers hf p1 p2 q1 q2 _ 0 0 _ _ _ (Nat.lt_succ_self _) (by omega) (by omega) (by omega) (by omega) hI
      · refine y_run kX7_covers rfl ?_
        exact y_ir kX7_covers rfl rfl ⟨_, rfl, by omega, by omega, hI, rfl⟩
theorem s_mtangled {b : Nat} {g : yH} {i0 i1 i2 i3 i4 i5 i6 : Int} {B J : Nat → Int} (hf : RF b g B J i0 i1 i2 i3 i4 i5 i6) {p : Int} (p1 : -2147483648 ≤ p) (p2 : p < 2147483648) (p3 : 0 ≤ p) (p4 : p < 24) : ∀ (m : Nat) (q : Int) (a : Int) (h : yH), (24 - q).toNat < m → 0 ≤ q → q ≤ 24 → 0 ≤ a → a ≤ q → MI b g h → YW l G mX7_tangled 4 0 0 (PZ b g n (-2147483648) 2147483647) 22 [some (vr (b + 540)), some (vi p), some (vi a), some (vi q)] [] h n := by
  intro m
  induction m with
  | zero => intro q a h hm; exact absurd hm (Nat.not_lt_zero _)
  | succ m ih =>
    intro q a h hmm j0 j1 j2 j3 hI
    obtain ⟨hm, hB, hJ, hBb, hBs, hBc, hJb, hi1, hi2, hi3, hi4⟩ := id hf
    refine y_run kX7_tangled rfl ?_
    refine y_ic_ge kX7_tangled rfl rfl (fun c1 => ?_) (fun c1 => ?_)
    · refine y_run kX7_tangled rfl ?_
      refine y_if_ne kX7_tangled rfl rfl (fun c2 => ?_) (fun c2 => ?_)
      · refine y_run kX7_tangled rfl ?_
        exact y_ir kX7_tangled rfl rfl ⟨_, rfl, by omega, by omega, hI, rfl⟩
      · refine y_run kX7_tangled rfl ?_
        exact y_ir kX7_tangled rfl rfl ⟨_, rfl, by omega, by omega, hI, rfl⟩
    · refine y_run kX7_tangled rfl ?_
      refine y_cv kX7_tangled kX7_isTangled 2 rfl (hI.x (k := 540) rfl hm) (by decide +kernel) (w_isTangled hf (by omega) (by omega) (by omega) (by omega) hI) rfl rfl ?_
      rintro _ h _ ⟨v1, rfl, v1a, v1b, hI, rfl⟩
      refine y_if_eq kX7_tangled rfl rfl (fun c3 => ?_) (fun c3 => ?_)
      · refine y_run kX7_tangled rfl ?_
        exact ih _ _ _ (by omega) (by omega) (by omega) (by omega) (by omega) hI
      · refine y_run kX7_tangled rfl ?_
        exact ih _ _ _ (by omega) (by omega) (by omega) (by omega) (by omega) hI
theorem w_mtangled {b : Nat} {g : yH} {i0 i1 i2 i3 i4 i5 i6 : Int} {B J : Nat → Int} (hf : RF b g B J i0 i1 i2 i3 i4 i5 i6) {p : Int} (p1 : -2147483648 ≤ p) (p2 : p < 2147483648) (hI : MI b g h) : YM l G mX7_tangled 4 0 0 [vr (b + 540), vi p] h n (PZ b g n (-2147483648) 2147483647) := by
  refine YM.of kX7_tangled (Nat.le_of_ble_eq_true rfl) (L0 := [some (vr (b + 540)), some (vi p), none, none]) rfl ?_
  obtain ⟨hm, hB, hJ, hBb, hBs, hBc, hJb, hi1, hi2, hi3, hi4⟩ := id hf
  refine y_run kX7_tangled rfl ?_
  refine y_cv kX7_tangled kX7_isThere 1 rfl (hI.x (k := 540) rfl hm) (by decide +kernel) (c_isThere (hI.x (k := 540) rfl hm) (hI.x (k := 541) rfl hB) (fun j => ⟨by have := hBb j; omega, by have := hBb j; omega⟩) ⟨by omega, by omega⟩) rfl rfl ?_
  rintro _ _ _ ⟨hr, rfl, rfl⟩
  obtain ⟨v1, rfl, v1a, v1b, v1c⟩ := is01 hr
  refine y_if_ne kX7_tangled rfl rfl (fun c1 => ?_) (fun c1 => ?_)
  · refine y_run kX7_tangled rfl ?_
    refine y_cv kX7_tangled kX7_begin 0 rfl (hI.x (k := 540) rfl hm) (by decide +kernel) (w_begin hf hI) rfl rfl ?_
    rintro _ h _ ⟨rfl, hI, rfl⟩
    refine y_run kX7_tangled rfl ?_
    refine y_cv kX7_tangled kX7_close 0 rfl (hI.x (k := 540) rfl hm) (by decide +kernel) (w_close hf hI) rfl rfl ?_
    rintro _ h _ ⟨rfl, hI, rfl⟩
    refine y_run kX7_tangled rfl ?_
    exact s_mtangled hf p1 p2 (by omega) (by omega) _ 0 0 _ (Nat.lt_succ_self _) (by omega) (by omega) (by omega) (by omega) hI
  · refine y_run kX7_tangled rfl ?_
    exact y_ir kX7_tangled rfl rfl ⟨_, rfl, by omega, by omega, hI, rfl⟩
theorem s_munder2 {b : Nat} {g : yH} {i0 i1 i2 i3 i4 i5 i6 : Int} {B J : Nat → Int} (hf : RF b g B J i0 i1 i2 i3 i4 i5 i6) {p q r : Int} (p1 : -2147483648 ≤ p) (p2 : p < 2147483648) (q1 : -2147483648 ≤ q) (q2 : q < 2147483648) (r1 : -2147483648 ≤ r) (r2 : r < 2147483648) {x y e : Int} (x1 : 0 ≤ x) (x2 : x ≤ 8191) (e1 : 0 ≤ e) (e2 : e ≤ 128) (kk : ∀ (a : Int) (u8 : Option xV) (h : yH), 0 ≤ a → a ≤ (24) → MI b g h → YW l G mX7_under 3 0 0 (PZ b g n (-2147483648) 2147483647) 81 [some (vr (b + 540)), some (vi p), some (vi q), some (vi r), some (vi x), some (vi y), some (vi e), some (vi a), u8] [] h n) : ∀ (m : Nat) (z : Int) (a : Int) (h : yH), (24 - z).toNat < m → 0 ≤ z → z ≤ 24 → 0 ≤ a → a ≤ z → MI b g h → YW l G mX7_under 3 0 0 (PZ b g n (-2147483648) 2147483647) 45 [some (vr (b + 540)), some (vi p), some (vi q), some (vi r), some (vi x), some (vi y), some (vi e), some (vi a), some (vi z)] [] h n := by
  intro m
  induction m with
  | zero => intro z a h hm; exact absurd hm (Nat.not_lt_zero _)
  | succ m ih =>
    intro z a h hmm j0 j1 j2 j3 hI
    obtain ⟨hm, hB, hJ, hBb, hBs, hBc, hJb, hi1, hi2, hi3, hi4⟩ := id hf
    refine y_run kX7_under rfl ?_
    refine y_ic_ge kX7_under rfl rfl (fun c1 => ?_) (fun c1 => ?_)
    · exact kk _ _ _ (by omega) (by omega) hI
    · refine y_run kX7_under rfl ?_
      refine y_cv kX7_under kX7_exitOf 2 rfl (hI.x (k := 540) rfl hm) (by decide +kernel) (c_mexitOf hf ⟨by omega, by omega⟩ (by omega) (by omega) hI) rfl rfl ?_
      rintro _ _ _ ⟨rfl, rfl, rfl⟩
      obtain ⟨v1a, v1b, v1c⟩ := mexO_b hBb _ _
      revert v1a v1b v1c
      generalize mexO B _ _ = v1
      intro v1a v1b v1c
      refine y_run kX7_under rfl ?_
      refine y_ic_le kX7_under rfl rfl (fun c2 => ?_) (fun c2 => ?_)
      · refine y_run kX7_under rfl ?_
        exact ih _ _ _ (by omega) (by omega) (by omega) (by omega) (by omega) hI
      · refine y_run kX7_under rfl ?_
        exact ih _ _ _ (by omega) (by omega) (by omega) (by omega) (by omega) hI
theorem s_munder1 {b : Nat} {g : yH} {i0 i1 i2 i3 i4 i5 i6 : Int} {B J : Nat → Int} (hf : RF b g B J i0 i1 i2 i3 i4 i5 i6) {p q r : Int} (p1 : -2147483648 ≤ p) (p2 : p < 2147483648) (q1 : -2147483648 ≤ q) (q2 : q < 2147483648) (r1 : -2147483648 ≤ r) (r2 : r < 2147483648) {x : Int} (x1 : 0 ≤ x) (x2 : x ≤ 8191) : ∀ (m : Nat) (y : Int) (u6 : Option xV) (u7 : Option xV) (u8 : Option xV) (h : yH), (24 - y).toNat < m → 0 ≤ y → y ≤ 24 → MI b g h → YW l G mX7_under 3 0 0 (PZ b g n (-2147483648) 2147483647) 22 [some (vr (b + 540)), some (vi p), some (vi q), some (vi r), some (vi x), some (vi y), u6, u7, u8] [] h n := by
  intro m
  induction m with
  | zero => intro y u6 u7 u8 h hm; exact absurd hm (Nat.not_lt_zero _)
  | succ m ih =>
    intro y u6 u7 u8 h hmm j0 j1 hI
    obtain ⟨hm, hB, hJ, hBb, hBs, hBc, hJb, hi1, hi2, hi3, hi4⟩ := id hf
    refine y_run kX7_under rfl ?_
    refine y_ic_ge kX7_under rfl rfl (fun c1 => ?_) (fun c1 => ?_)
    · refine y_run kX7_under rfl ?_
      exact y_ir kX7_under rfl rfl ⟨_, rfl, by omega, by omega, hI, rfl⟩
    · refine y_run kX7_under rfl ?_
      refine y_cv kX7_under kX7_exitOf 2 rfl (hI.x (k := 540) rfl hm) (by decide +kernel) (c_mexitOf hf ⟨by omega, by omega⟩ (by omega) (by omega) hI) rfl rfl ?_
      rintro _ _ _ ⟨rfl, rfl, rfl⟩
      obtain ⟨v1a, v1b, v1c⟩ := mexO_b hBb _ _
      revert v1a v1b v1c
      generalize mexO B _ _ = v1
      intro v1a v1b v1c
      refine y_run kX7_under rfl ?_
      exact s_munder2 hf p1 p2 q1 q2 r1 r2 x1 x2 (by omega) (by omega) (fun a u8 h y1 y2 hI => by
        refine y_run kX7_under rfl ?_
        refine y_if_le kX7_under rfl rfl (fun c1 => ?_) (fun c1 => ?_)
        · refine y_run kX7_under rfl ?_
          exact ih _ _ _ _ _ (by omega) (by omega) (by omega) hI
        · refine y_run kX7_under rfl ?_
          refine y_ic_ne kX7_under rfl rfl (fun c2 => ?_) (fun c2 => ?_)
          · refine y_run kX7_under rfl ?_
            exact ih _ _ _ _ _ (by omega) (by omega) (by omega) hI
          · refine y_run kX7_under rfl ?_
            exact y_ir kX7_under rfl rfl ⟨_, rfl, by omega, by omega, hI, rfl⟩) _ 0 0 _ (Nat.lt_succ_self _) (by omega) (by omega) (by omega) (by omega) hI
theorem w_munder {b : Nat} {g : yH} {i0 i1 i2 i3 i4 i5 i6 : Int} {B J : Nat → Int} (hf : RF b g B J i0 i1 i2 i3 i4 i5 i6) {p q r : Int} (p1 : -2147483648 ≤ p) (p2 : p < 2147483648) (q1 : -2147483648 ≤ q) (q2 : q < 2147483648) (r1 : -2147483648 ≤ r) (r2 : r < 2147483648) (hI : MI b g h) : YM l G mX7_under 3 0 0 [vr (b + 540), vi p, vi q, vi r] h n (PZ b g n (-2147483648) 2147483647) := by
  refine YM.of kX7_under (Nat.le_of_ble_eq_true rfl) (L0 := [some (vr (b + 540)), some (vi p), some (vi q), some (vi r), none, none, none, none, none]) rfl ?_
  obtain ⟨hm, hB, hJ, hBb, hBs, hBc, hJb, hi1, hi2, hi3, hi4⟩ := id hf
  refine y_run kX7_under rfl ?_
  refine y_cs kX7_under kX7_pixelOf 2 rfl (by decide +kernel) (c_mpixelOf ⟨by omega, by omega⟩ ⟨by omega, by omega⟩) rfl rfl ?_
  rintro _ _ _ ⟨rfl, rfl, rfl⟩
  refine YW.gz (pxb _ _) (fun v1 v1a v1b => ?_)
  refine y_run kX7_under rfl ?_
  refine y_ic_eq kX7_under rfl rfl (fun c1 => ?_) (fun c1 => ?_)
  · refine y_run kX7_under rfl ?_
    exact y_ir kX7_under rfl rfl ⟨_, rfl, by omega, by omega, hI, rfl⟩
  · refine y_run kX7_under rfl ?_
    refine y_if_ge kX7_under rfl rfl (fun c2 => ?_) (fun c2 => ?_)
    · refine y_run kX7_under rfl ?_
      exact s_munder1 hf p1 p2 q1 q2 r1 r2 (by omega) (by omega) _ 0 _ _ _ _ (Nat.lt_succ_self _) (by omega) (by omega) hI
    · refine y_run kX7_under rfl ?_
      exact y_ir kX7_under rfl rfl ⟨_, rfl, by omega, by omega, hI, rfl⟩
end C65
