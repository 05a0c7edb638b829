theorem is01 {B : Nat → Int} {v : Int} {r : Option xV} (hr : (r = some (vi 1) ∧ mT B v) ∨ (r = some (vi 0) ∧ ¬ mT B v)) : ∃ x : Int, r = some (vi x) ∧ 0 ≤ x ∧ x ≤ 1 ∧ (x ≠ 0 → 0 ≤ v ∧ v < 24) := by
  rcases hr with ⟨rfl, t⟩ | ⟨rfl, t⟩
  · exact ⟨1, rfl, by omega, by omega, fun _ => t.1⟩
  · exact ⟨0, rfl, by omega, by omega, fun q => absurd rfl q⟩
theorem pxb (i j : Int) : -1 ≤ (if -32 ≤ i ∧ i < 32 ∧ -64 ≤ j ∧ j < 64 then 64 * (j + 64) + i + 32 else -1) ∧ (if -32 ≤ i ∧ i < 32 ∧ -64 ≤ j ∧ j < 64 then 64 * (j + 64) + i + 32 else -1) ≤ 8191 := by
  split <;> omega
section C64
variable {l : Launch} {G : xG} {h : yH} {n : Nat}
theorem s_gather2 {b : Nat} {g : yH} {i0 i1 i2 i3 i4 i5 i6 : Int} {B J : Nat → Int} (hf : RF b g B J i0 i1 i2 i3 i4 i5 i6) {y1 y2 y3 y6 y7 : Option xV} {xa xb yf : Int} (a1 : -1000 ≤ xa) (a2 : xa ≤ 1000) (a3 : -1000 ≤ xb) (a4 : xb ≤ 1000) (kk : ∀ (u9 : Option xV) (h : yH), MI b g h → YW l G mX7_gather 2 0 0 (PV b g n) 167 [some (vr (b + 540)), y1, y2, y3, some (vi xa), some (vi xb), y6, y7, some (vi yf), u9] [] h n) : ∀ (m : Nat) (q : Int) (h : yH), (128 - q).toNat < m → 0 ≤ q → q ≤ 128 → MI b g h → YW l G mX7_gather 2 0 0 (PV b g n) 110 [some (vr (b + 540)), y1, y2, y3, some (vi xa), some (vi xb), y6, y7, some (vi yf), some (vi q)] [] h n := by
  intro m
  induction m with
  | zero => intro q h hm; exact absurd hm (Nat.not_lt_zero _)
  | succ m ih =>
    intro q h hmm j0 j1 hI
    obtain ⟨hm, hB, hJ, hBb, hBs, hBc, hJb, hi1, hi2, hi3, hi4⟩ := id hf
    refine y_run kX7_gather rfl ?_
    refine y_ic_ge kX7_gather rfl rfl (fun c1 => ?_) (fun c1 => ?_)
    · exact kk _ _  hI
    · refine y_run kX7_gather rfl ?_
      refine m_get kX7_gather (540) hI hm ?_
      refine y_run kX7_gather rfl ?_
      refine m_get kX7_gather (540) hI hm ?_
      refine y_run kX7_gather rfl ?_
      refine m_ia kX7_gather (545) hI rfl (fun v1 v1a v1b => ?_)
      refine y_run kX7_gather rfl ?_
      refine y_ic_ne kX7_gather rfl rfl (fun c2 => ?_) (fun c2 => ?_)
      · refine y_run kX7_gather rfl ?_
        refine m_get kX7_gather (540) hI hm ?_
        refine y_run kX7_gather rfl ?_
        obtain ⟨Fv2, ev2, fv2⟩ := hI.i (k := 545) rfl
        refine y_cs kX7_gather kX7_exit 4 rfl (by decide +kernel) (c_mexit ev2 (by omega) (by omega) (by omega) (fun j => ⟨by have := fv2 j; omega, by have := fv2 j; omega⟩) ⟨by omega, by omega⟩ ⟨by omega, by omega⟩) rfl rfl ?_
        rintro _ _ _ ⟨rfl, rfl, rfl⟩
        refine YW.gz (mex_small (fv2 _) (fv2 _) (fv2 _) (fv2 _) (fv2 _) (fv2 _) ⟨by omega, by omega⟩ ⟨by omega, by omega⟩) (fun v2 v2a v2b => ?_)
        refine m_is kX7_gather (548) hI rfl (fun h hI => ?_)
        refine y_run kX7_gather rfl ?_
        exact ih _ _ (by omega) (by omega) (by omega) hI
      · refine y_run kX7_gather rfl ?_
        refine m_is kX7_gather (548) hI rfl (fun h hI => ?_)
        refine y_run kX7_gather rfl ?_
        exact ih _ _ (by omega) (by omega) (by omega) hI
theorem s_gather1 {b : Nat} {g : yH} {i0 i1 i2 i3 i4 i5 i6 : Int} {B J : Nat → Int} (hf : RF b g B J i0 i1 i2 i3 i4 i5 i6) {x1 x2 : Int} (o1 : -1 ≤ x1) (o2 : x1 < 128) (o3 : x1 ≠ -1 → 0 ≤ x2 ∧ x2 < 128) : ∀ (m : Nat) (q : Int) (u4 : Option xV) (u5 : Option xV) (u6 : Option xV) (u7 : Option xV) (u8 : Option xV) (u9 : Option xV) (h : yH), (8192 - q).toNat < m → 0 ≤ q → q ≤ 8192 → MI b g h → YW l G mX7_gather 2 0 0 (PV b g n) 2 [some (vr (b + 540)), some (vi x1), some (vi x2), some (vi q), u4, u5, u6, u7, u8, u9] [] h n := by
  intro m
  induction m with
  | zero => intro q u4 u5 u6 u7 u8 u9 h hm; exact absurd hm (Nat.not_lt_zero _)
  | succ m ih =>
    intro q u4 u5 u6 u7 u8 u9 h hmm j0 j1 hI
    obtain ⟨hm, hB, hJ, hBb, hBs, hBc, hJb, hi1, hi2, hi3, hi4⟩ := id hf
    refine y_run kX7_gather rfl ?_
    refine y_ic_ge kX7_gather rfl rfl (fun c1 => ?_) (fun c1 => ?_)
    · exact y_vr kX7_gather rfl rfl ⟨rfl, hI, rfl⟩
    · refine y_run kX7_gather rfl ?_
      refine y_cs kX7_gather kX7_alongX 1 rfl (by decide +kernel) (c_malongX (by omega) (by omega)) rfl rfl ?_
      rintro _ _ _ ⟨rfl, rfl, rfl⟩
      refine y_run kX7_gather rfl ?_
      refine y_cs kX7_gather kX7_alongY 1 rfl (by decide +kernel) (c_malongY (by omega) (by omega)) rfl rfl ?_
      rintro _ _ _ ⟨rfl, rfl, rfl⟩
      refine y_run kX7_gather rfl ?_
      refine y_ic_ne kX7_gather rfl rfl (fun c2 => ?_) (fun c2 => ?_)
      · refine y_run kX7_gather rfl ?_
        refine y_if_eq kX7_gather rfl rfl (fun c3 => ?_) (fun c3 => absurd c3 (by omega))
        refine y_run kX7_gather rfl ?_
        refine m_get kX7_gather (540) hI hm ?_
        refine y_run kX7_gather rfl ?_
        obtain ⟨Fv3, ev3, fv3⟩ := hI.i (k := 545) rfl
        refine y_cs kX7_gather kX7_exit 4 rfl (by decide +kernel) (c_mexit ev3 (by omega) (by omega) (by omega) (fun j => ⟨by have := fv3 j; omega, by have := fv3 j; omega⟩) ⟨by omega, by omega⟩ ⟨by omega, by omega⟩) rfl rfl ?_
        rintro _ _ _ ⟨rfl, rfl, rfl⟩
        refine YW.gz (mex_small (fv3 _) (fv3 _) (fv3 _) (fv3 _) (fv3 _) (fv3 _) ⟨by omega, by omega⟩ ⟨by omega, by omega⟩) (fun v3 v3a v3b => ?_)
        refine y_run kX7_gather rfl ?_
        refine y_if_eq kX7_gather rfl rfl (fun c4 => ?_) (fun c4 => absurd c4 (by omega))
        refine y_run kX7_gather rfl ?_
        refine m_get kX7_gather (540) hI hm ?_
        refine y_run kX7_gather rfl ?_
        obtain ⟨Fv4, ev4, fv4⟩ := hI.i (k := 545) rfl
        refine y_cs kX7_gather kX7_exit 4 rfl (by decide +kernel) (c_mexit ev4 (by omega) (by omega) (by omega) (fun j => ⟨by have := fv4 j; omega, by have := fv4 j; omega⟩) ⟨by omega, by omega⟩ ⟨by omega, by omega⟩) rfl rfl ?_
        rintro _ _ _ ⟨rfl, rfl, rfl⟩
        refine YW.gz (mex_small (fv4 _) (fv4 _) (fv4 _) (fv4 _) (fv4 _) (fv4 _) ⟨by omega, by omega⟩ ⟨by omega, by omega⟩) (fun v4 v4a v4b => ?_)
        refine y_run kX7_gather rfl ?_
        refine y_if_ne kX7_gather rfl rfl (fun c5 => absurd c5 (by omega)) (fun c5 => ?_)
        refine y_run kX7_gather rfl ?_
        refine y_if_ne kX7_gather rfl rfl (fun c6 => ?_) (fun c6 => ?_)
        · refine y_run kX7_gather rfl ?_
          exact s_gather2 hf (by omega) (by omega) (by omega) (by omega) (fun u9 h hI => by
            refine y_run kX7_gather rfl ?_
            refine y_if_eq kX7_gather rfl rfl (fun c1 => ?_) (fun c1 => absurd c1 (by omega))
            refine y_run kX7_gather rfl ?_
            refine y_cv kX7_gather kX7_with 1 rfl (hI.x (k := 540) rfl hm) (by decide +kernel) (w_with hf (by omega) (by omega) hI) rfl rfl ?_
            rintro _ h _ ⟨rfl, hI, rfl⟩
            refine y_run kX7_gather rfl ?_
            refine y_cv kX7_gather kX7_with 1 rfl (hI.x (k := 540) rfl hm) (by decide +kernel) (w_with hf (by omega) (by omega) hI) rfl rfl ?_
            rintro _ h _ ⟨rfl, hI, rfl⟩
            refine y_run kX7_gather rfl ?_
            exact ih _ _ _ _ _ _ _ _ (by omega) (by omega) (by omega) hI) _ 0 _ (Nat.lt_succ_self _) (by omega) (by omega) hI
        · refine y_run kX7_gather rfl ?_
          refine y_if_ne kX7_gather rfl rfl (fun c7 => ?_) (fun c7 => ?_)
          · refine y_run kX7_gather rfl ?_
            exact s_gather2 hf (by omega) (by omega) (by omega) (by omega) (fun u9 h hI => by
              refine y_run kX7_gather rfl ?_
              refine y_if_eq kX7_gather rfl rfl (fun c1 => ?_) (fun c1 => absurd c1 (by omega))
              refine y_run kX7_gather rfl ?_
              refine y_cv kX7_gather kX7_with 1 rfl (hI.x (k := 540) rfl hm) (by decide +kernel) (w_with hf (by omega) (by omega) hI) rfl rfl ?_
              rintro _ h _ ⟨rfl, hI, rfl⟩
              refine y_run kX7_gather rfl ?_
              refine y_cv kX7_gather kX7_with 1 rfl (hI.x (k := 540) rfl hm) (by decide +kernel) (w_with hf (by omega) (by omega) hI) rfl rfl ?_
              rintro _ h _ ⟨rfl, hI, rfl⟩
              refine y_run kX7_gather rfl ?_
              exact ih _ _ _ _ _ _ _ _ (by omega) (by omega) (by omega) hI) _ 0 _ (Nat.lt_succ_self _) (by omega) (by omega) hI
          · refine y_run kX7_gather rfl ?_
            exact ih _ _ _ _ _ _ _ _ (by omega) (by omega) (by omega) hI
      · refine y_run kX7_gather rfl ?_
        refine y_if_eq kX7_gather rfl rfl (fun c8 => absurd c8 (by omega)) (fun c8 => ?_)
        refine y_run kX7_gather rfl ?_
        refine y_if_eq kX7_gather rfl rfl (fun c9 => absurd c9 (by omega)) (fun c9 => ?_)
        refine y_run kX7_gather rfl ?_
        refine y_if_ne kX7_gather rfl rfl (fun c10 => ?_) (fun c10 => absurd c10 (by omega))
        refine y_run kX7_gather rfl ?_
        exact s_gather2 hf (by omega) (by omega) (by omega) (by omega) (fun u9 h hI => by
          refine y_run kX7_gather rfl ?_
          refine y_if_eq kX7_gather rfl rfl (fun c1 => absurd c1 (by omega)) (fun c1 => ?_)
          refine y_run kX7_gather rfl ?_
          refine y_cv kX7_gather kX7_pairs 0 rfl (hI.x (k := 540) rfl hm) (by decide +kernel) (w_pairs hf hI) rfl rfl ?_
          rintro _ h _ ⟨rfl, hI, rfl⟩
          refine y_run kX7_gather rfl ?_
          exact ih _ _ _ _ _ _ _ _ (by omega) (by omega) (by omega) hI) _ 0 _ (Nat.lt_succ_self _) (by omega) (by omega) hI
theorem w_gather {b : Nat} {g : yH} {i0 i1 i2 i3 i4 i5 i6 : Int} {B J : Nat → Int} (hf : RF b g B J i0 i1 i2 i3 i4 i5 i6) {x1 x2 : Int} (o1 : -1 ≤ x1) (o2 : x1 < 128) (o3 : x1 ≠ -1 → 0 ≤ x2 ∧ x2 < 128) (hI : MI b g h) : YM l G mX7_gather 2 0 0 [vr (b + 540), vi x1, vi x2] h n (PV b g n) := by
  refine YM.of kX7_gather (Nat.le_of_ble_eq_true rfl) (L0 := [some (vr (b + 540)), some (vi x1), some (vi x2), none, none, none, none, none, none, none]) rfl ?_
  obtain ⟨hm, hB, hJ, hBb, hBs, hBc, hJb, hi1, hi2, hi3, hi4⟩ := id hf
  refine y_run kX7_gather rfl ?_
  exact s_gather1 hf o1 o2 o3 _ 0 _ _ _ _ _ _ _ (Nat.lt_succ_self _) (by omega) (by omega) hI
theorem s_begin3 {b : Nat} {g : yH} {i0 i1 i2 i3 i4 i5 i6 : Int} {B J : Nat → Int} (hf : RF b g B J i0 i1 i2 i3 i4 i5 i6)  : ∀ (m : Nat) (q : Int) (u2 : Option xV) (h : yH), (16384 - q).toNat < m → 0 ≤ q → q ≤ 16384 → MI b g h → YW l G mX7_begin 3 0 0 (PV b g n) 100 [some (vr (b + 540)), some (vi q), u2] [] h n := by
  intro m
  induction m with
  | zero => intro q u2 h hm; exact absurd hm (Nat.not_lt_zero _)
  | succ m ih =>
    intro q u2 h hmm j0 j1 hI
    obtain ⟨hm, hB, hJ, hBb, hBs, hBc, hJb, hi1, hi2, hi3, hi4⟩ := id hf
    refine y_run kX7_begin rfl ?_
    refine y_ic_ge kX7_begin rfl rfl (fun c1 => ?_) (fun c1 => ?_)
    · refine y_run kX7_begin rfl ?_
      refine y_cv kX7_begin kX7_gather 2 rfl (hI.x (k := 540) rfl hm) (by decide +kernel) (w_gather hf (by omega) (by omega) (by omega) hI) rfl rfl ?_
      rintro _ h _ ⟨rfl, hI, rfl⟩
      exact y_vr kX7_begin rfl rfl ⟨rfl, hI, rfl⟩
    · refine y_run kX7_begin rfl ?_
      refine m_get kX7_begin (540) hI hm ?_
      refine y_run kX7_begin rfl ?_
      refine m_zs kX7_begin (546) hI rfl (fun h hI => ?_)
      refine y_run kX7_begin rfl ?_
      exact ih _ _ _ (by omega) (by omega) (by omega) hI
theorem s_begin2 {b : Nat} {g : yH} {i0 i1 i2 i3 i4 i5 i6 : Int} {B J : Nat → Int} (hf : RF b g B J i0 i1 i2 i3 i4 i5 i6) {p : Int} (p1 : 0 ≤ p) (p2 : p < 128) (kk : ∀ (u2 : Option xV) (h : yH), MI b g h → YW l G mX7_begin 3 0 0 (PV b g n) 92 [some (vr (b + 540)), some (vi p), u2] [] h n) : ∀ (m : Nat) (q : Int) (h : yH), (7 - q).toNat < m → 1 ≤ q → q ≤ 7 → MI b g h → YW l G mX7_begin 3 0 0 (PV b g n) 46 [some (vr (b + 540)), some (vi p), some (vi q)] [] h n := by
  intro m
  induction m with
  | zero => intro q h hm; exact absurd hm (Nat.not_lt_zero _)
  | succ m ih =>
    intro q h hmm j0 j1 hI
    obtain ⟨hm, hB, hJ, hBb, hBs, hBc, hJb, hi1, hi2, hi3, hi4⟩ := id hf
    refine y_run kX7_begin rfl ?_
    refine y_ic_ge kX7_begin rfl rfl (fun c1 => ?_) (fun c1 => ?_)
    · exact kk _ _  hI
    · refine y_run kX7_begin rfl ?_
      refine m_get kX7_begin (540) hI hm ?_
      refine y_run kX7_begin rfl ?_
      refine y_cv kX7_begin kX7_isThere 1 rfl (hI.x (k := 540) rfl hm) (by decide +kernel) (c_isThere (hI.x (k := 540) rfl hm) (hI.x (k := 541) rfl hB) (fun j => ⟨by have := hBb j; omega, by have := hBb j; omega⟩) ⟨by omega, by omega⟩) rfl rfl ?_
      rintro _ _ _ ⟨hr, rfl, rfl⟩
      obtain ⟨v1, rfl, v1a, v1b, v1c⟩ := is01 hr
      refine y_if_eq kX7_begin rfl rfl (fun c2 => ?_) (fun c2 => ?_)
      · refine y_run kX7_begin rfl ?_
        refine m_is kX7_begin (545) hI rfl (fun h hI => ?_)
        refine y_run kX7_begin rfl ?_
        exact ih _ _ (by omega) (by omega) (by omega) hI
      · refine y_run kX7_begin rfl ?_
        refine m_get kX7_begin (540) hI hm ?_
        refine y_run kX7_begin rfl ?_
        refine m_ix kX7_begin (hI.x (k := 541) rfl hB) hBb (fun v2 v2e v2a v2b => ?_)
        refine y_run kX7_begin rfl ?_
        refine m_is kX7_begin (545) hI rfl (fun h hI => ?_)
        refine y_run kX7_begin rfl ?_
        exact ih _ _ (by omega) (by omega) (by omega) hI
theorem s_begin1 {b : Nat} {g : yH} {i0 i1 i2 i3 i4 i5 i6 : Int} {B J : Nat → Int} (hf : RF b g B J i0 i1 i2 i3 i4 i5 i6)  (kk : ∀ (u1 : Option xV) (u2 : Option xV) (h : yH), MI b g h → YW l G mX7_begin 3 0 0 (PV b g n) 98 [some (vr (b + 540)), u1, u2] [] h n) : ∀ (m : Nat) (p : Int) (u2 : Option xV) (h : yH), (128 - p).toNat < m → 0 ≤ p → p ≤ 128 → MI b g h → YW l G mX7_begin 3 0 0 (PV b g n) 2 [some (vr (b + 540)), some (vi p), u2] [] h n := by
  intro m
  induction m with
  | zero => intro p u2 h hm; exact absurd hm (Nat.not_lt_zero _)
  | succ m ih =>
    intro p u2 h hmm j0 j1 hI
    obtain ⟨hm, hB, hJ, hBb, hBs, hBc, hJb, hi1, hi2, hi3, hi4⟩ := id hf
    refine y_run kX7_begin rfl ?_
    refine y_ic_ge kX7_begin rfl rfl (fun c1 => ?_) (fun c1 => ?_)
    · exact kk _ _ _  hI
    · refine y_run kX7_begin rfl ?_
      refine m_get kX7_begin (540) hI hm ?_
      refine y_run kX7_begin rfl ?_
      refine y_cv kX7_begin kX7_isThere 1 rfl (hI.x (k := 540) rfl hm) (by decide +kernel) (c_isThere (hI.x (k := 540) rfl hm) (hI.x (k := 541) rfl hB) (fun j => ⟨by have := hBb j; omega, by have := hBb j; omega⟩) ⟨by omega, by omega⟩) rfl rfl ?_
      rintro _ _ _ ⟨hr, rfl, rfl⟩
      obtain ⟨v1, rfl, v1a, v1b, v1c⟩ := is01 hr
      refine y_if_eq kX7_begin rfl rfl (fun c2 => ?_) (fun c2 => ?_)
      · refine y_run kX7_begin rfl ?_
        refine m_is kX7_begin (545) hI rfl (fun h hI => ?_)
        refine y_run kX7_begin rfl ?_
        refine m_get kX7_begin (540) hI hm ?_
        refine y_run kX7_begin rfl ?_
        refine m_is kX7_begin (545) hI rfl (fun h hI => ?_)
        refine y_run kX7_begin rfl ?_
        exact s_begin2 hf (by omega) (by omega) (fun u2 h hI => by
          refine y_run kX7_begin rfl ?_
          exact ih _ _ _ (by omega) (by omega) (by omega) hI) _ 1 _ (Nat.lt_succ_self _) (by omega) (by omega) hI
      · refine y_run kX7_begin rfl ?_
        refine m_is kX7_begin (545) hI rfl (fun h hI => ?_)
        refine y_run kX7_begin rfl ?_
        refine m_get kX7_begin (540) hI hm ?_
        refine y_run kX7_begin rfl ?_
        refine m_is kX7_begin (545) hI rfl (fun h hI => ?_)
        refine y_run kX7_begin rfl ?_
        exact s_begin2 hf (by omega) (by omega) (fun u2 h hI => by
          refine y_run kX7_begin rfl ?_
          exact ih _ _ _ (by omega) (by omega) (by omega) hI) _ 1 _ (Nat.lt_succ_self _) (by omega) (by omega) hI
theorem w_begin {b : Nat} {g : yH} {i0 i1 i2 i3 i4 i5 i6 : Int} {B J : Nat → Int} (hf : RF b g B J i0 i1 i2 i3 i4 i5 i6)  (hI : MI b g h) : YM l G mX7_begin 3 0 0 [vr (b + 540)] h n (PV b g n) := by
  refine YM.of kX7_begin (Nat.le_of_ble_eq_true rfl) (L0 := [some (vr (b + 540)), none, none]) rfl ?_
  obtain ⟨hm, hB, hJ, hBb, hBs, hBc, hJb, hi1, hi2, hi3, hi4⟩ := id hf
  refine y_run kX7_begin rfl ?_
  exact s_begin1 hf (fun u1 u2 h hI => by
    refine y_run kX7_begin rfl ?_
    exact s_begin3 hf  _ 0 _ _ (Nat.lt_succ_self _) (by omega) (by omega) hI) _ 0 _ _ (Nat.lt_succ_self _) (by omega) (by omega) hI
theorem s_isFree {b : Nat} {g : yH} {i0 i1 i2 i3 i4 i5 i6 : Int} {B J : Nat → Int} (hf : RF b g B J i0 i1 i2 i3 i4 i5 i6) {p : Int} (p1 : 0 ≤ p) (p2 : p < 128) : ∀ (m : Nat) (q : Int) (h : yH), (128 - q).toNat < m → 0 ≤ q → q ≤ 128 → MI b g h → YW l G mX7_isFree 1 0 0 (PZ b g n 0 1) 12 [some (vr (b + 540)), some (vi p), some (vi q)] [] h n := by
  intro m
  induction m with
  | zero => intro q h hm; exact absurd hm (Nat.not_lt_zero _)
  | succ m ih =>
    intro q h hmm j0 j1 hI
    obtain ⟨hm, hB, hJ, hBb, hBs, hBc, hJb, hi1, hi2, hi3, hi4⟩ := id hf
    refine y_run kX7_isFree rfl ?_
    refine y_ic_ge kX7_isFree rfl rfl (fun c1 => ?_) (fun c1 => ?_)
    · refine y_run kX7_isFree rfl ?_
      exact y_zr kX7_isFree rfl rfl (by omega) ⟨_, rfl, by omega, by omega, hI, rfl⟩
    · refine y_run kX7_isFree rfl ?_
      refine y_cv kX7_isFree kX7_isLeft 1 rfl (hI.x (k := 540) rfl hm) (by decide +kernel) (w_isLeft hf (by omega) (by omega) hI) rfl rfl ?_
      rintro _ h _ ⟨v1, rfl, v1a, v1b, hI, rfl⟩
      refine y_if_eq kX7_isFree rfl rfl (fun c2 => ?_) (fun c2 => ?_)
      · refine y_run kX7_isFree rfl ?_
        exact ih _ _ (by omega) (by omega) (by omega) hI
      · refine y_run kX7_isFree rfl ?_
        refine m_get kX7_isFree (540) hI hm ?_
        refine y_run kX7_isFree rfl ?_
        refine m_za kX7_isFree (546) hI rfl (fun v2 v2a => ?_)
        refine y_if_eq kX7_isFree rfl rfl (fun c3 => ?_) (fun c3 => ?_)
        · refine y_run kX7_isFree rfl ?_
          exact ih _ _ (by omega) (by omega) (by omega) hI
        · refine y_run kX7_isFree rfl ?_
          exact y_zr kX7_isFree rfl rfl (by omega) ⟨_, rfl, by omega, by omega, hI, rfl⟩
theorem w_isFree {b : Nat} {g : yH} {i0 i1 i2 i3 i4 i5 i6 : Int} {B J : Nat → Int} (hf : RF b g B J i0 i1 i2 i3 i4 i5 i6) {p : Int} (p1 : 0 ≤ p) (p2 : p < 128) (hI : MI b g h) : YM l G mX7_isFree 1 0 0 [vr (b + 540), vi p] h n (PZ b g n 0 1) := by
  refine YM.of kX7_isFree (Nat.le_of_ble_eq_true rfl) (L0 := [some (vr (b + 540)), some (vi p), none]) rfl ?_
  obtain ⟨hm, hB, hJ, hBb, hBs, hBc, hJb, hi1, hi2, hi3, hi4⟩ := id hf
  refine y_run kX7_isFree rfl ?_
  refine y_cv kX7_isFree kX7_isLeft 1 rfl (hI.x (k := 540) rfl hm) (by decide +kernel) (w_isLeft hf (by omega) (by omega) hI) rfl rfl ?_
  rintro _ h _ ⟨v1, rfl, v1a, v1b, hI, rfl⟩
  refine y_if_ne kX7_isFree rfl rfl (fun c1 => ?_) (fun c1 => ?_)
  · refine y_run kX7_isFree rfl ?_
    exact s_isFree hf p1 p2 _ 0 _ (Nat.lt_succ_self _) (by omega) (by omega) hI
  · refine y_run kX7_isFree rfl ?_
    exact y_zr kX7_isFree rfl rfl (by omega) ⟨_, rfl, by omega, by omega, hI, rfl⟩
theorem s_free {b : Nat} {g : yH} {i0 i1 i2 i3 i4 i5 i6 : Int} {B J : Nat → Int} (hf : RF b g B J i0 i1 i2 i3 i4 i5 i6)  : ∀ (m : Nat) (q : Int) (h : yH), (128 - q).toNat < m → 0 ≤ q → q ≤ 128 → MI b g h → YW l G mX7_free 2 0 0 (PZ b g n (-1) 127) 2 [some (vr (b + 540)), some (vi q)] [] h n := by
  intro m
  induction m with
  | zero => intro q h hm; exact absurd hm (Nat.not_lt_zero _)
  | succ m ih =>
    intro q h hmm j0 j1 hI
    obtain ⟨hm, hB, hJ, hBb, hBs, hBc, hJb, hi1, hi2, hi3, hi4⟩ := id hf
    refine y_run kX7_free rfl ?_
    refine y_ic_ge kX7_free rfl rfl (fun c1 => ?_) (fun c1 => ?_)
    · refine y_run kX7_free rfl ?_
      exact y_ir kX7_free rfl rfl ⟨_, rfl, by omega, by omega, hI, rfl⟩
    · refine y_run kX7_free rfl ?_
      refine y_cv kX7_free kX7_isFree 1 rfl (hI.x (k := 540) rfl hm) (by decide +kernel) (w_isFree hf (by omega) (by omega) hI) rfl rfl ?_
      rintro _ h _ ⟨v1, rfl, v1a, v1b, hI, rfl⟩
      refine y_if_eq kX7_free rfl rfl (fun c2 => ?_) (fun c2 => ?_)
      · refine y_run kX7_free rfl ?_
        exact ih _ _ (by omega) (by omega) (by omega) hI
      · refine y_run kX7_free rfl ?_
        exact y_ir kX7_free rfl rfl ⟨_, rfl, by omega, by omega, hI, rfl⟩
theorem w_free {b : Nat} {g : yH} {i0 i1 i2 i3 i4 i5 i6 : Int} {B J : Nat → Int} (hf : RF b g B J i0 i1 i2 i3 i4 i5 i6)  (hI : MI b g h) : YM l G mX7_free 2 0 0 [vr (b + 540)] h n (PZ b g n (-1) 127) := by
  refine YM.of kX7_free (Nat.le_of_ble_eq_true rfl) (L0 := [some (vr (b + 540)), none]) rfl ?_
  obtain ⟨hm, hB, hJ, hBb, hBs, hBc, hJb, hi1, hi2, hi3, hi4⟩ := id hf
  refine y_run kX7_free rfl ?_
  exact s_free hf  _ 0  _ (Nat.lt_succ_self _) (by omega) (by omega) hI
theorem s_plane2 {b : Nat} {g : yH} {i0 i1 i2 i3 i4 i5 i6 : Int} {B J : Nat → Int} (hf : RF b g B J i0 i1 i2 i3 i4 i5 i6) {p x : Int} (p1 : 0 ≤ p) (p2 : p < 128) (x1 : 0 ≤ x) (x2 : x < 3) {q : Int} (q1 : 0 ≤ q) (q2 : q < 128) (kk : ∀ (a : Int) (u5 : Option xV) (u6 : Option xV) (h : yH), -1 ≤ a → a ≤ 127 → MI b g h → YW l G mX7_plane 1 0 0 (PZ b g n (-1) 127) 116 [some (vr (b + 540)), some (vi p), some (vi x), some (vi a), some (vi q), u5, u6] [] h n) : ∀ (m : Nat) (r : Int) (a : Int) (u6 : Option xV) (h : yH), (2 - r).toNat < m → 0 ≤ r → r ≤ 2 → -1 ≤ a → a ≤ 127 → MI b g h → YW l G mX7_plane 1 0 0 (PZ b g n (-1) 127) 29 [some (vr (b + 540)), some (vi p), some (vi x), some (vi a), some (vi q), some (vi r), u6] [] h n := by
  intro m
  induction m with
  | zero => intro r a u6 h hm; exact absurd hm (Nat.not_lt_zero _)
  | succ m ih =>
    intro r a u6 h hmm j0 j1 j2 j3 hI
    obtain ⟨hm, hB, hJ, hBb, hBs, hBc, hJb, hi1, hi2, hi3, hi4⟩ := id hf
    refine y_run kX7_plane rfl ?_
    refine y_ic_ge kX7_plane rfl rfl (fun c1 => ?_) (fun c1 => ?_)
    · exact kk _ _ _ _ (by omega) (by omega) hI
    · refine y_run kX7_plane rfl ?_
      refine m_get kX7_plane (540) hI hm ?_
      refine y_run kX7_plane rfl ?_
      refine m_ia kX7_plane (545) hI rfl (fun v1 v1a v1b => ?_)
      refine y_run kX7_plane rfl ?_
      refine m_get kX7_plane (540) hI hm ?_
      refine y_run kX7_plane rfl ?_
      refine m_ia kX7_plane (545) hI rfl (fun v2 v2a v2b => ?_)
      refine y_ic_le kX7_plane rfl rfl (fun c2 => ?_) (fun c2 => ?_)
      · refine y_run kX7_plane rfl ?_
        exact ih _ _ _ _ (by omega) (by omega) (by omega) (by omega) (by omega) hI
      · refine y_run kX7_plane rfl ?_
        refine m_get kX7_plane (540) hI hm ?_
        refine y_run kX7_plane rfl ?_
        refine m_ia kX7_plane (545) hI rfl (fun v3 v3a v3b => ?_)
        refine y_ic_ge kX7_plane rfl rfl (fun c3 => ?_) (fun c3 => ?_)
        · refine y_run kX7_plane rfl ?_
          exact ih _ _ _ _ (by omega) (by omega) (by omega) (by omega) (by omega) hI
        · refine y_run kX7_plane rfl ?_
          refine y_ic_eq kX7_plane rfl rfl (fun c4 => ?_) (fun c4 => ?_)
          · refine y_run kX7_plane rfl ?_
            exact ih _ _ _ _ (by omega) (by omega) (by omega) (by omega) (by omega) hI
          · refine y_run kX7_plane rfl ?_
            refine y_ic_ge kX7_plane rfl rfl (fun c5 => ?_) (fun c5 => ?_)
            · refine y_run kX7_plane rfl ?_
              exact ih _ _ _ _ (by omega) (by omega) (by omega) (by omega) (by omega) hI
            · refine y_run kX7_plane rfl ?_
              exact ih _ _ _ _ (by omega) (by omega) (by omega) (by omega) (by omega) hI
theorem s_plane1 {b : Nat} {g : yH} {i0 i1 i2 i3 i4 i5 i6 : Int} {B J : Nat → Int} (hf : RF b g B J i0 i1 i2 i3 i4 i5 i6) {p x : Int} (p1 : 0 ≤ p) (p2 : p < 128) (x1 : 0 ≤ x) (x2 : x < 3) : ∀ (m : Nat) (q : Int) (a : Int) (u5 : Option xV) (u6 : Option xV) (h : yH), (128 - q).toNat < m → 0 ≤ q → q ≤ 128 → -1 ≤ a → a ≤ 127 → MI b g h → YW l G mX7_plane 1 0 0 (PZ b g n (-1) 127) 5 [some (vr (b + 540)), some (vi p), some (vi x), some (vi a), some (vi q), u5, u6] [] h n := by
  intro m
  induction m with
  | zero => intro q a u5 u6 h hm; exact absurd hm (Nat.not_lt_zero _)
  | succ m ih =>
    intro q a u5 u6 h hmm j0 j1 j2 j3 hI
    obtain ⟨hm, hB, hJ, hBb, hBs, hBc, hJb, hi1, hi2, hi3, hi4⟩ := id hf
    refine y_run kX7_plane rfl ?_
    refine y_ic_ge kX7_plane rfl rfl (fun c1 => ?_) (fun c1 => ?_)
    · refine y_run kX7_plane rfl ?_
      exact y_ir kX7_plane rfl rfl ⟨_, rfl, by omega, by omega, hI, rfl⟩
    · refine y_run kX7_plane rfl ?_
      refine y_cv kX7_plane kX7_isTangled 2 rfl (hI.x (k := 540) rfl hm) (by decide +kernel) (w_isTangled hf (by omega) (by omega) (by omega) (by omega) hI) rfl rfl ?_
      rintro _ h _ ⟨v1, rfl, v1a, v1b, hI, rfl⟩
      refine y_if_ne kX7_plane rfl rfl (fun c2 => ?_) (fun c2 => ?_)
      · refine y_run kX7_plane rfl ?_
        exact s_plane2 hf p1 p2 x1 x2 (by omega) (by omega) (fun a u5 u6 h y1 y2 hI => by
          refine y_run kX7_plane rfl ?_
          exact ih _ _ _ _ _ (by omega) (by omega) (by omega) (by omega) (by omega) hI) _ 0 _ _ _ (Nat.lt_succ_self _) (by omega) (by omega) (by omega) (by omega) hI
      · refine y_run kX7_plane rfl ?_
        exact ih _ _ _ _ _ (by omega) (by omega) (by omega) (by omega) (by omega) hI
theorem w_plane {b : Nat} {g : yH} {i0 i1 i2 i3 i4 i5 i6 : Int} {B J : Nat → Int} (hf : RF b g B J i0 i1 i2 i3 i4 i5 i6) {p x : Int} (p1 : 0 ≤ p) (p2 : p < 128) (x1 : 0 ≤ x) (x2 : x < 3) (hI : MI b g h) : YM l G mX7_plane 1 0 0 [vr (b + 540), vi p, vi x] h n (PZ b g n (-1) 127) := by
  refine YM.of kX7_plane (Nat.le_of_ble_eq_true rfl) (L0 := [some (vr (b + 540)), some (vi p), some (vi x), none, none, none, none]) rfl ?_
  obtain ⟨hm, hB, hJ, hBb, hBs, hBc, hJb, hi1, hi2, hi3, hi4⟩ := id hf
  refine y_run kX7_plane rfl ?_
  exact s_plane1 hf p1 p2 x1 x2 _ 0 _ _ _ _ (Nat.lt_succ_self _) (by omega) (by omega) (by omega) (by omega) hI
theorem s_isCut {b : Nat} {g : yH} {i0 i1 i2 i3 i4 i5 i6 : Int} {B J : Nat → Int} (hf : RF b g B J i0 i1 i2 i3 i4 i5 i6) {p : Int} (p1 : 0 ≤ p) (p2 : p < 24) (k1 : 24 ≤ i6) (k2 : i6 ≤ 128) : ∀ (m : Nat) (q : Int) (h : yH), (i6 - q).toNat < m → 24 ≤ q → q ≤ i6 → MI b g h → YW l G mX7_isCut 0 0 0 (PZ b g n 0 1) 3 [some (vr (b + 540)), some (vi p), some (vi q)] [] h n := by
  intro m
  induction m with
  | zero => intro q h hm; exact absurd hm (Nat.not_lt_zero _)
  | succ m ih =>
    intro q h hmm j0 j1 hI
    obtain ⟨hm, hB, hJ, hBb, hBs, hBc, hJb, hi1, hi2, hi3, hi4⟩ := id hf
    refine y_run kX7_isCut rfl ?_
    refine m_get kX7_isCut (540) hI hm ?_
    refine y_ic_ge kX7_isCut rfl rfl (fun c1 => ?_) (fun c1 => ?_)
    · refine y_run kX7_isCut rfl ?_
      exact y_zr kX7_isCut rfl rfl (by omega) ⟨_, rfl, by omega, by omega, hI, rfl⟩
    · refine y_run kX7_isCut rfl ?_
      refine m_get kX7_isCut (540) hI hm ?_
      refine y_run kX7_isCut rfl ?_
      refine m_ia kX7_isCut (545) hI rfl (fun v1 v1a v1b => ?_)
      refine y_run kX7_isCut rfl ?_
      refine y_ic_ne kX7_isCut rfl rfl (fun c2 => ?_) (fun c2 => ?_)
      · refine y_run kX7_isCut rfl ?_
        exact ih _ _ (by omega) (by omega) (by omega) hI
      · refine y_run kX7_isCut rfl ?_
        exact y_zr kX7_isCut rfl rfl (by omega) ⟨_, rfl, by omega, by omega, hI, rfl⟩
theorem w_isCut {b : Nat} {g : yH} {i0 i1 i2 i3 i4 i5 i6 : Int} {B J : Nat → Int} (hf : RF b g B J i0 i1 i2 i3 i4 i5 i6) {p : Int} (p1 : 0 ≤ p) (p2 : p < 24) (k1 : 24 ≤ i6) (k2 : i6 ≤ 128) (hI : MI b g h) : YM l G mX7_isCut 0 0 0 [vr (b + 540), vi p] h n (PZ b g n 0 1) := by
  refine YM.of kX7_isCut (Nat.le_of_ble_eq_true rfl) (L0 := [some (vr (b + 540)), some (vi p), none]) rfl ?_
  obtain ⟨hm, hB, hJ, hBb, hBs, hBc, hJb, hi1, hi2, hi3, hi4⟩ := id hf
  refine y_run kX7_isCut rfl ?_
  exact s_isCut hf p1 p2 k1 k2 _ 24 _ (Nat.lt_succ_self _) (by omega) (by omega) hI
end C64
